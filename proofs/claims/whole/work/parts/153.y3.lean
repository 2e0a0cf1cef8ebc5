-- BronzeKingModel.byLaw(II)I
theorem dX12_byLaw_0 : decode cX12_byLaw 0 = .ok (.iconst 0, 1) := by decide +kernel
theorem dX12_byLaw_1 : decode cX12_byLaw 1 = .ok (.istore_n 3, 1) := by decide +kernel
theorem dX12_byLaw_2 : decode cX12_byLaw 2 = .ok (.iload_n 3, 1) := by decide +kernel
theorem dX12_byLaw_3 : decode cX12_byLaw 3 = .ok (.aload_n 0, 1) := by decide +kernel
theorem dX12_byLaw_4 : decode cX12_byLaw 4 = .ok (.getfield 236, 3) := by decide +kernel
theorem dX12_byLaw_7 : decode cX12_byLaw 7 = .ok (.if_icmp .ge 82, 3) := by decide +kernel
theorem dX12_byLaw_10 : decode cX12_byLaw 10 = .ok (.aload_n 0, 1) := by decide +kernel
theorem dX12_byLaw_11 : decode cX12_byLaw 11 = .ok (.getfield 56, 3) := by decide +kernel
theorem dX12_byLaw_14 : decode cX12_byLaw 14 = .ok (.iload_n 3, 1) := by decide +kernel
theorem dX12_byLaw_15 : decode cX12_byLaw 15 = .ok (.iaload, 1) := by decide +kernel
theorem dX12_byLaw_16 : decode cX12_byLaw 16 = .ok (.iload_n 1, 1) := by decide +kernel
theorem dX12_byLaw_17 : decode cX12_byLaw 17 = .ok (.if_icmp .ne 66, 3) := by decide +kernel
theorem dX12_byLaw_20 : decode cX12_byLaw 20 = .ok (.aload_n 0, 1) := by decide +kernel
theorem dX12_byLaw_21 : decode cX12_byLaw 21 = .ok (.aload_n 0, 1) := by decide +kernel
theorem dX12_byLaw_22 : decode cX12_byLaw 22 = .ok (.getfield 62, 3) := by decide +kernel
theorem dX12_byLaw_25 : decode cX12_byLaw 25 = .ok (.iload_n 3, 1) := by decide +kernel
theorem dX12_byLaw_26 : decode cX12_byLaw 26 = .ok (.iaload, 1) := by decide +kernel
theorem dX12_byLaw_27 : decode cX12_byLaw 27 = .ok (.aload_n 0, 1) := by decide +kernel
theorem dX12_byLaw_28 : decode cX12_byLaw 28 = .ok (.getfield 65, 3) := by decide +kernel
theorem dX12_byLaw_31 : decode cX12_byLaw 31 = .ok (.iload_n 3, 1) := by decide +kernel
theorem dX12_byLaw_32 : decode cX12_byLaw 32 = .ok (.iaload, 1) := by decide +kernel
theorem dX12_byLaw_33 : decode cX12_byLaw 33 = .ok (.invokevirtual 243, 3) := by decide +kernel
theorem dX12_byLaw_36 : decode cX12_byLaw 36 = .ok (.iconst 1, 1) := by decide +kernel
theorem dX12_byLaw_37 : decode cX12_byLaw 37 = .ok (.if_icmp .eq 6, 3) := by decide +kernel
theorem dX12_byLaw_40 : decode cX12_byLaw 40 = .ok (.goto 43, 3) := by decide +kernel
theorem dX12_byLaw_43 : decode cX12_byLaw 43 = .ok (.aload_n 0, 1) := by decide +kernel
theorem dX12_byLaw_44 : decode cX12_byLaw 44 = .ok (.aload_n 0, 1) := by decide +kernel
theorem dX12_byLaw_45 : decode cX12_byLaw 45 = .ok (.getfield 59, 3) := by decide +kernel
theorem dX12_byLaw_48 : decode cX12_byLaw 48 = .ok (.iload_n 3, 1) := by decide +kernel
theorem dX12_byLaw_49 : decode cX12_byLaw 49 = .ok (.iaload, 1) := by decide +kernel
theorem dX12_byLaw_50 : decode cX12_byLaw 50 = .ok (.aload_n 0, 1) := by decide +kernel
theorem dX12_byLaw_51 : decode cX12_byLaw 51 = .ok (.getfield 62, 3) := by decide +kernel
theorem dX12_byLaw_54 : decode cX12_byLaw 54 = .ok (.iload_n 3, 1) := by decide +kernel
theorem dX12_byLaw_55 : decode cX12_byLaw 55 = .ok (.iaload, 1) := by decide +kernel
theorem dX12_byLaw_56 : decode cX12_byLaw 56 = .ok (.invokevirtual 243, 3) := by decide +kernel
theorem dX12_byLaw_59 : decode cX12_byLaw 59 = .ok (.istore 4, 2) := by decide +kernel
theorem dX12_byLaw_61 : decode cX12_byLaw 61 = .ok (.iload 4, 2) := by decide +kernel
theorem dX12_byLaw_63 : decode cX12_byLaw 63 = .ok (.ifCond .ge 7, 3) := by decide +kernel
theorem dX12_byLaw_66 : decode cX12_byLaw 66 = .ok (.iconst 0, 1) := by decide +kernel
theorem dX12_byLaw_67 : decode cX12_byLaw 67 = .ok (.goto 15, 3) := by decide +kernel
theorem dX12_byLaw_70 : decode cX12_byLaw 70 = .ok (.iload 4, 2) := by decide +kernel
theorem dX12_byLaw_72 : decode cX12_byLaw 72 = .ok (.iload_n 2, 1) := by decide +kernel
theorem dX12_byLaw_73 : decode cX12_byLaw 73 = .ok (.if_icmp .le 7, 3) := by decide +kernel
theorem dX12_byLaw_76 : decode cX12_byLaw 76 = .ok (.iload_n 2, 1) := by decide +kernel
theorem dX12_byLaw_77 : decode cX12_byLaw 77 = .ok (.goto 5, 3) := by decide +kernel
theorem dX12_byLaw_80 : decode cX12_byLaw 80 = .ok (.iload 4, 2) := by decide +kernel
theorem dX12_byLaw_82 : decode cX12_byLaw 82 = .ok (.ireturn, 1) := by decide +kernel
theorem dX12_byLaw_83 : decode cX12_byLaw 83 = .ok (.iinc 3 1, 3) := by decide +kernel
theorem dX12_byLaw_86 : decode cX12_byLaw 86 = .ok (.goto (-84), 3) := by decide +kernel
theorem dX12_byLaw_89 : decode cX12_byLaw 89 = .ok (.iconst 0, 1) := by decide +kernel
theorem dX12_byLaw_90 : decode cX12_byLaw 90 = .ok (.ireturn, 1) := by decide +kernel
def b12_byLaw_83 (rc : Nat → List Int32 → List Int64 → Mem → Option (Int32 × Mem)) (n : Nat) (i1 : Int32) (i2 : Int32) (i3 : Int32) (M : Mem) : Option (Int32 × Mem) :=
  lt (i3 + (1 : Int32)) fun v17 =>
  rc 2 [i1, i2, v17] [] M
def b12_byLaw_2 (rc : Nat → List Int32 → List Int64 → Mem → Option (Int32 × Mem)) (n : Nat) (i1 : Int32) (i2 : Int32) (i3 : Int32) (M : Mem) : Option (Int32 × Mem) :=
  (if (M.1 0 20) ≤ i3 then (
   some ((0 : Int32), M))
  else (
   chk (inb i3 16) <|
   (if (M.1 16 i3.toNatClampNeg) = i1 then (
    chk (inb i3 16) <|
    chk (inb i3 16) <|
    bnd (f12_comesTo n (M.1 18 i3.toNatClampNeg) (M.1 19 i3.toNatClampNeg) M) fun r6 M7 =>
    (if r6 = (1 : Int32) then (
     chk (inb i3 16) <|
     chk (inb i3 16) <|
     bnd (f12_comesTo n (M7.1 17 i3.toNatClampNeg) (M7.1 18 i3.toNatClampNeg) M7) fun r12 M13 =>
     (if 0 ≤ r12 then (
      (if r12 ≤ i2 then (
       some (r12, M13))
      else (
       some (i2, M13))))
     else (
      some ((0 : Int32), M13))))
    else (
     b12_byLaw_83  rc n i1 i2 i3 M7)))
   else (
    b12_byLaw_83  rc n i1 i2 i3 M))))
def b12_byLaw_0 (rc : Nat → List Int32 → List Int64 → Mem → Option (Int32 × Mem)) (n : Nat) (a1 : Int32) (a2 : Int32) (M : Mem) : Option (Int32 × Mem) :=
  b12_byLaw_2  rc n a1 a2 (0 : Int32) M
def r12_byLaw : Nat → Nat → List Int32 → List Int64 → Mem → Option (Int32 × Mem)
  | 0 => fun _ _ _ _ => none
  | n + 1 => fun pc li lj M =>
    if pc = 2 then (match li, lj with | [i1, i2, i3], [] => b12_byLaw_2  (r12_byLaw  n) n i1 i2 i3 M | _, _ => none) else
    none
theorem e12_byLaw_2  (n : Nat) (i1 : Int32) (i2 : Int32) (i3 : Int32) (M : Mem) : r12_byLaw  (n + 1) 2 [i1, i2, i3] [] M = b12_byLaw_2  (r12_byLaw  n) n i1 i2 i3 M := by
  rw [r12_byLaw]
  simp
def f12_byLaw (n : Nat) (a1 : Int32) (a2 : Int32) (M : Mem) : Option (Int32 × Mem) := b12_byLaw_0 (r12_byLaw n) n a1 a2 M
abbrev rm12_byLaw : Room := { frames := 2, cells := 0, slots := 0, locals := 49 }
theorem y12_byLaw_w : yV RX12 yX12_byLaw cX12_byLaw 5 (some .int) 2 := ⟨g_1461, gp 65 rfl rfl, g_14, g_1462, rfl, by decide, by decide, by decide +kernel⟩
set_option maxHeartbeats 4000000 in
set_option maxRecDepth 100000 in
theorem w12_byLaw_83 {p : Program} {l : Launch} {e : Env} {s : State} {m : MethodId} {args : Array Value} {below : List Frame} {meth : Method} {c : Code} {z : Zt} {b : Nat}  (C : Cx p s m args c cX12_byLaw 5 RX12 z 32 b) (hr : meth.sig.returnType = (some .int)) (hk : meth.locks = false) {r : Int32} {M' : Mem} {rc : Nat → List Int32 → List Int64 → Mem → Option (Int32 × Mem)} {n : Nat} (q2 : ∀ (i1 : Int32) (i2 : Int32) (i3 : Int32) (M : Mem) (H : Heap) (locs : List Loc) (ls : Array Slot), rc 2 [i1, i2, i3] [] M = some (r, M') → va_P z.1 vwCl (pw (yd z b) 32 b M) H → va_S (pA 32 b) s.heap H locs → lv_has ls 5 [(0, .ref (b + 0)), (1, .int i1), (2, .int i2), (3, .int i3)] → W p l e rm12_byLaw s m args below meth c H locs 0 0 (MQ below (va_Qi (fun (r' : Int32) (M2 : Mem) => r' = r ∧ M2 = M') (fun M2 t => va_P z.1 vwCl (pw (yd z b) 32 b M2) t.heap) (pA 32 b)) args s 0 0 (pA 32 b)) (F0 m 2 ls [])) {i1 : Int32} {i2 : Int32} {i3 : Int32} {M : Mem} {H : Heap} {locs : List Loc} {ls : Array Slot} (hf : b12_byLaw_83  rc n i1 i2 i3 M = some (r, M')) (hP : va_P z.1 vwCl (pw (yd z b) 32 b M) H) (hS : va_S (pA 32 b) s.heap H locs) (hl : lv_has ls 5 [(0, .ref (b + 0)), (1, .int i1), (2, .int i2), (3, .int i3)]) : W p l e rm12_byLaw s m args below meth c H locs 0 0 (MQ below (va_Qi (fun (r' : Int32) (M2 : Mem) => r' = r ∧ M2 = M') (fun M2 t => va_P z.1 vwCl (pw (yd z b) 32 b M2) t.heap) (pA 32 b)) args s 0 0 (pA 32 b)) (F0 m 83 ls []) := by
  have hx := C.1.1
  have hb := C.1.2.1
  unfold b12_byLaw_83 at hf
  obtain ⟨v17, ev17⟩ : ∃ v : Int32, v = i3 + (1 : Int32) := ⟨_, rfl⟩
  replace hf := lt_c ev17 hf
  refine lv_iinc (v := v17) (lv' := [(3, .int v17), (0, .ref (b + 0)), (1, .int i1), (2, .int i2)]) hx hb dX12_byLaw_83 hl (k := 3) rfl (by rw [ev17]; rfl) (by decide) rfl (fun ls hl => ?_)
  refine lv_goto (tgt := 2) hx hb dX12_byLaw_86 (by decide) ?_
  exact q2 i1 i2 v17 M _ _ _ hf hP hS (lv_sub hl [1, 2, 3, 0] rfl)
set_option maxHeartbeats 4000000 in
set_option maxRecDepth 100000 in
theorem w12_byLaw_2 {p : Program} {l : Launch} {e : Env} {s : State} {m : MethodId} {args : Array Value} {below : List Frame} {meth : Method} {c : Code} {z : Zt} {b : Nat}  (C : Cx p s m args c cX12_byLaw 5 RX12 z 32 b) (hr : meth.sig.returnType = (some .int)) (hk : meth.locks = false) {r : Int32} {M' : Mem} {rc : Nat → List Int32 → List Int64 → Mem → Option (Int32 × Mem)} {n : Nat} (q2 : ∀ (i1 : Int32) (i2 : Int32) (i3 : Int32) (M : Mem) (H : Heap) (locs : List Loc) (ls : Array Slot), rc 2 [i1, i2, i3] [] M = some (r, M') → va_P z.1 vwCl (pw (yd z b) 32 b M) H → va_S (pA 32 b) s.heap H locs → lv_has ls 5 [(0, .ref (b + 0)), (1, .int i1), (2, .int i2), (3, .int i3)] → W p l e rm12_byLaw s m args below meth c H locs 0 0 (MQ below (va_Qi (fun (r' : Int32) (M2 : Mem) => r' = r ∧ M2 = M') (fun M2 t => va_P z.1 vwCl (pw (yd z b) 32 b M2) t.heap) (pA 32 b)) args s 0 0 (pA 32 b)) (F0 m 2 ls [])) {i1 : Int32} {i2 : Int32} {i3 : Int32} {M : Mem} {H : Heap} {locs : List Loc} {ls : Array Slot} (hf : b12_byLaw_2  rc n i1 i2 i3 M = some (r, M')) (hP : va_P z.1 vwCl (pw (yd z b) 32 b M) H) (hS : va_S (pA 32 b) s.heap H locs) (hl : lv_has ls 5 [(0, .ref (b + 0)), (1, .int i1), (2, .int i2), (3, .int i3)]) : W p l e rm12_byLaw s m args below meth c H locs 0 0 (MQ below (va_Qi (fun (r' : Int32) (M2 : Mem) => r' = r ∧ M2 = M') (fun M2 t => va_P z.1 vwCl (pw (yd z b) 32 b M2) t.heap) (pA 32 b)) args s 0 0 (pA 32 b)) (F0 m 2 ls []) := by
  have hx := C.1.1
  have hb := C.1.2.1
  unfold b12_byLaw_2 at hf
  refine lv_iload_n hx hb dX12_byLaw_2 rfl (lv_at hl 3 rfl) ?_
  refine lv_aload_n hx hb dX12_byLaw_3 rfl (lv_at hl 0 rfl) ?_
  refine pg C hP (k := 0) (j := 20) (Nat.le_of_ble_eq_true rfl) (yd_0 _ _) rfl iw_12 (Nat.le_of_ble_eq_true rfl) g_1155 rfl rfl dX12_byLaw_4 ?_
  refine lv_icmp_ge (tgt := 89) hx hb dX12_byLaw_7 (by decide) (fun c1 => ?_) (fun c1 => ?_)
  · replace hf := ite_t c1 hf
    refine lv_iconst (v := (0 : Int32)) hx hb dX12_byLaw_89 (by decide) ?_
    exact prI C hr hk hP hS hf dX12_byLaw_90
  · replace hf := ite_f c1 hf
    refine lv_aload_n hx hb dX12_byLaw_10 rfl (lv_at hl 0 rfl) ?_
    refine pg C hP (k := 0) (j := 28) (Nat.le_of_ble_eq_true rfl) (yd_0 _ _) rfl iw_12 (Nat.le_of_ble_eq_true rfl) g_1163 rfl rfl dX12_byLaw_11 ?_
    refine lv_iload_n hx hb dX12_byLaw_14 rfl (lv_at hl 3 rfl) ?_
    have h2 := chk_1 hf
    replace hf := chk_2 hf
    refine paI C hP (k := 16) (Nat.le_of_ble_eq_true rfl) (yd_16 _ _) h2 dX12_byLaw_15 ?_
    refine lv_iload_n hx hb dX12_byLaw_16 rfl (lv_at hl 1 rfl) ?_
    refine lv_icmp_ne (tgt := 83) hx hb dX12_byLaw_17 (by decide) (fun c3 => ?_) (fun c3 => ?_)
    · replace hf := ite_f c3 hf
      exact w12_byLaw_83 (n := n)  C hr hk q2 hf hP hS (lv_sub hl [0, 1, 2, 3] rfl)
    · replace hf := ite_t c3 hf
      refine lv_aload_n hx hb dX12_byLaw_20 rfl (lv_at hl 0 rfl) ?_
      refine lv_aload_n hx hb dX12_byLaw_21 rfl (lv_at hl 0 rfl) ?_
      refine pg C hP (k := 0) (j := 30) (Nat.le_of_ble_eq_true rfl) (yd_0 _ _) rfl iw_12 (Nat.le_of_ble_eq_true rfl) g_1165 rfl rfl dX12_byLaw_22 ?_
      refine lv_iload_n hx hb dX12_byLaw_25 rfl (lv_at hl 3 rfl) ?_
      have h4 := chk_1 hf
      replace hf := chk_2 hf
      refine paI C hP (k := 18) (Nat.le_of_ble_eq_true rfl) (yd_18 _ _) h4 dX12_byLaw_26 ?_
      refine lv_aload_n hx hb dX12_byLaw_27 rfl (lv_at hl 0 rfl) ?_
      refine pg C hP (k := 0) (j := 31) (Nat.le_of_ble_eq_true rfl) (yd_0 _ _) rfl iw_12 (Nat.le_of_ble_eq_true rfl) g_1166 rfl rfl dX12_byLaw_28 ?_
      refine lv_iload_n hx hb dX12_byLaw_31 rfl (lv_at hl 3 rfl) ?_
      have h5 := chk_1 hf
      replace hf := chk_2 hf
      refine paI C hP (k := 19) (Nat.le_of_ble_eq_true rfl) (yd_19 _ _) h5 dX12_byLaw_32 ?_
      obtain ⟨r6, M7, h8, hf⟩ := bnd_s hf
      refine pcVi (As := [.int (M.1 18 i3.toNatClampNeg), .int (M.1 19 i3.toNatClampNeg)]) C hP hS (k := 0) (Nat.le_of_ble_eq_true rfl) (yd_0 _ _) rfl (c12_comesTo  h8) y12_comesTo_w g_1463 rfl rfl rfl ⟨Nat.le_of_ble_eq_true rfl, Nat.le_of_ble_eq_true rfl⟩ hl.1 rfl (Nat.le_of_ble_eq_true rfl) dX12_byLaw_33 ⟨Nat.le_of_ble_eq_true rfl, Nat.le_of_ble_eq_true rfl⟩ (fun H locs hP hS => ?_)
      refine lv_iconst (v := (1 : Int32)) hx hb dX12_byLaw_36 (by decide) ?_
      refine lv_icmp_eq (tgt := 43) hx hb dX12_byLaw_37 (by decide) (fun c9 => ?_) (fun c9 => ?_)
      · replace hf := ite_t c9 hf
        refine lv_aload_n hx hb dX12_byLaw_43 rfl (lv_at hl 0 rfl) ?_
        refine lv_aload_n hx hb dX12_byLaw_44 rfl (lv_at hl 0 rfl) ?_
        refine pg C hP (k := 0) (j := 29) (Nat.le_of_ble_eq_true rfl) (yd_0 _ _) rfl iw_12 (Nat.le_of_ble_eq_true rfl) g_1164 rfl rfl dX12_byLaw_45 ?_
        refine lv_iload_n hx hb dX12_byLaw_48 rfl (lv_at hl 3 rfl) ?_
        have h10 := chk_1 hf
        replace hf := chk_2 hf
        refine paI C hP (k := 17) (Nat.le_of_ble_eq_true rfl) (yd_17 _ _) h10 dX12_byLaw_49 ?_
        refine lv_aload_n hx hb dX12_byLaw_50 rfl (lv_at hl 0 rfl) ?_
        refine pg C hP (k := 0) (j := 30) (Nat.le_of_ble_eq_true rfl) (yd_0 _ _) rfl iw_12 (Nat.le_of_ble_eq_true rfl) g_1165 rfl rfl dX12_byLaw_51 ?_
        refine lv_iload_n hx hb dX12_byLaw_54 rfl (lv_at hl 3 rfl) ?_
        have h11 := chk_1 hf
        replace hf := chk_2 hf
        refine paI C hP (k := 18) (Nat.le_of_ble_eq_true rfl) (yd_18 _ _) h11 dX12_byLaw_55 ?_
        obtain ⟨r12, M13, h14, hf⟩ := bnd_s hf
        refine pcVi (As := [.int (M7.1 17 i3.toNatClampNeg), .int (M7.1 18 i3.toNatClampNeg)]) C hP hS (k := 0) (Nat.le_of_ble_eq_true rfl) (yd_0 _ _) rfl (c12_comesTo  h14) y12_comesTo_w g_1463 rfl rfl rfl ⟨Nat.le_of_ble_eq_true rfl, Nat.le_of_ble_eq_true rfl⟩ hl.1 rfl (Nat.le_of_ble_eq_true rfl) dX12_byLaw_56 ⟨Nat.le_of_ble_eq_true rfl, Nat.le_of_ble_eq_true rfl⟩ (fun H locs hP hS => ?_)
        refine lv_istore (lv' := [(4, .int r12), (0, .ref (b + 0)), (1, .int i1), (2, .int i2), (3, .int i3)]) hx hb dX12_byLaw_59 hl (by decide) rfl (fun ls hl => ?_)
        refine lv_iload hx hb dX12_byLaw_61 (lv_at hl 0 rfl) ?_
        refine lv_if_ge (tgt := 70) hx hb dX12_byLaw_63 (by decide) (fun c15 => ?_) (fun c15 => ?_)
        · replace hf := ite_t c15 hf
          refine lv_iload hx hb dX12_byLaw_70 (lv_at hl 0 rfl) ?_
          refine lv_iload_n hx hb dX12_byLaw_72 rfl (lv_at hl 3 rfl) ?_
          refine lv_icmp_le (tgt := 80) hx hb dX12_byLaw_73 (by decide) (fun c16 => ?_) (fun c16 => ?_)
          · replace hf := ite_t c16 hf
            refine lv_iload hx hb dX12_byLaw_80 (lv_at hl 0 rfl) ?_
            exact prI C hr hk hP hS hf dX12_byLaw_82
          · replace hf := ite_f c16 hf
            refine lv_iload_n hx hb dX12_byLaw_76 rfl (lv_at hl 3 rfl) ?_
            refine lv_goto (tgt := 82) hx hb dX12_byLaw_77 (by decide) ?_
            exact prI C hr hk hP hS hf dX12_byLaw_82
        · replace hf := ite_f c15 hf
          refine lv_iconst (v := (0 : Int32)) hx hb dX12_byLaw_66 (by decide) ?_
          refine lv_goto (tgt := 82) hx hb dX12_byLaw_67 (by decide) ?_
          exact prI C hr hk hP hS hf dX12_byLaw_82
      · replace hf := ite_f c9 hf
        refine lv_goto (tgt := 83) hx hb dX12_byLaw_40 (by decide) ?_
        exact w12_byLaw_83 (n := n)  C hr hk q2 hf hP hS (lv_sub hl [0, 1, 2, 3] rfl)
set_option maxHeartbeats 4000000 in
set_option maxRecDepth 100000 in
theorem w12_byLaw_0 {p : Program} {l : Launch} {e : Env} {s : State} {m : MethodId} {args : Array Value} {below : List Frame} {meth : Method} {c : Code} {z : Zt} {b : Nat}  (C : Cx p s m args c cX12_byLaw 5 RX12 z 32 b) (hr : meth.sig.returnType = (some .int)) (hk : meth.locks = false) {r : Int32} {M' : Mem} {rc : Nat → List Int32 → List Int64 → Mem → Option (Int32 × Mem)} {n : Nat} (q2 : ∀ (i1 : Int32) (i2 : Int32) (i3 : Int32) (M : Mem) (H : Heap) (locs : List Loc) (ls : Array Slot), rc 2 [i1, i2, i3] [] M = some (r, M') → va_P z.1 vwCl (pw (yd z b) 32 b M) H → va_S (pA 32 b) s.heap H locs → lv_has ls 5 [(0, .ref (b + 0)), (1, .int i1), (2, .int i2), (3, .int i3)] → W p l e rm12_byLaw s m args below meth c H locs 0 0 (MQ below (va_Qi (fun (r' : Int32) (M2 : Mem) => r' = r ∧ M2 = M') (fun M2 t => va_P z.1 vwCl (pw (yd z b) 32 b M2) t.heap) (pA 32 b)) args s 0 0 (pA 32 b)) (F0 m 2 ls [])) {a1 : Int32} {a2 : Int32} {M : Mem} {H : Heap} {locs : List Loc} {ls : Array Slot} (hf : b12_byLaw_0  rc n a1 a2 M = some (r, M')) (hP : va_P z.1 vwCl (pw (yd z b) 32 b M) H) (hS : va_S (pA 32 b) s.heap H locs) (hl : lv_has ls 5 [(0, .ref (b + 0)), (1, .int a1), (2, .int a2)]) : W p l e rm12_byLaw s m args below meth c H locs 0 0 (MQ below (va_Qi (fun (r' : Int32) (M2 : Mem) => r' = r ∧ M2 = M') (fun M2 t => va_P z.1 vwCl (pw (yd z b) 32 b M2) t.heap) (pA 32 b)) args s 0 0 (pA 32 b)) (F0 m 0 ls []) := by
  have hx := C.1.1
  have hb := C.1.2.1
  unfold b12_byLaw_0 at hf
  refine lv_iconst (v := (0 : Int32)) hx hb dX12_byLaw_0 (by decide) ?_
  refine lv_istore_n (lv' := [(3, .int (0 : Int32)), (0, .ref (b + 0)), (1, .int a1), (2, .int a2)]) hx hb dX12_byLaw_1 rfl hl (by decide) rfl (fun ls hl => ?_)
  exact w12_byLaw_2 (n := n)  C hr hk q2 hf hP hS (lv_sub hl [1, 2, 3, 0] rfl)
set_option maxHeartbeats 4000000 in
set_option maxRecDepth 100000 in
theorem l12_byLaw {p : Program} {l : Launch} {e : Env} {s : State} {m : MethodId} {args : Array Value} {below : List Frame} {meth : Method} {c : Code} {z : Zt} {b : Nat}  (C : Cx p s m args c cX12_byLaw 5 RX12 z 32 b) (hr : meth.sig.returnType = (some .int)) (hk : meth.locks = false) {r : Int32} {M' : Mem} (n : Nat) : (∀ (i1 : Int32) (i2 : Int32) (i3 : Int32) (M : Mem) (H : Heap) (locs : List Loc) (ls : Array Slot), (r12_byLaw  n) 2 [i1, i2, i3] [] M = some (r, M') → va_P z.1 vwCl (pw (yd z b) 32 b M) H → va_S (pA 32 b) s.heap H locs → lv_has ls 5 [(0, .ref (b + 0)), (1, .int i1), (2, .int i2), (3, .int i3)] → W p l e rm12_byLaw s m args below meth c H locs 0 0 (MQ below (va_Qi (fun (r' : Int32) (M2 : Mem) => r' = r ∧ M2 = M') (fun M2 t => va_P z.1 vwCl (pw (yd z b) 32 b M2) t.heap) (pA 32 b)) args s 0 0 (pA 32 b)) (F0 m 2 ls [])) := by
  induction n with
  | zero => exact fun _ _ _ _ _ _ _ hf => (by cases hf)
  | succ n ih => exact fun _ _ _ _ _ _ _ hf hP hS hl => w12_byLaw_2 (n := n)  C hr hk ih ((e12_byLaw_2  n _ _ _ _).symm.trans hf) hP hS hl
theorem c12_byLaw {l : Launch} {z : Zt} {b n : Nat}  {a1 : Int32} {a2 : Int32} {M M' : Mem} {r : Int32} (hf : f12_byLaw n  a1 a2 M = some (r, M')) : CI l z (yd z b) 32 b yX12_byLaw cX12_byLaw 5 (some .int) rm12_byLaw [.ref (b + 0), .int a1, .int a2] M M' r :=
  CI.ofW (lv := [(0, .ref (b + 0)), (1, .int a1), (2, .int a2)]) (by decide) (Nat.le_of_ble_eq_true rfl) rfl (fun p e s m args below meth c ls C hr hk hP hS hl => w12_byLaw_0 (n := n)  C hr hk (l12_byLaw  C hr hk n) hf hP hS hl)

-- BronzeKingModel.holdsAny(I)Z
theorem dX12_holdsAny_0 : decode cX12_holdsAny 0 = .ok (.iconst 0, 1) := by decide +kernel
theorem dX12_holdsAny_1 : decode cX12_holdsAny 1 = .ok (.istore_n 2, 1) := by decide +kernel
theorem dX12_holdsAny_2 : decode cX12_holdsAny 2 = .ok (.iload_n 2, 1) := by decide +kernel
theorem dX12_holdsAny_3 : decode cX12_holdsAny 3 = .ok (.aload_n 0, 1) := by decide +kernel
theorem dX12_holdsAny_4 : decode cX12_holdsAny 4 = .ok (.getfield 236, 3) := by decide +kernel
theorem dX12_holdsAny_7 : decode cX12_holdsAny 7 = .ok (.if_icmp .ge 41, 3) := by decide +kernel
theorem dX12_holdsAny_10 : decode cX12_holdsAny 10 = .ok (.aload_n 0, 1) := by decide +kernel
theorem dX12_holdsAny_11 : decode cX12_holdsAny 11 = .ok (.getfield 56, 3) := by decide +kernel
theorem dX12_holdsAny_14 : decode cX12_holdsAny 14 = .ok (.iload_n 2, 1) := by decide +kernel
theorem dX12_holdsAny_15 : decode cX12_holdsAny 15 = .ok (.iaload, 1) := by decide +kernel
theorem dX12_holdsAny_16 : decode cX12_holdsAny 16 = .ok (.iload_n 1, 1) := by decide +kernel
theorem dX12_holdsAny_17 : decode cX12_holdsAny 17 = .ok (.if_icmp .ne 25, 3) := by decide +kernel
theorem dX12_holdsAny_20 : decode cX12_holdsAny 20 = .ok (.aload_n 0, 1) := by decide +kernel
theorem dX12_holdsAny_21 : decode cX12_holdsAny 21 = .ok (.aload_n 0, 1) := by decide +kernel
theorem dX12_holdsAny_22 : decode cX12_holdsAny 22 = .ok (.getfield 62, 3) := by decide +kernel
theorem dX12_holdsAny_25 : decode cX12_holdsAny 25 = .ok (.iload_n 2, 1) := by decide +kernel
theorem dX12_holdsAny_26 : decode cX12_holdsAny 26 = .ok (.iaload, 1) := by decide +kernel
theorem dX12_holdsAny_27 : decode cX12_holdsAny 27 = .ok (.aload_n 0, 1) := by decide +kernel
theorem dX12_holdsAny_28 : decode cX12_holdsAny 28 = .ok (.getfield 65, 3) := by decide +kernel
theorem dX12_holdsAny_31 : decode cX12_holdsAny 31 = .ok (.iload_n 2, 1) := by decide +kernel
theorem dX12_holdsAny_32 : decode cX12_holdsAny 32 = .ok (.iaload, 1) := by decide +kernel
theorem dX12_holdsAny_33 : decode cX12_holdsAny 33 = .ok (.invokevirtual 243, 3) := by decide +kernel
theorem dX12_holdsAny_36 : decode cX12_holdsAny 36 = .ok (.iconst 1, 1) := by decide +kernel
theorem dX12_holdsAny_37 : decode cX12_holdsAny 37 = .ok (.if_icmp .ne 5, 3) := by decide +kernel
theorem dX12_holdsAny_40 : decode cX12_holdsAny 40 = .ok (.iconst 1, 1) := by decide +kernel
theorem dX12_holdsAny_41 : decode cX12_holdsAny 41 = .ok (.ireturn, 1) := by decide +kernel
theorem dX12_holdsAny_42 : decode cX12_holdsAny 42 = .ok (.iinc 2 1, 3) := by decide +kernel
theorem dX12_holdsAny_45 : decode cX12_holdsAny 45 = .ok (.goto (-43), 3) := by decide +kernel
theorem dX12_holdsAny_48 : decode cX12_holdsAny 48 = .ok (.iconst 0, 1) := by decide +kernel
theorem dX12_holdsAny_49 : decode cX12_holdsAny 49 = .ok (.ireturn, 1) := by decide +kernel
def b12_holdsAny_42 (rc : Nat → List Int32 → List Int64 → Mem → Option (Int32 × Mem)) (n : Nat) (i1 : Int32) (i2 : Int32) (M : Mem) : Option (Int32 × Mem) :=
  lt (i2 + (1 : Int32)) fun v10 =>
  rc 2 [i1, v10] [] M
def b12_holdsAny_2 (rc : Nat → List Int32 → List Int64 → Mem → Option (Int32 × Mem)) (n : Nat) (i1 : Int32) (i2 : Int32) (M : Mem) : Option (Int32 × Mem) :=
  (if (M.1 0 20) ≤ i2 then (
   some ((0 : Int32), M))
  else (
   chk (inb i2 16) <|
   (if (M.1 16 i2.toNatClampNeg) = i1 then (
    chk (inb i2 16) <|
    chk (inb i2 16) <|
    bnd (f12_comesTo n (M.1 18 i2.toNatClampNeg) (M.1 19 i2.toNatClampNeg) M) fun r6 M7 =>
    (if r6 = (1 : Int32) then (
     some ((1 : Int32), M7))
    else (
     b12_holdsAny_42  rc n i1 i2 M7)))
   else (
    b12_holdsAny_42  rc n i1 i2 M))))
def b12_holdsAny_0 (rc : Nat → List Int32 → List Int64 → Mem → Option (Int32 × Mem)) (n : Nat) (a1 : Int32) (M : Mem) : Option (Int32 × Mem) :=
  b12_holdsAny_2  rc n a1 (0 : Int32) M
def r12_holdsAny : Nat → Nat → List Int32 → List Int64 → Mem → Option (Int32 × Mem)
  | 0 => fun _ _ _ _ => none
  | n + 1 => fun pc li lj M =>
    if pc = 2 then (match li, lj with | [i1, i2], [] => b12_holdsAny_2  (r12_holdsAny  n) n i1 i2 M | _, _ => none) else
    none
theorem e12_holdsAny_2  (n : Nat) (i1 : Int32) (i2 : Int32) (M : Mem) : r12_holdsAny  (n + 1) 2 [i1, i2] [] M = b12_holdsAny_2  (r12_holdsAny  n) n i1 i2 M := by
  rw [r12_holdsAny]
  simp
def f12_holdsAny (n : Nat) (a1 : Int32) (M : Mem) : Option (Int32 × Mem) := b12_holdsAny_0 (r12_holdsAny n) n a1 M
abbrev rm12_holdsAny : Room := { frames := 2, cells := 0, slots := 0, locals := 49 }
theorem y12_holdsAny_w : yV RX12 yX12_holdsAny cX12_holdsAny 3 (some .boolean) 1 := ⟨g_1503, gp 73 rfl rfl, g_14, g_1504, rfl, by decide, by decide, by decide +kernel⟩
set_option maxHeartbeats 4000000 in
set_option maxRecDepth 100000 in
theorem w12_holdsAny_42 {p : Program} {l : Launch} {e : Env} {s : State} {m : MethodId} {args : Array Value} {below : List Frame} {meth : Method} {c : Code} {z : Zt} {b : Nat}  (C : Cx p s m args c cX12_holdsAny 3 RX12 z 32 b) (hr : meth.sig.returnType = (some .boolean)) (hk : meth.locks = false) {r : Int32} {M' : Mem} {rc : Nat → List Int32 → List Int64 → Mem → Option (Int32 × Mem)} {n : Nat} (q2 : ∀ (i1 : Int32) (i2 : Int32) (M : Mem) (H : Heap) (locs : List Loc) (ls : Array Slot), rc 2 [i1, i2] [] M = some (r, M') → va_P z.1 vwCl (pw (yd z b) 32 b M) H → va_S (pA 32 b) s.heap H locs → lv_has ls 3 [(0, .ref (b + 0)), (1, .int i1), (2, .int i2)] → W p l e rm12_holdsAny s m args below meth c H locs 0 0 (MQ below (va_Qi (fun (r' : Int32) (M2 : Mem) => r' = r ∧ M2 = M') (fun M2 t => va_P z.1 vwCl (pw (yd z b) 32 b M2) t.heap) (pA 32 b)) args s 0 0 (pA 32 b)) (F0 m 2 ls [])) {i1 : Int32} {i2 : Int32} {M : Mem} {H : Heap} {locs : List Loc} {ls : Array Slot} (hf : b12_holdsAny_42  rc n i1 i2 M = some (r, M')) (hP : va_P z.1 vwCl (pw (yd z b) 32 b M) H) (hS : va_S (pA 32 b) s.heap H locs) (hl : lv_has ls 3 [(0, .ref (b + 0)), (1, .int i1), (2, .int i2)]) : W p l e rm12_holdsAny s m args below meth c H locs 0 0 (MQ below (va_Qi (fun (r' : Int32) (M2 : Mem) => r' = r ∧ M2 = M') (fun M2 t => va_P z.1 vwCl (pw (yd z b) 32 b M2) t.heap) (pA 32 b)) args s 0 0 (pA 32 b)) (F0 m 42 ls []) := by
  have hx := C.1.1
  have hb := C.1.2.1
  unfold b12_holdsAny_42 at hf
  obtain ⟨v10, ev10⟩ : ∃ v : Int32, v = i2 + (1 : Int32) := ⟨_, rfl⟩
  replace hf := lt_c ev10 hf
  refine lv_iinc (v := v10) (lv' := [(2, .int v10), (0, .ref (b + 0)), (1, .int i1)]) hx hb dX12_holdsAny_42 hl (k := 2) rfl (by rw [ev10]; rfl) (by decide) rfl (fun ls hl => ?_)
  refine lv_goto (tgt := 2) hx hb dX12_holdsAny_45 (by decide) ?_
  exact q2 i1 v10 M _ _ _ hf hP hS (lv_sub hl [1, 2, 0] rfl)
set_option maxHeartbeats 4000000 in
set_option maxRecDepth 100000 in
theorem w12_holdsAny_2 {p : Program} {l : Launch} {e : Env} {s : State} {m : MethodId} {args : Array Value} {below : List Frame} {meth : Method} {c : Code} {z : Zt} {b : Nat}  (C : Cx p s m args c cX12_holdsAny 3 RX12 z 32 b) (hr : meth.sig.returnType = (some .boolean)) (hk : meth.locks = false) {r : Int32} {M' : Mem} {rc : Nat → List Int32 → List Int64 → Mem → Option (Int32 × Mem)} {n : Nat} (q2 : ∀ (i1 : Int32) (i2 : Int32) (M : Mem) (H : Heap) (locs : List Loc) (ls : Array Slot), rc 2 [i1, i2] [] M = some (r, M') → va_P z.1 vwCl (pw (yd z b) 32 b M) H → va_S (pA 32 b) s.heap H locs → lv_has ls 3 [(0, .ref (b + 0)), (1, .int i1), (2, .int i2)] → W p l e rm12_holdsAny s m args below meth c H locs 0 0 (MQ below (va_Qi (fun (r' : Int32) (M2 : Mem) => r' = r ∧ M2 = M') (fun M2 t => va_P z.1 vwCl (pw (yd z b) 32 b M2) t.heap) (pA 32 b)) args s 0 0 (pA 32 b)) (F0 m 2 ls [])) {i1 : Int32} {i2 : Int32} {M : Mem} {H : Heap} {locs : List Loc} {ls : Array Slot} (hf : b12_holdsAny_2  rc n i1 i2 M = some (r, M')) (hP : va_P z.1 vwCl (pw (yd z b) 32 b M) H) (hS : va_S (pA 32 b) s.heap H locs) (hl : lv_has ls 3 [(0, .ref (b + 0)), (1, .int i1), (2, .int i2)]) : W p l e rm12_holdsAny s m args below meth c H locs 0 0 (MQ below (va_Qi (fun (r' : Int32) (M2 : Mem) => r' = r ∧ M2 = M') (fun M2 t => va_P z.1 vwCl (pw (yd z b) 32 b M2) t.heap) (pA 32 b)) args s 0 0 (pA 32 b)) (F0 m 2 ls []) := by
  have hx := C.1.1
  have hb := C.1.2.1
  unfold b12_holdsAny_2 at hf
  refine lv_iload_n hx hb dX12_holdsAny_2 rfl (lv_at hl 2 rfl) ?_
  refine lv_aload_n hx hb dX12_holdsAny_3 rfl (lv_at hl 0 rfl) ?_
  refine pg C hP (k := 0) (j := 20) (Nat.le_of_ble_eq_true rfl) (yd_0 _ _) rfl iw_12 (Nat.le_of_ble_eq_true rfl) g_1155 rfl rfl dX12_holdsAny_4 ?_
  refine lv_icmp_ge (tgt := 48) hx hb dX12_holdsAny_7 (by decide) (fun c1 => ?_) (fun c1 => ?_)
  · replace hf := ite_t c1 hf
    refine lv_iconst (v := (0 : Int32)) hx hb dX12_holdsAny_48 (by decide) ?_
    exact prZ C hr hk hP hS hf rfl dX12_holdsAny_49
  · replace hf := ite_f c1 hf
    refine lv_aload_n hx hb dX12_holdsAny_10 rfl (lv_at hl 0 rfl) ?_
    refine pg C hP (k := 0) (j := 28) (Nat.le_of_ble_eq_true rfl) (yd_0 _ _) rfl iw_12 (Nat.le_of_ble_eq_true rfl) g_1163 rfl rfl dX12_holdsAny_11 ?_
    refine lv_iload_n hx hb dX12_holdsAny_14 rfl (lv_at hl 2 rfl) ?_
    have h2 := chk_1 hf
    replace hf := chk_2 hf
    refine paI C hP (k := 16) (Nat.le_of_ble_eq_true rfl) (yd_16 _ _) h2 dX12_holdsAny_15 ?_
    refine lv_iload_n hx hb dX12_holdsAny_16 rfl (lv_at hl 1 rfl) ?_
    refine lv_icmp_ne (tgt := 42) hx hb dX12_holdsAny_17 (by decide) (fun c3 => ?_) (fun c3 => ?_)
    · replace hf := ite_f c3 hf
      exact w12_holdsAny_42 (n := n)  C hr hk q2 hf hP hS (lv_sub hl [0, 1, 2] rfl)
    · replace hf := ite_t c3 hf
      refine lv_aload_n hx hb dX12_holdsAny_20 rfl (lv_at hl 0 rfl) ?_
      refine lv_aload_n hx hb dX12_holdsAny_21 rfl (lv_at hl 0 rfl) ?_
      refine pg C hP (k := 0) (j := 30) (Nat.le_of_ble_eq_true rfl) (yd_0 _ _) rfl iw_12 (Nat.le_of_ble_eq_true rfl) g_1165 rfl rfl dX12_holdsAny_22 ?_
      refine lv_iload_n hx hb dX12_holdsAny_25 rfl (lv_at hl 2 rfl) ?_
      have h4 := chk_1 hf
      replace hf := chk_2 hf
      refine paI C hP (k := 18) (Nat.le_of_ble_eq_true rfl) (yd_18 _ _) h4 dX12_holdsAny_26 ?_
      refine lv_aload_n hx hb dX12_holdsAny_27 rfl (lv_at hl 0 rfl) ?_
      refine pg C hP (k := 0) (j := 31) (Nat.le_of_ble_eq_true rfl) (yd_0 _ _) rfl iw_12 (Nat.le_of_ble_eq_true rfl) g_1166 rfl rfl dX12_holdsAny_28 ?_
      refine lv_iload_n hx hb dX12_holdsAny_31 rfl (lv_at hl 2 rfl) ?_
      have h5 := chk_1 hf
      replace hf := chk_2 hf
      refine paI C hP (k := 19) (Nat.le_of_ble_eq_true rfl) (yd_19 _ _) h5 dX12_holdsAny_32 ?_
      obtain ⟨r6, M7, h8, hf⟩ := bnd_s hf
      refine pcVi (As := [.int (M.1 18 i2.toNatClampNeg), .int (M.1 19 i2.toNatClampNeg)]) C hP hS (k := 0) (Nat.le_of_ble_eq_true rfl) (yd_0 _ _) rfl (c12_comesTo  h8) y12_comesTo_w g_1463 rfl rfl rfl ⟨Nat.le_of_ble_eq_true rfl, Nat.le_of_ble_eq_true rfl⟩ hl.1 rfl (Nat.le_of_ble_eq_true rfl) dX12_holdsAny_33 ⟨Nat.le_of_ble_eq_true rfl, Nat.le_of_ble_eq_true rfl⟩ (fun H locs hP hS => ?_)
      refine lv_iconst (v := (1 : Int32)) hx hb dX12_holdsAny_36 (by decide) ?_
      refine lv_icmp_ne (tgt := 42) hx hb dX12_holdsAny_37 (by decide) (fun c9 => ?_) (fun c9 => ?_)
      · replace hf := ite_f c9 hf
        exact w12_holdsAny_42 (n := n)  C hr hk q2 hf hP hS (lv_sub hl [0, 1, 2] rfl)
      · replace hf := ite_t c9 hf
        refine lv_iconst (v := (1 : Int32)) hx hb dX12_holdsAny_40 (by decide) ?_
        exact prZ C hr hk hP hS hf rfl dX12_holdsAny_41
set_option maxHeartbeats 4000000 in
set_option maxRecDepth 100000 in
theorem w12_holdsAny_0 {p : Program} {l : Launch} {e : Env} {s : State} {m : MethodId} {args : Array Value} {below : List Frame} {meth : Method} {c : Code} {z : Zt} {b : Nat}  (C : Cx p s m args c cX12_holdsAny 3 RX12 z 32 b) (hr : meth.sig.returnType = (some .boolean)) (hk : meth.locks = false) {r : Int32} {M' : Mem} {rc : Nat → List Int32 → List Int64 → Mem → Option (Int32 × Mem)} {n : Nat} (q2 : ∀ (i1 : Int32) (i2 : Int32) (M : Mem) (H : Heap) (locs : List Loc) (ls : Array Slot), rc 2 [i1, i2] [] M = some (r, M') → va_P z.1 vwCl (pw (yd z b) 32 b M) H → va_S (pA 32 b) s.heap H locs → lv_has ls 3 [(0, .ref (b + 0)), (1, .int i1), (2, .int i2)] → W p l e rm12_holdsAny s m args below meth c H locs 0 0 (MQ below (va_Qi (fun (r' : Int32) (M2 : Mem) => r' = r ∧ M2 = M') (fun M2 t => va_P z.1 vwCl (pw (yd z b) 32 b M2) t.heap) (pA 32 b)) args s 0 0 (pA 32 b)) (F0 m 2 ls [])) {a1 : Int32} {M : Mem} {H : Heap} {locs : List Loc} {ls : Array Slot} (hf : b12_holdsAny_0  rc n a1 M = some (r, M')) (hP : va_P z.1 vwCl (pw (yd z b) 32 b M) H) (hS : va_S (pA 32 b) s.heap H locs) (hl : lv_has ls 3 [(0, .ref (b + 0)), (1, .int a1)]) : W p l e rm12_holdsAny s m args below meth c H locs 0 0 (MQ below (va_Qi (fun (r' : Int32) (M2 : Mem) => r' = r ∧ M2 = M') (fun M2 t => va_P z.1 vwCl (pw (yd z b) 32 b M2) t.heap) (pA 32 b)) args s 0 0 (pA 32 b)) (F0 m 0 ls []) := by
  have hx := C.1.1
  have hb := C.1.2.1
  unfold b12_holdsAny_0 at hf
  refine lv_iconst (v := (0 : Int32)) hx hb dX12_holdsAny_0 (by decide) ?_
  refine lv_istore_n (lv' := [(2, .int (0 : Int32)), (0, .ref (b + 0)), (1, .int a1)]) hx hb dX12_holdsAny_1 rfl hl (by decide) rfl (fun ls hl => ?_)
  exact w12_holdsAny_2 (n := n)  C hr hk q2 hf hP hS (lv_sub hl [1, 2, 0] rfl)
set_option maxHeartbeats 4000000 in
set_option maxRecDepth 100000 in
theorem l12_holdsAny {p : Program} {l : Launch} {e : Env} {s : State} {m : MethodId} {args : Array Value} {below : List Frame} {meth : Method} {c : Code} {z : Zt} {b : Nat}  (C : Cx p s m args c cX12_holdsAny 3 RX12 z 32 b) (hr : meth.sig.returnType = (some .boolean)) (hk : meth.locks = false) {r : Int32} {M' : Mem} (n : Nat) : (∀ (i1 : Int32) (i2 : Int32) (M : Mem) (H : Heap) (locs : List Loc) (ls : Array Slot), (r12_holdsAny  n) 2 [i1, i2] [] M = some (r, M') → va_P z.1 vwCl (pw (yd z b) 32 b M) H → va_S (pA 32 b) s.heap H locs → lv_has ls 3 [(0, .ref (b + 0)), (1, .int i1), (2, .int i2)] → W p l e rm12_holdsAny s m args below meth c H locs 0 0 (MQ below (va_Qi (fun (r' : Int32) (M2 : Mem) => r' = r ∧ M2 = M') (fun M2 t => va_P z.1 vwCl (pw (yd z b) 32 b M2) t.heap) (pA 32 b)) args s 0 0 (pA 32 b)) (F0 m 2 ls [])) := by
  induction n with
  | zero => exact fun _ _ _ _ _ _ hf => (by cases hf)
  | succ n ih => exact fun _ _ _ _ _ _ hf hP hS hl => w12_holdsAny_2 (n := n)  C hr hk ih ((e12_holdsAny_2  n _ _ _).symm.trans hf) hP hS hl
theorem c12_holdsAny {l : Launch} {z : Zt} {b n : Nat}  {a1 : Int32} {M M' : Mem} {r : Int32} (hf : f12_holdsAny n  a1 M = some (r, M')) : CI l z (yd z b) 32 b yX12_holdsAny cX12_holdsAny 3 (some .boolean) rm12_holdsAny [.ref (b + 0), .int a1] M M' r :=
  CI.ofW (lv := [(0, .ref (b + 0)), (1, .int a1)]) (by decide) (Nat.le_of_ble_eq_true rfl) rfl (fun p e s m args below meth c ls C hr hk hP hS hl => w12_holdsAny_0 (n := n)  C hr hk (l12_holdsAny  C hr hk n) hf hP hS hl)

-- BronzeKingModel.readsSign(I)I
theorem dX12_readsSign_0 : decode cX12_readsSign 0 = .ok (.aload_n 0, 1) := by decide +kernel
theorem dX12_readsSign_1 : decode cX12_readsSign 1 = .ok (.getfield 143, 3) := by decide +kernel
theorem dX12_readsSign_4 : decode cX12_readsSign 4 = .ok (.istore_n 2, 1) := by decide +kernel
theorem dX12_readsSign_5 : decode cX12_readsSign 5 = .ok (.iconst 1, 1) := by decide +kernel
theorem dX12_readsSign_6 : decode cX12_readsSign 6 = .ok (.istore_n 3, 1) := by decide +kernel
theorem dX12_readsSign_7 : decode cX12_readsSign 7 = .ok (.aload_n 0, 1) := by decide +kernel
theorem dX12_readsSign_8 : decode cX12_readsSign 8 = .ok (.invokevirtual 149, 3) := by decide +kernel
theorem dX12_readsSign_11 : decode cX12_readsSign 11 = .ok (.bipush 50, 2) := by decide +kernel
theorem dX12_readsSign_13 : decode cX12_readsSign 13 = .ok (.bipush 57, 2) := by decide +kernel
theorem dX12_readsSign_15 : decode cX12_readsSign 15 = .ok (.invokestatic 106, 3) := by decide +kernel
theorem dX12_readsSign_18 : decode cX12_readsSign 18 = .ok (.ifCond .eq 21, 3) := by decide +kernel
theorem dX12_readsSign_21 : decode cX12_readsSign 21 = .ok (.aload_n 0, 1) := by decide +kernel
theorem dX12_readsSign_22 : decode cX12_readsSign 22 = .ok (.invokevirtual 149, 3) := by decide +kernel
theorem dX12_readsSign_25 : decode cX12_readsSign 25 = .ok (.bipush 48, 2) := by decide +kernel
theorem dX12_readsSign_27 : decode cX12_readsSign 27 = .ok (.isub, 1) := by decide +kernel
theorem dX12_readsSign_28 : decode cX12_readsSign 28 = .ok (.istore_n 3, 1) := by decide +kernel
theorem dX12_readsSign_29 : decode cX12_readsSign 29 = .ok (.aload_n 0, 1) := by decide +kernel
theorem dX12_readsSign_30 : decode cX12_readsSign 30 = .ok (.aload_n 0, 1) := by decide +kernel
theorem dX12_readsSign_31 : decode cX12_readsSign 31 = .ok (.getfield 143, 3) := by decide +kernel
theorem dX12_readsSign_34 : decode cX12_readsSign 34 = .ok (.iconst 1, 1) := by decide +kernel
theorem dX12_readsSign_35 : decode cX12_readsSign 35 = .ok (.iadd, 1) := by decide +kernel
theorem dX12_readsSign_36 : decode cX12_readsSign 36 = .ok (.putfield 143, 3) := by decide +kernel
theorem dX12_readsSign_39 : decode cX12_readsSign 39 = .ok (.aload_n 0, 1) := by decide +kernel
theorem dX12_readsSign_40 : decode cX12_readsSign 40 = .ok (.invokevirtual 149, 3) := by decide +kernel
theorem dX12_readsSign_43 : decode cX12_readsSign 43 = .ok (.istore 4, 2) := by decide +kernel
theorem dX12_readsSign_45 : decode cX12_readsSign 45 = .ok (.iload 4, 2) := by decide +kernel
theorem dX12_readsSign_47 : decode cX12_readsSign 47 = .ok (.bipush 46, 2) := by decide +kernel
theorem dX12_readsSign_49 : decode cX12_readsSign 49 = .ok (.if_icmp .ne 7, 3) := by decide +kernel
theorem dX12_readsSign_52 : decode cX12_readsSign 52 = .ok (.iconst 2, 1) := by decide +kernel
theorem dX12_readsSign_53 : decode cX12_readsSign 53 = .ok (.goto 26, 3) := by decide +kernel
theorem dX12_readsSign_56 : decode cX12_readsSign 56 = .ok (.iload 4, 2) := by decide +kernel
theorem dX12_readsSign_58 : decode cX12_readsSign 58 = .ok (.bipush 35, 2) := by decide +kernel
theorem dX12_readsSign_60 : decode cX12_readsSign 60 = .ok (.if_icmp .ne 7, 3) := by decide +kernel
theorem dX12_readsSign_63 : decode cX12_readsSign 63 = .ok (.iconst 0, 1) := by decide +kernel
theorem dX12_readsSign_64 : decode cX12_readsSign 64 = .ok (.goto 15, 3) := by decide +kernel
theorem dX12_readsSign_67 : decode cX12_readsSign 67 = .ok (.iload 4, 2) := by decide +kernel
theorem dX12_readsSign_69 : decode cX12_readsSign 69 = .ok (.bipush 43, 2) := by decide +kernel
theorem dX12_readsSign_71 : decode cX12_readsSign 71 = .ok (.if_icmp .ne 7, 3) := by decide +kernel
theorem dX12_readsSign_74 : decode cX12_readsSign 74 = .ok (.iconst 1, 1) := by decide +kernel
theorem dX12_readsSign_75 : decode cX12_readsSign 75 = .ok (.goto 4, 3) := by decide +kernel
theorem dX12_readsSign_78 : decode cX12_readsSign 78 = .ok (.iconst (-1), 1) := by decide +kernel
theorem dX12_readsSign_79 : decode cX12_readsSign 79 = .ok (.istore 5, 2) := by decide +kernel
theorem dX12_readsSign_81 : decode cX12_readsSign 81 = .ok (.iload 5, 2) := by decide +kernel
theorem dX12_readsSign_83 : decode cX12_readsSign 83 = .ok (.iconst (-1), 1) := by decide +kernel
theorem dX12_readsSign_84 : decode cX12_readsSign 84 = .ok (.if_icmp .ne 15, 3) := by decide +kernel
theorem dX12_readsSign_87 : decode cX12_readsSign 87 = .ok (.aload_n 0, 1) := by decide +kernel
theorem dX12_readsSign_88 : decode cX12_readsSign 88 = .ok (.iconst 1, 1) := by decide +kernel
theorem dX12_readsSign_89 : decode cX12_readsSign 89 = .ok (.aload_n 0, 1) := by decide +kernel
theorem dX12_readsSign_90 : decode cX12_readsSign 90 = .ok (.getfield 143, 3) := by decide +kernel
theorem dX12_readsSign_93 : decode cX12_readsSign 93 = .ok (.invokevirtual 156, 3) := by decide +kernel
theorem dX12_readsSign_96 : decode cX12_readsSign 96 = .ok (.pop, 1) := by decide +kernel
theorem dX12_readsSign_97 : decode cX12_readsSign 97 = .ok (.iconst (-1), 1) := by decide +kernel
theorem dX12_readsSign_98 : decode cX12_readsSign 98 = .ok (.ireturn, 1) := by decide +kernel
theorem dX12_readsSign_99 : decode cX12_readsSign 99 = .ok (.aload_n 0, 1) := by decide +kernel
theorem dX12_readsSign_100 : decode cX12_readsSign 100 = .ok (.aload_n 0, 1) := by decide +kernel
theorem dX12_readsSign_101 : decode cX12_readsSign 101 = .ok (.getfield 143, 3) := by decide +kernel
theorem dX12_readsSign_104 : decode cX12_readsSign 104 = .ok (.iconst 1, 1) := by decide +kernel
theorem dX12_readsSign_105 : decode cX12_readsSign 105 = .ok (.iadd, 1) := by decide +kernel
theorem dX12_readsSign_106 : decode cX12_readsSign 106 = .ok (.putfield 143, 3) := by decide +kernel
theorem dX12_readsSign_109 : decode cX12_readsSign 109 = .ok (.iload_n 1, 1) := by decide +kernel
theorem dX12_readsSign_110 : decode cX12_readsSign 110 = .ok (.iload_n 3, 1) := by decide +kernel
theorem dX12_readsSign_111 : decode cX12_readsSign 111 = .ok (.iadd, 1) := by decide +kernel
theorem dX12_readsSign_112 : decode cX12_readsSign 112 = .ok (.bipush 12, 2) := by decide +kernel
theorem dX12_readsSign_114 : decode cX12_readsSign 114 = .ok (.if_icmp .le 13, 3) := by decide +kernel
theorem dX12_readsSign_117 : decode cX12_readsSign 117 = .ok (.aload_n 0, 1) := by decide +kernel
theorem dX12_readsSign_118 : decode cX12_readsSign 118 = .ok (.bipush 6, 2) := by decide +kernel
theorem dX12_readsSign_120 : decode cX12_readsSign 120 = .ok (.iload_n 2, 1) := by decide +kernel
theorem dX12_readsSign_121 : decode cX12_readsSign 121 = .ok (.invokevirtual 156, 3) := by decide +kernel
theorem dX12_readsSign_124 : decode cX12_readsSign 124 = .ok (.pop, 1) := by decide +kernel
theorem dX12_readsSign_125 : decode cX12_readsSign 125 = .ok (.iconst (-1), 1) := by decide +kernel
theorem dX12_readsSign_126 : decode cX12_readsSign 126 = .ok (.ireturn, 1) := by decide +kernel
theorem dX12_readsSign_127 : decode cX12_readsSign 127 = .ok (.iconst 0, 1) := by decide +kernel
theorem dX12_readsSign_128 : decode cX12_readsSign 128 = .ok (.istore 6, 2) := by decide +kernel
theorem dX12_readsSign_130 : decode cX12_readsSign 130 = .ok (.iload 6, 2) := by decide +kernel
theorem dX12_readsSign_132 : decode cX12_readsSign 132 = .ok (.iload_n 3, 1) := by decide +kernel
theorem dX12_readsSign_133 : decode cX12_readsSign 133 = .ok (.if_icmp .ge 28, 3) := by decide +kernel
theorem dX12_readsSign_136 : decode cX12_readsSign 136 = .ok (.aload_n 0, 1) := by decide +kernel
theorem dX12_readsSign_137 : decode cX12_readsSign 137 = .ok (.getfield 74, 3) := by decide +kernel
theorem dX12_readsSign_140 : decode cX12_readsSign 140 = .ok (.bipush 12, 2) := by decide +kernel
theorem dX12_readsSign_142 : decode cX12_readsSign 142 = .ok (.aload_n 0, 1) := by decide +kernel
theorem dX12_readsSign_143 : decode cX12_readsSign 143 = .ok (.getfield 246, 3) := by decide +kernel
theorem dX12_readsSign_146 : decode cX12_readsSign 146 = .ok (.imul, 1) := by decide +kernel
theorem dX12_readsSign_147 : decode cX12_readsSign 147 = .ok (.iload_n 1, 1) := by decide +kernel
theorem dX12_readsSign_148 : decode cX12_readsSign 148 = .ok (.iadd, 1) := by decide +kernel
theorem dX12_readsSign_149 : decode cX12_readsSign 149 = .ok (.iload 6, 2) := by decide +kernel
theorem dX12_readsSign_151 : decode cX12_readsSign 151 = .ok (.iadd, 1) := by decide +kernel
theorem dX12_readsSign_152 : decode cX12_readsSign 152 = .ok (.iload 5, 2) := by decide +kernel
theorem dX12_readsSign_154 : decode cX12_readsSign 154 = .ok (.iastore, 1) := by decide +kernel
theorem dX12_readsSign_155 : decode cX12_readsSign 155 = .ok (.iinc 6 1, 3) := by decide +kernel
theorem dX12_readsSign_158 : decode cX12_readsSign 158 = .ok (.goto (-28), 3) := by decide +kernel
theorem dX12_readsSign_161 : decode cX12_readsSign 161 = .ok (.iload_n 1, 1) := by decide +kernel
theorem dX12_readsSign_162 : decode cX12_readsSign 162 = .ok (.iload_n 3, 1) := by decide +kernel
theorem dX12_readsSign_163 : decode cX12_readsSign 163 = .ok (.iadd, 1) := by decide +kernel
theorem dX12_readsSign_164 : decode cX12_readsSign 164 = .ok (.ireturn, 1) := by decide +kernel
def b12_readsSign_130 (rc : Nat → List Int32 → List Int64 → Mem → Option (Int32 × Mem)) (n : Nat) (i1 : Int32) (i3 : Int32) (i5 : Int32) (i6 : Int32) (M : Mem) : Option (Int32 × Mem) :=
  (if i3 ≤ i6 then (
   some ((i1 + i3), M))
  else (
   chk (inb ((((12 : Int32) * (M.1 0 35)) + i1) + i6) 96) <|
   lt (wI M 22 ((((12 : Int32) * (M.1 0 35)) + i1) + i6).toNatClampNeg i5) fun M31 =>
   lt (i6 + (1 : Int32)) fun v32 =>
   rc 130 [i1, i3, i5, v32] [] M31))
def b12_readsSign_79 (rc : Nat → List Int32 → List Int64 → Mem → Option (Int32 × Mem)) (n : Nat) (i1 : Int32) (i2 : Int32) (i3 : Int32) (s0 : Int32) (M : Mem) : Option (Int32 × Mem) :=
  (if s0 = (-1 : Int32) then (
   bnd (f12_wrongAt n (1 : Int32) (M.1 0 12) M) fun r26 M27 =>
   some ((-1 : Int32), M27))
  else (
   lt (wI M 0 12 ((M.1 0 12) + (1 : Int32))) fun M21 =>
   (if (i1 + i3) ≤ (12 : Int32) then (
    b12_readsSign_130  rc n i1 i3 s0 (0 : Int32) M21)
   else (
    bnd (f12_wrongAt n (6 : Int32) i2 M21) fun r23 M24 =>
    some ((-1 : Int32), M24)))))
def b12_readsSign_39 (rc : Nat → List Int32 → List Int64 → Mem → Option (Int32 × Mem)) (n : Nat) (i1 : Int32) (i2 : Int32) (i3 : Int32) (M : Mem) : Option (Int32 × Mem) :=
  bnd (f12_here n M) fun r14 M15 =>
  (if r14 = (46 : Int32) then (
   b12_readsSign_79  rc n i1 i2 i3 (2 : Int32) M15)
  else (
   (if r14 = (35 : Int32) then (
    b12_readsSign_79  rc n i1 i2 i3 (0 : Int32) M15)
   else (
    (if r14 = (43 : Int32) then (
     b12_readsSign_79  rc n i1 i2 i3 (1 : Int32) M15)
    else (
     b12_readsSign_79  rc n i1 i2 i3 (-1 : Int32) M15))))))
def b12_readsSign_0 (rc : Nat → List Int32 → List Int64 → Mem → Option (Int32 × Mem)) (n : Nat) (a1 : Int32) (M : Mem) : Option (Int32 × Mem) :=
  lt (M.1 0 12) fun v1 =>
  bnd (f12_here n M) fun r2 M3 =>
  bnd (f12_in n r2 (50 : Int32) (57 : Int32) M3) fun r5 M6 =>
  (if r5 = 0 then (
   b12_readsSign_39  rc n a1 v1 (1 : Int32) M6)
  else (
   bnd (f12_here n M6) fun r9 M10 =>
   lt (r9 - (48 : Int32)) fun v12 =>
   lt (wI M10 0 12 ((M10.1 0 12) + (1 : Int32))) fun M13 =>
   b12_readsSign_39  rc n a1 v1 v12 M13))
def r12_readsSign : Nat → Nat → List Int32 → List Int64 → Mem → Option (Int32 × Mem)
  | 0 => fun _ _ _ _ => none
  | n + 1 => fun pc li lj M =>
    if pc = 130 then (match li, lj with | [i1, i3, i5, i6], [] => b12_readsSign_130  (r12_readsSign  n) n i1 i3 i5 i6 M | _, _ => none) else
    none
theorem e12_readsSign_130  (n : Nat) (i1 : Int32) (i3 : Int32) (i5 : Int32) (i6 : Int32) (M : Mem) : r12_readsSign  (n + 1) 130 [i1, i3, i5, i6] [] M = b12_readsSign_130  (r12_readsSign  n) n i1 i3 i5 i6 M := by
  rw [r12_readsSign]
  simp
def f12_readsSign (n : Nat) (a1 : Int32) (M : Mem) : Option (Int32 × Mem) := b12_readsSign_0 (r12_readsSign n) n a1 M
abbrev rm12_readsSign : Room := { frames := 1, cells := 0, slots := 0, locals := 22 }
theorem y12_readsSign_w : yV RX12 yX12_readsSign cX12_readsSign 7 (some .int) 1 := ⟨g_1421, gp 57 rfl rfl, g_14, g_1422, rfl, by decide, by decide, by decide +kernel⟩
set_option maxHeartbeats 4000000 in
set_option maxRecDepth 100000 in
theorem w12_readsSign_130 {p : Program} {l : Launch} {e : Env} {s : State} {m : MethodId} {args : Array Value} {below : List Frame} {meth : Method} {c : Code} {z : Zt} {b : Nat}  (C : Cx p s m args c cX12_readsSign 7 RX12 z 32 b) (hr : meth.sig.returnType = (some .int)) (hk : meth.locks = false) {r : Int32} {M' : Mem} {rc : Nat → List Int32 → List Int64 → Mem → Option (Int32 × Mem)} {n : Nat} (q130 : ∀ (i1 : Int32) (i3 : Int32) (i5 : Int32) (i6 : Int32) (M : Mem) (H : Heap) (locs : List Loc) (ls : Array Slot), rc 130 [i1, i3, i5, i6] [] M = some (r, M') → va_P z.1 vwCl (pw (yd z b) 32 b M) H → va_S (pA 32 b) s.heap H locs → lv_has ls 7 [(0, .ref (b + 0)), (1, .int i1), (3, .int i3), (5, .int i5), (6, .int i6)] → W p l e rm12_readsSign s m args below meth c H locs 0 0 (MQ below (va_Qi (fun (r' : Int32) (M2 : Mem) => r' = r ∧ M2 = M') (fun M2 t => va_P z.1 vwCl (pw (yd z b) 32 b M2) t.heap) (pA 32 b)) args s 0 0 (pA 32 b)) (F0 m 130 ls [])) {i1 : Int32} {i3 : Int32} {i5 : Int32} {i6 : Int32} {M : Mem} {H : Heap} {locs : List Loc} {ls : Array Slot} (hf : b12_readsSign_130  rc n i1 i3 i5 i6 M = some (r, M')) (hP : va_P z.1 vwCl (pw (yd z b) 32 b M) H) (hS : va_S (pA 32 b) s.heap H locs) (hl : lv_has ls 7 [(0, .ref (b + 0)), (1, .int i1), (3, .int i3), (5, .int i5), (6, .int i6)]) : W p l e rm12_readsSign s m args below meth c H locs 0 0 (MQ below (va_Qi (fun (r' : Int32) (M2 : Mem) => r' = r ∧ M2 = M') (fun M2 t => va_P z.1 vwCl (pw (yd z b) 32 b M2) t.heap) (pA 32 b)) args s 0 0 (pA 32 b)) (F0 m 130 ls []) := by
  have hx := C.1.1
  have hb := C.1.2.1
  unfold b12_readsSign_130 at hf
  refine lv_iload hx hb dX12_readsSign_130 (lv_at hl 4 rfl) ?_
  refine lv_iload_n hx hb dX12_readsSign_132 rfl (lv_at hl 2 rfl) ?_
  refine lv_icmp_ge (tgt := 161) hx hb dX12_readsSign_133 (by decide) (fun c29 => ?_) (fun c29 => ?_)
  · replace hf := ite_t c29 hf
    refine lv_iload_n hx hb dX12_readsSign_161 rfl (lv_at hl 1 rfl) ?_
    refine lv_iload_n hx hb dX12_readsSign_162 rfl (lv_at hl 2 rfl) ?_
    refine lv_iadd hx hb dX12_readsSign_163 ?_
    exact prI C hr hk hP hS hf dX12_readsSign_164
  · replace hf := ite_f c29 hf
    refine lv_aload_n hx hb dX12_readsSign_136 rfl (lv_at hl 0 rfl) ?_
    refine pg C hP (k := 0) (j := 34) (Nat.le_of_ble_eq_true rfl) (yd_0 _ _) rfl iw_12 (Nat.le_of_ble_eq_true rfl) g_1169 rfl rfl dX12_readsSign_137 ?_
    refine lv_bipush (v := (12 : Int32)) hx hb dX12_readsSign_140 (by decide) ?_
    refine lv_aload_n hx hb dX12_readsSign_142 rfl (lv_at hl 0 rfl) ?_
    refine pg C hP (k := 0) (j := 35) (Nat.le_of_ble_eq_true rfl) (yd_0 _ _) rfl iw_12 (Nat.le_of_ble_eq_true rfl) g_1170 rfl rfl dX12_readsSign_143 ?_
    refine lv_imul hx hb dX12_readsSign_146 ?_
    refine lv_iload_n hx hb dX12_readsSign_147 rfl (lv_at hl 1 rfl) ?_
    refine lv_iadd hx hb dX12_readsSign_148 ?_
    refine lv_iload hx hb dX12_readsSign_149 (lv_at hl 4 rfl) ?_
    refine lv_iadd hx hb dX12_readsSign_151 ?_
    refine lv_iload hx hb dX12_readsSign_152 (lv_at hl 3 rfl) ?_
    have h30 := chk_1 hf
    replace hf := chk_2 hf
    refine psI C hP hS (k := 22) (Nat.le_of_ble_eq_true rfl) (yd_22) h30 dX12_readsSign_154 (fun M31 H locs eM31 hP hS => ?_)
    replace hf := lt_c eM31 hf
    obtain ⟨v32, ev32⟩ : ∃ v : Int32, v = i6 + (1 : Int32) := ⟨_, rfl⟩
    replace hf := lt_c ev32 hf
    refine lv_iinc (v := v32) (lv' := [(6, .int v32), (0, .ref (b + 0)), (1, .int i1), (3, .int i3), (5, .int i5)]) hx hb dX12_readsSign_155 hl (k := 4) rfl (by rw [ev32]; rfl) (by decide) rfl (fun ls hl => ?_)
    refine lv_goto (tgt := 130) hx hb dX12_readsSign_158 (by decide) ?_
    exact q130 i1 i3 i5 v32 M31 _ _ _ hf hP hS (lv_sub hl [1, 2, 3, 4, 0] rfl)
set_option maxHeartbeats 4000000 in
set_option maxRecDepth 100000 in
theorem w12_readsSign_79 {p : Program} {l : Launch} {e : Env} {s : State} {m : MethodId} {args : Array Value} {below : List Frame} {meth : Method} {c : Code} {z : Zt} {b : Nat}  (C : Cx p s m args c cX12_readsSign 7 RX12 z 32 b) (hr : meth.sig.returnType = (some .int)) (hk : meth.locks = false) {r : Int32} {M' : Mem} {rc : Nat → List Int32 → List Int64 → Mem → Option (Int32 × Mem)} {n : Nat} (q130 : ∀ (i1 : Int32) (i3 : Int32) (i5 : Int32) (i6 : Int32) (M : Mem) (H : Heap) (locs : List Loc) (ls : Array Slot), rc 130 [i1, i3, i5, i6] [] M = some (r, M') → va_P z.1 vwCl (pw (yd z b) 32 b M) H → va_S (pA 32 b) s.heap H locs → lv_has ls 7 [(0, .ref (b + 0)), (1, .int i1), (3, .int i3), (5, .int i5), (6, .int i6)] → W p l e rm12_readsSign s m args below meth c H locs 0 0 (MQ below (va_Qi (fun (r' : Int32) (M2 : Mem) => r' = r ∧ M2 = M') (fun M2 t => va_P z.1 vwCl (pw (yd z b) 32 b M2) t.heap) (pA 32 b)) args s 0 0 (pA 32 b)) (F0 m 130 ls [])) {i1 : Int32} {i2 : Int32} {i3 : Int32} {s0 : Int32} {M : Mem} {H : Heap} {locs : List Loc} {ls : Array Slot} (hf : b12_readsSign_79  rc n i1 i2 i3 s0 M = some (r, M')) (hP : va_P z.1 vwCl (pw (yd z b) 32 b M) H) (hS : va_S (pA 32 b) s.heap H locs) (hl : lv_has ls 7 [(0, .ref (b + 0)), (1, .int i1), (2, .int i2), (3, .int i3)]) : W p l e rm12_readsSign s m args below meth c H locs 0 0 (MQ below (va_Qi (fun (r' : Int32) (M2 : Mem) => r' = r ∧ M2 = M') (fun M2 t => va_P z.1 vwCl (pw (yd z b) 32 b M2) t.heap) (pA 32 b)) args s 0 0 (pA 32 b)) (F0 m 79 ls [.int s0]) := by
  have hx := C.1.1
  have hb := C.1.2.1
  unfold b12_readsSign_79 at hf
  refine lv_istore (lv' := [(5, .int s0), (0, .ref (b + 0)), (1, .int i1), (2, .int i2), (3, .int i3)]) hx hb dX12_readsSign_79 hl (by decide) rfl (fun ls hl => ?_)
  refine lv_iload hx hb dX12_readsSign_81 (lv_at hl 0 rfl) ?_
  refine lv_iconst (v := (-1 : Int32)) hx hb dX12_readsSign_83 (by decide) ?_
  refine lv_icmp_ne (tgt := 99) hx hb dX12_readsSign_84 (by decide) (fun c20 => ?_) (fun c20 => ?_)
  · replace hf := ite_f c20 hf
    refine lv_aload_n hx hb dX12_readsSign_99 rfl (lv_at hl 1 rfl) ?_
    refine lv_aload_n hx hb dX12_readsSign_100 rfl (lv_at hl 1 rfl) ?_
    refine pg C hP (k := 0) (j := 12) (Nat.le_of_ble_eq_true rfl) (yd_0 _ _) rfl iw_12 (Nat.le_of_ble_eq_true rfl) g_1147 rfl rfl dX12_readsSign_101 ?_
    refine lv_iconst (v := (1 : Int32)) hx hb dX12_readsSign_104 (by decide) ?_
    refine lv_iadd hx hb dX12_readsSign_105 ?_
    refine ppI C hP hS (k := 0) (j := 12) (ty := .int) (Nat.le_of_ble_eq_true rfl) (yd_0 _ _) rfl iw_12 tyX12 tyX12_ok nmX12 (Nat.le_of_ble_eq_true rfl) g_1147 rfl rfl (by decide +kernel) rfl rfl (Nat.le_of_ble_eq_true rfl) (yu_0_12 _ _ _) dX12_readsSign_106 (fun M21 H locs eM21 hP hS => ?_)
    replace hf := lt_c eM21 hf
    refine lv_iload_n hx hb dX12_readsSign_109 rfl (lv_at hl 2 rfl) ?_
    refine lv_iload_n hx hb dX12_readsSign_110 rfl (lv_at hl 4 rfl) ?_
    refine lv_iadd hx hb dX12_readsSign_111 ?_
    refine lv_bipush (v := (12 : Int32)) hx hb dX12_readsSign_112 (by decide) ?_
    refine lv_icmp_le (tgt := 127) hx hb dX12_readsSign_114 (by decide) (fun c22 => ?_) (fun c22 => ?_)
    · replace hf := ite_t c22 hf
      refine lv_iconst (v := (0 : Int32)) hx hb dX12_readsSign_127 (by decide) ?_
      refine lv_istore (lv' := [(6, .int (0 : Int32)), (5, .int s0), (0, .ref (b + 0)), (1, .int i1), (2, .int i2), (3, .int i3)]) hx hb dX12_readsSign_128 hl (by decide) rfl (fun ls hl => ?_)
      exact w12_readsSign_130 (n := n)  C hr hk q130 hf hP hS (lv_sub hl [2, 3, 5, 1, 0] rfl)
    · replace hf := ite_f c22 hf
      refine lv_aload_n hx hb dX12_readsSign_117 rfl (lv_at hl 1 rfl) ?_
      refine lv_bipush (v := (6 : Int32)) hx hb dX12_readsSign_118 (by decide) ?_
      refine lv_iload_n hx hb dX12_readsSign_120 rfl (lv_at hl 3 rfl) ?_
      obtain ⟨r23, M24, h25, hf⟩ := bnd_s hf
      refine pcVi (As := [.int (6 : Int32), .int i2]) C hP hS (k := 0) (Nat.le_of_ble_eq_true rfl) (yd_0 _ _) rfl (c12_wrongAt  h25) y12_wrongAt_w g_1337 rfl rfl rfl ⟨Nat.le_of_ble_eq_true rfl, Nat.le_of_ble_eq_true rfl⟩ hl.1 rfl (Nat.le_of_ble_eq_true rfl) dX12_readsSign_121 ⟨Nat.le_of_ble_eq_true rfl, Nat.le_of_ble_eq_true rfl⟩ (fun H locs hP hS => ?_)
      refine lv_pop hx hb dX12_readsSign_124 rfl ?_
      refine lv_iconst (v := (-1 : Int32)) hx hb dX12_readsSign_125 (by decide) ?_
      exact prI C hr hk hP hS hf dX12_readsSign_126
  · replace hf := ite_t c20 hf
    refine lv_aload_n hx hb dX12_readsSign_87 rfl (lv_at hl 1 rfl) ?_
    refine lv_iconst (v := (1 : Int32)) hx hb dX12_readsSign_88 (by decide) ?_
    refine lv_aload_n hx hb dX12_readsSign_89 rfl (lv_at hl 1 rfl) ?_
    refine pg C hP (k := 0) (j := 12) (Nat.le_of_ble_eq_true rfl) (yd_0 _ _) rfl iw_12 (Nat.le_of_ble_eq_true rfl) g_1147 rfl rfl dX12_readsSign_90 ?_
    obtain ⟨r26, M27, h28, hf⟩ := bnd_s hf
    refine pcVi (As := [.int (1 : Int32), .int (M.1 0 12)]) C hP hS (k := 0) (Nat.le_of_ble_eq_true rfl) (yd_0 _ _) rfl (c12_wrongAt  h28) y12_wrongAt_w g_1337 rfl rfl rfl ⟨Nat.le_of_ble_eq_true rfl, Nat.le_of_ble_eq_true rfl⟩ hl.1 rfl (Nat.le_of_ble_eq_true rfl) dX12_readsSign_93 ⟨Nat.le_of_ble_eq_true rfl, Nat.le_of_ble_eq_true rfl⟩ (fun H locs hP hS => ?_)
    refine lv_pop hx hb dX12_readsSign_96 rfl ?_
    refine lv_iconst (v := (-1 : Int32)) hx hb dX12_readsSign_97 (by decide) ?_
    exact prI C hr hk hP hS hf dX12_readsSign_98
set_option maxHeartbeats 4000000 in
set_option maxRecDepth 100000 in
theorem w12_readsSign_39 {p : Program} {l : Launch} {e : Env} {s : State} {m : MethodId} {args : Array Value} {below : List Frame} {meth : Method} {c : Code} {z : Zt} {b : Nat}  (C : Cx p s m args c cX12_readsSign 7 RX12 z 32 b) (hr : meth.sig.returnType = (some .int)) (hk : meth.locks = false) {r : Int32} {M' : Mem} {rc : Nat → List Int32 → List Int64 → Mem → Option (Int32 × Mem)} {n : Nat} (q130 : ∀ (i1 : Int32) (i3 : Int32) (i5 : Int32) (i6 : Int32) (M : Mem) (H : Heap) (locs : List Loc) (ls : Array Slot), rc 130 [i1, i3, i5, i6] [] M = some (r, M') → va_P z.1 vwCl (pw (yd z b) 32 b M) H → va_S (pA 32 b) s.heap H locs → lv_has ls 7 [(0, .ref (b + 0)), (1, .int i1), (3, .int i3), (5, .int i5), (6, .int i6)] → W p l e rm12_readsSign s m args below meth c H locs 0 0 (MQ below (va_Qi (fun (r' : Int32) (M2 : Mem) => r' = r ∧ M2 = M') (fun M2 t => va_P z.1 vwCl (pw (yd z b) 32 b M2) t.heap) (pA 32 b)) args s 0 0 (pA 32 b)) (F0 m 130 ls [])) {i1 : Int32} {i2 : Int32} {i3 : Int32} {M : Mem} {H : Heap} {locs : List Loc} {ls : Array Slot} (hf : b12_readsSign_39  rc n i1 i2 i3 M = some (r, M')) (hP : va_P z.1 vwCl (pw (yd z b) 32 b M) H) (hS : va_S (pA 32 b) s.heap H locs) (hl : lv_has ls 7 [(0, .ref (b + 0)), (1, .int i1), (2, .int i2), (3, .int i3)]) : W p l e rm12_readsSign s m args below meth c H locs 0 0 (MQ below (va_Qi (fun (r' : Int32) (M2 : Mem) => r' = r ∧ M2 = M') (fun M2 t => va_P z.1 vwCl (pw (yd z b) 32 b M2) t.heap) (pA 32 b)) args s 0 0 (pA 32 b)) (F0 m 39 ls []) := by
  have hx := C.1.1
  have hb := C.1.2.1
  unfold b12_readsSign_39 at hf
  refine lv_aload_n hx hb dX12_readsSign_39 rfl (lv_at hl 0 rfl) ?_
  obtain ⟨r14, M15, h16, hf⟩ := bnd_s hf
  refine pcVi (As := []) C hP hS (k := 0) (Nat.le_of_ble_eq_true rfl) (yd_0 _ _) rfl (c12_here  h16) y12_here_w g_1333 rfl rfl rfl ⟨Nat.le_of_ble_eq_true rfl, Nat.le_of_ble_eq_true rfl⟩ hl.1 rfl (Nat.le_of_ble_eq_true rfl) dX12_readsSign_40 ⟨Nat.le_of_ble_eq_true rfl, Nat.le_of_ble_eq_true rfl⟩ (fun H locs hP hS => ?_)
  refine lv_istore (lv' := [(4, .int r14), (0, .ref (b + 0)), (1, .int i1), (2, .int i2), (3, .int i3)]) hx hb dX12_readsSign_43 hl (by decide) rfl (fun ls hl => ?_)
  refine lv_iload hx hb dX12_readsSign_45 (lv_at hl 0 rfl) ?_
  refine lv_bipush (v := (46 : Int32)) hx hb dX12_readsSign_47 (by decide) ?_
  refine lv_icmp_ne (tgt := 56) hx hb dX12_readsSign_49 (by decide) (fun c17 => ?_) (fun c17 => ?_)
  · replace hf := ite_f c17 hf
    refine lv_iload hx hb dX12_readsSign_56 (lv_at hl 0 rfl) ?_
    refine lv_bipush (v := (35 : Int32)) hx hb dX12_readsSign_58 (by decide) ?_
    refine lv_icmp_ne (tgt := 67) hx hb dX12_readsSign_60 (by decide) (fun c18 => ?_) (fun c18 => ?_)
    · replace hf := ite_f c18 hf
      refine lv_iload hx hb dX12_readsSign_67 (lv_at hl 0 rfl) ?_
      refine lv_bipush (v := (43 : Int32)) hx hb dX12_readsSign_69 (by decide) ?_
      refine lv_icmp_ne (tgt := 78) hx hb dX12_readsSign_71 (by decide) (fun c19 => ?_) (fun c19 => ?_)
      · replace hf := ite_f c19 hf
        refine lv_iconst (v := (-1 : Int32)) hx hb dX12_readsSign_78 (by decide) ?_
        exact w12_readsSign_79 (n := n)  C hr hk q130 hf hP hS (lv_sub hl [1, 2, 3, 4] rfl)
      · replace hf := ite_t c19 hf
        refine lv_iconst (v := (1 : Int32)) hx hb dX12_readsSign_74 (by decide) ?_
        refine lv_goto (tgt := 79) hx hb dX12_readsSign_75 (by decide) ?_
        exact w12_readsSign_79 (n := n)  C hr hk q130 hf hP hS (lv_sub hl [1, 2, 3, 4] rfl)
    · replace hf := ite_t c18 hf
      refine lv_iconst (v := (0 : Int32)) hx hb dX12_readsSign_63 (by decide) ?_
      refine lv_goto (tgt := 79) hx hb dX12_readsSign_64 (by decide) ?_
      exact w12_readsSign_79 (n := n)  C hr hk q130 hf hP hS (lv_sub hl [1, 2, 3, 4] rfl)
  · replace hf := ite_t c17 hf
    refine lv_iconst (v := (2 : Int32)) hx hb dX12_readsSign_52 (by decide) ?_
    refine lv_goto (tgt := 79) hx hb dX12_readsSign_53 (by decide) ?_
    exact w12_readsSign_79 (n := n)  C hr hk q130 hf hP hS (lv_sub hl [1, 2, 3, 4] rfl)
set_option maxHeartbeats 4000000 in
set_option maxRecDepth 100000 in
theorem w12_readsSign_0 {p : Program} {l : Launch} {e : Env} {s : State} {m : MethodId} {args : Array Value} {below : List Frame} {meth : Method} {c : Code} {z : Zt} {b : Nat}  (C : Cx p s m args c cX12_readsSign 7 RX12 z 32 b) (hr : meth.sig.returnType = (some .int)) (hk : meth.locks = false) {r : Int32} {M' : Mem} {rc : Nat → List Int32 → List Int64 → Mem → Option (Int32 × Mem)} {n : Nat} (q130 : ∀ (i1 : Int32) (i3 : Int32) (i5 : Int32) (i6 : Int32) (M : Mem) (H : Heap) (locs : List Loc) (ls : Array Slot), rc 130 [i1, i3, i5, i6] [] M = some (r, M') → va_P z.1 vwCl (pw (yd z b) 32 b M) H → va_S (pA 32 b) s.heap H locs → lv_has ls 7 [(0, .ref (b + 0)), (1, .int i1), (3, .int i3), (5, .int i5), (6, .int i6)] → W p l e rm12_readsSign s m args below meth c H locs 0 0 (MQ below (va_Qi (fun (r' : Int32) (M2 : Mem) => r' = r ∧ M2 = M') (fun M2 t => va_P z.1 vwCl (pw (yd z b) 32 b M2) t.heap) (pA 32 b)) args s 0 0 (pA 32 b)) (F0 m 130 ls [])) {a1 : Int32} {M : Mem} {H : Heap} {locs : List Loc} {ls : Array Slot} (hf : b12_readsSign_0  rc n a1 M = some (r, M')) (hP : va_P z.1 vwCl (pw (yd z b) 32 b M) H) (hS : va_S (pA 32 b) s.heap H locs) (hl : lv_has ls 7 [(0, .ref (b + 0)), (1, .int a1)]) : W p l e rm12_readsSign s m args below meth c H locs 0 0 (MQ below (va_Qi (fun (r' : Int32) (M2 : Mem) => r' = r ∧ M2 = M') (fun M2 t => va_P z.1 vwCl (pw (yd z b) 32 b M2) t.heap) (pA 32 b)) args s 0 0 (pA 32 b)) (F0 m 0 ls []) := by
  have hx := C.1.1
  have hb := C.1.2.1
  unfold b12_readsSign_0 at hf
  refine lv_aload_n hx hb dX12_readsSign_0 rfl (lv_at hl 0 rfl) ?_
  refine pg C hP (k := 0) (j := 12) (Nat.le_of_ble_eq_true rfl) (yd_0 _ _) rfl iw_12 (Nat.le_of_ble_eq_true rfl) g_1147 rfl rfl dX12_readsSign_1 ?_
  refine lv_topi (fun v1 ev1 => ?_)
  replace hf := lt_c ev1 hf
  refine lv_istore_n (lv' := [(2, .int v1), (0, .ref (b + 0)), (1, .int a1)]) hx hb dX12_readsSign_4 rfl hl (by decide) rfl (fun ls hl => ?_)
  refine lv_iconst (v := (1 : Int32)) hx hb dX12_readsSign_5 (by decide) ?_
  refine lv_istore_n (lv' := [(3, .int (1 : Int32)), (2, .int v1), (0, .ref (b + 0)), (1, .int a1)]) hx hb dX12_readsSign_6 rfl hl (by decide) rfl (fun ls hl => ?_)
  refine lv_aload_n hx hb dX12_readsSign_7 rfl (lv_at hl 2 rfl) ?_
  obtain ⟨r2, M3, h4, hf⟩ := bnd_s hf
  refine pcVi (As := []) C hP hS (k := 0) (Nat.le_of_ble_eq_true rfl) (yd_0 _ _) rfl (c12_here  h4) y12_here_w g_1333 rfl rfl rfl ⟨Nat.le_of_ble_eq_true rfl, Nat.le_of_ble_eq_true rfl⟩ hl.1 rfl (Nat.le_of_ble_eq_true rfl) dX12_readsSign_8 ⟨Nat.le_of_ble_eq_true rfl, Nat.le_of_ble_eq_true rfl⟩ (fun H locs hP hS => ?_)
  refine lv_bipush (v := (50 : Int32)) hx hb dX12_readsSign_11 (by decide) ?_
  refine lv_bipush (v := (57 : Int32)) hx hb dX12_readsSign_13 (by decide) ?_
  obtain ⟨r5, M6, h7, hf⟩ := bnd_s hf
  refine pcSi (As := [.int r2, .int (50 : Int32), .int (57 : Int32)]) C hP hS (c12_in  h7) y12_in_w g_1306 rfl rfl rfl ⟨Nat.le_of_ble_eq_true rfl, Nat.le_of_ble_eq_true rfl⟩ hl.1 rfl (Nat.le_of_ble_eq_true rfl) dX12_readsSign_15 ⟨Nat.le_of_ble_eq_true rfl, Nat.le_of_ble_eq_true rfl⟩ (fun H locs hP hS => ?_)
  refine lv_if_eq (tgt := 39) hx hb dX12_readsSign_18 (by decide) (fun c8 => ?_) (fun c8 => ?_)
  · replace hf := ite_t c8 hf
    exact w12_readsSign_39 (n := n)  C hr hk q130 hf hP hS (lv_sub hl [2, 3, 1, 0] rfl)
  · replace hf := ite_f c8 hf
    refine lv_aload_n hx hb dX12_readsSign_21 rfl (lv_at hl 2 rfl) ?_
    obtain ⟨r9, M10, h11, hf⟩ := bnd_s hf
    refine pcVi (As := []) C hP hS (k := 0) (Nat.le_of_ble_eq_true rfl) (yd_0 _ _) rfl (c12_here  h11) y12_here_w g_1333 rfl rfl rfl ⟨Nat.le_of_ble_eq_true rfl, Nat.le_of_ble_eq_true rfl⟩ hl.1 rfl (Nat.le_of_ble_eq_true rfl) dX12_readsSign_22 ⟨Nat.le_of_ble_eq_true rfl, Nat.le_of_ble_eq_true rfl⟩ (fun H locs hP hS => ?_)
    refine lv_bipush (v := (48 : Int32)) hx hb dX12_readsSign_25 (by decide) ?_
    refine lv_isub hx hb dX12_readsSign_27 ?_
    refine lv_topi (fun v12 ev12 => ?_)
    replace hf := lt_c ev12 hf
    refine lv_istore_n (lv' := [(3, .int v12), (2, .int v1), (0, .ref (b + 0)), (1, .int a1)]) hx hb dX12_readsSign_28 rfl hl (by decide) rfl (fun ls hl => ?_)
    refine lv_aload_n hx hb dX12_readsSign_29 rfl (lv_at hl 2 rfl) ?_
    refine lv_aload_n hx hb dX12_readsSign_30 rfl (lv_at hl 2 rfl) ?_
    refine pg C hP (k := 0) (j := 12) (Nat.le_of_ble_eq_true rfl) (yd_0 _ _) rfl iw_12 (Nat.le_of_ble_eq_true rfl) g_1147 rfl rfl dX12_readsSign_31 ?_
    refine lv_iconst (v := (1 : Int32)) hx hb dX12_readsSign_34 (by decide) ?_
    refine lv_iadd hx hb dX12_readsSign_35 ?_
    refine ppI C hP hS (k := 0) (j := 12) (ty := .int) (Nat.le_of_ble_eq_true rfl) (yd_0 _ _) rfl iw_12 tyX12 tyX12_ok nmX12 (Nat.le_of_ble_eq_true rfl) g_1147 rfl rfl (by decide +kernel) rfl rfl (Nat.le_of_ble_eq_true rfl) (yu_0_12 _ _ _) dX12_readsSign_36 (fun M13 H locs eM13 hP hS => ?_)
    replace hf := lt_c eM13 hf
    exact w12_readsSign_39 (n := n)  C hr hk q130 hf hP hS (lv_sub hl [2, 3, 1, 0] rfl)
set_option maxHeartbeats 4000000 in
set_option maxRecDepth 100000 in
theorem l12_readsSign {p : Program} {l : Launch} {e : Env} {s : State} {m : MethodId} {args : Array Value} {below : List Frame} {meth : Method} {c : Code} {z : Zt} {b : Nat}  (C : Cx p s m args c cX12_readsSign 7 RX12 z 32 b) (hr : meth.sig.returnType = (some .int)) (hk : meth.locks = false) {r : Int32} {M' : Mem} (n : Nat) : (∀ (i1 : Int32) (i3 : Int32) (i5 : Int32) (i6 : Int32) (M : Mem) (H : Heap) (locs : List Loc) (ls : Array Slot), (r12_readsSign  n) 130 [i1, i3, i5, i6] [] M = some (r, M') → va_P z.1 vwCl (pw (yd z b) 32 b M) H → va_S (pA 32 b) s.heap H locs → lv_has ls 7 [(0, .ref (b + 0)), (1, .int i1), (3, .int i3), (5, .int i5), (6, .int i6)] → W p l e rm12_readsSign s m args below meth c H locs 0 0 (MQ below (va_Qi (fun (r' : Int32) (M2 : Mem) => r' = r ∧ M2 = M') (fun M2 t => va_P z.1 vwCl (pw (yd z b) 32 b M2) t.heap) (pA 32 b)) args s 0 0 (pA 32 b)) (F0 m 130 ls [])) := by
  induction n with
  | zero => exact fun _ _ _ _ _ _ _ _ hf => (by cases hf)
  | succ n ih => exact fun _ _ _ _ _ _ _ _ hf hP hS hl => w12_readsSign_130 (n := n)  C hr hk ih ((e12_readsSign_130  n _ _ _ _ _).symm.trans hf) hP hS hl
theorem c12_readsSign {l : Launch} {z : Zt} {b n : Nat}  {a1 : Int32} {M M' : Mem} {r : Int32} (hf : f12_readsSign n  a1 M = some (r, M')) : CI l z (yd z b) 32 b yX12_readsSign cX12_readsSign 7 (some .int) rm12_readsSign [.ref (b + 0), .int a1] M M' r :=
  CI.ofW (lv := [(0, .ref (b + 0)), (1, .int a1)]) (by decide) (Nat.le_of_ble_eq_true rfl) rfl (fun p e s m args below meth c ls C hr hk hP hS hl => w12_readsSign_0 (n := n)  C hr hk (l12_readsSign  C hr hk n) hf hP hS hl)

-- BronzeKingModel.canBeginSign(I)Z
theorem dX12_canBeginSign_0 : decode cX12_canBeginSign 0 = .ok (.iload_n 0, 1) := by decide +kernel
theorem dX12_canBeginSign_1 : decode cX12_canBeginSign 1 = .ok (.bipush 46, 2) := by decide +kernel
theorem dX12_canBeginSign_3 : decode cX12_canBeginSign 3 = .ok (.if_icmp .eq 26, 3) := by decide +kernel
theorem dX12_canBeginSign_6 : decode cX12_canBeginSign 6 = .ok (.iload_n 0, 1) := by decide +kernel
theorem dX12_canBeginSign_7 : decode cX12_canBeginSign 7 = .ok (.bipush 35, 2) := by decide +kernel
theorem dX12_canBeginSign_9 : decode cX12_canBeginSign 9 = .ok (.if_icmp .eq 20, 3) := by decide +kernel
theorem dX12_canBeginSign_12 : decode cX12_canBeginSign 12 = .ok (.iload_n 0, 1) := by decide +kernel
theorem dX12_canBeginSign_13 : decode cX12_canBeginSign 13 = .ok (.bipush 43, 2) := by decide +kernel
theorem dX12_canBeginSign_15 : decode cX12_canBeginSign 15 = .ok (.if_icmp .eq 14, 3) := by decide +kernel
theorem dX12_canBeginSign_18 : decode cX12_canBeginSign 18 = .ok (.iload_n 0, 1) := by decide +kernel
theorem dX12_canBeginSign_19 : decode cX12_canBeginSign 19 = .ok (.bipush 50, 2) := by decide +kernel
theorem dX12_canBeginSign_21 : decode cX12_canBeginSign 21 = .ok (.bipush 57, 2) := by decide +kernel
theorem dX12_canBeginSign_23 : decode cX12_canBeginSign 23 = .ok (.invokestatic 106, 3) := by decide +kernel
theorem dX12_canBeginSign_26 : decode cX12_canBeginSign 26 = .ok (.ifCond .eq 7, 3) := by decide +kernel
theorem dX12_canBeginSign_29 : decode cX12_canBeginSign 29 = .ok (.iconst 1, 1) := by decide +kernel
theorem dX12_canBeginSign_30 : decode cX12_canBeginSign 30 = .ok (.goto 4, 3) := by decide +kernel
theorem dX12_canBeginSign_33 : decode cX12_canBeginSign 33 = .ok (.iconst 0, 1) := by decide +kernel
theorem dX12_canBeginSign_34 : decode cX12_canBeginSign 34 = .ok (.ireturn, 1) := by decide +kernel
def b12_canBeginSign_29 (rc : Nat → List Int32 → List Int64 → Mem → Option (Int32 × Mem)) (n : Nat) (M : Mem) : Option (Int32 × Mem) :=
  some ((1 : Int32), M)
def b12_canBeginSign_0 (rc : Nat → List Int32 → List Int64 → Mem → Option (Int32 × Mem)) (n : Nat) (a0 : Int32) (M : Mem) : Option (Int32 × Mem) :=
  (if a0 = (46 : Int32) then (
   b12_canBeginSign_29  rc n  M)
  else (
   (if a0 = (35 : Int32) then (
    b12_canBeginSign_29  rc n  M)
   else (
    (if a0 = (43 : Int32) then (
     b12_canBeginSign_29  rc n  M)
    else (
     bnd (f12_in n a0 (50 : Int32) (57 : Int32) M) fun r4 M5 =>
     (if r4 = 0 then (
      some ((0 : Int32), M5))
     else (
      b12_canBeginSign_29  rc n  M5))))))))
def f12_canBeginSign (n : Nat) (a0 : Int32) (M : Mem) : Option (Int32 × Mem) := b12_canBeginSign_0 (fun _ _ _ _ => none) n a0 M
abbrev rm12_canBeginSign : Room := { frames := 1, cells := 0, slots := 0, locals := 22 }
theorem y12_canBeginSign_w : yS yX12_canBeginSign cX12_canBeginSign 1 (some .boolean) 1 := ⟨g_1417, g_14, g_1418, by decide, by decide, by decide +kernel⟩
set_option maxHeartbeats 4000000 in
set_option maxRecDepth 100000 in
theorem w12_canBeginSign_29 {p : Program} {l : Launch} {e : Env} {s : State} {m : MethodId} {args : Array Value} {below : List Frame} {meth : Method} {c : Code} {z : Zt} {b : Nat}  (C : Cx p s m args c cX12_canBeginSign 1 RX12 z 32 b) (hr : meth.sig.returnType = (some .boolean)) (hk : meth.locks = false) {r : Int32} {M' : Mem} {rc : Nat → List Int32 → List Int64 → Mem → Option (Int32 × Mem)} {n : Nat}   {M : Mem} {H : Heap} {locs : List Loc} {ls : Array Slot} (hf : b12_canBeginSign_29  rc n  M = some (r, M')) (hP : va_P z.1 vwCl (pw (yd z b) 32 b M) H) (hS : va_S (pA 32 b) s.heap H locs) (hl : lv_has ls 1 []) : W p l e rm12_canBeginSign s m args below meth c H locs 0 0 (MQ below (va_Qi (fun (r' : Int32) (M2 : Mem) => r' = r ∧ M2 = M') (fun M2 t => va_P z.1 vwCl (pw (yd z b) 32 b M2) t.heap) (pA 32 b)) args s 0 0 (pA 32 b)) (F0 m 29 ls []) := by
  have hx := C.1.1
  have hb := C.1.2.1
  unfold b12_canBeginSign_29 at hf
  refine lv_iconst (v := (1 : Int32)) hx hb dX12_canBeginSign_29 (by decide) ?_
  refine lv_goto (tgt := 34) hx hb dX12_canBeginSign_30 (by decide) ?_
  exact prZ C hr hk hP hS hf rfl dX12_canBeginSign_34
set_option maxHeartbeats 4000000 in
set_option maxRecDepth 100000 in
theorem w12_canBeginSign_0 {p : Program} {l : Launch} {e : Env} {s : State} {m : MethodId} {args : Array Value} {below : List Frame} {meth : Method} {c : Code} {z : Zt} {b : Nat}  (C : Cx p s m args c cX12_canBeginSign 1 RX12 z 32 b) (hr : meth.sig.returnType = (some .boolean)) (hk : meth.locks = false) {r : Int32} {M' : Mem} {rc : Nat → List Int32 → List Int64 → Mem → Option (Int32 × Mem)} {n : Nat}  {a0 : Int32} {M : Mem} {H : Heap} {locs : List Loc} {ls : Array Slot} (hf : b12_canBeginSign_0  rc n a0 M = some (r, M')) (hP : va_P z.1 vwCl (pw (yd z b) 32 b M) H) (hS : va_S (pA 32 b) s.heap H locs) (hl : lv_has ls 1 [(0, .int a0)]) : W p l e rm12_canBeginSign s m args below meth c H locs 0 0 (MQ below (va_Qi (fun (r' : Int32) (M2 : Mem) => r' = r ∧ M2 = M') (fun M2 t => va_P z.1 vwCl (pw (yd z b) 32 b M2) t.heap) (pA 32 b)) args s 0 0 (pA 32 b)) (F0 m 0 ls []) := by
  have hx := C.1.1
  have hb := C.1.2.1
  unfold b12_canBeginSign_0 at hf
  refine lv_iload_n hx hb dX12_canBeginSign_0 rfl (lv_at hl 0 rfl) ?_
  refine lv_bipush (v := (46 : Int32)) hx hb dX12_canBeginSign_1 (by decide) ?_
  refine lv_icmp_eq (tgt := 29) hx hb dX12_canBeginSign_3 (by decide) (fun c1 => ?_) (fun c1 => ?_)
  · replace hf := ite_t c1 hf
    exact w12_canBeginSign_29 (n := n)  C hr hk  hf hP hS (lv_sub hl [] rfl)
  · replace hf := ite_f c1 hf
    refine lv_iload_n hx hb dX12_canBeginSign_6 rfl (lv_at hl 0 rfl) ?_
    refine lv_bipush (v := (35 : Int32)) hx hb dX12_canBeginSign_7 (by decide) ?_
    refine lv_icmp_eq (tgt := 29) hx hb dX12_canBeginSign_9 (by decide) (fun c2 => ?_) (fun c2 => ?_)
    · replace hf := ite_t c2 hf
      exact w12_canBeginSign_29 (n := n)  C hr hk  hf hP hS (lv_sub hl [] rfl)
    · replace hf := ite_f c2 hf
      refine lv_iload_n hx hb dX12_canBeginSign_12 rfl (lv_at hl 0 rfl) ?_
      refine lv_bipush (v := (43 : Int32)) hx hb dX12_canBeginSign_13 (by decide) ?_
      refine lv_icmp_eq (tgt := 29) hx hb dX12_canBeginSign_15 (by decide) (fun c3 => ?_) (fun c3 => ?_)
      · replace hf := ite_t c3 hf
        exact w12_canBeginSign_29 (n := n)  C hr hk  hf hP hS (lv_sub hl [] rfl)
      · replace hf := ite_f c3 hf
        refine lv_iload_n hx hb dX12_canBeginSign_18 rfl (lv_at hl 0 rfl) ?_
        refine lv_bipush (v := (50 : Int32)) hx hb dX12_canBeginSign_19 (by decide) ?_
        refine lv_bipush (v := (57 : Int32)) hx hb dX12_canBeginSign_21 (by decide) ?_
        obtain ⟨r4, M5, h6, hf⟩ := bnd_s hf
        refine pcSi (As := [.int a0, .int (50 : Int32), .int (57 : Int32)]) C hP hS (c12_in  h6) y12_in_w g_1306 rfl rfl rfl ⟨Nat.le_of_ble_eq_true rfl, Nat.le_of_ble_eq_true rfl⟩ hl.1 rfl (Nat.le_of_ble_eq_true rfl) dX12_canBeginSign_23 ⟨Nat.le_of_ble_eq_true rfl, Nat.le_of_ble_eq_true rfl⟩ (fun H locs hP hS => ?_)
        refine lv_if_eq (tgt := 33) hx hb dX12_canBeginSign_26 (by decide) (fun c7 => ?_) (fun c7 => ?_)
        · replace hf := ite_t c7 hf
          refine lv_iconst (v := (0 : Int32)) hx hb dX12_canBeginSign_33 (by decide) ?_
          exact prZ C hr hk hP hS hf rfl dX12_canBeginSign_34
        · replace hf := ite_f c7 hf
          exact w12_canBeginSign_29 (n := n)  C hr hk  hf hP hS (lv_sub hl [] rfl)
theorem c12_canBeginSign {l : Launch} {z : Zt} {b n : Nat}  {a0 : Int32} {M M' : Mem} {r : Int32} (hf : f12_canBeginSign n  a0 M = some (r, M')) : CI l z (yd z b) 32 b yX12_canBeginSign cX12_canBeginSign 1 (some .boolean) rm12_canBeginSign [.int a0] M M' r :=
  CI.ofW (lv := [(0, .int a0)]) (by decide) (Nat.le_of_ble_eq_true rfl) rfl (fun p e s m args below meth c ls C hr hk hP hS hl => w12_canBeginSign_0 (n := n)  C hr hk  hf hP hS hl)

-- BronzeKingModel.readsRow()Z
theorem dX12_readsRow_0 : decode cX12_readsRow 0 = .ok (.aload_n 0, 1) := by decide +kernel
theorem dX12_readsRow_1 : decode cX12_readsRow 1 = .ok (.invokevirtual 149, 3) := by decide +kernel
theorem dX12_readsRow_4 : decode cX12_readsRow 4 = .ok (.invokestatic 249, 3) := by decide +kernel
theorem dX12_readsRow_7 : decode cX12_readsRow 7 = .ok (.ifCond .ne 13, 3) := by decide +kernel
theorem dX12_readsRow_10 : decode cX12_readsRow 10 = .ok (.aload_n 0, 1) := by decide +kernel
theorem dX12_readsRow_11 : decode cX12_readsRow 11 = .ok (.iconst 1, 1) := by decide +kernel
theorem dX12_readsRow_12 : decode cX12_readsRow 12 = .ok (.aload_n 0, 1) := by decide +kernel
theorem dX12_readsRow_13 : decode cX12_readsRow 13 = .ok (.getfield 143, 3) := by decide +kernel
theorem dX12_readsRow_16 : decode cX12_readsRow 16 = .ok (.invokevirtual 156, 3) := by decide +kernel
theorem dX12_readsRow_19 : decode cX12_readsRow 19 = .ok (.ireturn, 1) := by decide +kernel
theorem dX12_readsRow_20 : decode cX12_readsRow 20 = .ok (.aload_n 0, 1) := by decide +kernel
theorem dX12_readsRow_21 : decode cX12_readsRow 21 = .ok (.getfield 246, 3) := by decide +kernel
theorem dX12_readsRow_24 : decode cX12_readsRow 24 = .ok (.bipush 8, 2) := by decide +kernel
theorem dX12_readsRow_26 : decode cX12_readsRow 26 = .ok (.if_icmp .ne 13, 3) := by decide +kernel
theorem dX12_readsRow_29 : decode cX12_readsRow 29 = .ok (.aload_n 0, 1) := by decide +kernel
theorem dX12_readsRow_30 : decode cX12_readsRow 30 = .ok (.iconst 4, 1) := by decide +kernel
theorem dX12_readsRow_31 : decode cX12_readsRow 31 = .ok (.aload_n 0, 1) := by decide +kernel
theorem dX12_readsRow_32 : decode cX12_readsRow 32 = .ok (.getfield 143, 3) := by decide +kernel
theorem dX12_readsRow_35 : decode cX12_readsRow 35 = .ok (.invokevirtual 156, 3) := by decide +kernel
theorem dX12_readsRow_38 : decode cX12_readsRow 38 = .ok (.ireturn, 1) := by decide +kernel
theorem dX12_readsRow_39 : decode cX12_readsRow 39 = .ok (.aload_n 0, 1) := by decide +kernel
theorem dX12_readsRow_40 : decode cX12_readsRow 40 = .ok (.iconst 0, 1) := by decide +kernel
theorem dX12_readsRow_41 : decode cX12_readsRow 41 = .ok (.invokevirtual 252, 3) := by decide +kernel
theorem dX12_readsRow_44 : decode cX12_readsRow 44 = .ok (.istore_n 1, 1) := by decide +kernel
theorem dX12_readsRow_45 : decode cX12_readsRow 45 = .ok (.iload_n 1, 1) := by decide +kernel
theorem dX12_readsRow_46 : decode cX12_readsRow 46 = .ok (.iconst (-1), 1) := by decide +kernel
theorem dX12_readsRow_47 : decode cX12_readsRow 47 = .ok (.if_icmp .eq 22, 3) := by decide +kernel
theorem dX12_readsRow_50 : decode cX12_readsRow 50 = .ok (.aload_n 0, 1) := by decide +kernel
theorem dX12_readsRow_51 : decode cX12_readsRow 51 = .ok (.invokevirtual 149, 3) := by decide +kernel
theorem dX12_readsRow_54 : decode cX12_readsRow 54 = .ok (.invokestatic 249, 3) := by decide +kernel
theorem dX12_readsRow_57 : decode cX12_readsRow 57 = .ok (.ifCond .eq 12, 3) := by decide +kernel
theorem dX12_readsRow_60 : decode cX12_readsRow 60 = .ok (.aload_n 0, 1) := by decide +kernel
theorem dX12_readsRow_61 : decode cX12_readsRow 61 = .ok (.iload_n 1, 1) := by decide +kernel
theorem dX12_readsRow_62 : decode cX12_readsRow 62 = .ok (.invokevirtual 252, 3) := by decide +kernel
theorem dX12_readsRow_65 : decode cX12_readsRow 65 = .ok (.istore_n 1, 1) := by decide +kernel
theorem dX12_readsRow_66 : decode cX12_readsRow 66 = .ok (.goto (-21), 3) := by decide +kernel
theorem dX12_readsRow_69 : decode cX12_readsRow 69 = .ok (.aload_n 0, 1) := by decide +kernel
theorem dX12_readsRow_70 : decode cX12_readsRow 70 = .ok (.aload_n 0, 1) := by decide +kernel
theorem dX12_readsRow_71 : decode cX12_readsRow 71 = .ok (.getfield 246, 3) := by decide +kernel
theorem dX12_readsRow_74 : decode cX12_readsRow 74 = .ok (.iconst 1, 1) := by decide +kernel
theorem dX12_readsRow_75 : decode cX12_readsRow 75 = .ok (.iadd, 1) := by decide +kernel
theorem dX12_readsRow_76 : decode cX12_readsRow 76 = .ok (.putfield 246, 3) := by decide +kernel
theorem dX12_readsRow_79 : decode cX12_readsRow 79 = .ok (.iload_n 1, 1) := by decide +kernel
theorem dX12_readsRow_80 : decode cX12_readsRow 80 = .ok (.iconst (-1), 1) := by decide +kernel
theorem dX12_readsRow_81 : decode cX12_readsRow 81 = .ok (.if_icmp .eq 7, 3) := by decide +kernel
theorem dX12_readsRow_84 : decode cX12_readsRow 84 = .ok (.iconst 1, 1) := by decide +kernel
theorem dX12_readsRow_85 : decode cX12_readsRow 85 = .ok (.goto 4, 3) := by decide +kernel
theorem dX12_readsRow_88 : decode cX12_readsRow 88 = .ok (.iconst 0, 1) := by decide +kernel
theorem dX12_readsRow_89 : decode cX12_readsRow 89 = .ok (.ireturn, 1) := by decide +kernel
def b12_readsRow_69 (rc : Nat → List Int32 → List Int64 → Mem → Option (Int32 × Mem)) (n : Nat) (i1 : Int32) (M : Mem) : Option (Int32 × Mem) :=
  lt (wI M 0 35 ((M.1 0 35) + (1 : Int32))) fun M31 =>
  (if i1 = (-1 : Int32) then (
   some ((0 : Int32), M31))
  else (
   some ((1 : Int32), M31)))
def b12_readsRow_45 (rc : Nat → List Int32 → List Int64 → Mem → Option (Int32 × Mem)) (n : Nat) (i1 : Int32) (M : Mem) : Option (Int32 × Mem) :=
  (if i1 = (-1 : Int32) then (
   b12_readsRow_69  rc n i1 M)
  else (
   bnd (f12_here n M) fun r21 M22 =>
   bnd (f12_canBeginSign n r21 M22) fun r24 M25 =>
   (if r24 = 0 then (
    b12_readsRow_69  rc n i1 M25)
   else (
    bnd (f12_readsSign n i1 M25) fun r28 M29 =>
    rc 45 [r28] [] M29))))
def b12_readsRow_0 (rc : Nat → List Int32 → List Int64 → Mem → Option (Int32 × Mem)) (n : Nat) (M : Mem) : Option (Int32 × Mem) :=
  bnd (f12_here n M) fun r1 M2 =>
  bnd (f12_canBeginSign n r1 M2) fun r4 M5 =>
  (if r4 = 0 then (
   bnd (f12_wrongAt n (1 : Int32) (M5.1 0 12) M5) fun r16 M17 =>
   chk (isb r16) <|
   some (r16, M17))
  else (
   (if (M5.1 0 35) = (8 : Int32) then (
    bnd (f12_wrongAt n (4 : Int32) (M5.1 0 12) M5) fun r12 M13 =>
    chk (isb r12) <|
    some (r12, M13))
   else (
    bnd (f12_readsSign n (0 : Int32) M5) fun r9 M10 =>
    b12_readsRow_45  rc n r9 M10))))
def r12_readsRow : Nat → Nat → List Int32 → List Int64 → Mem → Option (Int32 × Mem)
  | 0 => fun _ _ _ _ => none
  | n + 1 => fun pc li lj M =>
    if pc = 45 then (match li, lj with | [i1], [] => b12_readsRow_45  (r12_readsRow  n) n i1 M | _, _ => none) else
    none
theorem e12_readsRow_45  (n : Nat) (i1 : Int32) (M : Mem) : r12_readsRow  (n + 1) 45 [i1] [] M = b12_readsRow_45  (r12_readsRow  n) n i1 M := by
  rw [r12_readsRow]
  simp
def f12_readsRow (n : Nat)  (M : Mem) : Option (Int32 × Mem) := b12_readsRow_0 (r12_readsRow n) n M
abbrev rm12_readsRow : Room := { frames := 2, cells := 0, slots := 0, locals := 48 }
theorem y12_readsRow_w : yV RX12 yX12_readsRow cX12_readsRow 2 (some .boolean) 0 := ⟨g_1414, gp 56 rfl rfl, g_14, g_1415, rfl, by decide, by decide, by decide +kernel⟩
set_option maxHeartbeats 4000000 in
set_option maxRecDepth 100000 in
theorem w12_readsRow_69 {p : Program} {l : Launch} {e : Env} {s : State} {m : MethodId} {args : Array Value} {below : List Frame} {meth : Method} {c : Code} {z : Zt} {b : Nat}  (C : Cx p s m args c cX12_readsRow 2 RX12 z 32 b) (hr : meth.sig.returnType = (some .boolean)) (hk : meth.locks = false) {r : Int32} {M' : Mem} {rc : Nat → List Int32 → List Int64 → Mem → Option (Int32 × Mem)} {n : Nat} (q45 : ∀ (i1 : Int32) (M : Mem) (H : Heap) (locs : List Loc) (ls : Array Slot), rc 45 [i1] [] M = some (r, M') → va_P z.1 vwCl (pw (yd z b) 32 b M) H → va_S (pA 32 b) s.heap H locs → lv_has ls 2 [(0, .ref (b + 0)), (1, .int i1)] → W p l e rm12_readsRow s m args below meth c H locs 0 0 (MQ below (va_Qi (fun (r' : Int32) (M2 : Mem) => r' = r ∧ M2 = M') (fun M2 t => va_P z.1 vwCl (pw (yd z b) 32 b M2) t.heap) (pA 32 b)) args s 0 0 (pA 32 b)) (F0 m 45 ls [])) {i1 : Int32} {M : Mem} {H : Heap} {locs : List Loc} {ls : Array Slot} (hf : b12_readsRow_69  rc n i1 M = some (r, M')) (hP : va_P z.1 vwCl (pw (yd z b) 32 b M) H) (hS : va_S (pA 32 b) s.heap H locs) (hl : lv_has ls 2 [(0, .ref (b + 0)), (1, .int i1)]) : W p l e rm12_readsRow s m args below meth c H locs 0 0 (MQ below (va_Qi (fun (r' : Int32) (M2 : Mem) => r' = r ∧ M2 = M') (fun M2 t => va_P z.1 vwCl (pw (yd z b) 32 b M2) t.heap) (pA 32 b)) args s 0 0 (pA 32 b)) (F0 m 69 ls []) := by
  have hx := C.1.1
  have hb := C.1.2.1
  unfold b12_readsRow_69 at hf
  refine lv_aload_n hx hb dX12_readsRow_69 rfl (lv_at hl 0 rfl) ?_
  refine lv_aload_n hx hb dX12_readsRow_70 rfl (lv_at hl 0 rfl) ?_
  refine pg C hP (k := 0) (j := 35) (Nat.le_of_ble_eq_true rfl) (yd_0 _ _) rfl iw_12 (Nat.le_of_ble_eq_true rfl) g_1170 rfl rfl dX12_readsRow_71 ?_
  refine lv_iconst (v := (1 : Int32)) hx hb dX12_readsRow_74 (by decide) ?_
  refine lv_iadd hx hb dX12_readsRow_75 ?_
  refine ppI C hP hS (k := 0) (j := 35) (ty := .int) (Nat.le_of_ble_eq_true rfl) (yd_0 _ _) rfl iw_12 tyX12 tyX12_ok nmX12 (Nat.le_of_ble_eq_true rfl) g_1170 rfl rfl (by decide +kernel) rfl rfl (Nat.le_of_ble_eq_true rfl) (yu_0_35 _ _ _) dX12_readsRow_76 (fun M31 H locs eM31 hP hS => ?_)
  replace hf := lt_c eM31 hf
  refine lv_iload_n hx hb dX12_readsRow_79 rfl (lv_at hl 1 rfl) ?_
  refine lv_iconst (v := (-1 : Int32)) hx hb dX12_readsRow_80 (by decide) ?_
  refine lv_icmp_eq (tgt := 88) hx hb dX12_readsRow_81 (by decide) (fun c32 => ?_) (fun c32 => ?_)
  · replace hf := ite_t c32 hf
    refine lv_iconst (v := (0 : Int32)) hx hb dX12_readsRow_88 (by decide) ?_
    exact prZ C hr hk hP hS hf rfl dX12_readsRow_89
  · replace hf := ite_f c32 hf
    refine lv_iconst (v := (1 : Int32)) hx hb dX12_readsRow_84 (by decide) ?_
    refine lv_goto (tgt := 89) hx hb dX12_readsRow_85 (by decide) ?_
    exact prZ C hr hk hP hS hf rfl dX12_readsRow_89
set_option maxHeartbeats 4000000 in
set_option maxRecDepth 100000 in
theorem w12_readsRow_45 {p : Program} {l : Launch} {e : Env} {s : State} {m : MethodId} {args : Array Value} {below : List Frame} {meth : Method} {c : Code} {z : Zt} {b : Nat}  (C : Cx p s m args c cX12_readsRow 2 RX12 z 32 b) (hr : meth.sig.returnType = (some .boolean)) (hk : meth.locks = false) {r : Int32} {M' : Mem} {rc : Nat → List Int32 → List Int64 → Mem → Option (Int32 × Mem)} {n : Nat} (q45 : ∀ (i1 : Int32) (M : Mem) (H : Heap) (locs : List Loc) (ls : Array Slot), rc 45 [i1] [] M = some (r, M') → va_P z.1 vwCl (pw (yd z b) 32 b M) H → va_S (pA 32 b) s.heap H locs → lv_has ls 2 [(0, .ref (b + 0)), (1, .int i1)] → W p l e rm12_readsRow s m args below meth c H locs 0 0 (MQ below (va_Qi (fun (r' : Int32) (M2 : Mem) => r' = r ∧ M2 = M') (fun M2 t => va_P z.1 vwCl (pw (yd z b) 32 b M2) t.heap) (pA 32 b)) args s 0 0 (pA 32 b)) (F0 m 45 ls [])) {i1 : Int32} {M : Mem} {H : Heap} {locs : List Loc} {ls : Array Slot} (hf : b12_readsRow_45  rc n i1 M = some (r, M')) (hP : va_P z.1 vwCl (pw (yd z b) 32 b M) H) (hS : va_S (pA 32 b) s.heap H locs) (hl : lv_has ls 2 [(0, .ref (b + 0)), (1, .int i1)]) : W p l e rm12_readsRow s m args below meth c H locs 0 0 (MQ below (va_Qi (fun (r' : Int32) (M2 : Mem) => r' = r ∧ M2 = M') (fun M2 t => va_P z.1 vwCl (pw (yd z b) 32 b M2) t.heap) (pA 32 b)) args s 0 0 (pA 32 b)) (F0 m 45 ls []) := by
  have hx := C.1.1
  have hb := C.1.2.1
  unfold b12_readsRow_45 at hf
  refine lv_iload_n hx hb dX12_readsRow_45 rfl (lv_at hl 1 rfl) ?_
  refine lv_iconst (v := (-1 : Int32)) hx hb dX12_readsRow_46 (by decide) ?_
  refine lv_icmp_eq (tgt := 69) hx hb dX12_readsRow_47 (by decide) (fun c20 => ?_) (fun c20 => ?_)
  · replace hf := ite_t c20 hf
    exact w12_readsRow_69 (n := n)  C hr hk q45 hf hP hS (lv_sub hl [0, 1] rfl)
  · replace hf := ite_f c20 hf
    refine lv_aload_n hx hb dX12_readsRow_50 rfl (lv_at hl 0 rfl) ?_
    obtain ⟨r21, M22, h23, hf⟩ := bnd_s hf
    refine pcVi (As := []) C hP hS (k := 0) (Nat.le_of_ble_eq_true rfl) (yd_0 _ _) rfl (c12_here  h23) y12_here_w g_1333 rfl rfl rfl ⟨Nat.le_of_ble_eq_true rfl, Nat.le_of_ble_eq_true rfl⟩ hl.1 rfl (Nat.le_of_ble_eq_true rfl) dX12_readsRow_51 ⟨Nat.le_of_ble_eq_true rfl, Nat.le_of_ble_eq_true rfl⟩ (fun H locs hP hS => ?_)
    obtain ⟨r24, M25, h26, hf⟩ := bnd_s hf
    refine pcSi (As := [.int r21]) C hP hS (c12_canBeginSign  h26) y12_canBeginSign_w g_1416 rfl rfl rfl ⟨Nat.le_of_ble_eq_true rfl, Nat.le_of_ble_eq_true rfl⟩ hl.1 rfl (Nat.le_of_ble_eq_true rfl) dX12_readsRow_54 ⟨Nat.le_of_ble_eq_true rfl, Nat.le_of_ble_eq_true rfl⟩ (fun H locs hP hS => ?_)
    refine lv_if_eq (tgt := 69) hx hb dX12_readsRow_57 (by decide) (fun c27 => ?_) (fun c27 => ?_)
    · replace hf := ite_t c27 hf
      exact w12_readsRow_69 (n := n)  C hr hk q45 hf hP hS (lv_sub hl [0, 1] rfl)
    · replace hf := ite_f c27 hf
      refine lv_aload_n hx hb dX12_readsRow_60 rfl (lv_at hl 0 rfl) ?_
      refine lv_iload_n hx hb dX12_readsRow_61 rfl (lv_at hl 1 rfl) ?_
      obtain ⟨r28, M29, h30, hf⟩ := bnd_s hf
      refine pcVi (As := [.int i1]) C hP hS (k := 0) (Nat.le_of_ble_eq_true rfl) (yd_0 _ _) rfl (c12_readsSign  h30) y12_readsSign_w g_1419 rfl rfl rfl ⟨Nat.le_of_ble_eq_true rfl, Nat.le_of_ble_eq_true rfl⟩ hl.1 rfl (Nat.le_of_ble_eq_true rfl) dX12_readsRow_62 ⟨Nat.le_of_ble_eq_true rfl, Nat.le_of_ble_eq_true rfl⟩ (fun H locs hP hS => ?_)
      refine lv_istore_n (lv' := [(1, .int r28), (0, .ref (b + 0))]) hx hb dX12_readsRow_65 rfl hl (by decide) rfl (fun ls hl => ?_)
      refine lv_goto (tgt := 45) hx hb dX12_readsRow_66 (by decide) ?_
      exact q45 r28 M29 _ _ _ hf hP hS (lv_sub hl [1, 0] rfl)
set_option maxHeartbeats 4000000 in
set_option maxRecDepth 100000 in
theorem w12_readsRow_0 {p : Program} {l : Launch} {e : Env} {s : State} {m : MethodId} {args : Array Value} {below : List Frame} {meth : Method} {c : Code} {z : Zt} {b : Nat}  (C : Cx p s m args c cX12_readsRow 2 RX12 z 32 b) (hr : meth.sig.returnType = (some .boolean)) (hk : meth.locks = false) {r : Int32} {M' : Mem} {rc : Nat → List Int32 → List Int64 → Mem → Option (Int32 × Mem)} {n : Nat} (q45 : ∀ (i1 : Int32) (M : Mem) (H : Heap) (locs : List Loc) (ls : Array Slot), rc 45 [i1] [] M = some (r, M') → va_P z.1 vwCl (pw (yd z b) 32 b M) H → va_S (pA 32 b) s.heap H locs → lv_has ls 2 [(0, .ref (b + 0)), (1, .int i1)] → W p l e rm12_readsRow s m args below meth c H locs 0 0 (MQ below (va_Qi (fun (r' : Int32) (M2 : Mem) => r' = r ∧ M2 = M') (fun M2 t => va_P z.1 vwCl (pw (yd z b) 32 b M2) t.heap) (pA 32 b)) args s 0 0 (pA 32 b)) (F0 m 45 ls []))  {M : Mem} {H : Heap} {locs : List Loc} {ls : Array Slot} (hf : b12_readsRow_0  rc n  M = some (r, M')) (hP : va_P z.1 vwCl (pw (yd z b) 32 b M) H) (hS : va_S (pA 32 b) s.heap H locs) (hl : lv_has ls 2 [(0, .ref (b + 0))]) : W p l e rm12_readsRow s m args below meth c H locs 0 0 (MQ below (va_Qi (fun (r' : Int32) (M2 : Mem) => r' = r ∧ M2 = M') (fun M2 t => va_P z.1 vwCl (pw (yd z b) 32 b M2) t.heap) (pA 32 b)) args s 0 0 (pA 32 b)) (F0 m 0 ls []) := by
  have hx := C.1.1
  have hb := C.1.2.1
  unfold b12_readsRow_0 at hf
  refine lv_aload_n hx hb dX12_readsRow_0 rfl (lv_at hl 0 rfl) ?_
  obtain ⟨r1, M2, h3, hf⟩ := bnd_s hf
  refine pcVi (As := []) C hP hS (k := 0) (Nat.le_of_ble_eq_true rfl) (yd_0 _ _) rfl (c12_here  h3) y12_here_w g_1333 rfl rfl rfl ⟨Nat.le_of_ble_eq_true rfl, Nat.le_of_ble_eq_true rfl⟩ hl.1 rfl (Nat.le_of_ble_eq_true rfl) dX12_readsRow_1 ⟨Nat.le_of_ble_eq_true rfl, Nat.le_of_ble_eq_true rfl⟩ (fun H locs hP hS => ?_)
  obtain ⟨r4, M5, h6, hf⟩ := bnd_s hf
  refine pcSi (As := [.int r1]) C hP hS (c12_canBeginSign  h6) y12_canBeginSign_w g_1416 rfl rfl rfl ⟨Nat.le_of_ble_eq_true rfl, Nat.le_of_ble_eq_true rfl⟩ hl.1 rfl (Nat.le_of_ble_eq_true rfl) dX12_readsRow_4 ⟨Nat.le_of_ble_eq_true rfl, Nat.le_of_ble_eq_true rfl⟩ (fun H locs hP hS => ?_)
  refine lv_if_ne (tgt := 20) hx hb dX12_readsRow_7 (by decide) (fun c7 => ?_) (fun c7 => ?_)
  · replace hf := ite_f c7 hf
    refine lv_aload_n hx hb dX12_readsRow_20 rfl (lv_at hl 0 rfl) ?_
    refine pg C hP (k := 0) (j := 35) (Nat.le_of_ble_eq_true rfl) (yd_0 _ _) rfl iw_12 (Nat.le_of_ble_eq_true rfl) g_1170 rfl rfl dX12_readsRow_21 ?_
    refine lv_bipush (v := (8 : Int32)) hx hb dX12_readsRow_24 (by decide) ?_
    refine lv_icmp_ne (tgt := 39) hx hb dX12_readsRow_26 (by decide) (fun c8 => ?_) (fun c8 => ?_)
    · replace hf := ite_f c8 hf
      refine lv_aload_n hx hb dX12_readsRow_39 rfl (lv_at hl 0 rfl) ?_
      refine lv_iconst (v := (0 : Int32)) hx hb dX12_readsRow_40 (by decide) ?_
      obtain ⟨r9, M10, h11, hf⟩ := bnd_s hf
      refine pcVi (As := [.int (0 : Int32)]) C hP hS (k := 0) (Nat.le_of_ble_eq_true rfl) (yd_0 _ _) rfl (c12_readsSign  h11) y12_readsSign_w g_1419 rfl rfl rfl ⟨Nat.le_of_ble_eq_true rfl, Nat.le_of_ble_eq_true rfl⟩ hl.1 rfl (Nat.le_of_ble_eq_true rfl) dX12_readsRow_41 ⟨Nat.le_of_ble_eq_true rfl, Nat.le_of_ble_eq_true rfl⟩ (fun H locs hP hS => ?_)
      refine lv_istore_n (lv' := [(1, .int r9), (0, .ref (b + 0))]) hx hb dX12_readsRow_44 rfl hl (by decide) rfl (fun ls hl => ?_)
      exact w12_readsRow_45 (n := n)  C hr hk q45 hf hP hS (lv_sub hl [1, 0] rfl)
    · replace hf := ite_t c8 hf
      refine lv_aload_n hx hb dX12_readsRow_29 rfl (lv_at hl 0 rfl) ?_
      refine lv_iconst (v := (4 : Int32)) hx hb dX12_readsRow_30 (by decide) ?_
      refine lv_aload_n hx hb dX12_readsRow_31 rfl (lv_at hl 0 rfl) ?_
      refine pg C hP (k := 0) (j := 12) (Nat.le_of_ble_eq_true rfl) (yd_0 _ _) rfl iw_12 (Nat.le_of_ble_eq_true rfl) g_1147 rfl rfl dX12_readsRow_32 ?_
      obtain ⟨r12, M13, h14, hf⟩ := bnd_s hf
      refine pcVi (As := [.int (4 : Int32), .int (M5.1 0 12)]) C hP hS (k := 0) (Nat.le_of_ble_eq_true rfl) (yd_0 _ _) rfl (c12_wrongAt  h14) y12_wrongAt_w g_1337 rfl rfl rfl ⟨Nat.le_of_ble_eq_true rfl, Nat.le_of_ble_eq_true rfl⟩ hl.1 rfl (Nat.le_of_ble_eq_true rfl) dX12_readsRow_35 ⟨Nat.le_of_ble_eq_true rfl, Nat.le_of_ble_eq_true rfl⟩ (fun H locs hP hS => ?_)
      have h15 := chk_1 hf
      replace hf := chk_2 hf
      exact prZ C hr hk hP hS hf (isb_n h15) dX12_readsRow_38
  · replace hf := ite_t c7 hf
    refine lv_aload_n hx hb dX12_readsRow_10 rfl (lv_at hl 0 rfl) ?_
    refine lv_iconst (v := (1 : Int32)) hx hb dX12_readsRow_11 (by decide) ?_
    refine lv_aload_n hx hb dX12_readsRow_12 rfl (lv_at hl 0 rfl) ?_
    refine pg C hP (k := 0) (j := 12) (Nat.le_of_ble_eq_true rfl) (yd_0 _ _) rfl iw_12 (Nat.le_of_ble_eq_true rfl) g_1147 rfl rfl dX12_readsRow_13 ?_
    obtain ⟨r16, M17, h18, hf⟩ := bnd_s hf
    refine pcVi (As := [.int (1 : Int32), .int (M5.1 0 12)]) C hP hS (k := 0) (Nat.le_of_ble_eq_true rfl) (yd_0 _ _) rfl (c12_wrongAt  h18) y12_wrongAt_w g_1337 rfl rfl rfl ⟨Nat.le_of_ble_eq_true rfl, Nat.le_of_ble_eq_true rfl⟩ hl.1 rfl (Nat.le_of_ble_eq_true rfl) dX12_readsRow_16 ⟨Nat.le_of_ble_eq_true rfl, Nat.le_of_ble_eq_true rfl⟩ (fun H locs hP hS => ?_)
    have h19 := chk_1 hf
    replace hf := chk_2 hf
    exact prZ C hr hk hP hS hf (isb_n h19) dX12_readsRow_19
set_option maxHeartbeats 4000000 in
set_option maxRecDepth 100000 in
theorem l12_readsRow {p : Program} {l : Launch} {e : Env} {s : State} {m : MethodId} {args : Array Value} {below : List Frame} {meth : Method} {c : Code} {z : Zt} {b : Nat}  (C : Cx p s m args c cX12_readsRow 2 RX12 z 32 b) (hr : meth.sig.returnType = (some .boolean)) (hk : meth.locks = false) {r : Int32} {M' : Mem} (n : Nat) : (∀ (i1 : Int32) (M : Mem) (H : Heap) (locs : List Loc) (ls : Array Slot), (r12_readsRow  n) 45 [i1] [] M = some (r, M') → va_P z.1 vwCl (pw (yd z b) 32 b M) H → va_S (pA 32 b) s.heap H locs → lv_has ls 2 [(0, .ref (b + 0)), (1, .int i1)] → W p l e rm12_readsRow s m args below meth c H locs 0 0 (MQ below (va_Qi (fun (r' : Int32) (M2 : Mem) => r' = r ∧ M2 = M') (fun M2 t => va_P z.1 vwCl (pw (yd z b) 32 b M2) t.heap) (pA 32 b)) args s 0 0 (pA 32 b)) (F0 m 45 ls [])) := by
  induction n with
  | zero => exact fun _ _ _ _ _ hf => (by cases hf)
  | succ n ih => exact fun _ _ _ _ _ hf hP hS hl => w12_readsRow_45 (n := n)  C hr hk ih ((e12_readsRow_45  n _ _).symm.trans hf) hP hS hl
theorem c12_readsRow {l : Launch} {z : Zt} {b n : Nat}   {M M' : Mem} {r : Int32} (hf : f12_readsRow n   M = some (r, M')) : CI l z (yd z b) 32 b yX12_readsRow cX12_readsRow 2 (some .boolean) rm12_readsRow [.ref (b + 0)] M M' r :=
  CI.ofW (lv := [(0, .ref (b + 0))]) (by decide) (Nat.le_of_ble_eq_true rfl) rfl (fun p e s m args below meth c ls C hr hk hP hS hl => w12_readsRow_0 (n := n)  C hr hk (l12_readsRow  C hr hk n) hf hP hS hl)

-- BronzeKingModel.map(I)I
theorem dX12_map_0 : decode cX12_map 0 = .ok (.iload_n 1, 1) := by decide +kernel
theorem dX12_map_1 : decode cX12_map 1 = .ok (.iconst 1, 1) := by decide +kernel
theorem dX12_map_2 : decode cX12_map 2 = .ok (.bipush 110, 2) := by decide +kernel
theorem dX12_map_4 : decode cX12_map 4 = .ok (.invokestatic 106, 3) := by decide +kernel
theorem dX12_map_7 : decode cX12_map 7 = .ok (.ifCond .eq 11, 3) := by decide +kernel
theorem dX12_map_10 : decode cX12_map 10 = .ok (.iload_n 1, 1) := by decide +kernel
theorem dX12_map_11 : decode cX12_map 11 = .ok (.aload_n 0, 1) := by decide +kernel
theorem dX12_map_12 : decode cX12_map 12 = .ok (.getfield 137, 3) := by decide +kernel
theorem dX12_map_15 : decode cX12_map 15 = .ok (.if_icmp .le 5, 3) := by decide +kernel
theorem dX12_map_18 : decode cX12_map 18 = .ok (.iconst (-1), 1) := by decide +kernel
theorem dX12_map_19 : decode cX12_map 19 = .ok (.ireturn, 1) := by decide +kernel
theorem dX12_map_20 : decode cX12_map 20 = .ok (.aload_n 0, 1) := by decide +kernel
theorem dX12_map_21 : decode cX12_map 21 = .ok (.iload_n 1, 1) := by decide +kernel
theorem dX12_map_22 : decode cX12_map 22 = .ok (.invokevirtual 227, 3) := by decide +kernel
theorem dX12_map_25 : decode cX12_map 25 = .ok (.aload_n 0, 1) := by decide +kernel
theorem dX12_map_26 : decode cX12_map 26 = .ok (.iconst 0, 1) := by decide +kernel
theorem dX12_map_27 : decode cX12_map 27 = .ok (.putfield 246, 3) := by decide +kernel
theorem dX12_map_30 : decode cX12_map 30 = .ok (.iconst 0, 1) := by decide +kernel
theorem dX12_map_31 : decode cX12_map 31 = .ok (.istore_n 2, 1) := by decide +kernel
theorem dX12_map_32 : decode cX12_map 32 = .ok (.iload_n 2, 1) := by decide +kernel
theorem dX12_map_33 : decode cX12_map 33 = .ok (.bipush 96, 2) := by decide +kernel
theorem dX12_map_35 : decode cX12_map 35 = .ok (.if_icmp .ge 16, 3) := by decide +kernel
theorem dX12_map_38 : decode cX12_map 38 = .ok (.aload_n 0, 1) := by decide +kernel
theorem dX12_map_39 : decode cX12_map 39 = .ok (.getfield 74, 3) := by decide +kernel
theorem dX12_map_42 : decode cX12_map 42 = .ok (.iload_n 2, 1) := by decide +kernel
theorem dX12_map_43 : decode cX12_map 43 = .ok (.iconst 2, 1) := by decide +kernel
theorem dX12_map_44 : decode cX12_map 44 = .ok (.iastore, 1) := by decide +kernel
theorem dX12_map_45 : decode cX12_map 45 = .ok (.iinc 2 1, 3) := by decide +kernel
theorem dX12_map_48 : decode cX12_map 48 = .ok (.goto (-16), 3) := by decide +kernel
theorem dX12_map_51 : decode cX12_map 51 = .ok (.aload_n 0, 1) := by decide +kernel
theorem dX12_map_52 : decode cX12_map 52 = .ok (.invokevirtual 255, 3) := by decide +kernel
theorem dX12_map_55 : decode cX12_map 55 = .ok (.istore_n 2, 1) := by decide +kernel
theorem dX12_map_56 : decode cX12_map 56 = .ok (.iload_n 2, 1) := by decide +kernel
theorem dX12_map_57 : decode cX12_map 57 = .ok (.ifCond .eq 39, 3) := by decide +kernel
theorem dX12_map_60 : decode cX12_map 60 = .ok (.aload_n 0, 1) := by decide +kernel
theorem dX12_map_61 : decode cX12_map 61 = .ok (.getfield 143, 3) := by decide +kernel
theorem dX12_map_64 : decode cX12_map 64 = .ok (.aload_n 0, 1) := by decide +kernel
theorem dX12_map_65 : decode cX12_map 65 = .ok (.getfield 146, 3) := by decide +kernel
theorem dX12_map_68 : decode cX12_map 68 = .ok (.if_icmp .ge 28, 3) := by decide +kernel
theorem dX12_map_71 : decode cX12_map 71 = .ok (.aload_n 0, 1) := by decide +kernel
theorem dX12_map_72 : decode cX12_map 72 = .ok (.bipush 47, 2) := by decide +kernel
theorem dX12_map_74 : decode cX12_map 74 = .ok (.invokevirtual 233, 3) := by decide +kernel
theorem dX12_map_77 : decode cX12_map 77 = .ok (.ifCond .eq 14, 3) := by decide +kernel
theorem dX12_map_80 : decode cX12_map 80 = .ok (.aload_n 0, 1) := by decide +kernel
theorem dX12_map_81 : decode cX12_map 81 = .ok (.invokevirtual 255, 3) := by decide +kernel
theorem dX12_map_84 : decode cX12_map 84 = .ok (.ifCond .eq 7, 3) := by decide +kernel
theorem dX12_map_87 : decode cX12_map 87 = .ok (.iconst 1, 1) := by decide +kernel
theorem dX12_map_88 : decode cX12_map 88 = .ok (.goto 4, 3) := by decide +kernel
theorem dX12_map_91 : decode cX12_map 91 = .ok (.iconst 0, 1) := by decide +kernel
theorem dX12_map_92 : decode cX12_map 92 = .ok (.istore_n 2, 1) := by decide +kernel
theorem dX12_map_93 : decode cX12_map 93 = .ok (.goto (-37), 3) := by decide +kernel
theorem dX12_map_96 : decode cX12_map 96 = .ok (.aload_n 0, 1) := by decide +kernel
theorem dX12_map_97 : decode cX12_map 97 = .ok (.iconst 0, 1) := by decide +kernel
theorem dX12_map_98 : decode cX12_map 98 = .ok (.putfield 137, 3) := by decide +kernel
theorem dX12_map_101 : decode cX12_map 101 = .ok (.iload_n 2, 1) := by decide +kernel
theorem dX12_map_102 : decode cX12_map 102 = .ok (.ifCond .ne 8, 3) := by decide +kernel
theorem dX12_map_105 : decode cX12_map 105 = .ok (.aload_n 0, 1) := by decide +kernel
theorem dX12_map_106 : decode cX12_map 106 = .ok (.getfield 153, 3) := by decide +kernel
theorem dX12_map_109 : decode cX12_map 109 = .ok (.ireturn, 1) := by decide +kernel
theorem dX12_map_110 : decode cX12_map 110 = .ok (.iconst 0, 1) := by decide +kernel
theorem dX12_map_111 : decode cX12_map 111 = .ok (.istore_n 3, 1) := by decide +kernel
theorem dX12_map_112 : decode cX12_map 112 = .ok (.iload_n 3, 1) := by decide +kernel
theorem dX12_map_113 : decode cX12_map 113 = .ok (.bipush 96, 2) := by decide +kernel
theorem dX12_map_115 : decode cX12_map 115 = .ok (.if_icmp .ge 21, 3) := by decide +kernel
theorem dX12_map_118 : decode cX12_map 118 = .ok (.aload_n 0, 1) := by decide +kernel
theorem dX12_map_119 : decode cX12_map 119 = .ok (.getfield 19, 3) := by decide +kernel
theorem dX12_map_122 : decode cX12_map 122 = .ok (.iload_n 3, 1) := by decide +kernel
theorem dX12_map_123 : decode cX12_map 123 = .ok (.aload_n 0, 1) := by decide +kernel
theorem dX12_map_124 : decode cX12_map 124 = .ok (.getfield 74, 3) := by decide +kernel
theorem dX12_map_127 : decode cX12_map 127 = .ok (.iload_n 3, 1) := by decide +kernel
theorem dX12_map_128 : decode cX12_map 128 = .ok (.iaload, 1) := by decide +kernel
theorem dX12_map_129 : decode cX12_map 129 = .ok (.iastore, 1) := by decide +kernel
theorem dX12_map_130 : decode cX12_map 130 = .ok (.iinc 3 1, 3) := by decide +kernel
theorem dX12_map_133 : decode cX12_map 133 = .ok (.goto (-21), 3) := by decide +kernel
theorem dX12_map_136 : decode cX12_map 136 = .ok (.aload_n 0, 1) := by decide +kernel
theorem dX12_map_137 : decode cX12_map 137 = .ok (.iconst 0, 1) := by decide +kernel
theorem dX12_map_138 : decode cX12_map 138 = .ok (.putfield 118, 3) := by decide +kernel
theorem dX12_map_141 : decode cX12_map 141 = .ok (.aload_n 0, 1) := by decide +kernel
theorem dX12_map_142 : decode cX12_map 142 = .ok (.getfield 246, 3) := by decide +kernel
theorem dX12_map_145 : decode cX12_map 145 = .ok (.ireturn, 1) := by decide +kernel
def b12_map_18 (rc : Nat → List Int32 → List Int64 → Mem → Option (Int32 × Mem)) (n : Nat) (M : Mem) : Option (Int32 × Mem) :=
  some ((-1 : Int32), M)
def b12_map_112 (rc : Nat → List Int32 → List Int64 → Mem → Option (Int32 × Mem)) (n : Nat) (i3 : Int32) (M : Mem) : Option (Int32 × Mem) :=
  (if (96 : Int32) ≤ i3 then (
   lt (wI M 0 9 (0 : Int32)) fun M30 =>
   some ((M30.1 0 35), M30))
  else (
   chk (inb i3 96) <|
   chk (inb i3 96) <|
   lt (wI M 4 i3.toNatClampNeg (M.1 22 i3.toNatClampNeg)) fun M33 =>
   lt (i3 + (1 : Int32)) fun v34 =>
   rc 112 [v34] [] M33))
def b12_map_96 (rc : Nat → List Int32 → List Int64 → Mem → Option (Int32 × Mem)) (n : Nat) (i2 : Int32) (M : Mem) : Option (Int32 × Mem) :=
  lt (wI M 0 11 (0 : Int32)) fun M27 =>
  (if i2 = 0 then (
   some ((M27.1 0 14), M27))
  else (
   b12_map_112  rc n (0 : Int32) M27))
def b12_map_92 (rc : Nat → List Int32 → List Int64 → Mem → Option (Int32 × Mem)) (n : Nat) (s0 : Int32) (M : Mem) : Option (Int32 × Mem) :=
  rc 56 [s0] [] M
def b12_map_91 (rc : Nat → List Int32 → List Int64 → Mem → Option (Int32 × Mem)) (n : Nat) (M : Mem) : Option (Int32 × Mem) :=
  b12_map_92  rc n (0 : Int32) M
def b12_map_56 (rc : Nat → List Int32 → List Int64 → Mem → Option (Int32 × Mem)) (n : Nat) (i2 : Int32) (M : Mem) : Option (Int32 × Mem) :=
  (if i2 = 0 then (
   b12_map_96  rc n i2 M)
  else (
   (if (M.1 0 13) ≤ (M.1 0 12) then (
    b12_map_96  rc n i2 M)
   else (
    bnd (f12_takes n (47 : Int32) M) fun r19 M20 =>
    (if r19 = 0 then (
     b12_map_91  rc n  M20)
    else (
     bnd (f12_readsRow n M20) fun r23 M24 =>
     (if r23 = 0 then (
      b12_map_91  rc n  M24)
     else (
      b12_map_92  rc n (1 : Int32) M24))))))))
def b12_map_32 (rc : Nat → List Int32 → List Int64 → Mem → Option (Int32 × Mem)) (n : Nat) (i2 : Int32) (M : Mem) : Option (Int32 × Mem) :=
  (if (96 : Int32) ≤ i2 then (
   bnd (f12_readsRow n M) fun r11 M12 =>
   b12_map_56  rc n r11 M12)
  else (
   chk (inb i2 96) <|
   lt (wI M 22 i2.toNatClampNeg (2 : Int32)) fun M15 =>
   lt (i2 + (1 : Int32)) fun v16 =>
   rc 32 [v16] [] M15))
def b12_map_0 (rc : Nat → List Int32 → List Int64 → Mem → Option (Int32 × Mem)) (n : Nat) (a1 : Int32) (M : Mem) : Option (Int32 × Mem) :=
  bnd (f12_in n a1 (1 : Int32) (110 : Int32) M) fun r1 M2 =>
  (if r1 = 0 then (
   b12_map_18  rc n  M2)
  else (
   (if a1 ≤ (M2.1 0 11) then (
    bnd (f12_beginsText n a1 M2) fun r6 M7 =>
    lt (wI M7 0 35 (0 : Int32)) fun M9 =>
    b12_map_32  rc n (0 : Int32) M9)
   else (
    b12_map_18  rc n  M2))))
def r12_map : Nat → Nat → List Int32 → List Int64 → Mem → Option (Int32 × Mem)
  | 0 => fun _ _ _ _ => none
  | n + 1 => fun pc li lj M =>
    if pc = 32 then (match li, lj with | [i2], [] => b12_map_32  (r12_map  n) n i2 M | _, _ => none) else
    if pc = 56 then (match li, lj with | [i2], [] => b12_map_56  (r12_map  n) n i2 M | _, _ => none) else
    if pc = 112 then (match li, lj with | [i3], [] => b12_map_112  (r12_map  n) n i3 M | _, _ => none) else
    none
theorem e12_map_32  (n : Nat) (i2 : Int32) (M : Mem) : r12_map  (n + 1) 32 [i2] [] M = b12_map_32  (r12_map  n) n i2 M := by
  rw [r12_map]
  simp
theorem e12_map_56  (n : Nat) (i2 : Int32) (M : Mem) : r12_map  (n + 1) 56 [i2] [] M = b12_map_56  (r12_map  n) n i2 M := by
  rw [r12_map]
  simp
theorem e12_map_112  (n : Nat) (i3 : Int32) (M : Mem) : r12_map  (n + 1) 112 [i3] [] M = b12_map_112  (r12_map  n) n i3 M := by
  rw [r12_map]
  simp
def f12_map (n : Nat) (a1 : Int32) (M : Mem) : Option (Int32 × Mem) := b12_map_0 (r12_map n) n a1 M
abbrev rm12_map : Room := { frames := 3, cells := 0, slots := 0, locals := 69 }
theorem y12_map_w : yV RX12 yX12_map cX12_map 4 (some .int) 1 := ⟨g_1409, g_1410, g_14, g_1411, rfl, by decide, by decide, by decide +kernel⟩
set_option maxHeartbeats 4000000 in
set_option maxRecDepth 100000 in
theorem w12_map_18 {p : Program} {l : Launch} {e : Env} {s : State} {m : MethodId} {args : Array Value} {below : List Frame} {meth : Method} {c : Code} {z : Zt} {b : Nat}  (C : Cx p s m args c cX12_map 4 RX12 z 32 b) (hr : meth.sig.returnType = (some .int)) (hk : meth.locks = false) {r : Int32} {M' : Mem} {rc : Nat → List Int32 → List Int64 → Mem → Option (Int32 × Mem)} {n : Nat} (q32 : ∀ (i2 : Int32) (M : Mem) (H : Heap) (locs : List Loc) (ls : Array Slot), rc 32 [i2] [] M = some (r, M') → va_P z.1 vwCl (pw (yd z b) 32 b M) H → va_S (pA 32 b) s.heap H locs → lv_has ls 4 [(0, .ref (b + 0)), (2, .int i2)] → W p l e rm12_map s m args below meth c H locs 0 0 (MQ below (va_Qi (fun (r' : Int32) (M2 : Mem) => r' = r ∧ M2 = M') (fun M2 t => va_P z.1 vwCl (pw (yd z b) 32 b M2) t.heap) (pA 32 b)) args s 0 0 (pA 32 b)) (F0 m 32 ls [])) (q56 : ∀ (i2 : Int32) (M : Mem) (H : Heap) (locs : List Loc) (ls : Array Slot), rc 56 [i2] [] M = some (r, M') → va_P z.1 vwCl (pw (yd z b) 32 b M) H → va_S (pA 32 b) s.heap H locs → lv_has ls 4 [(0, .ref (b + 0)), (2, .int i2)] → W p l e rm12_map s m args below meth c H locs 0 0 (MQ below (va_Qi (fun (r' : Int32) (M2 : Mem) => r' = r ∧ M2 = M') (fun M2 t => va_P z.1 vwCl (pw (yd z b) 32 b M2) t.heap) (pA 32 b)) args s 0 0 (pA 32 b)) (F0 m 56 ls [])) (q112 : ∀ (i3 : Int32) (M : Mem) (H : Heap) (locs : List Loc) (ls : Array Slot), rc 112 [i3] [] M = some (r, M') → va_P z.1 vwCl (pw (yd z b) 32 b M) H → va_S (pA 32 b) s.heap H locs → lv_has ls 4 [(0, .ref (b + 0)), (3, .int i3)] → W p l e rm12_map s m args below meth c H locs 0 0 (MQ below (va_Qi (fun (r' : Int32) (M2 : Mem) => r' = r ∧ M2 = M') (fun M2 t => va_P z.1 vwCl (pw (yd z b) 32 b M2) t.heap) (pA 32 b)) args s 0 0 (pA 32 b)) (F0 m 112 ls []))  {M : Mem} {H : Heap} {locs : List Loc} {ls : Array Slot} (hf : b12_map_18  rc n  M = some (r, M')) (hP : va_P z.1 vwCl (pw (yd z b) 32 b M) H) (hS : va_S (pA 32 b) s.heap H locs) (hl : lv_has ls 4 []) : W p l e rm12_map s m args below meth c H locs 0 0 (MQ below (va_Qi (fun (r' : Int32) (M2 : Mem) => r' = r ∧ M2 = M') (fun M2 t => va_P z.1 vwCl (pw (yd z b) 32 b M2) t.heap) (pA 32 b)) args s 0 0 (pA 32 b)) (F0 m 18 ls []) := by
  have hx := C.1.1
  have hb := C.1.2.1
  unfold b12_map_18 at hf
  refine lv_iconst (v := (-1 : Int32)) hx hb dX12_map_18 (by decide) ?_
  exact prI C hr hk hP hS hf dX12_map_19
set_option maxHeartbeats 4000000 in
set_option maxRecDepth 100000 in
theorem w12_map_112 {p : Program} {l : Launch} {e : Env} {s : State} {m : MethodId} {args : Array Value} {below : List Frame} {meth : Method} {c : Code} {z : Zt} {b : Nat}  (C : Cx p s m args c cX12_map 4 RX12 z 32 b) (hr : meth.sig.returnType = (some .int)) (hk : meth.locks = false) {r : Int32} {M' : Mem} {rc : Nat → List Int32 → List Int64 → Mem → Option (Int32 × Mem)} {n : Nat} (q32 : ∀ (i2 : Int32) (M : Mem) (H : Heap) (locs : List Loc) (ls : Array Slot), rc 32 [i2] [] M = some (r, M') → va_P z.1 vwCl (pw (yd z b) 32 b M) H → va_S (pA 32 b) s.heap H locs → lv_has ls 4 [(0, .ref (b + 0)), (2, .int i2)] → W p l e rm12_map s m args below meth c H locs 0 0 (MQ below (va_Qi (fun (r' : Int32) (M2 : Mem) => r' = r ∧ M2 = M') (fun M2 t => va_P z.1 vwCl (pw (yd z b) 32 b M2) t.heap) (pA 32 b)) args s 0 0 (pA 32 b)) (F0 m 32 ls [])) (q56 : ∀ (i2 : Int32) (M : Mem) (H : Heap) (locs : List Loc) (ls : Array Slot), rc 56 [i2] [] M = some (r, M') → va_P z.1 vwCl (pw (yd z b) 32 b M) H → va_S (pA 32 b) s.heap H locs → lv_has ls 4 [(0, .ref (b + 0)), (2, .int i2)] → W p l e rm12_map s m args below meth c H locs 0 0 (MQ below (va_Qi (fun (r' : Int32) (M2 : Mem) => r' = r ∧ M2 = M') (fun M2 t => va_P z.1 vwCl (pw (yd z b) 32 b M2) t.heap) (pA 32 b)) args s 0 0 (pA 32 b)) (F0 m 56 ls [])) (q112 : ∀ (i3 : Int32) (M : Mem) (H : Heap) (locs : List Loc) (ls : Array Slot), rc 112 [i3] [] M = some (r, M') → va_P z.1 vwCl (pw (yd z b) 32 b M) H → va_S (pA 32 b) s.heap H locs → lv_has ls 4 [(0, .ref (b + 0)), (3, .int i3)] → W p l e rm12_map s m args below meth c H locs 0 0 (MQ below (va_Qi (fun (r' : Int32) (M2 : Mem) => r' = r ∧ M2 = M') (fun M2 t => va_P z.1 vwCl (pw (yd z b) 32 b M2) t.heap) (pA 32 b)) args s 0 0 (pA 32 b)) (F0 m 112 ls [])) {i3 : Int32} {M : Mem} {H : Heap} {locs : List Loc} {ls : Array Slot} (hf : b12_map_112  rc n i3 M = some (r, M')) (hP : va_P z.1 vwCl (pw (yd z b) 32 b M) H) (hS : va_S (pA 32 b) s.heap H locs) (hl : lv_has ls 4 [(0, .ref (b + 0)), (3, .int i3)]) : W p l e rm12_map s m args below meth c H locs 0 0 (MQ below (va_Qi (fun (r' : Int32) (M2 : Mem) => r' = r ∧ M2 = M') (fun M2 t => va_P z.1 vwCl (pw (yd z b) 32 b M2) t.heap) (pA 32 b)) args s 0 0 (pA 32 b)) (F0 m 112 ls []) := by
  have hx := C.1.1
  have hb := C.1.2.1
  unfold b12_map_112 at hf
  refine lv_iload_n hx hb dX12_map_112 rfl (lv_at hl 1 rfl) ?_
  refine lv_bipush (v := (96 : Int32)) hx hb dX12_map_113 (by decide) ?_
  refine lv_icmp_ge (tgt := 136) hx hb dX12_map_115 (by decide) (fun c29 => ?_) (fun c29 => ?_)
  · replace hf := ite_t c29 hf
    refine lv_aload_n hx hb dX12_map_136 rfl (lv_at hl 0 rfl) ?_
    refine lv_iconst (v := (0 : Int32)) hx hb dX12_map_137 (by decide) ?_
    refine ppI C hP hS (k := 0) (j := 9) (ty := .boolean) (Nat.le_of_ble_eq_true rfl) (yd_0 _ _) rfl iw_12 tyX12 tyX12_ok nmX12 (Nat.le_of_ble_eq_true rfl) g_1144 rfl rfl (by decide +kernel) rfl rfl (Nat.le_of_ble_eq_true rfl) (yu_0_9 _ _ _) dX12_map_138 (fun M30 H locs eM30 hP hS => ?_)
    replace hf := lt_c eM30 hf
    refine lv_aload_n hx hb dX12_map_141 rfl (lv_at hl 0 rfl) ?_
    refine pg C hP (k := 0) (j := 35) (Nat.le_of_ble_eq_true rfl) (yd_0 _ _) rfl iw_12 (Nat.le_of_ble_eq_true rfl) g_1170 rfl rfl dX12_map_142 ?_
    exact prI C hr hk hP hS hf dX12_map_145
  · replace hf := ite_f c29 hf
    refine lv_aload_n hx hb dX12_map_118 rfl (lv_at hl 0 rfl) ?_
    refine pg C hP (k := 0) (j := 3) (Nat.le_of_ble_eq_true rfl) (yd_0 _ _) rfl iw_12 (Nat.le_of_ble_eq_true rfl) g_1138 rfl rfl dX12_map_119 ?_
    refine lv_iload_n hx hb dX12_map_122 rfl (lv_at hl 1 rfl) ?_
    refine lv_aload_n hx hb dX12_map_123 rfl (lv_at hl 0 rfl) ?_
    refine pg C hP (k := 0) (j := 34) (Nat.le_of_ble_eq_true rfl) (yd_0 _ _) rfl iw_12 (Nat.le_of_ble_eq_true rfl) g_1169 rfl rfl dX12_map_124 ?_
    refine lv_iload_n hx hb dX12_map_127 rfl (lv_at hl 1 rfl) ?_
    have h31 := chk_1 hf
    replace hf := chk_2 hf
    refine paI C hP (k := 22) (Nat.le_of_ble_eq_true rfl) (yd_22 _ _) h31 dX12_map_128 ?_
    have h32 := chk_1 hf
    replace hf := chk_2 hf
    refine psI C hP hS (k := 4) (Nat.le_of_ble_eq_true rfl) (yd_4) h32 dX12_map_129 (fun M33 H locs eM33 hP hS => ?_)
    replace hf := lt_c eM33 hf
    obtain ⟨v34, ev34⟩ : ∃ v : Int32, v = i3 + (1 : Int32) := ⟨_, rfl⟩
    replace hf := lt_c ev34 hf
    refine lv_iinc (v := v34) (lv' := [(3, .int v34), (0, .ref (b + 0))]) hx hb dX12_map_130 hl (k := 1) rfl (by rw [ev34]; rfl) (by decide) rfl (fun ls hl => ?_)
    refine lv_goto (tgt := 112) hx hb dX12_map_133 (by decide) ?_
    exact q112 v34 M33 _ _ _ hf hP hS (lv_sub hl [1, 0] rfl)
set_option maxHeartbeats 4000000 in
set_option maxRecDepth 100000 in
theorem w12_map_96 {p : Program} {l : Launch} {e : Env} {s : State} {m : MethodId} {args : Array Value} {below : List Frame} {meth : Method} {c : Code} {z : Zt} {b : Nat}  (C : Cx p s m args c cX12_map 4 RX12 z 32 b) (hr : meth.sig.returnType = (some .int)) (hk : meth.locks = false) {r : Int32} {M' : Mem} {rc : Nat → List Int32 → List Int64 → Mem → Option (Int32 × Mem)} {n : Nat} (q32 : ∀ (i2 : Int32) (M : Mem) (H : Heap) (locs : List Loc) (ls : Array Slot), rc 32 [i2] [] M = some (r, M') → va_P z.1 vwCl (pw (yd z b) 32 b M) H → va_S (pA 32 b) s.heap H locs → lv_has ls 4 [(0, .ref (b + 0)), (2, .int i2)] → W p l e rm12_map s m args below meth c H locs 0 0 (MQ below (va_Qi (fun (r' : Int32) (M2 : Mem) => r' = r ∧ M2 = M') (fun M2 t => va_P z.1 vwCl (pw (yd z b) 32 b M2) t.heap) (pA 32 b)) args s 0 0 (pA 32 b)) (F0 m 32 ls [])) (q56 : ∀ (i2 : Int32) (M : Mem) (H : Heap) (locs : List Loc) (ls : Array Slot), rc 56 [i2] [] M = some (r, M') → va_P z.1 vwCl (pw (yd z b) 32 b M) H → va_S (pA 32 b) s.heap H locs → lv_has ls 4 [(0, .ref (b + 0)), (2, .int i2)] → W p l e rm12_map s m args below meth c H locs 0 0 (MQ below (va_Qi (fun (r' : Int32) (M2 : Mem) => r' = r ∧ M2 = M') (fun M2 t => va_P z.1 vwCl (pw (yd z b) 32 b M2) t.heap) (pA 32 b)) args s 0 0 (pA 32 b)) (F0 m 56 ls [])) (q112 : ∀ (i3 : Int32) (M : Mem) (H : Heap) (locs : List Loc) (ls : Array Slot), rc 112 [i3] [] M = some (r, M') → va_P z.1 vwCl (pw (yd z b) 32 b M) H → va_S (pA 32 b) s.heap H locs → lv_has ls 4 [(0, .ref (b + 0)), (3, .int i3)] → W p l e rm12_map s m args below meth c H locs 0 0 (MQ below (va_Qi (fun (r' : Int32) (M2 : Mem) => r' = r ∧ M2 = M') (fun M2 t => va_P z.1 vwCl (pw (yd z b) 32 b M2) t.heap) (pA 32 b)) args s 0 0 (pA 32 b)) (F0 m 112 ls [])) {i2 : Int32} {M : Mem} {H : Heap} {locs : List Loc} {ls : Array Slot} (hf : b12_map_96  rc n i2 M = some (r, M')) (hP : va_P z.1 vwCl (pw (yd z b) 32 b M) H) (hS : va_S (pA 32 b) s.heap H locs) (hl : lv_has ls 4 [(0, .ref (b + 0)), (2, .int i2)]) : W p l e rm12_map s m args below meth c H locs 0 0 (MQ below (va_Qi (fun (r' : Int32) (M2 : Mem) => r' = r ∧ M2 = M') (fun M2 t => va_P z.1 vwCl (pw (yd z b) 32 b M2) t.heap) (pA 32 b)) args s 0 0 (pA 32 b)) (F0 m 96 ls []) := by
  have hx := C.1.1
  have hb := C.1.2.1
  unfold b12_map_96 at hf
  refine lv_aload_n hx hb dX12_map_96 rfl (lv_at hl 0 rfl) ?_
  refine lv_iconst (v := (0 : Int32)) hx hb dX12_map_97 (by decide) ?_
  refine ppI C hP hS (k := 0) (j := 11) (ty := .int) (Nat.le_of_ble_eq_true rfl) (yd_0 _ _) rfl iw_12 tyX12 tyX12_ok nmX12 (Nat.le_of_ble_eq_true rfl) g_1146 rfl rfl (by decide +kernel) rfl rfl (Nat.le_of_ble_eq_true rfl) (yu_0_11 _ _ _) dX12_map_98 (fun M27 H locs eM27 hP hS => ?_)
  replace hf := lt_c eM27 hf
  refine lv_iload_n hx hb dX12_map_101 rfl (lv_at hl 1 rfl) ?_
  refine lv_if_ne (tgt := 110) hx hb dX12_map_102 (by decide) (fun c28 => ?_) (fun c28 => ?_)
  · replace hf := ite_f c28 hf
    refine lv_iconst (v := (0 : Int32)) hx hb dX12_map_110 (by decide) ?_
    refine lv_istore_n (lv' := [(3, .int (0 : Int32)), (0, .ref (b + 0)), (2, .int i2)]) hx hb dX12_map_111 rfl hl (by decide) rfl (fun ls hl => ?_)
    exact w12_map_112 (n := n)  C hr hk q32 q56 q112 hf hP hS (lv_sub hl [1, 0] rfl)
  · replace hf := ite_t c28 hf
    refine lv_aload_n hx hb dX12_map_105 rfl (lv_at hl 0 rfl) ?_
    refine pg C hP (k := 0) (j := 14) (Nat.le_of_ble_eq_true rfl) (yd_0 _ _) rfl iw_12 (Nat.le_of_ble_eq_true rfl) g_1149 rfl rfl dX12_map_106 ?_
    exact prI C hr hk hP hS hf dX12_map_109
set_option maxHeartbeats 4000000 in
set_option maxRecDepth 100000 in
theorem w12_map_92 {p : Program} {l : Launch} {e : Env} {s : State} {m : MethodId} {args : Array Value} {below : List Frame} {meth : Method} {c : Code} {z : Zt} {b : Nat}  (C : Cx p s m args c cX12_map 4 RX12 z 32 b) (hr : meth.sig.returnType = (some .int)) (hk : meth.locks = false) {r : Int32} {M' : Mem} {rc : Nat → List Int32 → List Int64 → Mem → Option (Int32 × Mem)} {n : Nat} (q32 : ∀ (i2 : Int32) (M : Mem) (H : Heap) (locs : List Loc) (ls : Array Slot), rc 32 [i2] [] M = some (r, M') → va_P z.1 vwCl (pw (yd z b) 32 b M) H → va_S (pA 32 b) s.heap H locs → lv_has ls 4 [(0, .ref (b + 0)), (2, .int i2)] → W p l e rm12_map s m args below meth c H locs 0 0 (MQ below (va_Qi (fun (r' : Int32) (M2 : Mem) => r' = r ∧ M2 = M') (fun M2 t => va_P z.1 vwCl (pw (yd z b) 32 b M2) t.heap) (pA 32 b)) args s 0 0 (pA 32 b)) (F0 m 32 ls [])) (q56 : ∀ (i2 : Int32) (M : Mem) (H : Heap) (locs : List Loc) (ls : Array Slot), rc 56 [i2] [] M = some (r, M') → va_P z.1 vwCl (pw (yd z b) 32 b M) H → va_S (pA 32 b) s.heap H locs → lv_has ls 4 [(0, .ref (b + 0)), (2, .int i2)] → W p l e rm12_map s m args below meth c H locs 0 0 (MQ below (va_Qi (fun (r' : Int32) (M2 : Mem) => r' = r ∧ M2 = M') (fun M2 t => va_P z.1 vwCl (pw (yd z b) 32 b M2) t.heap) (pA 32 b)) args s 0 0 (pA 32 b)) (F0 m 56 ls [])) (q112 : ∀ (i3 : Int32) (M : Mem) (H : Heap) (locs : List Loc) (ls : Array Slot), rc 112 [i3] [] M = some (r, M') → va_P z.1 vwCl (pw (yd z b) 32 b M) H → va_S (pA 32 b) s.heap H locs → lv_has ls 4 [(0, .ref (b + 0)), (3, .int i3)] → W p l e rm12_map s m args below meth c H locs 0 0 (MQ below (va_Qi (fun (r' : Int32) (M2 : Mem) => r' = r ∧ M2 = M') (fun M2 t => va_P z.1 vwCl (pw (yd z b) 32 b M2) t.heap) (pA 32 b)) args s 0 0 (pA 32 b)) (F0 m 112 ls [])) {s0 : Int32} {M : Mem} {H : Heap} {locs : List Loc} {ls : Array Slot} (hf : b12_map_92  rc n s0 M = some (r, M')) (hP : va_P z.1 vwCl (pw (yd z b) 32 b M) H) (hS : va_S (pA 32 b) s.heap H locs) (hl : lv_has ls 4 [(0, .ref (b + 0))]) : W p l e rm12_map s m args below meth c H locs 0 0 (MQ below (va_Qi (fun (r' : Int32) (M2 : Mem) => r' = r ∧ M2 = M') (fun M2 t => va_P z.1 vwCl (pw (yd z b) 32 b M2) t.heap) (pA 32 b)) args s 0 0 (pA 32 b)) (F0 m 92 ls [.int s0]) := by
  have hx := C.1.1
  have hb := C.1.2.1
  unfold b12_map_92 at hf
  refine lv_istore_n (lv' := [(2, .int s0), (0, .ref (b + 0))]) hx hb dX12_map_92 rfl hl (by decide) rfl (fun ls hl => ?_)
  refine lv_goto (tgt := 56) hx hb dX12_map_93 (by decide) ?_
  exact q56 s0 M _ _ _ hf hP hS (lv_sub hl [1, 0] rfl)
set_option maxHeartbeats 4000000 in
set_option maxRecDepth 100000 in
theorem w12_map_91 {p : Program} {l : Launch} {e : Env} {s : State} {m : MethodId} {args : Array Value} {below : List Frame} {meth : Method} {c : Code} {z : Zt} {b : Nat}  (C : Cx p s m args c cX12_map 4 RX12 z 32 b) (hr : meth.sig.returnType = (some .int)) (hk : meth.locks = false) {r : Int32} {M' : Mem} {rc : Nat → List Int32 → List Int64 → Mem → Option (Int32 × Mem)} {n : Nat} (q32 : ∀ (i2 : Int32) (M : Mem) (H : Heap) (locs : List Loc) (ls : Array Slot), rc 32 [i2] [] M = some (r, M') → va_P z.1 vwCl (pw (yd z b) 32 b M) H → va_S (pA 32 b) s.heap H locs → lv_has ls 4 [(0, .ref (b + 0)), (2, .int i2)] → W p l e rm12_map s m args below meth c H locs 0 0 (MQ below (va_Qi (fun (r' : Int32) (M2 : Mem) => r' = r ∧ M2 = M') (fun M2 t => va_P z.1 vwCl (pw (yd z b) 32 b M2) t.heap) (pA 32 b)) args s 0 0 (pA 32 b)) (F0 m 32 ls [])) (q56 : ∀ (i2 : Int32) (M : Mem) (H : Heap) (locs : List Loc) (ls : Array Slot), rc 56 [i2] [] M = some (r, M') → va_P z.1 vwCl (pw (yd z b) 32 b M) H → va_S (pA 32 b) s.heap H locs → lv_has ls 4 [(0, .ref (b + 0)), (2, .int i2)] → W p l e rm12_map s m args below meth c H locs 0 0 (MQ below (va_Qi (fun (r' : Int32) (M2 : Mem) => r' = r ∧ M2 = M') (fun M2 t => va_P z.1 vwCl (pw (yd z b) 32 b M2) t.heap) (pA 32 b)) args s 0 0 (pA 32 b)) (F0 m 56 ls [])) (q112 : ∀ (i3 : Int32) (M : Mem) (H : Heap) (locs : List Loc) (ls : Array Slot), rc 112 [i3] [] M = some (r, M') → va_P z.1 vwCl (pw (yd z b) 32 b M) H → va_S (pA 32 b) s.heap H locs → lv_has ls 4 [(0, .ref (b + 0)), (3, .int i3)] → W p l e rm12_map s m args below meth c H locs 0 0 (MQ below (va_Qi (fun (r' : Int32) (M2 : Mem) => r' = r ∧ M2 = M') (fun M2 t => va_P z.1 vwCl (pw (yd z b) 32 b M2) t.heap) (pA 32 b)) args s 0 0 (pA 32 b)) (F0 m 112 ls []))  {M : Mem} {H : Heap} {locs : List Loc} {ls : Array Slot} (hf : b12_map_91  rc n  M = some (r, M')) (hP : va_P z.1 vwCl (pw (yd z b) 32 b M) H) (hS : va_S (pA 32 b) s.heap H locs) (hl : lv_has ls 4 [(0, .ref (b + 0))]) : W p l e rm12_map s m args below meth c H locs 0 0 (MQ below (va_Qi (fun (r' : Int32) (M2 : Mem) => r' = r ∧ M2 = M') (fun M2 t => va_P z.1 vwCl (pw (yd z b) 32 b M2) t.heap) (pA 32 b)) args s 0 0 (pA 32 b)) (F0 m 91 ls []) := by
  have hx := C.1.1
  have hb := C.1.2.1
  unfold b12_map_91 at hf
  refine lv_iconst (v := (0 : Int32)) hx hb dX12_map_91 (by decide) ?_
  exact w12_map_92 (n := n)  C hr hk q32 q56 q112 hf hP hS (lv_sub hl [0] rfl)
set_option maxHeartbeats 4000000 in
set_option maxRecDepth 100000 in
theorem w12_map_56 {p : Program} {l : Launch} {e : Env} {s : State} {m : MethodId} {args : Array Value} {below : List Frame} {meth : Method} {c : Code} {z : Zt} {b : Nat}  (C : Cx p s m args c cX12_map 4 RX12 z 32 b) (hr : meth.sig.returnType = (some .int)) (hk : meth.locks = false) {r : Int32} {M' : Mem} {rc : Nat → List Int32 → List Int64 → Mem → Option (Int32 × Mem)} {n : Nat} (q32 : ∀ (i2 : Int32) (M : Mem) (H : Heap) (locs : List Loc) (ls : Array Slot), rc 32 [i2] [] M = some (r, M') → va_P z.1 vwCl (pw (yd z b) 32 b M) H → va_S (pA 32 b) s.heap H locs → lv_has ls 4 [(0, .ref (b + 0)), (2, .int i2)] → W p l e rm12_map s m args below meth c H locs 0 0 (MQ below (va_Qi (fun (r' : Int32) (M2 : Mem) => r' = r ∧ M2 = M') (fun M2 t => va_P z.1 vwCl (pw (yd z b) 32 b M2) t.heap) (pA 32 b)) args s 0 0 (pA 32 b)) (F0 m 32 ls [])) (q56 : ∀ (i2 : Int32) (M : Mem) (H : Heap) (locs : List Loc) (ls : Array Slot), rc 56 [i2] [] M = some (r, M') → va_P z.1 vwCl (pw (yd z b) 32 b M) H → va_S (pA 32 b) s.heap H locs → lv_has ls 4 [(0, .ref (b + 0)), (2, .int i2)] → W p l e rm12_map s m args below meth c H locs 0 0 (MQ below (va_Qi (fun (r' : Int32) (M2 : Mem) => r' = r ∧ M2 = M') (fun M2 t => va_P z.1 vwCl (pw (yd z b) 32 b M2) t.heap) (pA 32 b)) args s 0 0 (pA 32 b)) (F0 m 56 ls [])) (q112 : ∀ (i3 : Int32) (M : Mem) (H : Heap) (locs : List Loc) (ls : Array Slot), rc 112 [i3] [] M = some (r, M') → va_P z.1 vwCl (pw (yd z b) 32 b M) H → va_S (pA 32 b) s.heap H locs → lv_has ls 4 [(0, .ref (b + 0)), (3, .int i3)] → W p l e rm12_map s m args below meth c H locs 0 0 (MQ below (va_Qi (fun (r' : Int32) (M2 : Mem) => r' = r ∧ M2 = M') (fun M2 t => va_P z.1 vwCl (pw (yd z b) 32 b M2) t.heap) (pA 32 b)) args s 0 0 (pA 32 b)) (F0 m 112 ls [])) {i2 : Int32} {M : Mem} {H : Heap} {locs : List Loc} {ls : Array Slot} (hf : b12_map_56  rc n i2 M = some (r, M')) (hP : va_P z.1 vwCl (pw (yd z b) 32 b M) H) (hS : va_S (pA 32 b) s.heap H locs) (hl : lv_has ls 4 [(0, .ref (b + 0)), (2, .int i2)]) : W p l e rm12_map s m args below meth c H locs 0 0 (MQ below (va_Qi (fun (r' : Int32) (M2 : Mem) => r' = r ∧ M2 = M') (fun M2 t => va_P z.1 vwCl (pw (yd z b) 32 b M2) t.heap) (pA 32 b)) args s 0 0 (pA 32 b)) (F0 m 56 ls []) := by
  have hx := C.1.1
  have hb := C.1.2.1
  unfold b12_map_56 at hf
  refine lv_iload_n hx hb dX12_map_56 rfl (lv_at hl 1 rfl) ?_
  refine lv_if_eq (tgt := 96) hx hb dX12_map_57 (by decide) (fun c17 => ?_) (fun c17 => ?_)
  · replace hf := ite_t c17 hf
    exact w12_map_96 (n := n)  C hr hk q32 q56 q112 hf hP hS (lv_sub hl [0, 1] rfl)
  · replace hf := ite_f c17 hf
    refine lv_aload_n hx hb dX12_map_60 rfl (lv_at hl 0 rfl) ?_
    refine pg C hP (k := 0) (j := 12) (Nat.le_of_ble_eq_true rfl) (yd_0 _ _) rfl iw_12 (Nat.le_of_ble_eq_true rfl) g_1147 rfl rfl dX12_map_61 ?_
    refine lv_aload_n hx hb dX12_map_64 rfl (lv_at hl 0 rfl) ?_
    refine pg C hP (k := 0) (j := 13) (Nat.le_of_ble_eq_true rfl) (yd_0 _ _) rfl iw_12 (Nat.le_of_ble_eq_true rfl) g_1148 rfl rfl dX12_map_65 ?_
    refine lv_icmp_ge (tgt := 96) hx hb dX12_map_68 (by decide) (fun c18 => ?_) (fun c18 => ?_)
    · replace hf := ite_t c18 hf
      exact w12_map_96 (n := n)  C hr hk q32 q56 q112 hf hP hS (lv_sub hl [0, 1] rfl)
    · replace hf := ite_f c18 hf
      refine lv_aload_n hx hb dX12_map_71 rfl (lv_at hl 0 rfl) ?_
      refine lv_bipush (v := (47 : Int32)) hx hb dX12_map_72 (by decide) ?_
      obtain ⟨r19, M20, h21, hf⟩ := bnd_s hf
      refine pcVi (As := [.int (47 : Int32)]) C hP hS (k := 0) (Nat.le_of_ble_eq_true rfl) (yd_0 _ _) rfl (c12_takes  h21) y12_takes_w g_1404 rfl rfl rfl ⟨Nat.le_of_ble_eq_true rfl, Nat.le_of_ble_eq_true rfl⟩ hl.1 rfl (Nat.le_of_ble_eq_true rfl) dX12_map_74 ⟨Nat.le_of_ble_eq_true rfl, Nat.le_of_ble_eq_true rfl⟩ (fun H locs hP hS => ?_)
      refine lv_if_eq (tgt := 91) hx hb dX12_map_77 (by decide) (fun c22 => ?_) (fun c22 => ?_)
      · replace hf := ite_t c22 hf
        exact w12_map_91 (n := n)  C hr hk q32 q56 q112 hf hP hS (lv_sub hl [0] rfl)
      · replace hf := ite_f c22 hf
        refine lv_aload_n hx hb dX12_map_80 rfl (lv_at hl 0 rfl) ?_
        obtain ⟨r23, M24, h25, hf⟩ := bnd_s hf
        refine pcVi (As := []) C hP hS (k := 0) (Nat.le_of_ble_eq_true rfl) (yd_0 _ _) rfl (c12_readsRow  h25) y12_readsRow_w g_1412 rfl rfl rfl ⟨Nat.le_of_ble_eq_true rfl, Nat.le_of_ble_eq_true rfl⟩ hl.1 rfl (Nat.le_of_ble_eq_true rfl) dX12_map_81 ⟨Nat.le_of_ble_eq_true rfl, Nat.le_of_ble_eq_true rfl⟩ (fun H locs hP hS => ?_)
        refine lv_if_eq (tgt := 91) hx hb dX12_map_84 (by decide) (fun c26 => ?_) (fun c26 => ?_)
        · replace hf := ite_t c26 hf
          exact w12_map_91 (n := n)  C hr hk q32 q56 q112 hf hP hS (lv_sub hl [0] rfl)
        · replace hf := ite_f c26 hf
          refine lv_iconst (v := (1 : Int32)) hx hb dX12_map_87 (by decide) ?_
          refine lv_goto (tgt := 92) hx hb dX12_map_88 (by decide) ?_
          exact w12_map_92 (n := n)  C hr hk q32 q56 q112 hf hP hS (lv_sub hl [0] rfl)
set_option maxHeartbeats 4000000 in
set_option maxRecDepth 100000 in
theorem w12_map_32 {p : Program} {l : Launch} {e : Env} {s : State} {m : MethodId} {args : Array Value} {below : List Frame} {meth : Method} {c : Code} {z : Zt} {b : Nat}  (C : Cx p s m args c cX12_map 4 RX12 z 32 b) (hr : meth.sig.returnType = (some .int)) (hk : meth.locks = false) {r : Int32} {M' : Mem} {rc : Nat → List Int32 → List Int64 → Mem → Option (Int32 × Mem)} {n : Nat} (q32 : ∀ (i2 : Int32) (M : Mem) (H : Heap) (locs : List Loc) (ls : Array Slot), rc 32 [i2] [] M = some (r, M') → va_P z.1 vwCl (pw (yd z b) 32 b M) H → va_S (pA 32 b) s.heap H locs → lv_has ls 4 [(0, .ref (b + 0)), (2, .int i2)] → W p l e rm12_map s m args below meth c H locs 0 0 (MQ below (va_Qi (fun (r' : Int32) (M2 : Mem) => r' = r ∧ M2 = M') (fun M2 t => va_P z.1 vwCl (pw (yd z b) 32 b M2) t.heap) (pA 32 b)) args s 0 0 (pA 32 b)) (F0 m 32 ls [])) (q56 : ∀ (i2 : Int32) (M : Mem) (H : Heap) (locs : List Loc) (ls : Array Slot), rc 56 [i2] [] M = some (r, M') → va_P z.1 vwCl (pw (yd z b) 32 b M) H → va_S (pA 32 b) s.heap H locs → lv_has ls 4 [(0, .ref (b + 0)), (2, .int i2)] → W p l e rm12_map s m args below meth c H locs 0 0 (MQ below (va_Qi (fun (r' : Int32) (M2 : Mem) => r' = r ∧ M2 = M') (fun M2 t => va_P z.1 vwCl (pw (yd z b) 32 b M2) t.heap) (pA 32 b)) args s 0 0 (pA 32 b)) (F0 m 56 ls [])) (q112 : ∀ (i3 : Int32) (M : Mem) (H : Heap) (locs : List Loc) (ls : Array Slot), rc 112 [i3] [] M = some (r, M') → va_P z.1 vwCl (pw (yd z b) 32 b M) H → va_S (pA 32 b) s.heap H locs → lv_has ls 4 [(0, .ref (b + 0)), (3, .int i3)] → W p l e rm12_map s m args below meth c H locs 0 0 (MQ below (va_Qi (fun (r' : Int32) (M2 : Mem) => r' = r ∧ M2 = M') (fun M2 t => va_P z.1 vwCl (pw (yd z b) 32 b M2) t.heap) (pA 32 b)) args s 0 0 (pA 32 b)) (F0 m 112 ls [])) {i2 : Int32} {M : Mem} {H : Heap} {locs : List Loc} {ls : Array Slot} (hf : b12_map_32  rc n i2 M = some (r, M')) (hP : va_P z.1 vwCl (pw (yd z b) 32 b M) H) (hS : va_S (pA 32 b) s.heap H locs) (hl : lv_has ls 4 [(0, .ref (b + 0)), (2, .int i2)]) : W p l e rm12_map s m args below meth c H locs 0 0 (MQ below (va_Qi (fun (r' : Int32) (M2 : Mem) => r' = r ∧ M2 = M') (fun M2 t => va_P z.1 vwCl (pw (yd z b) 32 b M2) t.heap) (pA 32 b)) args s 0 0 (pA 32 b)) (F0 m 32 ls []) := by
  have hx := C.1.1
  have hb := C.1.2.1
  unfold b12_map_32 at hf
  refine lv_iload_n hx hb dX12_map_32 rfl (lv_at hl 1 rfl) ?_
  refine lv_bipush (v := (96 : Int32)) hx hb dX12_map_33 (by decide) ?_
  refine lv_icmp_ge (tgt := 51) hx hb dX12_map_35 (by decide) (fun c10 => ?_) (fun c10 => ?_)
  · replace hf := ite_t c10 hf
    refine lv_aload_n hx hb dX12_map_51 rfl (lv_at hl 0 rfl) ?_
    obtain ⟨r11, M12, h13, hf⟩ := bnd_s hf
    refine pcVi (As := []) C hP hS (k := 0) (Nat.le_of_ble_eq_true rfl) (yd_0 _ _) rfl (c12_readsRow  h13) y12_readsRow_w g_1412 rfl rfl rfl ⟨Nat.le_of_ble_eq_true rfl, Nat.le_of_ble_eq_true rfl⟩ hl.1 rfl (Nat.le_of_ble_eq_true rfl) dX12_map_52 ⟨Nat.le_of_ble_eq_true rfl, Nat.le_of_ble_eq_true rfl⟩ (fun H locs hP hS => ?_)
    refine lv_istore_n (lv' := [(2, .int r11), (0, .ref (b + 0))]) hx hb dX12_map_55 rfl hl (by decide) rfl (fun ls hl => ?_)
    exact w12_map_56 (n := n)  C hr hk q32 q56 q112 hf hP hS (lv_sub hl [1, 0] rfl)
  · replace hf := ite_f c10 hf
    refine lv_aload_n hx hb dX12_map_38 rfl (lv_at hl 0 rfl) ?_
    refine pg C hP (k := 0) (j := 34) (Nat.le_of_ble_eq_true rfl) (yd_0 _ _) rfl iw_12 (Nat.le_of_ble_eq_true rfl) g_1169 rfl rfl dX12_map_39 ?_
    refine lv_iload_n hx hb dX12_map_42 rfl (lv_at hl 1 rfl) ?_
    refine lv_iconst (v := (2 : Int32)) hx hb dX12_map_43 (by decide) ?_
    have h14 := chk_1 hf
    replace hf := chk_2 hf
    refine psI C hP hS (k := 22) (Nat.le_of_ble_eq_true rfl) (yd_22) h14 dX12_map_44 (fun M15 H locs eM15 hP hS => ?_)
    replace hf := lt_c eM15 hf
    obtain ⟨v16, ev16⟩ : ∃ v : Int32, v = i2 + (1 : Int32) := ⟨_, rfl⟩
    replace hf := lt_c ev16 hf
    refine lv_iinc (v := v16) (lv' := [(2, .int v16), (0, .ref (b + 0))]) hx hb dX12_map_45 hl (k := 1) rfl (by rw [ev16]; rfl) (by decide) rfl (fun ls hl => ?_)
    refine lv_goto (tgt := 32) hx hb dX12_map_48 (by decide) ?_
    exact q32 v16 M15 _ _ _ hf hP hS (lv_sub hl [1, 0] rfl)
set_option maxHeartbeats 4000000 in
set_option maxRecDepth 100000 in
theorem w12_map_0 {p : Program} {l : Launch} {e : Env} {s : State} {m : MethodId} {args : Array Value} {below : List Frame} {meth : Method} {c : Code} {z : Zt} {b : Nat}  (C : Cx p s m args c cX12_map 4 RX12 z 32 b) (hr : meth.sig.returnType = (some .int)) (hk : meth.locks = false) {r : Int32} {M' : Mem} {rc : Nat → List Int32 → List Int64 → Mem → Option (Int32 × Mem)} {n : Nat} (q32 : ∀ (i2 : Int32) (M : Mem) (H : Heap) (locs : List Loc) (ls : Array Slot), rc 32 [i2] [] M = some (r, M') → va_P z.1 vwCl (pw (yd z b) 32 b M) H → va_S (pA 32 b) s.heap H locs → lv_has ls 4 [(0, .ref (b + 0)), (2, .int i2)] → W p l e rm12_map s m args below meth c H locs 0 0 (MQ below (va_Qi (fun (r' : Int32) (M2 : Mem) => r' = r ∧ M2 = M') (fun M2 t => va_P z.1 vwCl (pw (yd z b) 32 b M2) t.heap) (pA 32 b)) args s 0 0 (pA 32 b)) (F0 m 32 ls [])) (q56 : ∀ (i2 : Int32) (M : Mem) (H : Heap) (locs : List Loc) (ls : Array Slot), rc 56 [i2] [] M = some (r, M') → va_P z.1 vwCl (pw (yd z b) 32 b M) H → va_S (pA 32 b) s.heap H locs → lv_has ls 4 [(0, .ref (b + 0)), (2, .int i2)] → W p l e rm12_map s m args below meth c H locs 0 0 (MQ below (va_Qi (fun (r' : Int32) (M2 : Mem) => r' = r ∧ M2 = M') (fun M2 t => va_P z.1 vwCl (pw (yd z b) 32 b M2) t.heap) (pA 32 b)) args s 0 0 (pA 32 b)) (F0 m 56 ls [])) (q112 : ∀ (i3 : Int32) (M : Mem) (H : Heap) (locs : List Loc) (ls : Array Slot), rc 112 [i3] [] M = some (r, M') → va_P z.1 vwCl (pw (yd z b) 32 b M) H → va_S (pA 32 b) s.heap H locs → lv_has ls 4 [(0, .ref (b + 0)), (3, .int i3)] → W p l e rm12_map s m args below meth c H locs 0 0 (MQ below (va_Qi (fun (r' : Int32) (M2 : Mem) => r' = r ∧ M2 = M') (fun M2 t => va_P z.1 vwCl (pw (yd z b) 32 b M2) t.heap) (pA 32 b)) args s 0 0 (pA 32 b)) (F0 m 112 ls [])) {a1 : Int32} {M : Mem} {H : Heap} {locs : List Loc} {ls : Array Slot} (hf : b12_map_0  rc n a1 M = some (r, M')) (hP : va_P z.1 vwCl (pw (yd z b) 32 b M) H) (hS : va_S (pA 32 b) s.heap H locs) (hl : lv_has ls 4 [(0, .ref (b + 0)), (1, .int a1)]) : W p l e rm12_map s m args below meth c H locs 0 0 (MQ below (va_Qi (fun (r' : Int32) (M2 : Mem) => r' = r ∧ M2 = M') (fun M2 t => va_P z.1 vwCl (pw (yd z b) 32 b M2) t.heap) (pA 32 b)) args s 0 0 (pA 32 b)) (F0 m 0 ls []) := by
  have hx := C.1.1
  have hb := C.1.2.1
  unfold b12_map_0 at hf
  refine lv_iload_n hx hb dX12_map_0 rfl (lv_at hl 1 rfl) ?_
  refine lv_iconst (v := (1 : Int32)) hx hb dX12_map_1 (by decide) ?_
  refine lv_bipush (v := (110 : Int32)) hx hb dX12_map_2 (by decide) ?_
  obtain ⟨r1, M2, h3, hf⟩ := bnd_s hf
  refine pcSi (As := [.int a1, .int (1 : Int32), .int (110 : Int32)]) C hP hS (c12_in  h3) y12_in_w g_1306 rfl rfl rfl ⟨Nat.le_of_ble_eq_true rfl, Nat.le_of_ble_eq_true rfl⟩ hl.1 rfl (Nat.le_of_ble_eq_true rfl) dX12_map_4 ⟨Nat.le_of_ble_eq_true rfl, Nat.le_of_ble_eq_true rfl⟩ (fun H locs hP hS => ?_)
  refine lv_if_eq (tgt := 18) hx hb dX12_map_7 (by decide) (fun c4 => ?_) (fun c4 => ?_)
  · replace hf := ite_t c4 hf
    exact w12_map_18 (n := n)  C hr hk q32 q56 q112 hf hP hS (lv_sub hl [] rfl)
  · replace hf := ite_f c4 hf
    refine lv_iload_n hx hb dX12_map_10 rfl (lv_at hl 1 rfl) ?_
    refine lv_aload_n hx hb dX12_map_11 rfl (lv_at hl 0 rfl) ?_
    refine pg C hP (k := 0) (j := 11) (Nat.le_of_ble_eq_true rfl) (yd_0 _ _) rfl iw_12 (Nat.le_of_ble_eq_true rfl) g_1146 rfl rfl dX12_map_12 ?_
    refine lv_icmp_le (tgt := 20) hx hb dX12_map_15 (by decide) (fun c5 => ?_) (fun c5 => ?_)
    · replace hf := ite_t c5 hf
      refine lv_aload_n hx hb dX12_map_20 rfl (lv_at hl 0 rfl) ?_
      refine lv_iload_n hx hb dX12_map_21 rfl (lv_at hl 1 rfl) ?_
      obtain ⟨r6, M7, h8, hf⟩ := bnd_s hf
      refine pcVv (As := [.int a1]) C hP hS (k := 0) (Nat.le_of_ble_eq_true rfl) (yd_0 _ _) rfl (c12_beginsText  h8) y12_beginsText_w g_1325 rfl rfl rfl ⟨Nat.le_of_ble_eq_true rfl, Nat.le_of_ble_eq_true rfl⟩ hl.1 rfl (Nat.le_of_ble_eq_true rfl) dX12_map_22 ⟨Nat.le_of_ble_eq_true rfl, Nat.le_of_ble_eq_true rfl⟩ (fun H locs hP hS => ?_)
      refine lv_aload_n hx hb dX12_map_25 rfl (lv_at hl 0 rfl) ?_
      refine lv_iconst (v := (0 : Int32)) hx hb dX12_map_26 (by decide) ?_
      refine ppI C hP hS (k := 0) (j := 35) (ty := .int) (Nat.le_of_ble_eq_true rfl) (yd_0 _ _) rfl iw_12 tyX12 tyX12_ok nmX12 (Nat.le_of_ble_eq_true rfl) g_1170 rfl rfl (by decide +kernel) rfl rfl (Nat.le_of_ble_eq_true rfl) (yu_0_35 _ _ _) dX12_map_27 (fun M9 H locs eM9 hP hS => ?_)
      replace hf := lt_c eM9 hf
      refine lv_iconst (v := (0 : Int32)) hx hb dX12_map_30 (by decide) ?_
      refine lv_istore_n (lv' := [(2, .int (0 : Int32)), (0, .ref (b + 0)), (1, .int a1)]) hx hb dX12_map_31 rfl hl (by decide) rfl (fun ls hl => ?_)
      exact w12_map_32 (n := n)  C hr hk q32 q56 q112 hf hP hS (lv_sub hl [1, 0] rfl)
    · replace hf := ite_f c5 hf
      exact w12_map_18 (n := n)  C hr hk q32 q56 q112 hf hP hS (lv_sub hl [] rfl)
set_option maxHeartbeats 4000000 in
set_option maxRecDepth 100000 in
theorem l12_map {p : Program} {l : Launch} {e : Env} {s : State} {m : MethodId} {args : Array Value} {below : List Frame} {meth : Method} {c : Code} {z : Zt} {b : Nat}  (C : Cx p s m args c cX12_map 4 RX12 z 32 b) (hr : meth.sig.returnType = (some .int)) (hk : meth.locks = false) {r : Int32} {M' : Mem} (n : Nat) : (∀ (i2 : Int32) (M : Mem) (H : Heap) (locs : List Loc) (ls : Array Slot), (r12_map  n) 32 [i2] [] M = some (r, M') → va_P z.1 vwCl (pw (yd z b) 32 b M) H → va_S (pA 32 b) s.heap H locs → lv_has ls 4 [(0, .ref (b + 0)), (2, .int i2)] → W p l e rm12_map s m args below meth c H locs 0 0 (MQ below (va_Qi (fun (r' : Int32) (M2 : Mem) => r' = r ∧ M2 = M') (fun M2 t => va_P z.1 vwCl (pw (yd z b) 32 b M2) t.heap) (pA 32 b)) args s 0 0 (pA 32 b)) (F0 m 32 ls [])) ∧ (∀ (i2 : Int32) (M : Mem) (H : Heap) (locs : List Loc) (ls : Array Slot), (r12_map  n) 56 [i2] [] M = some (r, M') → va_P z.1 vwCl (pw (yd z b) 32 b M) H → va_S (pA 32 b) s.heap H locs → lv_has ls 4 [(0, .ref (b + 0)), (2, .int i2)] → W p l e rm12_map s m args below meth c H locs 0 0 (MQ below (va_Qi (fun (r' : Int32) (M2 : Mem) => r' = r ∧ M2 = M') (fun M2 t => va_P z.1 vwCl (pw (yd z b) 32 b M2) t.heap) (pA 32 b)) args s 0 0 (pA 32 b)) (F0 m 56 ls [])) ∧ (∀ (i3 : Int32) (M : Mem) (H : Heap) (locs : List Loc) (ls : Array Slot), (r12_map  n) 112 [i3] [] M = some (r, M') → va_P z.1 vwCl (pw (yd z b) 32 b M) H → va_S (pA 32 b) s.heap H locs → lv_has ls 4 [(0, .ref (b + 0)), (3, .int i3)] → W p l e rm12_map s m args below meth c H locs 0 0 (MQ below (va_Qi (fun (r' : Int32) (M2 : Mem) => r' = r ∧ M2 = M') (fun M2 t => va_P z.1 vwCl (pw (yd z b) 32 b M2) t.heap) (pA 32 b)) args s 0 0 (pA 32 b)) (F0 m 112 ls [])) := by
  induction n with
  | zero => exact ⟨fun _ _ _ _ _ hf => (by cases hf), fun _ _ _ _ _ hf => (by cases hf), fun _ _ _ _ _ hf => (by cases hf)⟩
  | succ n ih => exact ⟨fun _ _ _ _ _ hf hP hS hl => w12_map_32 (n := n)  C hr hk ih.1 ih.2.1 ih.2.2 ((e12_map_32  n _ _).symm.trans hf) hP hS hl, fun _ _ _ _ _ hf hP hS hl => w12_map_56 (n := n)  C hr hk ih.1 ih.2.1 ih.2.2 ((e12_map_56  n _ _).symm.trans hf) hP hS hl, fun _ _ _ _ _ hf hP hS hl => w12_map_112 (n := n)  C hr hk ih.1 ih.2.1 ih.2.2 ((e12_map_112  n _ _).symm.trans hf) hP hS hl⟩
theorem c12_map {l : Launch} {z : Zt} {b n : Nat}  {a1 : Int32} {M M' : Mem} {r : Int32} (hf : f12_map n  a1 M = some (r, M')) : CI l z (yd z b) 32 b yX12_map cX12_map 4 (some .int) rm12_map [.ref (b + 0), .int a1] M M' r :=
  CI.ofW (lv := [(0, .ref (b + 0)), (1, .int a1)]) (by decide) (Nat.le_of_ble_eq_true rfl) rfl (fun p e s m args below meth c ls C hr hk hP hS hl => w12_map_0 (n := n)  C hr hk (l12_map  C hr hk n).1 (l12_map  C hr hk n).2.1 (l12_map  C hr hk n).2.2 hf hP hS hl)

-- BronzeKingModel.readsHour()Z
theorem dX12_readsHour_0 : decode cX12_readsHour 0 = .ok (.aload_n 0, 1) := by decide +kernel
theorem dX12_readsHour_1 : decode cX12_readsHour 1 = .ok (.getfield 143, 3) := by decide +kernel
theorem dX12_readsHour_4 : decode cX12_readsHour 4 = .ok (.istore_n 1, 1) := by decide +kernel
theorem dX12_readsHour_5 : decode cX12_readsHour 5 = .ok (.aload_n 0, 1) := by decide +kernel
theorem dX12_readsHour_6 : decode cX12_readsHour 6 = .ok (.invokevirtual 162, 3) := by decide +kernel
theorem dX12_readsHour_9 : decode cX12_readsHour 9 = .ok (.ifCond .ne 13, 3) := by decide +kernel
theorem dX12_readsHour_12 : decode cX12_readsHour 12 = .ok (.aload_n 0, 1) := by decide +kernel
theorem dX12_readsHour_13 : decode cX12_readsHour 13 = .ok (.iconst 1, 1) := by decide +kernel
theorem dX12_readsHour_14 : decode cX12_readsHour 14 = .ok (.aload_n 0, 1) := by decide +kernel
theorem dX12_readsHour_15 : decode cX12_readsHour 15 = .ok (.getfield 143, 3) := by decide +kernel
theorem dX12_readsHour_18 : decode cX12_readsHour 18 = .ok (.invokevirtual 156, 3) := by decide +kernel
theorem dX12_readsHour_21 : decode cX12_readsHour 21 = .ok (.ireturn, 1) := by decide +kernel
theorem dX12_readsHour_22 : decode cX12_readsHour 22 = .ok (.aload_n 0, 1) := by decide +kernel
theorem dX12_readsHour_23 : decode cX12_readsHour 23 = .ok (.iconst 0, 1) := by decide +kernel
theorem dX12_readsHour_24 : decode cX12_readsHour 24 = .ok (.putfield 159, 3) := by decide +kernel
theorem dX12_readsHour_27 : decode cX12_readsHour 27 = .ok (.aload_n 0, 1) := by decide +kernel
theorem dX12_readsHour_28 : decode cX12_readsHour 28 = .ok (.invokevirtual 162, 3) := by decide +kernel
theorem dX12_readsHour_31 : decode cX12_readsHour 31 = .ok (.ifCond .eq 55, 3) := by decide +kernel
theorem dX12_readsHour_34 : decode cX12_readsHour 34 = .ok (.aload_n 0, 1) := by decide +kernel
theorem dX12_readsHour_35 : decode cX12_readsHour 35 = .ok (.getfield 143, 3) := by decide +kernel
theorem dX12_readsHour_38 : decode cX12_readsHour 38 = .ok (.iload_n 1, 1) := by decide +kernel
theorem dX12_readsHour_39 : decode cX12_readsHour 39 = .ok (.iconst 2, 1) := by decide +kernel
theorem dX12_readsHour_40 : decode cX12_readsHour 40 = .ok (.iadd, 1) := by decide +kernel
theorem dX12_readsHour_41 : decode cX12_readsHour 41 = .ok (.if_icmp .ne 13, 3) := by decide +kernel
theorem dX12_readsHour_44 : decode cX12_readsHour 44 = .ok (.aload_n 0, 1) := by decide +kernel
theorem dX12_readsHour_45 : decode cX12_readsHour 45 = .ok (.iconst 2, 1) := by decide +kernel
theorem dX12_readsHour_46 : decode cX12_readsHour 46 = .ok (.aload_n 0, 1) := by decide +kernel
theorem dX12_readsHour_47 : decode cX12_readsHour 47 = .ok (.getfield 143, 3) := by decide +kernel
theorem dX12_readsHour_50 : decode cX12_readsHour 50 = .ok (.invokevirtual 156, 3) := by decide +kernel
theorem dX12_readsHour_53 : decode cX12_readsHour 53 = .ok (.ireturn, 1) := by decide +kernel
theorem dX12_readsHour_54 : decode cX12_readsHour 54 = .ok (.aload_n 0, 1) := by decide +kernel
theorem dX12_readsHour_55 : decode cX12_readsHour 55 = .ok (.bipush 10, 2) := by decide +kernel
theorem dX12_readsHour_57 : decode cX12_readsHour 57 = .ok (.aload_n 0, 1) := by decide +kernel
theorem dX12_readsHour_58 : decode cX12_readsHour 58 = .ok (.getfield 159, 3) := by decide +kernel
theorem dX12_readsHour_61 : decode cX12_readsHour 61 = .ok (.imul, 1) := by decide +kernel
theorem dX12_readsHour_62 : decode cX12_readsHour 62 = .ok (.aload_n 0, 1) := by decide +kernel
theorem dX12_readsHour_63 : decode cX12_readsHour 63 = .ok (.invokevirtual 149, 3) := by decide +kernel
theorem dX12_readsHour_66 : decode cX12_readsHour 66 = .ok (.iadd, 1) := by decide +kernel
theorem dX12_readsHour_67 : decode cX12_readsHour 67 = .ok (.bipush 48, 2) := by decide +kernel
theorem dX12_readsHour_69 : decode cX12_readsHour 69 = .ok (.isub, 1) := by decide +kernel
theorem dX12_readsHour_70 : decode cX12_readsHour 70 = .ok (.putfield 159, 3) := by decide +kernel
theorem dX12_readsHour_73 : decode cX12_readsHour 73 = .ok (.aload_n 0, 1) := by decide +kernel
theorem dX12_readsHour_74 : decode cX12_readsHour 74 = .ok (.aload_n 0, 1) := by decide +kernel
theorem dX12_readsHour_75 : decode cX12_readsHour 75 = .ok (.getfield 143, 3) := by decide +kernel
theorem dX12_readsHour_78 : decode cX12_readsHour 78 = .ok (.iconst 1, 1) := by decide +kernel
theorem dX12_readsHour_79 : decode cX12_readsHour 79 = .ok (.iadd, 1) := by decide +kernel
theorem dX12_readsHour_80 : decode cX12_readsHour 80 = .ok (.putfield 143, 3) := by decide +kernel
theorem dX12_readsHour_83 : decode cX12_readsHour 83 = .ok (.goto (-56), 3) := by decide +kernel
theorem dX12_readsHour_86 : decode cX12_readsHour 86 = .ok (.aload_n 0, 1) := by decide +kernel
theorem dX12_readsHour_87 : decode cX12_readsHour 87 = .ok (.getfield 159, 3) := by decide +kernel
theorem dX12_readsHour_90 : decode cX12_readsHour 90 = .ok (.bipush 24, 2) := by decide +kernel
theorem dX12_readsHour_92 : decode cX12_readsHour 92 = .ok (.if_icmp .lt 12, 3) := by decide +kernel
theorem dX12_readsHour_95 : decode cX12_readsHour 95 = .ok (.aload_n 0, 1) := by decide +kernel
theorem dX12_readsHour_96 : decode cX12_readsHour 96 = .ok (.iconst 3, 1) := by decide +kernel
theorem dX12_readsHour_97 : decode cX12_readsHour 97 = .ok (.iload_n 1, 1) := by decide +kernel
theorem dX12_readsHour_98 : decode cX12_readsHour 98 = .ok (.invokevirtual 156, 3) := by decide +kernel
theorem dX12_readsHour_101 : decode cX12_readsHour 101 = .ok (.ifCond .eq 7, 3) := by decide +kernel
theorem dX12_readsHour_104 : decode cX12_readsHour 104 = .ok (.iconst 1, 1) := by decide +kernel
theorem dX12_readsHour_105 : decode cX12_readsHour 105 = .ok (.goto 4, 3) := by decide +kernel
theorem dX12_readsHour_108 : decode cX12_readsHour 108 = .ok (.iconst 0, 1) := by decide +kernel
theorem dX12_readsHour_109 : decode cX12_readsHour 109 = .ok (.ireturn, 1) := by decide +kernel
def b12_readsHour_104 (rc : Nat → List Int32 → List Int64 → Mem → Option (Int32 × Mem)) (n : Nat) (M : Mem) : Option (Int32 × Mem) :=
  some ((1 : Int32), M)
def b12_readsHour_27 (rc : Nat → List Int32 → List Int64 → Mem → Option (Int32 × Mem)) (n : Nat) (i1 : Int32) (M : Mem) : Option (Int32 × Mem) :=
  bnd (f12_isDigit n M) fun r11 M12 =>
  (if r11 = 0 then (
   (if (M12.1 0 15) < (24 : Int32) then (
    b12_readsHour_104  rc n  M12)
   else (
    bnd (f12_wrongAt n (3 : Int32) i1 M12) fun r16 M17 =>
    (if r16 = 0 then (
     some ((0 : Int32), M17))
    else (
     b12_readsHour_104  rc n  M17)))))
  else (
   (if (M12.1 0 12) = (i1 + (2 : Int32)) then (
    bnd (f12_wrongAt n (2 : Int32) (M12.1 0 12) M12) fun r26 M27 =>
    chk (isb r26) <|
    some (r26, M27))
   else (
    bnd (f12_here n M12) fun r21 M22 =>
    lt (wI M22 0 15 ((((10 : Int32) * (M12.1 0 15)) + r21) - (48 : Int32))) fun M24 =>
    lt (wI M24 0 12 ((M24.1 0 12) + (1 : Int32))) fun M25 =>
    rc 27 [i1] [] M25))))
def b12_readsHour_0 (rc : Nat → List Int32 → List Int64 → Mem → Option (Int32 × Mem)) (n : Nat) (M : Mem) : Option (Int32 × Mem) :=
  lt (M.1 0 12) fun v1 =>
  bnd (f12_isDigit n M) fun r2 M3 =>
  (if r2 = 0 then (
   bnd (f12_wrongAt n (1 : Int32) (M3.1 0 12) M3) fun r7 M8 =>
   chk (isb r7) <|
   some (r7, M8))
  else (
   lt (wI M3 0 15 (0 : Int32)) fun M6 =>
   b12_readsHour_27  rc n v1 M6))
def r12_readsHour : Nat → Nat → List Int32 → List Int64 → Mem → Option (Int32 × Mem)
  | 0 => fun _ _ _ _ => none
  | n + 1 => fun pc li lj M =>
    if pc = 27 then (match li, lj with | [i1], [] => b12_readsHour_27  (r12_readsHour  n) n i1 M | _, _ => none) else
    none
theorem e12_readsHour_27  (n : Nat) (i1 : Int32) (M : Mem) : r12_readsHour  (n + 1) 27 [i1] [] M = b12_readsHour_27  (r12_readsHour  n) n i1 M := by
  rw [r12_readsHour]
  simp
def f12_readsHour (n : Nat)  (M : Mem) : Option (Int32 × Mem) := b12_readsHour_0 (r12_readsHour n) n M
abbrev rm12_readsHour : Room := { frames := 2, cells := 0, slots := 0, locals := 40 }
theorem y12_readsHour_w : yV RX12 yX12_readsHour cX12_readsHour 2 (some .boolean) 0 := ⟨g_1433, gp 59 rfl rfl, g_14, g_1434, rfl, by decide, by decide, by decide +kernel⟩
set_option maxHeartbeats 4000000 in
set_option maxRecDepth 100000 in
theorem w12_readsHour_104 {p : Program} {l : Launch} {e : Env} {s : State} {m : MethodId} {args : Array Value} {below : List Frame} {meth : Method} {c : Code} {z : Zt} {b : Nat}  (C : Cx p s m args c cX12_readsHour 2 RX12 z 32 b) (hr : meth.sig.returnType = (some .boolean)) (hk : meth.locks = false) {r : Int32} {M' : Mem} {rc : Nat → List Int32 → List Int64 → Mem → Option (Int32 × Mem)} {n : Nat} (q27 : ∀ (i1 : Int32) (M : Mem) (H : Heap) (locs : List Loc) (ls : Array Slot), rc 27 [i1] [] M = some (r, M') → va_P z.1 vwCl (pw (yd z b) 32 b M) H → va_S (pA 32 b) s.heap H locs → lv_has ls 2 [(0, .ref (b + 0)), (1, .int i1)] → W p l e rm12_readsHour s m args below meth c H locs 0 0 (MQ below (va_Qi (fun (r' : Int32) (M2 : Mem) => r' = r ∧ M2 = M') (fun M2 t => va_P z.1 vwCl (pw (yd z b) 32 b M2) t.heap) (pA 32 b)) args s 0 0 (pA 32 b)) (F0 m 27 ls []))  {M : Mem} {H : Heap} {locs : List Loc} {ls : Array Slot} (hf : b12_readsHour_104  rc n  M = some (r, M')) (hP : va_P z.1 vwCl (pw (yd z b) 32 b M) H) (hS : va_S (pA 32 b) s.heap H locs) (hl : lv_has ls 2 []) : W p l e rm12_readsHour s m args below meth c H locs 0 0 (MQ below (va_Qi (fun (r' : Int32) (M2 : Mem) => r' = r ∧ M2 = M') (fun M2 t => va_P z.1 vwCl (pw (yd z b) 32 b M2) t.heap) (pA 32 b)) args s 0 0 (pA 32 b)) (F0 m 104 ls []) := by
  have hx := C.1.1
  have hb := C.1.2.1
  unfold b12_readsHour_104 at hf
  refine lv_iconst (v := (1 : Int32)) hx hb dX12_readsHour_104 (by decide) ?_
  refine lv_goto (tgt := 109) hx hb dX12_readsHour_105 (by decide) ?_
  exact prZ C hr hk hP hS hf rfl dX12_readsHour_109
set_option maxHeartbeats 4000000 in
set_option maxRecDepth 100000 in
theorem w12_readsHour_27 {p : Program} {l : Launch} {e : Env} {s : State} {m : MethodId} {args : Array Value} {below : List Frame} {meth : Method} {c : Code} {z : Zt} {b : Nat}  (C : Cx p s m args c cX12_readsHour 2 RX12 z 32 b) (hr : meth.sig.returnType = (some .boolean)) (hk : meth.locks = false) {r : Int32} {M' : Mem} {rc : Nat → List Int32 → List Int64 → Mem → Option (Int32 × Mem)} {n : Nat} (q27 : ∀ (i1 : Int32) (M : Mem) (H : Heap) (locs : List Loc) (ls : Array Slot), rc 27 [i1] [] M = some (r, M') → va_P z.1 vwCl (pw (yd z b) 32 b M) H → va_S (pA 32 b) s.heap H locs → lv_has ls 2 [(0, .ref (b + 0)), (1, .int i1)] → W p l e rm12_readsHour s m args below meth c H locs 0 0 (MQ below (va_Qi (fun (r' : Int32) (M2 : Mem) => r' = r ∧ M2 = M') (fun M2 t => va_P z.1 vwCl (pw (yd z b) 32 b M2) t.heap) (pA 32 b)) args s 0 0 (pA 32 b)) (F0 m 27 ls [])) {i1 : Int32} {M : Mem} {H : Heap} {locs : List Loc} {ls : Array Slot} (hf : b12_readsHour_27  rc n i1 M = some (r, M')) (hP : va_P z.1 vwCl (pw (yd z b) 32 b M) H) (hS : va_S (pA 32 b) s.heap H locs) (hl : lv_has ls 2 [(0, .ref (b + 0)), (1, .int i1)]) : W p l e rm12_readsHour s m args below meth c H locs 0 0 (MQ below (va_Qi (fun (r' : Int32) (M2 : Mem) => r' = r ∧ M2 = M') (fun M2 t => va_P z.1 vwCl (pw (yd z b) 32 b M2) t.heap) (pA 32 b)) args s 0 0 (pA 32 b)) (F0 m 27 ls []) := by
  have hx := C.1.1
  have hb := C.1.2.1
  unfold b12_readsHour_27 at hf
  refine lv_aload_n hx hb dX12_readsHour_27 rfl (lv_at hl 0 rfl) ?_
  obtain ⟨r11, M12, h13, hf⟩ := bnd_s hf
  refine pcVi (As := []) C hP hS (k := 0) (Nat.le_of_ble_eq_true rfl) (yd_0 _ _) rfl (c12_isDigit  h13) y12_isDigit_w g_1354 rfl rfl rfl ⟨Nat.le_of_ble_eq_true rfl, Nat.le_of_ble_eq_true rfl⟩ hl.1 rfl (Nat.le_of_ble_eq_true rfl) dX12_readsHour_28 ⟨Nat.le_of_ble_eq_true rfl, Nat.le_of_ble_eq_true rfl⟩ (fun H locs hP hS => ?_)
  refine lv_if_eq (tgt := 86) hx hb dX12_readsHour_31 (by decide) (fun c14 => ?_) (fun c14 => ?_)
  · replace hf := ite_t c14 hf
    refine lv_aload_n hx hb dX12_readsHour_86 rfl (lv_at hl 0 rfl) ?_
    refine pg C hP (k := 0) (j := 15) (Nat.le_of_ble_eq_true rfl) (yd_0 _ _) rfl iw_12 (Nat.le_of_ble_eq_true rfl) g_1150 rfl rfl dX12_readsHour_87 ?_
    refine lv_bipush (v := (24 : Int32)) hx hb dX12_readsHour_90 (by decide) ?_
    refine lv_icmp_lt (tgt := 104) hx hb dX12_readsHour_92 (by decide) (fun c15 => ?_) (fun c15 => ?_)
    · replace hf := ite_t c15 hf
      exact w12_readsHour_104 (n := n)  C hr hk q27 hf hP hS (lv_sub hl [] rfl)
    · replace hf := ite_f c15 hf
      refine lv_aload_n hx hb dX12_readsHour_95 rfl (lv_at hl 0 rfl) ?_
      refine lv_iconst (v := (3 : Int32)) hx hb dX12_readsHour_96 (by decide) ?_
      refine lv_iload_n hx hb dX12_readsHour_97 rfl (lv_at hl 1 rfl) ?_
      obtain ⟨r16, M17, h18, hf⟩ := bnd_s hf
      refine pcVi (As := [.int (3 : Int32), .int i1]) C hP hS (k := 0) (Nat.le_of_ble_eq_true rfl) (yd_0 _ _) rfl (c12_wrongAt  h18) y12_wrongAt_w g_1337 rfl rfl rfl ⟨Nat.le_of_ble_eq_true rfl, Nat.le_of_ble_eq_true rfl⟩ hl.1 rfl (Nat.le_of_ble_eq_true rfl) dX12_readsHour_98 ⟨Nat.le_of_ble_eq_true rfl, Nat.le_of_ble_eq_true rfl⟩ (fun H locs hP hS => ?_)
      refine lv_if_eq (tgt := 108) hx hb dX12_readsHour_101 (by decide) (fun c19 => ?_) (fun c19 => ?_)
      · replace hf := ite_t c19 hf
        refine lv_iconst (v := (0 : Int32)) hx hb dX12_readsHour_108 (by decide) ?_
        exact prZ C hr hk hP hS hf rfl dX12_readsHour_109
      · replace hf := ite_f c19 hf
        exact w12_readsHour_104 (n := n)  C hr hk q27 hf hP hS (lv_sub hl [] rfl)
  · replace hf := ite_f c14 hf
    refine lv_aload_n hx hb dX12_readsHour_34 rfl (lv_at hl 0 rfl) ?_
    refine pg C hP (k := 0) (j := 12) (Nat.le_of_ble_eq_true rfl) (yd_0 _ _) rfl iw_12 (Nat.le_of_ble_eq_true rfl) g_1147 rfl rfl dX12_readsHour_35 ?_
    refine lv_iload_n hx hb dX12_readsHour_38 rfl (lv_at hl 1 rfl) ?_
    refine lv_iconst (v := (2 : Int32)) hx hb dX12_readsHour_39 (by decide) ?_
    refine lv_iadd hx hb dX12_readsHour_40 ?_
    refine lv_icmp_ne (tgt := 54) hx hb dX12_readsHour_41 (by decide) (fun c20 => ?_) (fun c20 => ?_)
    · replace hf := ite_f c20 hf
      refine lv_aload_n hx hb dX12_readsHour_54 rfl (lv_at hl 0 rfl) ?_
      refine lv_bipush (v := (10 : Int32)) hx hb dX12_readsHour_55 (by decide) ?_
      refine lv_aload_n hx hb dX12_readsHour_57 rfl (lv_at hl 0 rfl) ?_
      refine pg C hP (k := 0) (j := 15) (Nat.le_of_ble_eq_true rfl) (yd_0 _ _) rfl iw_12 (Nat.le_of_ble_eq_true rfl) g_1150 rfl rfl dX12_readsHour_58 ?_
      refine lv_imul hx hb dX12_readsHour_61 ?_
      refine lv_aload_n hx hb dX12_readsHour_62 rfl (lv_at hl 0 rfl) ?_
      obtain ⟨r21, M22, h23, hf⟩ := bnd_s hf
      refine pcVi (As := []) C hP hS (k := 0) (Nat.le_of_ble_eq_true rfl) (yd_0 _ _) rfl (c12_here  h23) y12_here_w g_1333 rfl rfl rfl ⟨Nat.le_of_ble_eq_true rfl, Nat.le_of_ble_eq_true rfl⟩ hl.1 rfl (Nat.le_of_ble_eq_true rfl) dX12_readsHour_63 ⟨Nat.le_of_ble_eq_true rfl, Nat.le_of_ble_eq_true rfl⟩ (fun H locs hP hS => ?_)
      refine lv_iadd hx hb dX12_readsHour_66 ?_
      refine lv_bipush (v := (48 : Int32)) hx hb dX12_readsHour_67 (by decide) ?_
      refine lv_isub hx hb dX12_readsHour_69 ?_
      refine ppI C hP hS (k := 0) (j := 15) (ty := .int) (Nat.le_of_ble_eq_true rfl) (yd_0 _ _) rfl iw_12 tyX12 tyX12_ok nmX12 (Nat.le_of_ble_eq_true rfl) g_1150 rfl rfl (by decide +kernel) rfl rfl (Nat.le_of_ble_eq_true rfl) (yu_0_15 _ _ _) dX12_readsHour_70 (fun M24 H locs eM24 hP hS => ?_)
      replace hf := lt_c eM24 hf
      refine lv_aload_n hx hb dX12_readsHour_73 rfl (lv_at hl 0 rfl) ?_
      refine lv_aload_n hx hb dX12_readsHour_74 rfl (lv_at hl 0 rfl) ?_
      refine pg C hP (k := 0) (j := 12) (Nat.le_of_ble_eq_true rfl) (yd_0 _ _) rfl iw_12 (Nat.le_of_ble_eq_true rfl) g_1147 rfl rfl dX12_readsHour_75 ?_
      refine lv_iconst (v := (1 : Int32)) hx hb dX12_readsHour_78 (by decide) ?_
      refine lv_iadd hx hb dX12_readsHour_79 ?_
      refine ppI C hP hS (k := 0) (j := 12) (ty := .int) (Nat.le_of_ble_eq_true rfl) (yd_0 _ _) rfl iw_12 tyX12 tyX12_ok nmX12 (Nat.le_of_ble_eq_true rfl) g_1147 rfl rfl (by decide +kernel) rfl rfl (Nat.le_of_ble_eq_true rfl) (yu_0_12 _ _ _) dX12_readsHour_80 (fun M25 H locs eM25 hP hS => ?_)
      replace hf := lt_c eM25 hf
      refine lv_goto (tgt := 27) hx hb dX12_readsHour_83 (by decide) ?_
      exact q27 i1 M25 _ _ _ hf hP hS (lv_sub hl [0, 1] rfl)
    · replace hf := ite_t c20 hf
      refine lv_aload_n hx hb dX12_readsHour_44 rfl (lv_at hl 0 rfl) ?_
      refine lv_iconst (v := (2 : Int32)) hx hb dX12_readsHour_45 (by decide) ?_
      refine lv_aload_n hx hb dX12_readsHour_46 rfl (lv_at hl 0 rfl) ?_
      refine pg C hP (k := 0) (j := 12) (Nat.le_of_ble_eq_true rfl) (yd_0 _ _) rfl iw_12 (Nat.le_of_ble_eq_true rfl) g_1147 rfl rfl dX12_readsHour_47 ?_
      obtain ⟨r26, M27, h28, hf⟩ := bnd_s hf
      refine pcVi (As := [.int (2 : Int32), .int (M12.1 0 12)]) C hP hS (k := 0) (Nat.le_of_ble_eq_true rfl) (yd_0 _ _) rfl (c12_wrongAt  h28) y12_wrongAt_w g_1337 rfl rfl rfl ⟨Nat.le_of_ble_eq_true rfl, Nat.le_of_ble_eq_true rfl⟩ hl.1 rfl (Nat.le_of_ble_eq_true rfl) dX12_readsHour_50 ⟨Nat.le_of_ble_eq_true rfl, Nat.le_of_ble_eq_true rfl⟩ (fun H locs hP hS => ?_)
      have h29 := chk_1 hf
      replace hf := chk_2 hf
      exact prZ C hr hk hP hS hf (isb_n h29) dX12_readsHour_53
set_option maxHeartbeats 4000000 in
set_option maxRecDepth 100000 in
theorem w12_readsHour_0 {p : Program} {l : Launch} {e : Env} {s : State} {m : MethodId} {args : Array Value} {below : List Frame} {meth : Method} {c : Code} {z : Zt} {b : Nat}  (C : Cx p s m args c cX12_readsHour 2 RX12 z 32 b) (hr : meth.sig.returnType = (some .boolean)) (hk : meth.locks = false) {r : Int32} {M' : Mem} {rc : Nat → List Int32 → List Int64 → Mem → Option (Int32 × Mem)} {n : Nat} (q27 : ∀ (i1 : Int32) (M : Mem) (H : Heap) (locs : List Loc) (ls : Array Slot), rc 27 [i1] [] M = some (r, M') → va_P z.1 vwCl (pw (yd z b) 32 b M) H → va_S (pA 32 b) s.heap H locs → lv_has ls 2 [(0, .ref (b + 0)), (1, .int i1)] → W p l e rm12_readsHour s m args below meth c H locs 0 0 (MQ below (va_Qi (fun (r' : Int32) (M2 : Mem) => r' = r ∧ M2 = M') (fun M2 t => va_P z.1 vwCl (pw (yd z b) 32 b M2) t.heap) (pA 32 b)) args s 0 0 (pA 32 b)) (F0 m 27 ls []))  {M : Mem} {H : Heap} {locs : List Loc} {ls : Array Slot} (hf : b12_readsHour_0  rc n  M = some (r, M')) (hP : va_P z.1 vwCl (pw (yd z b) 32 b M) H) (hS : va_S (pA 32 b) s.heap H locs) (hl : lv_has ls 2 [(0, .ref (b + 0))]) : W p l e rm12_readsHour s m args below meth c H locs 0 0 (MQ below (va_Qi (fun (r' : Int32) (M2 : Mem) => r' = r ∧ M2 = M') (fun M2 t => va_P z.1 vwCl (pw (yd z b) 32 b M2) t.heap) (pA 32 b)) args s 0 0 (pA 32 b)) (F0 m 0 ls []) := by
  have hx := C.1.1
  have hb := C.1.2.1
  unfold b12_readsHour_0 at hf
  refine lv_aload_n hx hb dX12_readsHour_0 rfl (lv_at hl 0 rfl) ?_
  refine pg C hP (k := 0) (j := 12) (Nat.le_of_ble_eq_true rfl) (yd_0 _ _) rfl iw_12 (Nat.le_of_ble_eq_true rfl) g_1147 rfl rfl dX12_readsHour_1 ?_
  refine lv_topi (fun v1 ev1 => ?_)
  replace hf := lt_c ev1 hf
  refine lv_istore_n (lv' := [(1, .int v1), (0, .ref (b + 0))]) hx hb dX12_readsHour_4 rfl hl (by decide) rfl (fun ls hl => ?_)
  refine lv_aload_n hx hb dX12_readsHour_5 rfl (lv_at hl 1 rfl) ?_
  obtain ⟨r2, M3, h4, hf⟩ := bnd_s hf
  refine pcVi (As := []) C hP hS (k := 0) (Nat.le_of_ble_eq_true rfl) (yd_0 _ _) rfl (c12_isDigit  h4) y12_isDigit_w g_1354 rfl rfl rfl ⟨Nat.le_of_ble_eq_true rfl, Nat.le_of_ble_eq_true rfl⟩ hl.1 rfl (Nat.le_of_ble_eq_true rfl) dX12_readsHour_6 ⟨Nat.le_of_ble_eq_true rfl, Nat.le_of_ble_eq_true rfl⟩ (fun H locs hP hS => ?_)
  refine lv_if_ne (tgt := 22) hx hb dX12_readsHour_9 (by decide) (fun c5 => ?_) (fun c5 => ?_)
  · replace hf := ite_f c5 hf
    refine lv_aload_n hx hb dX12_readsHour_22 rfl (lv_at hl 1 rfl) ?_
    refine lv_iconst (v := (0 : Int32)) hx hb dX12_readsHour_23 (by decide) ?_
    refine ppI C hP hS (k := 0) (j := 15) (ty := .int) (Nat.le_of_ble_eq_true rfl) (yd_0 _ _) rfl iw_12 tyX12 tyX12_ok nmX12 (Nat.le_of_ble_eq_true rfl) g_1150 rfl rfl (by decide +kernel) rfl rfl (Nat.le_of_ble_eq_true rfl) (yu_0_15 _ _ _) dX12_readsHour_24 (fun M6 H locs eM6 hP hS => ?_)
    replace hf := lt_c eM6 hf
    exact w12_readsHour_27 (n := n)  C hr hk q27 hf hP hS (lv_sub hl [1, 0] rfl)
  · replace hf := ite_t c5 hf
    refine lv_aload_n hx hb dX12_readsHour_12 rfl (lv_at hl 1 rfl) ?_
    refine lv_iconst (v := (1 : Int32)) hx hb dX12_readsHour_13 (by decide) ?_
    refine lv_aload_n hx hb dX12_readsHour_14 rfl (lv_at hl 1 rfl) ?_
    refine pg C hP (k := 0) (j := 12) (Nat.le_of_ble_eq_true rfl) (yd_0 _ _) rfl iw_12 (Nat.le_of_ble_eq_true rfl) g_1147 rfl rfl dX12_readsHour_15 ?_
    obtain ⟨r7, M8, h9, hf⟩ := bnd_s hf
    refine pcVi (As := [.int (1 : Int32), .int (M3.1 0 12)]) C hP hS (k := 0) (Nat.le_of_ble_eq_true rfl) (yd_0 _ _) rfl (c12_wrongAt  h9) y12_wrongAt_w g_1337 rfl rfl rfl ⟨Nat.le_of_ble_eq_true rfl, Nat.le_of_ble_eq_true rfl⟩ hl.1 rfl (Nat.le_of_ble_eq_true rfl) dX12_readsHour_18 ⟨Nat.le_of_ble_eq_true rfl, Nat.le_of_ble_eq_true rfl⟩ (fun H locs hP hS => ?_)
    have h10 := chk_1 hf
    replace hf := chk_2 hf
    exact prZ C hr hk hP hS hf (isb_n h10) dX12_readsHour_21
set_option maxHeartbeats 4000000 in
set_option maxRecDepth 100000 in
theorem l12_readsHour {p : Program} {l : Launch} {e : Env} {s : State} {m : MethodId} {args : Array Value} {below : List Frame} {meth : Method} {c : Code} {z : Zt} {b : Nat}  (C : Cx p s m args c cX12_readsHour 2 RX12 z 32 b) (hr : meth.sig.returnType = (some .boolean)) (hk : meth.locks = false) {r : Int32} {M' : Mem} (n : Nat) : (∀ (i1 : Int32) (M : Mem) (H : Heap) (locs : List Loc) (ls : Array Slot), (r12_readsHour  n) 27 [i1] [] M = some (r, M') → va_P z.1 vwCl (pw (yd z b) 32 b M) H → va_S (pA 32 b) s.heap H locs → lv_has ls 2 [(0, .ref (b + 0)), (1, .int i1)] → W p l e rm12_readsHour s m args below meth c H locs 0 0 (MQ below (va_Qi (fun (r' : Int32) (M2 : Mem) => r' = r ∧ M2 = M') (fun M2 t => va_P z.1 vwCl (pw (yd z b) 32 b M2) t.heap) (pA 32 b)) args s 0 0 (pA 32 b)) (F0 m 27 ls [])) := by
  induction n with
  | zero => exact fun _ _ _ _ _ hf => (by cases hf)
  | succ n ih => exact fun _ _ _ _ _ hf hP hS hl => w12_readsHour_27 (n := n)  C hr hk ih ((e12_readsHour_27  n _ _).symm.trans hf) hP hS hl
theorem c12_readsHour {l : Launch} {z : Zt} {b n : Nat}   {M M' : Mem} {r : Int32} (hf : f12_readsHour n   M = some (r, M')) : CI l z (yd z b) 32 b yX12_readsHour cX12_readsHour 2 (some .boolean) rm12_readsHour [.ref (b + 0)] M M' r :=
  CI.ofW (lv := [(0, .ref (b + 0))]) (by decide) (Nat.le_of_ble_eq_true rfl) rfl (fun p e s m args below meth c ls C hr hk hP hS hl => w12_readsHour_0 (n := n)  C hr hk (l12_readsHour  C hr hk n) hf hP hS hl)

-- BronzeKingModel.readsNote()Z
theorem dX12_readsNote_0 : decode cX12_readsNote 0 = .ok (.aload_n 0, 1) := by decide +kernel
theorem dX12_readsNote_1 : decode cX12_readsNote 1 = .ok (.invokevirtual 162, 3) := by decide +kernel
theorem dX12_readsNote_4 : decode cX12_readsNote 4 = .ok (.ifCond .ne 13, 3) := by decide +kernel
theorem dX12_readsNote_7 : decode cX12_readsNote 7 = .ok (.aload_n 0, 1) := by decide +kernel
theorem dX12_readsNote_8 : decode cX12_readsNote 8 = .ok (.iconst 1, 1) := by decide +kernel
theorem dX12_readsNote_9 : decode cX12_readsNote 9 = .ok (.aload_n 0, 1) := by decide +kernel
theorem dX12_readsNote_10 : decode cX12_readsNote 10 = .ok (.getfield 143, 3) := by decide +kernel
theorem dX12_readsNote_13 : decode cX12_readsNote 13 = .ok (.invokevirtual 156, 3) := by decide +kernel
theorem dX12_readsNote_16 : decode cX12_readsNote 16 = .ok (.ireturn, 1) := by decide +kernel
theorem dX12_readsNote_17 : decode cX12_readsNote 17 = .ok (.aload_n 0, 1) := by decide +kernel
theorem dX12_readsNote_18 : decode cX12_readsNote 18 = .ok (.getfield 258, 3) := by decide +kernel
theorem dX12_readsNote_21 : decode cX12_readsNote 21 = .ok (.bipush 24, 2) := by decide +kernel
theorem dX12_readsNote_23 : decode cX12_readsNote 23 = .ok (.if_icmp .ne 13, 3) := by decide +kernel
theorem dX12_readsNote_26 : decode cX12_readsNote 26 = .ok (.aload_n 0, 1) := by decide +kernel
theorem dX12_readsNote_27 : decode cX12_readsNote 27 = .ok (.iconst 4, 1) := by decide +kernel
theorem dX12_readsNote_28 : decode cX12_readsNote 28 = .ok (.aload_n 0, 1) := by decide +kernel
theorem dX12_readsNote_29 : decode cX12_readsNote 29 = .ok (.getfield 143, 3) := by decide +kernel
theorem dX12_readsNote_32 : decode cX12_readsNote 32 = .ok (.invokevirtual 156, 3) := by decide +kernel
theorem dX12_readsNote_35 : decode cX12_readsNote 35 = .ok (.ireturn, 1) := by decide +kernel
theorem dX12_readsNote_36 : decode cX12_readsNote 36 = .ok (.aload_n 0, 1) := by decide +kernel
theorem dX12_readsNote_37 : decode cX12_readsNote 37 = .ok (.aload_n 0, 1) := by decide +kernel
theorem dX12_readsNote_38 : decode cX12_readsNote 38 = .ok (.getfield 258, 3) := by decide +kernel
theorem dX12_readsNote_41 : decode cX12_readsNote 41 = .ok (.iconst 1, 1) := by decide +kernel
theorem dX12_readsNote_42 : decode cX12_readsNote 42 = .ok (.iadd, 1) := by decide +kernel
theorem dX12_readsNote_43 : decode cX12_readsNote 43 = .ok (.putfield 258, 3) := by decide +kernel
theorem dX12_readsNote_46 : decode cX12_readsNote 46 = .ok (.aload_n 0, 1) := by decide +kernel
theorem dX12_readsNote_47 : decode cX12_readsNote 47 = .ok (.invokevirtual 261, 3) := by decide +kernel
theorem dX12_readsNote_50 : decode cX12_readsNote 50 = .ok (.ifCond .ne 5, 3) := by decide +kernel
theorem dX12_readsNote_53 : decode cX12_readsNote 53 = .ok (.iconst 0, 1) := by decide +kernel
theorem dX12_readsNote_54 : decode cX12_readsNote 54 = .ok (.ireturn, 1) := by decide +kernel
theorem dX12_readsNote_55 : decode cX12_readsNote 55 = .ok (.aload_n 0, 1) := by decide +kernel
theorem dX12_readsNote_56 : decode cX12_readsNote 56 = .ok (.getfield 159, 3) := by decide +kernel
theorem dX12_readsNote_59 : decode cX12_readsNote 59 = .ok (.istore_n 1, 1) := by decide +kernel
theorem dX12_readsNote_60 : decode cX12_readsNote 60 = .ok (.aload_n 0, 1) := by decide +kernel
theorem dX12_readsNote_61 : decode cX12_readsNote 61 = .ok (.invokevirtual 149, 3) := by decide +kernel
theorem dX12_readsNote_64 : decode cX12_readsNote 64 = .ok (.bipush 58, 2) := by decide +kernel
theorem dX12_readsNote_66 : decode cX12_readsNote 66 = .ok (.if_icmp .ne 22, 3) := by decide +kernel
theorem dX12_readsNote_69 : decode cX12_readsNote 69 = .ok (.aload_n 0, 1) := by decide +kernel
theorem dX12_readsNote_70 : decode cX12_readsNote 70 = .ok (.aload_n 0, 1) := by decide +kernel
theorem dX12_readsNote_71 : decode cX12_readsNote 71 = .ok (.getfield 143, 3) := by decide +kernel
theorem dX12_readsNote_74 : decode cX12_readsNote 74 = .ok (.iconst 1, 1) := by decide +kernel
theorem dX12_readsNote_75 : decode cX12_readsNote 75 = .ok (.iadd, 1) := by decide +kernel
theorem dX12_readsNote_76 : decode cX12_readsNote 76 = .ok (.putfield 143, 3) := by decide +kernel
theorem dX12_readsNote_79 : decode cX12_readsNote 79 = .ok (.aload_n 0, 1) := by decide +kernel
theorem dX12_readsNote_80 : decode cX12_readsNote 80 = .ok (.invokevirtual 261, 3) := by decide +kernel
theorem dX12_readsNote_83 : decode cX12_readsNote 83 = .ok (.ifCond .ne 5, 3) := by decide +kernel
theorem dX12_readsNote_86 : decode cX12_readsNote 86 = .ok (.iconst 0, 1) := by decide +kernel
theorem dX12_readsNote_87 : decode cX12_readsNote 87 = .ok (.ireturn, 1) := by decide +kernel
theorem dX12_readsNote_88 : decode cX12_readsNote 88 = .ok (.aload_n 0, 1) := by decide +kernel
theorem dX12_readsNote_89 : decode cX12_readsNote 89 = .ok (.invokevirtual 149, 3) := by decide +kernel
theorem dX12_readsNote_92 : decode cX12_readsNote 92 = .ok (.istore_n 2, 1) := by decide +kernel
theorem dX12_readsNote_93 : decode cX12_readsNote 93 = .ok (.iload_n 2, 1) := by decide +kernel
theorem dX12_readsNote_94 : decode cX12_readsNote 94 = .ok (.bipush 45, 2) := by decide +kernel
theorem dX12_readsNote_96 : decode cX12_readsNote 96 = .ok (.if_icmp .eq 19, 3) := by decide +kernel
theorem dX12_readsNote_99 : decode cX12_readsNote 99 = .ok (.iload_n 2, 1) := by decide +kernel
theorem dX12_readsNote_100 : decode cX12_readsNote 100 = .ok (.bipush 63, 2) := by decide +kernel
theorem dX12_readsNote_102 : decode cX12_readsNote 102 = .ok (.if_icmp .eq 13, 3) := by decide +kernel
theorem dX12_readsNote_105 : decode cX12_readsNote 105 = .ok (.aload_n 0, 1) := by decide +kernel
theorem dX12_readsNote_106 : decode cX12_readsNote 106 = .ok (.iconst 1, 1) := by decide +kernel
theorem dX12_readsNote_107 : decode cX12_readsNote 107 = .ok (.aload_n 0, 1) := by decide +kernel
theorem dX12_readsNote_108 : decode cX12_readsNote 108 = .ok (.getfield 143, 3) := by decide +kernel
theorem dX12_readsNote_111 : decode cX12_readsNote 111 = .ok (.invokevirtual 156, 3) := by decide +kernel
theorem dX12_readsNote_114 : decode cX12_readsNote 114 = .ok (.ireturn, 1) := by decide +kernel
theorem dX12_readsNote_115 : decode cX12_readsNote 115 = .ok (.aload_n 0, 1) := by decide +kernel
theorem dX12_readsNote_116 : decode cX12_readsNote 116 = .ok (.aload_n 0, 1) := by decide +kernel
theorem dX12_readsNote_117 : decode cX12_readsNote 117 = .ok (.getfield 143, 3) := by decide +kernel
theorem dX12_readsNote_120 : decode cX12_readsNote 120 = .ok (.iconst 1, 1) := by decide +kernel
theorem dX12_readsNote_121 : decode cX12_readsNote 121 = .ok (.iadd, 1) := by decide +kernel
theorem dX12_readsNote_122 : decode cX12_readsNote 122 = .ok (.putfield 143, 3) := by decide +kernel
theorem dX12_readsNote_125 : decode cX12_readsNote 125 = .ok (.aload_n 0, 1) := by decide +kernel
theorem dX12_readsNote_126 : decode cX12_readsNote 126 = .ok (.getfield 159, 3) := by decide +kernel
theorem dX12_readsNote_129 : decode cX12_readsNote 129 = .ok (.iload_n 1, 1) := by decide +kernel
theorem dX12_readsNote_130 : decode cX12_readsNote 130 = .ok (.isub, 1) := by decide +kernel
theorem dX12_readsNote_131 : decode cX12_readsNote 131 = .ok (.bipush 24, 2) := by decide +kernel
theorem dX12_readsNote_133 : decode cX12_readsNote 133 = .ok (.iadd, 1) := by decide +kernel
theorem dX12_readsNote_134 : decode cX12_readsNote 134 = .ok (.bipush 24, 2) := by decide +kernel
theorem dX12_readsNote_136 : decode cX12_readsNote 136 = .ok (.irem, 1) := by decide +kernel
theorem dX12_readsNote_137 : decode cX12_readsNote 137 = .ok (.istore_n 3, 1) := by decide +kernel
theorem dX12_readsNote_138 : decode cX12_readsNote 138 = .ok (.iconst 0, 1) := by decide +kernel
theorem dX12_readsNote_139 : decode cX12_readsNote 139 = .ok (.istore 4, 2) := by decide +kernel
theorem dX12_readsNote_141 : decode cX12_readsNote 141 = .ok (.iload 4, 2) := by decide +kernel
theorem dX12_readsNote_143 : decode cX12_readsNote 143 = .ok (.iload_n 3, 1) := by decide +kernel
theorem dX12_readsNote_144 : decode cX12_readsNote 144 = .ok (.if_icmp .gt 49, 3) := by decide +kernel
theorem dX12_readsNote_147 : decode cX12_readsNote 147 = .ok (.iconst 1, 1) := by decide +kernel
theorem dX12_readsNote_148 : decode cX12_readsNote 148 = .ok (.iload_n 1, 1) := by decide +kernel
theorem dX12_readsNote_149 : decode cX12_readsNote 149 = .ok (.iload 4, 2) := by decide +kernel
theorem dX12_readsNote_151 : decode cX12_readsNote 151 = .ok (.iadd, 1) := by decide +kernel
theorem dX12_readsNote_152 : decode cX12_readsNote 152 = .ok (.bipush 24, 2) := by decide +kernel
theorem dX12_readsNote_154 : decode cX12_readsNote 154 = .ok (.irem, 1) := by decide +kernel
theorem dX12_readsNote_155 : decode cX12_readsNote 155 = .ok (.ishl, 1) := by decide +kernel
theorem dX12_readsNote_156 : decode cX12_readsNote 156 = .ok (.istore 5, 2) := by decide +kernel
theorem dX12_readsNote_158 : decode cX12_readsNote 158 = .ok (.aload_n 0, 1) := by decide +kernel
theorem dX12_readsNote_159 : decode cX12_readsNote 159 = .ok (.iload_n 2, 1) := by decide +kernel
theorem dX12_readsNote_160 : decode cX12_readsNote 160 = .ok (.bipush 45, 2) := by decide +kernel
theorem dX12_readsNote_162 : decode cX12_readsNote 162 = .ok (.if_icmp .ne 13, 3) := by decide +kernel
theorem dX12_readsNote_165 : decode cX12_readsNote 165 = .ok (.aload_n 0, 1) := by decide +kernel
theorem dX12_readsNote_166 : decode cX12_readsNote 166 = .ok (.getfield 264, 3) := by decide +kernel
theorem dX12_readsNote_169 : decode cX12_readsNote 169 = .ok (.iload 5, 2) := by decide +kernel
theorem dX12_readsNote_171 : decode cX12_readsNote 171 = .ok (.ior, 1) := by decide +kernel
theorem dX12_readsNote_172 : decode cX12_readsNote 172 = .ok (.goto 12, 3) := by decide +kernel
theorem dX12_readsNote_175 : decode cX12_readsNote 175 = .ok (.aload_n 0, 1) := by decide +kernel
theorem dX12_readsNote_176 : decode cX12_readsNote 176 = .ok (.getfield 264, 3) := by decide +kernel
theorem dX12_readsNote_179 : decode cX12_readsNote 179 = .ok (.iload 5, 2) := by decide +kernel
theorem dX12_readsNote_181 : decode cX12_readsNote 181 = .ok (.iconst (-1), 1) := by decide +kernel
theorem dX12_readsNote_182 : decode cX12_readsNote 182 = .ok (.ixor, 1) := by decide +kernel
theorem dX12_readsNote_183 : decode cX12_readsNote 183 = .ok (.iand, 1) := by decide +kernel
theorem dX12_readsNote_184 : decode cX12_readsNote 184 = .ok (.putfield 264, 3) := by decide +kernel
theorem dX12_readsNote_187 : decode cX12_readsNote 187 = .ok (.iinc 4 1, 3) := by decide +kernel
theorem dX12_readsNote_190 : decode cX12_readsNote 190 = .ok (.goto (-49), 3) := by decide +kernel
theorem dX12_readsNote_193 : decode cX12_readsNote 193 = .ok (.iconst 1, 1) := by decide +kernel
theorem dX12_readsNote_194 : decode cX12_readsNote 194 = .ok (.ireturn, 1) := by decide +kernel
def b12_readsNote_184 (rc : Nat → List Int32 → List Int64 → Mem → Option (Int32 × Mem)) (n : Nat) (i1 : Int32) (i2 : Int32) (i3 : Int32) (i4 : Int32) (s1 : Int32) (M : Mem) : Option (Int32 × Mem) :=
  lt (wI M 0 6 s1) fun M43 =>
  lt (i4 + (1 : Int32)) fun v44 =>
  rc 141 [i1, i2, i3, v44] [] M43
def b12_readsNote_141 (rc : Nat → List Int32 → List Int64 → Mem → Option (Int32 × Mem)) (n : Nat) (i1 : Int32) (i2 : Int32) (i3 : Int32) (i4 : Int32) (M : Mem) : Option (Int32 × Mem) :=
  (if i3 < i4 then (
   some ((1 : Int32), M))
  else (
   lt ((1 : Int32) <<< (((i1 + i4) - (i1 + i4) / (24 : Int32) * (24 : Int32)) &&& 31)) fun v41 =>
   (if i2 = (45 : Int32) then (
    b12_readsNote_184  rc n i1 i2 i3 i4 ((M.1 0 6) ||| v41) M)
   else (
    b12_readsNote_184  rc n i1 i2 i3 i4 ((M.1 0 6) &&& (v41 ^^^ (-1 : Int32))) M))))
def b12_readsNote_115 (rc : Nat → List Int32 → List Int64 → Mem → Option (Int32 × Mem)) (n : Nat) (i1 : Int32) (i2 : Int32) (M : Mem) : Option (Int32 × Mem) :=
  lt (wI M 0 12 ((M.1 0 12) + (1 : Int32))) fun M38 =>
  lt ((((M38.1 0 15) - i1) + (24 : Int32)) - (((M38.1 0 15) - i1) + (24 : Int32)) / (24 : Int32) * (24 : Int32)) fun v39 =>
  b12_readsNote_141  rc n i1 i2 v39 (0 : Int32) M38
def b12_readsNote_88 (rc : Nat → List Int32 → List Int64 → Mem → Option (Int32 × Mem)) (n : Nat) (i1 : Int32) (M : Mem) : Option (Int32 × Mem) :=
  bnd (f12_here n M) fun r29 M30 =>
  (if r29 = (45 : Int32) then (
   b12_readsNote_115  rc n i1 r29 M30)
  else (
   (if r29 = (63 : Int32) then (
    b12_readsNote_115  rc n i1 r29 M30)
   else (
    bnd (f12_wrongAt n (1 : Int32) (M30.1 0 12) M30) fun r34 M35 =>
    chk (isb r34) <|
    some (r34, M35)))))
def b12_readsNote_0 (rc : Nat → List Int32 → List Int64 → Mem → Option (Int32 × Mem)) (n : Nat) (M : Mem) : Option (Int32 × Mem) :=
  bnd (f12_isDigit n M) fun r1 M2 =>
  (if r1 = 0 then (
   bnd (f12_wrongAt n (1 : Int32) (M2.1 0 12) M2) fun r25 M26 =>
   chk (isb r25) <|
   some (r25, M26))
  else (
   (if (M2.1 0 36) = (24 : Int32) then (
    bnd (f12_wrongAt n (4 : Int32) (M2.1 0 12) M2) fun r21 M22 =>
    chk (isb r21) <|
    some (r21, M22))
   else (
    lt (wI M2 0 36 ((M2.1 0 36) + (1 : Int32))) fun M6 =>
    bnd (f12_readsHour n M6) fun r7 M8 =>
    (if r7 = 0 then (
     some ((0 : Int32), M8))
    else (
     lt (M8.1 0 15) fun v11 =>
     bnd (f12_here n M8) fun r12 M13 =>
     (if r12 = (58 : Int32) then (
      lt (wI M13 0 12 ((M13.1 0 12) + (1 : Int32))) fun M16 =>
      bnd (f12_readsHour n M16) fun r17 M18 =>
      (if r17 = 0 then (
       some ((0 : Int32), M18))
      else (
       b12_readsNote_88  rc n v11 M18)))
     else (
      b12_readsNote_88  rc n v11 M13))))))))
def r12_readsNote : Nat → Nat → List Int32 → List Int64 → Mem → Option (Int32 × Mem)
  | 0 => fun _ _ _ _ => none
  | n + 1 => fun pc li lj M =>
    if pc = 141 then (match li, lj with | [i1, i2, i3, i4], [] => b12_readsNote_141  (r12_readsNote  n) n i1 i2 i3 i4 M | _, _ => none) else
    none
theorem e12_readsNote_141  (n : Nat) (i1 : Int32) (i2 : Int32) (i3 : Int32) (i4 : Int32) (M : Mem) : r12_readsNote  (n + 1) 141 [i1, i2, i3, i4] [] M = b12_readsNote_141  (r12_readsNote  n) n i1 i2 i3 i4 M := by
  rw [r12_readsNote]
  simp
def f12_readsNote (n : Nat)  (M : Mem) : Option (Int32 × Mem) := b12_readsNote_0 (r12_readsNote n) n M
abbrev rm12_readsNote : Room := { frames := 3, cells := 0, slots := 0, locals := 61 }
theorem y12_readsNote_w : yV RX12 yX12_readsNote cX12_readsNote 6 (some .boolean) 0 := ⟨g_1429, gp 58 rfl rfl, g_14, g_1430, rfl, by decide, by decide, by decide +kernel⟩
set_option maxHeartbeats 4000000 in
set_option maxRecDepth 100000 in
theorem w12_readsNote_184 {p : Program} {l : Launch} {e : Env} {s : State} {m : MethodId} {args : Array Value} {below : List Frame} {meth : Method} {c : Code} {z : Zt} {b : Nat}  (C : Cx p s m args c cX12_readsNote 6 RX12 z 32 b) (hr : meth.sig.returnType = (some .boolean)) (hk : meth.locks = false) {r : Int32} {M' : Mem} {rc : Nat → List Int32 → List Int64 → Mem → Option (Int32 × Mem)} {n : Nat} (q141 : ∀ (i1 : Int32) (i2 : Int32) (i3 : Int32) (i4 : Int32) (M : Mem) (H : Heap) (locs : List Loc) (ls : Array Slot), rc 141 [i1, i2, i3, i4] [] M = some (r, M') → va_P z.1 vwCl (pw (yd z b) 32 b M) H → va_S (pA 32 b) s.heap H locs → lv_has ls 6 [(0, .ref (b + 0)), (1, .int i1), (2, .int i2), (3, .int i3), (4, .int i4)] → W p l e rm12_readsNote s m args below meth c H locs 0 0 (MQ below (va_Qi (fun (r' : Int32) (M2 : Mem) => r' = r ∧ M2 = M') (fun M2 t => va_P z.1 vwCl (pw (yd z b) 32 b M2) t.heap) (pA 32 b)) args s 0 0 (pA 32 b)) (F0 m 141 ls [])) {i1 : Int32} {i2 : Int32} {i3 : Int32} {i4 : Int32} {s1 : Int32} {M : Mem} {H : Heap} {locs : List Loc} {ls : Array Slot} (hf : b12_readsNote_184  rc n i1 i2 i3 i4 s1 M = some (r, M')) (hP : va_P z.1 vwCl (pw (yd z b) 32 b M) H) (hS : va_S (pA 32 b) s.heap H locs) (hl : lv_has ls 6 [(0, .ref (b + 0)), (1, .int i1), (2, .int i2), (3, .int i3), (4, .int i4)]) : W p l e rm12_readsNote s m args below meth c H locs 0 0 (MQ below (va_Qi (fun (r' : Int32) (M2 : Mem) => r' = r ∧ M2 = M') (fun M2 t => va_P z.1 vwCl (pw (yd z b) 32 b M2) t.heap) (pA 32 b)) args s 0 0 (pA 32 b)) (F0 m 184 ls [.int s1, .ref (b + 0)]) := by
  have hx := C.1.1
  have hb := C.1.2.1
  unfold b12_readsNote_184 at hf
  refine ppI C hP hS (k := 0) (j := 6) (ty := .int) (Nat.le_of_ble_eq_true rfl) (yd_0 _ _) rfl iw_12 tyX12 tyX12_ok nmX12 (Nat.le_of_ble_eq_true rfl) g_1141 rfl rfl (by decide +kernel) rfl rfl (Nat.le_of_ble_eq_true rfl) (yu_0_6 _ _ _) dX12_readsNote_184 (fun M43 H locs eM43 hP hS => ?_)
  replace hf := lt_c eM43 hf
  obtain ⟨v44, ev44⟩ : ∃ v : Int32, v = i4 + (1 : Int32) := ⟨_, rfl⟩
  replace hf := lt_c ev44 hf
  refine lv_iinc (v := v44) (lv' := [(4, .int v44), (0, .ref (b + 0)), (1, .int i1), (2, .int i2), (3, .int i3)]) hx hb dX12_readsNote_187 hl (k := 4) rfl (by rw [ev44]; rfl) (by decide) rfl (fun ls hl => ?_)
  refine lv_goto (tgt := 141) hx hb dX12_readsNote_190 (by decide) ?_
  exact q141 i1 i2 i3 v44 M43 _ _ _ hf hP hS (lv_sub hl [1, 2, 3, 4, 0] rfl)
set_option maxHeartbeats 4000000 in
set_option maxRecDepth 100000 in
theorem w12_readsNote_141 {p : Program} {l : Launch} {e : Env} {s : State} {m : MethodId} {args : Array Value} {below : List Frame} {meth : Method} {c : Code} {z : Zt} {b : Nat}  (C : Cx p s m args c cX12_readsNote 6 RX12 z 32 b) (hr : meth.sig.returnType = (some .boolean)) (hk : meth.locks = false) {r : Int32} {M' : Mem} {rc : Nat → List Int32 → List Int64 → Mem → Option (Int32 × Mem)} {n : Nat} (q141 : ∀ (i1 : Int32) (i2 : Int32) (i3 : Int32) (i4 : Int32) (M : Mem) (H : Heap) (locs : List Loc) (ls : Array Slot), rc 141 [i1, i2, i3, i4] [] M = some (r, M') → va_P z.1 vwCl (pw (yd z b) 32 b M) H → va_S (pA 32 b) s.heap H locs → lv_has ls 6 [(0, .ref (b + 0)), (1, .int i1), (2, .int i2), (3, .int i3), (4, .int i4)] → W p l e rm12_readsNote s m args below meth c H locs 0 0 (MQ below (va_Qi (fun (r' : Int32) (M2 : Mem) => r' = r ∧ M2 = M') (fun M2 t => va_P z.1 vwCl (pw (yd z b) 32 b M2) t.heap) (pA 32 b)) args s 0 0 (pA 32 b)) (F0 m 141 ls [])) {i1 : Int32} {i2 : Int32} {i3 : Int32} {i4 : Int32} {M : Mem} {H : Heap} {locs : List Loc} {ls : Array Slot} (hf : b12_readsNote_141  rc n i1 i2 i3 i4 M = some (r, M')) (hP : va_P z.1 vwCl (pw (yd z b) 32 b M) H) (hS : va_S (pA 32 b) s.heap H locs) (hl : lv_has ls 6 [(0, .ref (b + 0)), (1, .int i1), (2, .int i2), (3, .int i3), (4, .int i4)]) : W p l e rm12_readsNote s m args below meth c H locs 0 0 (MQ below (va_Qi (fun (r' : Int32) (M2 : Mem) => r' = r ∧ M2 = M') (fun M2 t => va_P z.1 vwCl (pw (yd z b) 32 b M2) t.heap) (pA 32 b)) args s 0 0 (pA 32 b)) (F0 m 141 ls []) := by
  have hx := C.1.1
  have hb := C.1.2.1
  unfold b12_readsNote_141 at hf
  refine lv_iload hx hb dX12_readsNote_141 (lv_at hl 4 rfl) ?_
  refine lv_iload_n hx hb dX12_readsNote_143 rfl (lv_at hl 3 rfl) ?_
  refine lv_icmp_gt (tgt := 193) hx hb dX12_readsNote_144 (by decide) (fun c40 => ?_) (fun c40 => ?_)
  · replace hf := ite_t c40 hf
    refine lv_iconst (v := (1 : Int32)) hx hb dX12_readsNote_193 (by decide) ?_
    exact prZ C hr hk hP hS hf rfl dX12_readsNote_194
  · replace hf := ite_f c40 hf
    refine lv_iconst (v := (1 : Int32)) hx hb dX12_readsNote_147 (by decide) ?_
    refine lv_iload_n hx hb dX12_readsNote_148 rfl (lv_at hl 1 rfl) ?_
    refine lv_iload hx hb dX12_readsNote_149 (lv_at hl 4 rfl) ?_
    refine lv_iadd hx hb dX12_readsNote_151 ?_
    refine lv_bipush (v := (24 : Int32)) hx hb dX12_readsNote_152 (by decide) ?_
    refine lv_irem hx hb dX12_readsNote_154 (by decide) ?_
    refine lv_ishl hx hb dX12_readsNote_155 ?_
    refine lv_topi (fun v41 ev41 => ?_)
    replace hf := lt_c ev41 hf
    refine lv_istore (lv' := [(5, .int v41), (0, .ref (b + 0)), (1, .int i1), (2, .int i2), (3, .int i3), (4, .int i4)]) hx hb dX12_readsNote_156 hl (by decide) rfl (fun ls hl => ?_)
    refine lv_aload_n hx hb dX12_readsNote_158 rfl (lv_at hl 1 rfl) ?_
    refine lv_iload_n hx hb dX12_readsNote_159 rfl (lv_at hl 3 rfl) ?_
    refine lv_bipush (v := (45 : Int32)) hx hb dX12_readsNote_160 (by decide) ?_
    refine lv_icmp_ne (tgt := 175) hx hb dX12_readsNote_162 (by decide) (fun c42 => ?_) (fun c42 => ?_)
    · replace hf := ite_f c42 hf
      refine lv_aload_n hx hb dX12_readsNote_175 rfl (lv_at hl 1 rfl) ?_
      refine pg C hP (k := 0) (j := 6) (Nat.le_of_ble_eq_true rfl) (yd_0 _ _) rfl iw_12 (Nat.le_of_ble_eq_true rfl) g_1141 rfl rfl dX12_readsNote_176 ?_
      refine lv_iload hx hb dX12_readsNote_179 (lv_at hl 0 rfl) ?_
      refine lv_iconst (v := (-1 : Int32)) hx hb dX12_readsNote_181 (by decide) ?_
      refine lv_ixor hx hb dX12_readsNote_182 ?_
      refine lv_iand hx hb dX12_readsNote_183 ?_
      exact w12_readsNote_184 (n := n)  C hr hk q141 hf hP hS (lv_sub hl [1, 2, 3, 4, 5] rfl)
    · replace hf := ite_t c42 hf
      refine lv_aload_n hx hb dX12_readsNote_165 rfl (lv_at hl 1 rfl) ?_
      refine pg C hP (k := 0) (j := 6) (Nat.le_of_ble_eq_true rfl) (yd_0 _ _) rfl iw_12 (Nat.le_of_ble_eq_true rfl) g_1141 rfl rfl dX12_readsNote_166 ?_
      refine lv_iload hx hb dX12_readsNote_169 (lv_at hl 0 rfl) ?_
      refine lv_ior hx hb dX12_readsNote_171 ?_
      refine lv_goto (tgt := 184) hx hb dX12_readsNote_172 (by decide) ?_
      exact w12_readsNote_184 (n := n)  C hr hk q141 hf hP hS (lv_sub hl [1, 2, 3, 4, 5] rfl)
set_option maxHeartbeats 4000000 in
set_option maxRecDepth 100000 in
theorem w12_readsNote_115 {p : Program} {l : Launch} {e : Env} {s : State} {m : MethodId} {args : Array Value} {below : List Frame} {meth : Method} {c : Code} {z : Zt} {b : Nat}  (C : Cx p s m args c cX12_readsNote 6 RX12 z 32 b) (hr : meth.sig.returnType = (some .boolean)) (hk : meth.locks = false) {r : Int32} {M' : Mem} {rc : Nat → List Int32 → List Int64 → Mem → Option (Int32 × Mem)} {n : Nat} (q141 : ∀ (i1 : Int32) (i2 : Int32) (i3 : Int32) (i4 : Int32) (M : Mem) (H : Heap) (locs : List Loc) (ls : Array Slot), rc 141 [i1, i2, i3, i4] [] M = some (r, M') → va_P z.1 vwCl (pw (yd z b) 32 b M) H → va_S (pA 32 b) s.heap H locs → lv_has ls 6 [(0, .ref (b + 0)), (1, .int i1), (2, .int i2), (3, .int i3), (4, .int i4)] → W p l e rm12_readsNote s m args below meth c H locs 0 0 (MQ below (va_Qi (fun (r' : Int32) (M2 : Mem) => r' = r ∧ M2 = M') (fun M2 t => va_P z.1 vwCl (pw (yd z b) 32 b M2) t.heap) (pA 32 b)) args s 0 0 (pA 32 b)) (F0 m 141 ls [])) {i1 : Int32} {i2 : Int32} {M : Mem} {H : Heap} {locs : List Loc} {ls : Array Slot} (hf : b12_readsNote_115  rc n i1 i2 M = some (r, M')) (hP : va_P z.1 vwCl (pw (yd z b) 32 b M) H) (hS : va_S (pA 32 b) s.heap H locs) (hl : lv_has ls 6 [(0, .ref (b + 0)), (1, .int i1), (2, .int i2)]) : W p l e rm12_readsNote s m args below meth c H locs 0 0 (MQ below (va_Qi (fun (r' : Int32) (M2 : Mem) => r' = r ∧ M2 = M') (fun M2 t => va_P z.1 vwCl (pw (yd z b) 32 b M2) t.heap) (pA 32 b)) args s 0 0 (pA 32 b)) (F0 m 115 ls []) := by
  have hx := C.1.1
  have hb := C.1.2.1
  unfold b12_readsNote_115 at hf
  refine lv_aload_n hx hb dX12_readsNote_115 rfl (lv_at hl 0 rfl) ?_
  refine lv_aload_n hx hb dX12_readsNote_116 rfl (lv_at hl 0 rfl) ?_
  refine pg C hP (k := 0) (j := 12) (Nat.le_of_ble_eq_true rfl) (yd_0 _ _) rfl iw_12 (Nat.le_of_ble_eq_true rfl) g_1147 rfl rfl dX12_readsNote_117 ?_
  refine lv_iconst (v := (1 : Int32)) hx hb dX12_readsNote_120 (by decide) ?_
  refine lv_iadd hx hb dX12_readsNote_121 ?_
  refine ppI C hP hS (k := 0) (j := 12) (ty := .int) (Nat.le_of_ble_eq_true rfl) (yd_0 _ _) rfl iw_12 tyX12 tyX12_ok nmX12 (Nat.le_of_ble_eq_true rfl) g_1147 rfl rfl (by decide +kernel) rfl rfl (Nat.le_of_ble_eq_true rfl) (yu_0_12 _ _ _) dX12_readsNote_122 (fun M38 H locs eM38 hP hS => ?_)
  replace hf := lt_c eM38 hf
  refine lv_aload_n hx hb dX12_readsNote_125 rfl (lv_at hl 0 rfl) ?_
  refine pg C hP (k := 0) (j := 15) (Nat.le_of_ble_eq_true rfl) (yd_0 _ _) rfl iw_12 (Nat.le_of_ble_eq_true rfl) g_1150 rfl rfl dX12_readsNote_126 ?_
  refine lv_iload_n hx hb dX12_readsNote_129 rfl (lv_at hl 1 rfl) ?_
  refine lv_isub hx hb dX12_readsNote_130 ?_
  refine lv_bipush (v := (24 : Int32)) hx hb dX12_readsNote_131 (by decide) ?_
  refine lv_iadd hx hb dX12_readsNote_133 ?_
  refine lv_bipush (v := (24 : Int32)) hx hb dX12_readsNote_134 (by decide) ?_
  refine lv_irem hx hb dX12_readsNote_136 (by decide) ?_
  refine lv_topi (fun v39 ev39 => ?_)
  replace hf := lt_c ev39 hf
  refine lv_istore_n (lv' := [(3, .int v39), (0, .ref (b + 0)), (1, .int i1), (2, .int i2)]) hx hb dX12_readsNote_137 rfl hl (by decide) rfl (fun ls hl => ?_)
  refine lv_iconst (v := (0 : Int32)) hx hb dX12_readsNote_138 (by decide) ?_
  refine lv_istore (lv' := [(4, .int (0 : Int32)), (3, .int v39), (0, .ref (b + 0)), (1, .int i1), (2, .int i2)]) hx hb dX12_readsNote_139 hl (by decide) rfl (fun ls hl => ?_)
  exact w12_readsNote_141 (n := n)  C hr hk q141 hf hP hS (lv_sub hl [2, 3, 4, 1, 0] rfl)
set_option maxHeartbeats 4000000 in
set_option maxRecDepth 100000 in
theorem w12_readsNote_88 {p : Program} {l : Launch} {e : Env} {s : State} {m : MethodId} {args : Array Value} {below : List Frame} {meth : Method} {c : Code} {z : Zt} {b : Nat}  (C : Cx p s m args c cX12_readsNote 6 RX12 z 32 b) (hr : meth.sig.returnType = (some .boolean)) (hk : meth.locks = false) {r : Int32} {M' : Mem} {rc : Nat → List Int32 → List Int64 → Mem → Option (Int32 × Mem)} {n : Nat} (q141 : ∀ (i1 : Int32) (i2 : Int32) (i3 : Int32) (i4 : Int32) (M : Mem) (H : Heap) (locs : List Loc) (ls : Array Slot), rc 141 [i1, i2, i3, i4] [] M = some (r, M') → va_P z.1 vwCl (pw (yd z b) 32 b M) H → va_S (pA 32 b) s.heap H locs → lv_has ls 6 [(0, .ref (b + 0)), (1, .int i1), (2, .int i2), (3, .int i3), (4, .int i4)] → W p l e rm12_readsNote s m args below meth c H locs 0 0 (MQ below (va_Qi (fun (r' : Int32) (M2 : Mem) => r' = r ∧ M2 = M') (fun M2 t => va_P z.1 vwCl (pw (yd z b) 32 b M2) t.heap) (pA 32 b)) args s 0 0 (pA 32 b)) (F0 m 141 ls [])) {i1 : Int32} {M : Mem} {H : Heap} {locs : List Loc} {ls : Array Slot} (hf : b12_readsNote_88  rc n i1 M = some (r, M')) (hP : va_P z.1 vwCl (pw (yd z b) 32 b M) H) (hS : va_S (pA 32 b) s.heap H locs) (hl : lv_has ls 6 [(0, .ref (b + 0)), (1, .int i1)]) : W p l e rm12_readsNote s m args below meth c H locs 0 0 (MQ below (va_Qi (fun (r' : Int32) (M2 : Mem) => r' = r ∧ M2 = M') (fun M2 t => va_P z.1 vwCl (pw (yd z b) 32 b M2) t.heap) (pA 32 b)) args s 0 0 (pA 32 b)) (F0 m 88 ls []) := by
  have hx := C.1.1
  have hb := C.1.2.1
  unfold b12_readsNote_88 at hf
  refine lv_aload_n hx hb dX12_readsNote_88 rfl (lv_at hl 0 rfl) ?_
  obtain ⟨r29, M30, h31, hf⟩ := bnd_s hf
  refine pcVi (As := []) C hP hS (k := 0) (Nat.le_of_ble_eq_true rfl) (yd_0 _ _) rfl (c12_here  h31) y12_here_w g_1333 rfl rfl rfl ⟨Nat.le_of_ble_eq_true rfl, Nat.le_of_ble_eq_true rfl⟩ hl.1 rfl (Nat.le_of_ble_eq_true rfl) dX12_readsNote_89 ⟨Nat.le_of_ble_eq_true rfl, Nat.le_of_ble_eq_true rfl⟩ (fun H locs hP hS => ?_)
  refine lv_istore_n (lv' := [(2, .int r29), (0, .ref (b + 0)), (1, .int i1)]) hx hb dX12_readsNote_92 rfl hl (by decide) rfl (fun ls hl => ?_)
  refine lv_iload_n hx hb dX12_readsNote_93 rfl (lv_at hl 0 rfl) ?_
  refine lv_bipush (v := (45 : Int32)) hx hb dX12_readsNote_94 (by decide) ?_
  refine lv_icmp_eq (tgt := 115) hx hb dX12_readsNote_96 (by decide) (fun c32 => ?_) (fun c32 => ?_)
  · replace hf := ite_t c32 hf
    exact w12_readsNote_115 (n := n)  C hr hk q141 hf hP hS (lv_sub hl [1, 2, 0] rfl)
  · replace hf := ite_f c32 hf
    refine lv_iload_n hx hb dX12_readsNote_99 rfl (lv_at hl 0 rfl) ?_
    refine lv_bipush (v := (63 : Int32)) hx hb dX12_readsNote_100 (by decide) ?_
    refine lv_icmp_eq (tgt := 115) hx hb dX12_readsNote_102 (by decide) (fun c33 => ?_) (fun c33 => ?_)
    · replace hf := ite_t c33 hf
      exact w12_readsNote_115 (n := n)  C hr hk q141 hf hP hS (lv_sub hl [1, 2, 0] rfl)
    · replace hf := ite_f c33 hf
      refine lv_aload_n hx hb dX12_readsNote_105 rfl (lv_at hl 1 rfl) ?_
      refine lv_iconst (v := (1 : Int32)) hx hb dX12_readsNote_106 (by decide) ?_
      refine lv_aload_n hx hb dX12_readsNote_107 rfl (lv_at hl 1 rfl) ?_
      refine pg C hP (k := 0) (j := 12) (Nat.le_of_ble_eq_true rfl) (yd_0 _ _) rfl iw_12 (Nat.le_of_ble_eq_true rfl) g_1147 rfl rfl dX12_readsNote_108 ?_
      obtain ⟨r34, M35, h36, hf⟩ := bnd_s hf
      refine pcVi (As := [.int (1 : Int32), .int (M30.1 0 12)]) C hP hS (k := 0) (Nat.le_of_ble_eq_true rfl) (yd_0 _ _) rfl (c12_wrongAt  h36) y12_wrongAt_w g_1337 rfl rfl rfl ⟨Nat.le_of_ble_eq_true rfl, Nat.le_of_ble_eq_true rfl⟩ hl.1 rfl (Nat.le_of_ble_eq_true rfl) dX12_readsNote_111 ⟨Nat.le_of_ble_eq_true rfl, Nat.le_of_ble_eq_true rfl⟩ (fun H locs hP hS => ?_)
      have h37 := chk_1 hf
      replace hf := chk_2 hf
      exact prZ C hr hk hP hS hf (isb_n h37) dX12_readsNote_114
set_option maxHeartbeats 4000000 in
set_option maxRecDepth 100000 in
theorem w12_readsNote_0 {p : Program} {l : Launch} {e : Env} {s : State} {m : MethodId} {args : Array Value} {below : List Frame} {meth : Method} {c : Code} {z : Zt} {b : Nat}  (C : Cx p s m args c cX12_readsNote 6 RX12 z 32 b) (hr : meth.sig.returnType = (some .boolean)) (hk : meth.locks = false) {r : Int32} {M' : Mem} {rc : Nat → List Int32 → List Int64 → Mem → Option (Int32 × Mem)} {n : Nat} (q141 : ∀ (i1 : Int32) (i2 : Int32) (i3 : Int32) (i4 : Int32) (M : Mem) (H : Heap) (locs : List Loc) (ls : Array Slot), rc 141 [i1, i2, i3, i4] [] M = some (r, M') → va_P z.1 vwCl (pw (yd z b) 32 b M) H → va_S (pA 32 b) s.heap H locs → lv_has ls 6 [(0, .ref (b + 0)), (1, .int i1), (2, .int i2), (3, .int i3), (4, .int i4)] → W p l e rm12_readsNote s m args below meth c H locs 0 0 (MQ below (va_Qi (fun (r' : Int32) (M2 : Mem) => r' = r ∧ M2 = M') (fun M2 t => va_P z.1 vwCl (pw (yd z b) 32 b M2) t.heap) (pA 32 b)) args s 0 0 (pA 32 b)) (F0 m 141 ls []))  {M : Mem} {H : Heap} {locs : List Loc} {ls : Array Slot} (hf : b12_readsNote_0  rc n  M = some (r, M')) (hP : va_P z.1 vwCl (pw (yd z b) 32 b M) H) (hS : va_S (pA 32 b) s.heap H locs) (hl : lv_has ls 6 [(0, .ref (b + 0))]) : W p l e rm12_readsNote s m args below meth c H locs 0 0 (MQ below (va_Qi (fun (r' : Int32) (M2 : Mem) => r' = r ∧ M2 = M') (fun M2 t => va_P z.1 vwCl (pw (yd z b) 32 b M2) t.heap) (pA 32 b)) args s 0 0 (pA 32 b)) (F0 m 0 ls []) := by
  have hx := C.1.1
  have hb := C.1.2.1
  unfold b12_readsNote_0 at hf
  refine lv_aload_n hx hb dX12_readsNote_0 rfl (lv_at hl 0 rfl) ?_
  obtain ⟨r1, M2, h3, hf⟩ := bnd_s hf
  refine pcVi (As := []) C hP hS (k := 0) (Nat.le_of_ble_eq_true rfl) (yd_0 _ _) rfl (c12_isDigit  h3) y12_isDigit_w g_1354 rfl rfl rfl ⟨Nat.le_of_ble_eq_true rfl, Nat.le_of_ble_eq_true rfl⟩ hl.1 rfl (Nat.le_of_ble_eq_true rfl) dX12_readsNote_1 ⟨Nat.le_of_ble_eq_true rfl, Nat.le_of_ble_eq_true rfl⟩ (fun H locs hP hS => ?_)
  refine lv_if_ne (tgt := 17) hx hb dX12_readsNote_4 (by decide) (fun c4 => ?_) (fun c4 => ?_)
  · replace hf := ite_f c4 hf
    refine lv_aload_n hx hb dX12_readsNote_17 rfl (lv_at hl 0 rfl) ?_
    refine pg C hP (k := 0) (j := 36) (Nat.le_of_ble_eq_true rfl) (yd_0 _ _) rfl iw_12 (Nat.le_of_ble_eq_true rfl) g_1171 rfl rfl dX12_readsNote_18 ?_
    refine lv_bipush (v := (24 : Int32)) hx hb dX12_readsNote_21 (by decide) ?_
    refine lv_icmp_ne (tgt := 36) hx hb dX12_readsNote_23 (by decide) (fun c5 => ?_) (fun c5 => ?_)
    · replace hf := ite_f c5 hf
      refine lv_aload_n hx hb dX12_readsNote_36 rfl (lv_at hl 0 rfl) ?_
      refine lv_aload_n hx hb dX12_readsNote_37 rfl (lv_at hl 0 rfl) ?_
      refine pg C hP (k := 0) (j := 36) (Nat.le_of_ble_eq_true rfl) (yd_0 _ _) rfl iw_12 (Nat.le_of_ble_eq_true rfl) g_1171 rfl rfl dX12_readsNote_38 ?_
      refine lv_iconst (v := (1 : Int32)) hx hb dX12_readsNote_41 (by decide) ?_
      refine lv_iadd hx hb dX12_readsNote_42 ?_
      refine ppI C hP hS (k := 0) (j := 36) (ty := .int) (Nat.le_of_ble_eq_true rfl) (yd_0 _ _) rfl iw_12 tyX12 tyX12_ok nmX12 (Nat.le_of_ble_eq_true rfl) g_1171 rfl rfl (by decide +kernel) rfl rfl (Nat.le_of_ble_eq_true rfl) (yu_0_36 _ _ _) dX12_readsNote_43 (fun M6 H locs eM6 hP hS => ?_)
      replace hf := lt_c eM6 hf
      refine lv_aload_n hx hb dX12_readsNote_46 rfl (lv_at hl 0 rfl) ?_
      obtain ⟨r7, M8, h9, hf⟩ := bnd_s hf
      refine pcVi (As := []) C hP hS (k := 0) (Nat.le_of_ble_eq_true rfl) (yd_0 _ _) rfl (c12_readsHour  h9) y12_readsHour_w g_1431 rfl rfl rfl ⟨Nat.le_of_ble_eq_true rfl, Nat.le_of_ble_eq_true rfl⟩ hl.1 rfl (Nat.le_of_ble_eq_true rfl) dX12_readsNote_47 ⟨Nat.le_of_ble_eq_true rfl, Nat.le_of_ble_eq_true rfl⟩ (fun H locs hP hS => ?_)
      refine lv_if_ne (tgt := 55) hx hb dX12_readsNote_50 (by decide) (fun c10 => ?_) (fun c10 => ?_)
      · replace hf := ite_f c10 hf
        refine lv_aload_n hx hb dX12_readsNote_55 rfl (lv_at hl 0 rfl) ?_
        refine pg C hP (k := 0) (j := 15) (Nat.le_of_ble_eq_true rfl) (yd_0 _ _) rfl iw_12 (Nat.le_of_ble_eq_true rfl) g_1150 rfl rfl dX12_readsNote_56 ?_
        refine lv_topi (fun v11 ev11 => ?_)
        replace hf := lt_c ev11 hf
        refine lv_istore_n (lv' := [(1, .int v11), (0, .ref (b + 0))]) hx hb dX12_readsNote_59 rfl hl (by decide) rfl (fun ls hl => ?_)
        refine lv_aload_n hx hb dX12_readsNote_60 rfl (lv_at hl 1 rfl) ?_
        obtain ⟨r12, M13, h14, hf⟩ := bnd_s hf
        refine pcVi (As := []) C hP hS (k := 0) (Nat.le_of_ble_eq_true rfl) (yd_0 _ _) rfl (c12_here  h14) y12_here_w g_1333 rfl rfl rfl ⟨Nat.le_of_ble_eq_true rfl, Nat.le_of_ble_eq_true rfl⟩ hl.1 rfl (Nat.le_of_ble_eq_true rfl) dX12_readsNote_61 ⟨Nat.le_of_ble_eq_true rfl, Nat.le_of_ble_eq_true rfl⟩ (fun H locs hP hS => ?_)
        refine lv_bipush (v := (58 : Int32)) hx hb dX12_readsNote_64 (by decide) ?_
        refine lv_icmp_ne (tgt := 88) hx hb dX12_readsNote_66 (by decide) (fun c15 => ?_) (fun c15 => ?_)
        · replace hf := ite_f c15 hf
          exact w12_readsNote_88 (n := n)  C hr hk q141 hf hP hS (lv_sub hl [1, 0] rfl)
        · replace hf := ite_t c15 hf
          refine lv_aload_n hx hb dX12_readsNote_69 rfl (lv_at hl 1 rfl) ?_
          refine lv_aload_n hx hb dX12_readsNote_70 rfl (lv_at hl 1 rfl) ?_
          refine pg C hP (k := 0) (j := 12) (Nat.le_of_ble_eq_true rfl) (yd_0 _ _) rfl iw_12 (Nat.le_of_ble_eq_true rfl) g_1147 rfl rfl dX12_readsNote_71 ?_
          refine lv_iconst (v := (1 : Int32)) hx hb dX12_readsNote_74 (by decide) ?_
          refine lv_iadd hx hb dX12_readsNote_75 ?_
          refine ppI C hP hS (k := 0) (j := 12) (ty := .int) (Nat.le_of_ble_eq_true rfl) (yd_0 _ _) rfl iw_12 tyX12 tyX12_ok nmX12 (Nat.le_of_ble_eq_true rfl) g_1147 rfl rfl (by decide +kernel) rfl rfl (Nat.le_of_ble_eq_true rfl) (yu_0_12 _ _ _) dX12_readsNote_76 (fun M16 H locs eM16 hP hS => ?_)
          replace hf := lt_c eM16 hf
          refine lv_aload_n hx hb dX12_readsNote_79 rfl (lv_at hl 1 rfl) ?_
          obtain ⟨r17, M18, h19, hf⟩ := bnd_s hf
          refine pcVi (As := []) C hP hS (k := 0) (Nat.le_of_ble_eq_true rfl) (yd_0 _ _) rfl (c12_readsHour  h19) y12_readsHour_w g_1431 rfl rfl rfl ⟨Nat.le_of_ble_eq_true rfl, Nat.le_of_ble_eq_true rfl⟩ hl.1 rfl (Nat.le_of_ble_eq_true rfl) dX12_readsNote_80 ⟨Nat.le_of_ble_eq_true rfl, Nat.le_of_ble_eq_true rfl⟩ (fun H locs hP hS => ?_)
          refine lv_if_ne (tgt := 88) hx hb dX12_readsNote_83 (by decide) (fun c20 => ?_) (fun c20 => ?_)
          · replace hf := ite_f c20 hf
            exact w12_readsNote_88 (n := n)  C hr hk q141 hf hP hS (lv_sub hl [1, 0] rfl)
          · replace hf := ite_t c20 hf
            refine lv_iconst (v := (0 : Int32)) hx hb dX12_readsNote_86 (by decide) ?_
            exact prZ C hr hk hP hS hf rfl dX12_readsNote_87
      · replace hf := ite_t c10 hf
        refine lv_iconst (v := (0 : Int32)) hx hb dX12_readsNote_53 (by decide) ?_
        exact prZ C hr hk hP hS hf rfl dX12_readsNote_54
    · replace hf := ite_t c5 hf
      refine lv_aload_n hx hb dX12_readsNote_26 rfl (lv_at hl 0 rfl) ?_
      refine lv_iconst (v := (4 : Int32)) hx hb dX12_readsNote_27 (by decide) ?_
      refine lv_aload_n hx hb dX12_readsNote_28 rfl (lv_at hl 0 rfl) ?_
      refine pg C hP (k := 0) (j := 12) (Nat.le_of_ble_eq_true rfl) (yd_0 _ _) rfl iw_12 (Nat.le_of_ble_eq_true rfl) g_1147 rfl rfl dX12_readsNote_29 ?_
      obtain ⟨r21, M22, h23, hf⟩ := bnd_s hf
      refine pcVi (As := [.int (4 : Int32), .int (M2.1 0 12)]) C hP hS (k := 0) (Nat.le_of_ble_eq_true rfl) (yd_0 _ _) rfl (c12_wrongAt  h23) y12_wrongAt_w g_1337 rfl rfl rfl ⟨Nat.le_of_ble_eq_true rfl, Nat.le_of_ble_eq_true rfl⟩ hl.1 rfl (Nat.le_of_ble_eq_true rfl) dX12_readsNote_32 ⟨Nat.le_of_ble_eq_true rfl, Nat.le_of_ble_eq_true rfl⟩ (fun H locs hP hS => ?_)
      have h24 := chk_1 hf
      replace hf := chk_2 hf
      exact prZ C hr hk hP hS hf (isb_n h24) dX12_readsNote_35
  · replace hf := ite_t c4 hf
    refine lv_aload_n hx hb dX12_readsNote_7 rfl (lv_at hl 0 rfl) ?_
    refine lv_iconst (v := (1 : Int32)) hx hb dX12_readsNote_8 (by decide) ?_
    refine lv_aload_n hx hb dX12_readsNote_9 rfl (lv_at hl 0 rfl) ?_
    refine pg C hP (k := 0) (j := 12) (Nat.le_of_ble_eq_true rfl) (yd_0 _ _) rfl iw_12 (Nat.le_of_ble_eq_true rfl) g_1147 rfl rfl dX12_readsNote_10 ?_
    obtain ⟨r25, M26, h27, hf⟩ := bnd_s hf
    refine pcVi (As := [.int (1 : Int32), .int (M2.1 0 12)]) C hP hS (k := 0) (Nat.le_of_ble_eq_true rfl) (yd_0 _ _) rfl (c12_wrongAt  h27) y12_wrongAt_w g_1337 rfl rfl rfl ⟨Nat.le_of_ble_eq_true rfl, Nat.le_of_ble_eq_true rfl⟩ hl.1 rfl (Nat.le_of_ble_eq_true rfl) dX12_readsNote_13 ⟨Nat.le_of_ble_eq_true rfl, Nat.le_of_ble_eq_true rfl⟩ (fun H locs hP hS => ?_)
    have h28 := chk_1 hf
    replace hf := chk_2 hf
    exact prZ C hr hk hP hS hf (isb_n h28) dX12_readsNote_16
set_option maxHeartbeats 4000000 in
set_option maxRecDepth 100000 in
theorem l12_readsNote {p : Program} {l : Launch} {e : Env} {s : State} {m : MethodId} {args : Array Value} {below : List Frame} {meth : Method} {c : Code} {z : Zt} {b : Nat}  (C : Cx p s m args c cX12_readsNote 6 RX12 z 32 b) (hr : meth.sig.returnType = (some .boolean)) (hk : meth.locks = false) {r : Int32} {M' : Mem} (n : Nat) : (∀ (i1 : Int32) (i2 : Int32) (i3 : Int32) (i4 : Int32) (M : Mem) (H : Heap) (locs : List Loc) (ls : Array Slot), (r12_readsNote  n) 141 [i1, i2, i3, i4] [] M = some (r, M') → va_P z.1 vwCl (pw (yd z b) 32 b M) H → va_S (pA 32 b) s.heap H locs → lv_has ls 6 [(0, .ref (b + 0)), (1, .int i1), (2, .int i2), (3, .int i3), (4, .int i4)] → W p l e rm12_readsNote s m args below meth c H locs 0 0 (MQ below (va_Qi (fun (r' : Int32) (M2 : Mem) => r' = r ∧ M2 = M') (fun M2 t => va_P z.1 vwCl (pw (yd z b) 32 b M2) t.heap) (pA 32 b)) args s 0 0 (pA 32 b)) (F0 m 141 ls [])) := by
  induction n with
  | zero => exact fun _ _ _ _ _ _ _ _ hf => (by cases hf)
  | succ n ih => exact fun _ _ _ _ _ _ _ _ hf hP hS hl => w12_readsNote_141 (n := n)  C hr hk ih ((e12_readsNote_141  n _ _ _ _ _).symm.trans hf) hP hS hl
theorem c12_readsNote {l : Launch} {z : Zt} {b n : Nat}   {M M' : Mem} {r : Int32} (hf : f12_readsNote n   M = some (r, M')) : CI l z (yd z b) 32 b yX12_readsNote cX12_readsNote 6 (some .boolean) rm12_readsNote [.ref (b + 0)] M M' r :=
  CI.ofW (lv := [(0, .ref (b + 0))]) (by decide) (Nat.le_of_ble_eq_true rfl) rfl (fun p e s m args below meth c ls C hr hk hP hS hl => w12_readsNote_0 (n := n)  C hr hk (l12_readsNote  C hr hk n) hf hP hS hl)
