section PK
variable {p : Program} {l : Launch} {e : Env} {R : Room} {s : State} {m : MethodId} {args : Array Value} {below : List Frame} {meth : Method} {c : Code} {H : Heap} {locs : List Loc} {cells slots : Nat} {Q : State → Prop} {cc : ByteArray} {nL : Nat} {own : String} {z : Zt} {d : Cds} {N b : Nat} {M M' : Mem} {pc : Nat} {ls : Array Slot} {rest st0 As : List Value} {y : MethodName} {bytes : ByteArray} {maxL index n : Nat} {ret : Option FieldType} {rm : Room}
theorem pcKi {r : Int32} (C : Cx p s m args c cc nL own z N b) (hP : va_P z.1 vwCl (pw d N b M) H) (hS : va_S (pA N b) s.heap H locs) {k : Nat} (hk : k < 3) (hM : CI l z d N b y bytes maxL ret rm (.ref (z.2.2.2.2.1 k) :: As) M M' r) (hy : yV "java/lang/String" y bytes maxL ret n) (hl : Cond.methodLink own index y ∈ lw_good) (hrc : rm.cells = 0) (hrs : rm.slots = 0) (hn : As.length = n) (hR : rm.frames + 1 ≤ R.frames ∧ 8 + (maxL + 11) + rm.locals ≤ R.locals) (hls : ls.size = nL) (hst : st0 = As.reverse ++ .ref (z.2.2.2.2.1 k) :: rest) (hroom : (rest.map fun v => v.category).sum ≤ 8) (hdg : decode cc pc = .ok (.invokevirtual index, 3)) (hcs : cells ≤ R.cells ∧ slots ≤ R.slots)
    (kk : ∀ (H1 : Heap) (locs1 : List Loc), va_P z.1 vwCl (pw d N b M') H1 → va_S (pA N b) s.heap H1 locs1 → W p l e R s m args below meth c H1 locs1 cells slots Q (F0 m (pc + 3) ls (.int r :: rest))) : W p l e R s m args below meth c H locs cells slots Q (F0 m pc ls st0) := by
  refine va_calli (va_runV (As := As) (rest := rest) C.1 hM (cwV n C.1.2.2.2.2 (gV hl hy) rfl hrc hrs ⟨hy.2.2.2.2.1, hy.2.2.2.2.2.1, hy.2.2.2.2.2.2.1, hy.2.2.2.2.2.2.2⟩ hR) ⟨Pw_blind, vk_recv C.2.2.2.2.2.2.1 hk hS, fun U hU hW => ⟨rfl, by rw [hU]; exact hP, C.2.to hS hU hW⟩⟩ rfl hn hls hst (lv_room hroom) hdg hcs) hS (fun q _ h => h) (fun q h => h) (fun r2 u t H1 locs1 ht hvm hw hB hz hk1 hS1 => ?_)
  obtain ⟨rfl, rfl⟩ := hw
  exact kk H1 locs1 (by rw [← ht]; exact hB) hS1
theorem prB {r v : Int32} (C : Cx p s m args c cc nL own z N b) (hr : meth.sig.returnType = some .byte) (hlocks : meth.locks = false) (hP : va_P z.1 vwCl (pw d N b M) H) (hS : va_S (pA N b) s.heap H locs) (hf : some (v, M) = some (r, M')) (hv : narrow .byte (.int v) = .int v) (hdg : decode cc pc = .ok (.ireturn, 1)) :
    W p l e R s m args below meth c H locs 0 0 (MQ below (va_Qi (fun (r' : Int32) (M2 : Mem) => r' = r ∧ M2 = M') (fun M2 t => va_P z.1 vwCl (pw d N b M2) t.heap) (pA N b)) args s 0 0 (pA N b)) (F0 m pc ls [.int v]) := by
  obtain ⟨rfl, rfl⟩ := ret_s hf
  exact W.zret C.1.1 C.1.2.1 hr hv (fun t ht hW => ⟨⟨v, M, rfl, ⟨rfl, rfl⟩, by show va_P _ _ _ t.heap; rw [ht]; exact hP⟩, hS.F ht⟩) hS.2.2 hdg
end PK

-- java/lang/String.isLatin1()Z
theorem dJ0_isLatin1_aae02_0 : decode cJ0_isLatin1_aae02 0 = .ok (.getstatic 38, 3) := by decide +kernel
theorem dJ0_isLatin1_aae02_3 : decode cJ0_isLatin1_aae02 3 = .ok (.ifCond .eq 14, 3) := by decide +kernel
theorem dJ0_isLatin1_aae02_6 : decode cJ0_isLatin1_aae02 6 = .ok (.aload_n 0, 1) := by decide +kernel
theorem dJ0_isLatin1_aae02_7 : decode cJ0_isLatin1_aae02 7 = .ok (.getfield 15, 3) := by decide +kernel
theorem dJ0_isLatin1_aae02_10 : decode cJ0_isLatin1_aae02 10 = .ok (.ifCond .ne 7, 3) := by decide +kernel
theorem dJ0_isLatin1_aae02_13 : decode cJ0_isLatin1_aae02 13 = .ok (.iconst 1, 1) := by decide +kernel
theorem dJ0_isLatin1_aae02_14 : decode cJ0_isLatin1_aae02 14 = .ok (.goto 4, 3) := by decide +kernel
theorem dJ0_isLatin1_aae02_17 : decode cJ0_isLatin1_aae02 17 = .ok (.iconst 0, 1) := by decide +kernel
theorem dJ0_isLatin1_aae02_18 : decode cJ0_isLatin1_aae02 18 = .ok (.ireturn, 1) := by decide +kernel
def bZJ0_isLatin1_aae02_17 (k0 : Nat) (rc : Nat → List Int32 → List Int64 → Mem → Option (Int32 × Mem)) (n : Nat) (M : Mem) : Option (Int32 × Mem) :=
  some ((0 : Int32), M)
def bZJ0_isLatin1_aae02_0 (k0 : Nat) (rc : Nat → List Int32 → List Int64 → Mem → Option (Int32 × Mem)) (n : Nat) (M : Mem) : Option (Int32 × Mem) :=
  (if (1 : Int32) = 0 then (
   bZJ0_isLatin1_aae02_17 k0 rc n  M)
  else (
   (if (0 : Int32) = 0 then (
    some ((1 : Int32), M))
   else (
    bZJ0_isLatin1_aae02_17 k0 rc n  M))))
def fZJ0_isLatin1_aae02 (n : Nat) (k0 : Nat) (M : Mem) : Option (Int32 × Mem) := bZJ0_isLatin1_aae02_0 k0 (fun _ _ _ _ => none) n M
abbrev rmZJ0_isLatin1_aae02 : Room := { frames := 0, cells := 0, slots := 0, locals := 0 }
theorem yZJ0_isLatin1_aae02_w : yV RJ0 yJ0_isLatin1_aae02 cJ0_isLatin1_aae02 1 (some .boolean) 0 := ⟨g_544, g_545, g_15, g_546, rfl, by decide, by decide, by decide +kernel⟩
set_option maxHeartbeats 4000000 in
set_option maxRecDepth 100000 in
theorem wZJ0_isLatin1_aae02_17 {p : Program} {l : Launch} {e : Env} {s : State} {m : MethodId} {args : Array Value} {below : List Frame} {meth : Method} {c : Code} {z : Zt} {b : Nat} {k0 : Nat} (hk0 : k0 < 3) (C : Cx p s m args c cJ0_isLatin1_aae02 1 RJ0 z 339 b) (hr : meth.sig.returnType = (some .boolean)) (hk : meth.locks = false) {r : Int32} {M' : Mem} {rc : Nat → List Int32 → List Int64 → Mem → Option (Int32 × Mem)} {n : Nat}   {M : Mem} {H : Heap} {locs : List Loc} {ls : Array Slot} (hf : bZJ0_isLatin1_aae02_17 k0 rc n  M = some (r, M')) (hP : va_P z.1 vwCl (pw (xd z b) 339 b M) H) (hS : va_S (pA 339 b) s.heap H locs) (hl : lv_has ls 1 []) : W p l e rmZJ0_isLatin1_aae02 s m args below meth c H locs 0 0 (MQ below (va_Qi (fun (r' : Int32) (M2 : Mem) => r' = r ∧ M2 = M') (fun M2 t => va_P z.1 vwCl (pw (xd z b) 339 b M2) t.heap) (pA 339 b)) args s 0 0 (pA 339 b)) (F0 m 17 ls []) := by
  have hx := C.1.1
  have hb := C.1.2.1
  unfold bZJ0_isLatin1_aae02_17 at hf
  refine lv_iconst (v := (0 : Int32)) hx hb dJ0_isLatin1_aae02_17 (by decide) ?_
  exact prZ C hr hk hP hS hf rfl dJ0_isLatin1_aae02_18
set_option maxHeartbeats 4000000 in
set_option maxRecDepth 100000 in
theorem wZJ0_isLatin1_aae02_0 {p : Program} {l : Launch} {e : Env} {s : State} {m : MethodId} {args : Array Value} {below : List Frame} {meth : Method} {c : Code} {z : Zt} {b : Nat} {k0 : Nat} (hk0 : k0 < 3) (C : Cx p s m args c cJ0_isLatin1_aae02 1 RJ0 z 339 b) (hr : meth.sig.returnType = (some .boolean)) (hk : meth.locks = false) {r : Int32} {M' : Mem} {rc : Nat → List Int32 → List Int64 → Mem → Option (Int32 × Mem)} {n : Nat}   {M : Mem} {H : Heap} {locs : List Loc} {ls : Array Slot} (hf : bZJ0_isLatin1_aae02_0 k0 rc n  M = some (r, M')) (hP : va_P z.1 vwCl (pw (xd z b) 339 b M) H) (hS : va_S (pA 339 b) s.heap H locs) (hl : lv_has ls 1 [(0, .ref (z.2.2.2.2.1 k0))]) : W p l e rmZJ0_isLatin1_aae02 s m args below meth c H locs 0 0 (MQ below (va_Qi (fun (r' : Int32) (M2 : Mem) => r' = r ∧ M2 = M') (fun M2 t => va_P z.1 vwCl (pw (xd z b) 339 b M2) t.heap) (pA 339 b)) args s 0 0 (pA 339 b)) (F0 m 0 ls []) := by
  have hx := C.1.1
  have hb := C.1.2.1
  unfold bZJ0_isLatin1_aae02_0 at hf
  refine va_gets hx hb C.2.2.2.2.2.2.2 hS C.1.2.2.2.1 (C.1.2.2.2.2 _ g_547) (fun _ h => h) dJ0_isLatin1_aae02_0 ?_
  refine lv_if_eq (tgt := 17) hx hb dJ0_isLatin1_aae02_3 (by decide) (fun c1 => ?_) (fun c1 => ?_)
  · replace hf := ite_t c1 hf
    exact wZJ0_isLatin1_aae02_17 (n := n) hk0 C hr hk  hf hP hS (lv_sub hl [] rfl)
  · replace hf := ite_f c1 hf
    refine lv_aload_n hx hb dJ0_isLatin1_aae02_6 rfl (lv_at hl 0 rfl) ?_
    refine vk_getf hx hb (C.2.2.2.2.2.2.1.1 k0 hk0).2.1 hS C.1.2.2.2.1 (C.1.2.2.2.2 _ g_1705) (fun _ h => h) dJ0_isLatin1_aae02_7 ?_
    refine lv_if_ne (tgt := 17) hx hb dJ0_isLatin1_aae02_10 (by decide) (fun c2 => ?_) (fun c2 => ?_)
    · replace hf := ite_f c2 hf
      exact wZJ0_isLatin1_aae02_17 (n := n) hk0 C hr hk  hf hP hS (lv_sub hl [] rfl)
    · replace hf := ite_t c2 hf
      refine lv_iconst (v := (1 : Int32)) hx hb dJ0_isLatin1_aae02_13 (by decide) ?_
      refine lv_goto (tgt := 18) hx hb dJ0_isLatin1_aae02_14 (by decide) ?_
      exact prZ C hr hk hP hS hf rfl dJ0_isLatin1_aae02_18
theorem cZJ0_isLatin1_aae02 {l : Launch} {z : Zt} {b n : Nat} {k0 : Nat} (hk0 : k0 < 3)  {M M' : Mem} {r : Int32} (hf : fZJ0_isLatin1_aae02 n k0  M = some (r, M')) : CI l z (xd z b) 339 b yJ0_isLatin1_aae02 cJ0_isLatin1_aae02 1 (some .boolean) rmZJ0_isLatin1_aae02 [.ref (z.2.2.2.2.1 k0)] M M' r :=
  CI.ofW (lv := [(0, .ref (z.2.2.2.2.1 k0))]) (by decide) (Nat.le_of_ble_eq_true rfl) rfl (fun p e s m args below meth c ls C hr hk hP hS hl => wZJ0_isLatin1_aae02_0 (n := n) hk0 C hr hk  hf hP hS hl)

-- java/lang/String.coder()B
theorem dJ0_coder_7d493_0 : decode cJ0_coder_7d493 0 = .ok (.getstatic 38, 3) := by decide +kernel
theorem dJ0_coder_7d493_3 : decode cJ0_coder_7d493 3 = .ok (.ifCond .eq 10, 3) := by decide +kernel
theorem dJ0_coder_7d493_6 : decode cJ0_coder_7d493 6 = .ok (.aload_n 0, 1) := by decide +kernel
theorem dJ0_coder_7d493_7 : decode cJ0_coder_7d493 7 = .ok (.getfield 15, 3) := by decide +kernel
theorem dJ0_coder_7d493_10 : decode cJ0_coder_7d493 10 = .ok (.goto 4, 3) := by decide +kernel
theorem dJ0_coder_7d493_13 : decode cJ0_coder_7d493 13 = .ok (.iconst 1, 1) := by decide +kernel
theorem dJ0_coder_7d493_14 : decode cJ0_coder_7d493 14 = .ok (.ireturn, 1) := by decide +kernel
def bZJ0_coder_7d493_0 (k0 : Nat) (rc : Nat → List Int32 → List Int64 → Mem → Option (Int32 × Mem)) (n : Nat) (M : Mem) : Option (Int32 × Mem) :=
  (if (1 : Int32) = 0 then (
   some ((1 : Int32), M))
  else (
   some ((0 : Int32), M)))
def fZJ0_coder_7d493 (n : Nat) (k0 : Nat) (M : Mem) : Option (Int32 × Mem) := bZJ0_coder_7d493_0 k0 (fun _ _ _ _ => none) n M
abbrev rmZJ0_coder_7d493 : Room := { frames := 0, cells := 0, slots := 0, locals := 0 }
theorem yZJ0_coder_7d493_w : yV RJ0 yJ0_coder_7d493 cJ0_coder_7d493 1 (some .byte) 0 := ⟨g_554, g_555, g_15, g_556, rfl, by decide, by decide, by decide +kernel⟩
set_option maxHeartbeats 4000000 in
set_option maxRecDepth 100000 in
theorem wZJ0_coder_7d493_0 {p : Program} {l : Launch} {e : Env} {s : State} {m : MethodId} {args : Array Value} {below : List Frame} {meth : Method} {c : Code} {z : Zt} {b : Nat} {k0 : Nat} (hk0 : k0 < 3) (C : Cx p s m args c cJ0_coder_7d493 1 RJ0 z 339 b) (hr : meth.sig.returnType = (some .byte)) (hk : meth.locks = false) {r : Int32} {M' : Mem} {rc : Nat → List Int32 → List Int64 → Mem → Option (Int32 × Mem)} {n : Nat}   {M : Mem} {H : Heap} {locs : List Loc} {ls : Array Slot} (hf : bZJ0_coder_7d493_0 k0 rc n  M = some (r, M')) (hP : va_P z.1 vwCl (pw (xd z b) 339 b M) H) (hS : va_S (pA 339 b) s.heap H locs) (hl : lv_has ls 1 [(0, .ref (z.2.2.2.2.1 k0))]) : W p l e rmZJ0_coder_7d493 s m args below meth c H locs 0 0 (MQ below (va_Qi (fun (r' : Int32) (M2 : Mem) => r' = r ∧ M2 = M') (fun M2 t => va_P z.1 vwCl (pw (xd z b) 339 b M2) t.heap) (pA 339 b)) args s 0 0 (pA 339 b)) (F0 m 0 ls []) := by
  have hx := C.1.1
  have hb := C.1.2.1
  unfold bZJ0_coder_7d493_0 at hf
  refine va_gets hx hb C.2.2.2.2.2.2.2 hS C.1.2.2.2.1 (C.1.2.2.2.2 _ g_547) (fun _ h => h) dJ0_coder_7d493_0 ?_
  refine lv_if_eq (tgt := 13) hx hb dJ0_coder_7d493_3 (by decide) (fun c1 => ?_) (fun c1 => ?_)
  · replace hf := ite_t c1 hf
    refine lv_iconst (v := (1 : Int32)) hx hb dJ0_coder_7d493_13 (by decide) ?_
    exact prB C hr hk hP hS hf rfl dJ0_coder_7d493_14
  · replace hf := ite_f c1 hf
    refine lv_aload_n hx hb dJ0_coder_7d493_6 rfl (lv_at hl 0 rfl) ?_
    refine vk_getf hx hb (C.2.2.2.2.2.2.1.1 k0 hk0).2.1 hS C.1.2.2.2.1 (C.1.2.2.2.2 _ g_1705) (fun _ h => h) dJ0_coder_7d493_7 ?_
    refine lv_goto (tgt := 14) hx hb dJ0_coder_7d493_10 (by decide) ?_
    exact prB C hr hk hP hS hf rfl dJ0_coder_7d493_14
theorem cZJ0_coder_7d493 {l : Launch} {z : Zt} {b n : Nat} {k0 : Nat} (hk0 : k0 < 3)  {M M' : Mem} {r : Int32} (hf : fZJ0_coder_7d493 n k0  M = some (r, M')) : CI l z (xd z b) 339 b yJ0_coder_7d493 cJ0_coder_7d493 1 (some .byte) rmZJ0_coder_7d493 [.ref (z.2.2.2.2.1 k0)] M M' r :=
  CI.ofW (lv := [(0, .ref (z.2.2.2.2.1 k0))]) (by decide) (Nat.le_of_ble_eq_true rfl) rfl (fun p e s m args below meth c ls C hr hk hP hS hl => wZJ0_coder_7d493_0 (n := n) hk0 C hr hk  hf hP hS hl)

-- java/lang/String.length()I
theorem dJ0_length_8abf5_0 : decode cJ0_length_8abf5 0 = .ok (.aload_n 0, 1) := by decide +kernel
theorem dJ0_length_8abf5_1 : decode cJ0_length_8abf5 1 = .ok (.getfield 9, 3) := by decide +kernel
theorem dJ0_length_8abf5_4 : decode cJ0_length_8abf5 4 = .ok (.arraylength, 1) := by decide +kernel
theorem dJ0_length_8abf5_5 : decode cJ0_length_8abf5 5 = .ok (.aload_n 0, 1) := by decide +kernel
theorem dJ0_length_8abf5_6 : decode cJ0_length_8abf5 6 = .ok (.invokevirtual 335, 3) := by decide +kernel
theorem dJ0_length_8abf5_9 : decode cJ0_length_8abf5 9 = .ok (.ishr, 1) := by decide +kernel
theorem dJ0_length_8abf5_10 : decode cJ0_length_8abf5 10 = .ok (.ireturn, 1) := by decide +kernel
def bZJ0_length_8abf5_0 (k0 : Nat) (rc : Nat → List Int32 → List Int64 → Mem → Option (Int32 × Mem)) (n : Nat) (M : Mem) : Option (Int32 × Mem) :=
  bnd (fZJ0_coder_7d493 n k0 M) fun r1 M2 =>
  some (((Int32.ofNat (strLens.getD k0 0)) >>> (r1 &&& 31)), M2)
def fZJ0_length_8abf5 (n : Nat) (k0 : Nat) (M : Mem) : Option (Int32 × Mem) := bZJ0_length_8abf5_0 k0 (fun _ _ _ _ => none) n M
abbrev rmZJ0_length_8abf5 : Room := { frames := 1, cells := 0, slots := 0, locals := 20 }
theorem yZJ0_length_8abf5_w : yV RJ0 yJ0_length_8abf5 cJ0_length_8abf5 1 (some .int) 0 := ⟨g_550, g_551, g_15, g_552, rfl, by decide, by decide, by decide +kernel⟩
set_option maxHeartbeats 4000000 in
set_option maxRecDepth 100000 in
theorem wZJ0_length_8abf5_0 {p : Program} {l : Launch} {e : Env} {s : State} {m : MethodId} {args : Array Value} {below : List Frame} {meth : Method} {c : Code} {z : Zt} {b : Nat} {k0 : Nat} (hk0 : k0 < 3) (C : Cx p s m args c cJ0_length_8abf5 1 RJ0 z 339 b) (hr : meth.sig.returnType = (some .int)) (hk : meth.locks = false) {r : Int32} {M' : Mem} {rc : Nat → List Int32 → List Int64 → Mem → Option (Int32 × Mem)} {n : Nat}   {M : Mem} {H : Heap} {locs : List Loc} {ls : Array Slot} (hf : bZJ0_length_8abf5_0 k0 rc n  M = some (r, M')) (hP : va_P z.1 vwCl (pw (xd z b) 339 b M) H) (hS : va_S (pA 339 b) s.heap H locs) (hl : lv_has ls 1 [(0, .ref (z.2.2.2.2.1 k0))]) : W p l e rmZJ0_length_8abf5 s m args below meth c H locs 0 0 (MQ below (va_Qi (fun (r' : Int32) (M2 : Mem) => r' = r ∧ M2 = M') (fun M2 t => va_P z.1 vwCl (pw (xd z b) 339 b M2) t.heap) (pA 339 b)) args s 0 0 (pA 339 b)) (F0 m 0 ls []) := by
  have hx := C.1.1
  have hb := C.1.2.1
  unfold bZJ0_length_8abf5_0 at hf
  refine lv_aload_n hx hb dJ0_length_8abf5_0 rfl (lv_at hl 0 rfl) ?_
  refine vk_getf hx hb (C.2.2.2.2.2.2.1.1 k0 hk0).2.2.1 hS C.1.2.2.2.1 (C.1.2.2.2.2 _ g_1706) (fun _ h => h) dJ0_length_8abf5_1 ?_
  refine va_tlen hx hb (C.2.2.2.2.2.2.1.1 k0 hk0).2.2.2 hS (v := (Int32.ofNat (strLens.getD k0 0))) rfl dJ0_length_8abf5_4 ?_
  refine lv_aload_n hx hb dJ0_length_8abf5_5 rfl (lv_at hl 0 rfl) ?_
  obtain ⟨r1, M2, h3, hf⟩ := bnd_s hf
  refine pcKi (As := []) C hP hS (k := k0) hk0 (cZJ0_coder_7d493 hk0 h3) yZJ0_coder_7d493_w g_553 rfl rfl rfl ⟨Nat.le_of_ble_eq_true rfl, Nat.le_of_ble_eq_true rfl⟩ hl.1 rfl (Nat.le_of_ble_eq_true rfl) dJ0_length_8abf5_6 ⟨Nat.le_of_ble_eq_true rfl, Nat.le_of_ble_eq_true rfl⟩ (fun H locs hP hS => ?_)
  refine lv_ishr hx hb dJ0_length_8abf5_9 ?_
  exact prI C hr hk hP hS hf dJ0_length_8abf5_10
theorem cZJ0_length_8abf5 {l : Launch} {z : Zt} {b n : Nat} {k0 : Nat} (hk0 : k0 < 3)  {M M' : Mem} {r : Int32} (hf : fZJ0_length_8abf5 n k0  M = some (r, M')) : CI l z (xd z b) 339 b yJ0_length_8abf5 cJ0_length_8abf5 1 (some .int) rmZJ0_length_8abf5 [.ref (z.2.2.2.2.1 k0)] M M' r :=
  CI.ofW (lv := [(0, .ref (z.2.2.2.2.1 k0))]) (by decide) (Nat.le_of_ble_eq_true rfl) rfl (fun p e s m args below meth c ls C hr hk hP hS hl => wZJ0_length_8abf5_0 (n := n) hk0 C hr hk  hf hP hS hl)

-- java/lang/StringLatin1.canEncode(I)Z
theorem dJ1_canEncode_9a6ad_0 : decode cJ1_canEncode_9a6ad 0 = .ok (.iload_n 0, 1) := by decide +kernel
theorem dJ1_canEncode_9a6ad_1 : decode cJ1_canEncode_9a6ad 1 = .ok (.ifCond .lt 14, 3) := by decide +kernel
theorem dJ1_canEncode_9a6ad_4 : decode cJ1_canEncode_9a6ad 4 = .ok (.iload_n 0, 1) := by decide +kernel
theorem dJ1_canEncode_9a6ad_5 : decode cJ1_canEncode_9a6ad 5 = .ok (.sipush 255, 3) := by decide +kernel
theorem dJ1_canEncode_9a6ad_8 : decode cJ1_canEncode_9a6ad 8 = .ok (.if_icmp .gt 7, 3) := by decide +kernel
theorem dJ1_canEncode_9a6ad_11 : decode cJ1_canEncode_9a6ad 11 = .ok (.iconst 1, 1) := by decide +kernel
theorem dJ1_canEncode_9a6ad_12 : decode cJ1_canEncode_9a6ad 12 = .ok (.goto 4, 3) := by decide +kernel
theorem dJ1_canEncode_9a6ad_15 : decode cJ1_canEncode_9a6ad 15 = .ok (.iconst 0, 1) := by decide +kernel
theorem dJ1_canEncode_9a6ad_16 : decode cJ1_canEncode_9a6ad 16 = .ok (.ireturn, 1) := by decide +kernel
def bZJ1_canEncode_9a6ad_15 (rc : Nat → List Int32 → List Int64 → Mem → Option (Int32 × Mem)) (n : Nat) (M : Mem) : Option (Int32 × Mem) :=
  some ((0 : Int32), M)
def bZJ1_canEncode_9a6ad_0 (rc : Nat → List Int32 → List Int64 → Mem → Option (Int32 × Mem)) (n : Nat) (a0 : Int32) (M : Mem) : Option (Int32 × Mem) :=
  (if a0 < 0 then (
   bZJ1_canEncode_9a6ad_15  rc n  M)
  else (
   (if (255 : Int32) < a0 then (
    bZJ1_canEncode_9a6ad_15  rc n  M)
   else (
    some ((1 : Int32), M)))))
def fZJ1_canEncode_9a6ad (n : Nat) (a0 : Int32) (M : Mem) : Option (Int32 × Mem) := bZJ1_canEncode_9a6ad_0 (fun _ _ _ _ => none) n a0 M
abbrev rmZJ1_canEncode_9a6ad : Room := { frames := 0, cells := 0, slots := 0, locals := 0 }
theorem yZJ1_canEncode_9a6ad_w : yS yJ1_canEncode_9a6ad cJ1_canEncode_9a6ad 1 (some .boolean) 1 := ⟨g_561, g_16, g_562, by decide, by decide, by decide +kernel⟩
set_option maxHeartbeats 4000000 in
set_option maxRecDepth 100000 in
theorem wZJ1_canEncode_9a6ad_15 {p : Program} {l : Launch} {e : Env} {s : State} {m : MethodId} {args : Array Value} {below : List Frame} {meth : Method} {c : Code} {z : Zt} {b : Nat}  (C : Cx p s m args c cJ1_canEncode_9a6ad 1 RJ1 z 339 b) (hr : meth.sig.returnType = (some .boolean)) (hk : meth.locks = false) {r : Int32} {M' : Mem} {rc : Nat → List Int32 → List Int64 → Mem → Option (Int32 × Mem)} {n : Nat}   {M : Mem} {H : Heap} {locs : List Loc} {ls : Array Slot} (hf : bZJ1_canEncode_9a6ad_15  rc n  M = some (r, M')) (hP : va_P z.1 vwCl (pw (xd z b) 339 b M) H) (hS : va_S (pA 339 b) s.heap H locs) (hl : lv_has ls 1 []) : W p l e rmZJ1_canEncode_9a6ad s m args below meth c H locs 0 0 (MQ below (va_Qi (fun (r' : Int32) (M2 : Mem) => r' = r ∧ M2 = M') (fun M2 t => va_P z.1 vwCl (pw (xd z b) 339 b M2) t.heap) (pA 339 b)) args s 0 0 (pA 339 b)) (F0 m 15 ls []) := by
  have hx := C.1.1
  have hb := C.1.2.1
  unfold bZJ1_canEncode_9a6ad_15 at hf
  refine lv_iconst (v := (0 : Int32)) hx hb dJ1_canEncode_9a6ad_15 (by decide) ?_
  exact prZ C hr hk hP hS hf rfl dJ1_canEncode_9a6ad_16
set_option maxHeartbeats 4000000 in
set_option maxRecDepth 100000 in
theorem wZJ1_canEncode_9a6ad_0 {p : Program} {l : Launch} {e : Env} {s : State} {m : MethodId} {args : Array Value} {below : List Frame} {meth : Method} {c : Code} {z : Zt} {b : Nat}  (C : Cx p s m args c cJ1_canEncode_9a6ad 1 RJ1 z 339 b) (hr : meth.sig.returnType = (some .boolean)) (hk : meth.locks = false) {r : Int32} {M' : Mem} {rc : Nat → List Int32 → List Int64 → Mem → Option (Int32 × Mem)} {n : Nat}  {a0 : Int32} {M : Mem} {H : Heap} {locs : List Loc} {ls : Array Slot} (hf : bZJ1_canEncode_9a6ad_0  rc n a0 M = some (r, M')) (hP : va_P z.1 vwCl (pw (xd z b) 339 b M) H) (hS : va_S (pA 339 b) s.heap H locs) (hl : lv_has ls 1 [(0, .int a0)]) : W p l e rmZJ1_canEncode_9a6ad s m args below meth c H locs 0 0 (MQ below (va_Qi (fun (r' : Int32) (M2 : Mem) => r' = r ∧ M2 = M') (fun M2 t => va_P z.1 vwCl (pw (xd z b) 339 b M2) t.heap) (pA 339 b)) args s 0 0 (pA 339 b)) (F0 m 0 ls []) := by
  have hx := C.1.1
  have hb := C.1.2.1
  unfold bZJ1_canEncode_9a6ad_0 at hf
  refine lv_iload_n hx hb dJ1_canEncode_9a6ad_0 rfl (lv_at hl 0 rfl) ?_
  refine lv_if_lt (tgt := 15) hx hb dJ1_canEncode_9a6ad_1 (by decide) (fun c1 => ?_) (fun c1 => ?_)
  · replace hf := ite_t c1 hf
    exact wZJ1_canEncode_9a6ad_15 (n := n)  C hr hk  hf hP hS (lv_sub hl [] rfl)
  · replace hf := ite_f c1 hf
    refine lv_iload_n hx hb dJ1_canEncode_9a6ad_4 rfl (lv_at hl 0 rfl) ?_
    refine lv_sipush (v := (255 : Int32)) hx hb dJ1_canEncode_9a6ad_5 (by decide) ?_
    refine lv_icmp_gt (tgt := 15) hx hb dJ1_canEncode_9a6ad_8 (by decide) (fun c2 => ?_) (fun c2 => ?_)
    · replace hf := ite_t c2 hf
      exact wZJ1_canEncode_9a6ad_15 (n := n)  C hr hk  hf hP hS (lv_sub hl [] rfl)
    · replace hf := ite_f c2 hf
      refine lv_iconst (v := (1 : Int32)) hx hb dJ1_canEncode_9a6ad_11 (by decide) ?_
      refine lv_goto (tgt := 16) hx hb dJ1_canEncode_9a6ad_12 (by decide) ?_
      exact prZ C hr hk hP hS hf rfl dJ1_canEncode_9a6ad_16
theorem cZJ1_canEncode_9a6ad {l : Launch} {z : Zt} {b n : Nat}  {a0 : Int32} {M M' : Mem} {r : Int32} (hf : fZJ1_canEncode_9a6ad n  a0 M = some (r, M')) : CI l z (xd z b) 339 b yJ1_canEncode_9a6ad cJ1_canEncode_9a6ad 1 (some .boolean) rmZJ1_canEncode_9a6ad [.int a0] M M' r :=
  CI.ofW (lv := [(0, .int a0)]) (by decide) (Nat.le_of_ble_eq_true rfl) rfl (fun p e s m args below meth c ls C hr hk hP hS hl => wZJ1_canEncode_9a6ad_0 (n := n)  C hr hk  hf hP hS hl)

-- java/lang/StringLatin1.indexOfChar([BIII)I
theorem dJ1_indexOfChar_4cfef_0 : decode cJ1_indexOfChar_4cfef 0 = .ok (.iload_n 1, 1) := by decide +kernel
theorem dJ1_indexOfChar_4cfef_1 : decode cJ1_indexOfChar_4cfef 1 = .ok (.i2b, 1) := by decide +kernel
theorem dJ1_indexOfChar_4cfef_2 : decode cJ1_indexOfChar_4cfef 2 = .ok (.istore 4, 2) := by decide +kernel
theorem dJ1_indexOfChar_4cfef_4 : decode cJ1_indexOfChar_4cfef 4 = .ok (.iload_n 2, 1) := by decide +kernel
theorem dJ1_indexOfChar_4cfef_5 : decode cJ1_indexOfChar_4cfef 5 = .ok (.istore 5, 2) := by decide +kernel
theorem dJ1_indexOfChar_4cfef_7 : decode cJ1_indexOfChar_4cfef 7 = .ok (.iload 5, 2) := by decide +kernel
theorem dJ1_indexOfChar_4cfef_9 : decode cJ1_indexOfChar_4cfef 9 = .ok (.iload_n 3, 1) := by decide +kernel
theorem dJ1_indexOfChar_4cfef_10 : decode cJ1_indexOfChar_4cfef 10 = .ok (.if_icmp .ge 21, 3) := by decide +kernel
theorem dJ1_indexOfChar_4cfef_13 : decode cJ1_indexOfChar_4cfef 13 = .ok (.aload_n 0, 1) := by decide +kernel
theorem dJ1_indexOfChar_4cfef_14 : decode cJ1_indexOfChar_4cfef 14 = .ok (.iload 5, 2) := by decide +kernel
theorem dJ1_indexOfChar_4cfef_16 : decode cJ1_indexOfChar_4cfef 16 = .ok (.baload, 1) := by decide +kernel
theorem dJ1_indexOfChar_4cfef_17 : decode cJ1_indexOfChar_4cfef 17 = .ok (.iload 4, 2) := by decide +kernel
theorem dJ1_indexOfChar_4cfef_19 : decode cJ1_indexOfChar_4cfef 19 = .ok (.if_icmp .ne 6, 3) := by decide +kernel
theorem dJ1_indexOfChar_4cfef_22 : decode cJ1_indexOfChar_4cfef 22 = .ok (.iload 5, 2) := by decide +kernel
theorem dJ1_indexOfChar_4cfef_24 : decode cJ1_indexOfChar_4cfef 24 = .ok (.ireturn, 1) := by decide +kernel
theorem dJ1_indexOfChar_4cfef_25 : decode cJ1_indexOfChar_4cfef 25 = .ok (.iinc 5 1, 3) := by decide +kernel
theorem dJ1_indexOfChar_4cfef_28 : decode cJ1_indexOfChar_4cfef 28 = .ok (.goto (-21), 3) := by decide +kernel
theorem dJ1_indexOfChar_4cfef_31 : decode cJ1_indexOfChar_4cfef 31 = .ok (.iconst (-1), 1) := by decide +kernel
theorem dJ1_indexOfChar_4cfef_32 : decode cJ1_indexOfChar_4cfef 32 = .ok (.ireturn, 1) := by decide +kernel
def bZJ1_indexOfChar_4cfef_7 (k0 : Nat) (rc : Nat → List Int32 → List Int64 → Mem → Option (Int32 × Mem)) (n : Nat) (i3 : Int32) (i4 : Int32) (i5 : Int32) (M : Mem) : Option (Int32 × Mem) :=
  (if i3 ≤ i5 then (
   some ((-1 : Int32), M))
  else (
   chk (inb i5 (strLens.getD k0 0)) <|
   (if ((strByts.getD k0 []).getD i5.toNatClampNeg 0) = i4 then (
    some (i5, M))
   else (
    lt (i5 + (1 : Int32)) fun v5 =>
    rc 7 [i3, i4, v5] [] M))))
def bZJ1_indexOfChar_4cfef_0 (k0 : Nat) (rc : Nat → List Int32 → List Int64 → Mem → Option (Int32 × Mem)) (n : Nat) (a1 : Int32) (a2 : Int32) (a3 : Int32) (M : Mem) : Option (Int32 × Mem) :=
  lt a1.toInt8.toInt32 fun v1 =>
  bZJ1_indexOfChar_4cfef_7 k0 rc n a3 v1 a2 M
def rZJ1_indexOfChar_4cfef (k0 : Nat) : Nat → Nat → List Int32 → List Int64 → Mem → Option (Int32 × Mem)
  | 0 => fun _ _ _ _ => none
  | n + 1 => fun pc li lj M =>
    if pc = 7 then (match li, lj with | [i3, i4, i5], [] => bZJ1_indexOfChar_4cfef_7 k0 (rZJ1_indexOfChar_4cfef k0 n) n i3 i4 i5 M | _, _ => none) else
    none
theorem eZJ1_indexOfChar_4cfef_7 (k0 : Nat) (n : Nat) (i3 : Int32) (i4 : Int32) (i5 : Int32) (M : Mem) : rZJ1_indexOfChar_4cfef k0 (n + 1) 7 [i3, i4, i5] [] M = bZJ1_indexOfChar_4cfef_7 k0 (rZJ1_indexOfChar_4cfef k0 n) n i3 i4 i5 M := by
  rw [rZJ1_indexOfChar_4cfef]
  simp
def fZJ1_indexOfChar_4cfef (n : Nat) (k0 : Nat) (a1 : Int32) (a2 : Int32) (a3 : Int32) (M : Mem) : Option (Int32 × Mem) := bZJ1_indexOfChar_4cfef_0 k0 (rZJ1_indexOfChar_4cfef k0 n) n a1 a2 a3 M
abbrev rmZJ1_indexOfChar_4cfef : Room := { frames := 0, cells := 0, slots := 0, locals := 0 }
theorem yZJ1_indexOfChar_4cfef_w : yS yJ1_indexOfChar_4cfef cJ1_indexOfChar_4cfef 6 (some .int) 4 := ⟨g_570, g_16, g_571, by decide, by decide, by decide +kernel⟩
set_option maxHeartbeats 4000000 in
set_option maxRecDepth 100000 in
theorem wZJ1_indexOfChar_4cfef_7 {p : Program} {l : Launch} {e : Env} {s : State} {m : MethodId} {args : Array Value} {below : List Frame} {meth : Method} {c : Code} {z : Zt} {b : Nat} {k0 : Nat} (hk0 : k0 < 3) (C : Cx p s m args c cJ1_indexOfChar_4cfef 6 RJ1 z 339 b) (hr : meth.sig.returnType = (some .int)) (hk : meth.locks = false) {r : Int32} {M' : Mem} {rc : Nat → List Int32 → List Int64 → Mem → Option (Int32 × Mem)} {n : Nat} (q7 : ∀ (i3 : Int32) (i4 : Int32) (i5 : Int32) (M : Mem) (H : Heap) (locs : List Loc) (ls : Array Slot), rc 7 [i3, i4, i5] [] M = some (r, M') → va_P z.1 vwCl (pw (xd z b) 339 b M) H → va_S (pA 339 b) s.heap H locs → lv_has ls 6 [(0, .ref (z.2.2.2.2.2 k0)), (3, .int i3), (4, .int i4), (5, .int i5)] → W p l e rmZJ1_indexOfChar_4cfef s m args below meth c H locs 0 0 (MQ below (va_Qi (fun (r' : Int32) (M2 : Mem) => r' = r ∧ M2 = M') (fun M2 t => va_P z.1 vwCl (pw (xd z b) 339 b M2) t.heap) (pA 339 b)) args s 0 0 (pA 339 b)) (F0 m 7 ls [])) {i3 : Int32} {i4 : Int32} {i5 : Int32} {M : Mem} {H : Heap} {locs : List Loc} {ls : Array Slot} (hf : bZJ1_indexOfChar_4cfef_7 k0 rc n i3 i4 i5 M = some (r, M')) (hP : va_P z.1 vwCl (pw (xd z b) 339 b M) H) (hS : va_S (pA 339 b) s.heap H locs) (hl : lv_has ls 6 [(0, .ref (z.2.2.2.2.2 k0)), (3, .int i3), (4, .int i4), (5, .int i5)]) : W p l e rmZJ1_indexOfChar_4cfef s m args below meth c H locs 0 0 (MQ below (va_Qi (fun (r' : Int32) (M2 : Mem) => r' = r ∧ M2 = M') (fun M2 t => va_P z.1 vwCl (pw (xd z b) 339 b M2) t.heap) (pA 339 b)) args s 0 0 (pA 339 b)) (F0 m 7 ls []) := by
  have hx := C.1.1
  have hb := C.1.2.1
  unfold bZJ1_indexOfChar_4cfef_7 at hf
  refine lv_iload hx hb dJ1_indexOfChar_4cfef_7 (lv_at hl 3 rfl) ?_
  refine lv_iload_n hx hb dJ1_indexOfChar_4cfef_9 rfl (lv_at hl 1 rfl) ?_
  refine lv_icmp_ge (tgt := 31) hx hb dJ1_indexOfChar_4cfef_10 (by decide) (fun c2 => ?_) (fun c2 => ?_)
  · replace hf := ite_t c2 hf
    refine lv_iconst (v := (-1 : Int32)) hx hb dJ1_indexOfChar_4cfef_31 (by decide) ?_
    exact prI C hr hk hP hS hf dJ1_indexOfChar_4cfef_32
  · replace hf := ite_f c2 hf
    refine lv_aload_n hx hb dJ1_indexOfChar_4cfef_13 rfl (lv_at hl 0 rfl) ?_
    refine lv_iload hx hb dJ1_indexOfChar_4cfef_14 (lv_at hl 3 rfl) ?_
    have h3 := chk_1 hf
    replace hf := chk_2 hf
    refine va_tb hx hb (C.2.2.2.2.2.2.1.1 k0 hk0).2.2.2 hS (inb_in h3) rfl dJ1_indexOfChar_4cfef_16 ?_
    refine lv_iload hx hb dJ1_indexOfChar_4cfef_17 (lv_at hl 2 rfl) ?_
    refine lv_icmp_ne (tgt := 25) hx hb dJ1_indexOfChar_4cfef_19 (by decide) (fun c4 => ?_) (fun c4 => ?_)
    · replace hf := ite_f c4 hf
      obtain ⟨v5, ev5⟩ : ∃ v : Int32, v = i5 + (1 : Int32) := ⟨_, rfl⟩
      replace hf := lt_c ev5 hf
      refine lv_iinc (v := v5) (lv' := [(5, .int v5), (0, .ref (z.2.2.2.2.2 k0)), (3, .int i3), (4, .int i4)]) hx hb dJ1_indexOfChar_4cfef_25 hl (k := 3) rfl (by rw [ev5]; rfl) (by decide) rfl (fun ls hl => ?_)
      refine lv_goto (tgt := 7) hx hb dJ1_indexOfChar_4cfef_28 (by decide) ?_
      exact q7 i3 i4 v5 M _ _ _ hf hP hS (lv_sub hl [1, 2, 3, 0] rfl)
    · replace hf := ite_t c4 hf
      refine lv_iload hx hb dJ1_indexOfChar_4cfef_22 (lv_at hl 3 rfl) ?_
      exact prI C hr hk hP hS hf dJ1_indexOfChar_4cfef_24
set_option maxHeartbeats 4000000 in
set_option maxRecDepth 100000 in
theorem wZJ1_indexOfChar_4cfef_0 {p : Program} {l : Launch} {e : Env} {s : State} {m : MethodId} {args : Array Value} {below : List Frame} {meth : Method} {c : Code} {z : Zt} {b : Nat} {k0 : Nat} (hk0 : k0 < 3) (C : Cx p s m args c cJ1_indexOfChar_4cfef 6 RJ1 z 339 b) (hr : meth.sig.returnType = (some .int)) (hk : meth.locks = false) {r : Int32} {M' : Mem} {rc : Nat → List Int32 → List Int64 → Mem → Option (Int32 × Mem)} {n : Nat} (q7 : ∀ (i3 : Int32) (i4 : Int32) (i5 : Int32) (M : Mem) (H : Heap) (locs : List Loc) (ls : Array Slot), rc 7 [i3, i4, i5] [] M = some (r, M') → va_P z.1 vwCl (pw (xd z b) 339 b M) H → va_S (pA 339 b) s.heap H locs → lv_has ls 6 [(0, .ref (z.2.2.2.2.2 k0)), (3, .int i3), (4, .int i4), (5, .int i5)] → W p l e rmZJ1_indexOfChar_4cfef s m args below meth c H locs 0 0 (MQ below (va_Qi (fun (r' : Int32) (M2 : Mem) => r' = r ∧ M2 = M') (fun M2 t => va_P z.1 vwCl (pw (xd z b) 339 b M2) t.heap) (pA 339 b)) args s 0 0 (pA 339 b)) (F0 m 7 ls [])) {a1 : Int32} {a2 : Int32} {a3 : Int32} {M : Mem} {H : Heap} {locs : List Loc} {ls : Array Slot} (hf : bZJ1_indexOfChar_4cfef_0 k0 rc n a1 a2 a3 M = some (r, M')) (hP : va_P z.1 vwCl (pw (xd z b) 339 b M) H) (hS : va_S (pA 339 b) s.heap H locs) (hl : lv_has ls 6 [(0, .ref (z.2.2.2.2.2 k0)), (1, .int a1), (2, .int a2), (3, .int a3)]) : W p l e rmZJ1_indexOfChar_4cfef s m args below meth c H locs 0 0 (MQ below (va_Qi (fun (r' : Int32) (M2 : Mem) => r' = r ∧ M2 = M') (fun M2 t => va_P z.1 vwCl (pw (xd z b) 339 b M2) t.heap) (pA 339 b)) args s 0 0 (pA 339 b)) (F0 m 0 ls []) := by
  have hx := C.1.1
  have hb := C.1.2.1
  unfold bZJ1_indexOfChar_4cfef_0 at hf
  refine lv_iload_n hx hb dJ1_indexOfChar_4cfef_0 rfl (lv_at hl 1 rfl) ?_
  refine lv_i2b hx hb dJ1_indexOfChar_4cfef_1 rfl ?_
  refine lv_topi (fun v1 ev1 => ?_)
  replace hf := lt_c ev1 hf
  refine lv_istore (lv' := [(4, .int v1), (0, .ref (z.2.2.2.2.2 k0)), (1, .int a1), (2, .int a2), (3, .int a3)]) hx hb dJ1_indexOfChar_4cfef_2 hl (by decide) rfl (fun ls hl => ?_)
  refine lv_iload_n hx hb dJ1_indexOfChar_4cfef_4 rfl (lv_at hl 3 rfl) ?_
  refine lv_istore (lv' := [(5, .int a2), (4, .int v1), (0, .ref (z.2.2.2.2.2 k0)), (1, .int a1), (2, .int a2), (3, .int a3)]) hx hb dJ1_indexOfChar_4cfef_5 hl (by decide) rfl (fun ls hl => ?_)
  exact wZJ1_indexOfChar_4cfef_7 (n := n) hk0 C hr hk q7 hf hP hS (lv_sub hl [2, 5, 1, 0] rfl)
set_option maxHeartbeats 4000000 in
set_option maxRecDepth 100000 in
theorem lZJ1_indexOfChar_4cfef {p : Program} {l : Launch} {e : Env} {s : State} {m : MethodId} {args : Array Value} {below : List Frame} {meth : Method} {c : Code} {z : Zt} {b : Nat} {k0 : Nat} (hk0 : k0 < 3) (C : Cx p s m args c cJ1_indexOfChar_4cfef 6 RJ1 z 339 b) (hr : meth.sig.returnType = (some .int)) (hk : meth.locks = false) {r : Int32} {M' : Mem} (n : Nat) : (∀ (i3 : Int32) (i4 : Int32) (i5 : Int32) (M : Mem) (H : Heap) (locs : List Loc) (ls : Array Slot), (rZJ1_indexOfChar_4cfef k0 n) 7 [i3, i4, i5] [] M = some (r, M') → va_P z.1 vwCl (pw (xd z b) 339 b M) H → va_S (pA 339 b) s.heap H locs → lv_has ls 6 [(0, .ref (z.2.2.2.2.2 k0)), (3, .int i3), (4, .int i4), (5, .int i5)] → W p l e rmZJ1_indexOfChar_4cfef s m args below meth c H locs 0 0 (MQ below (va_Qi (fun (r' : Int32) (M2 : Mem) => r' = r ∧ M2 = M') (fun M2 t => va_P z.1 vwCl (pw (xd z b) 339 b M2) t.heap) (pA 339 b)) args s 0 0 (pA 339 b)) (F0 m 7 ls [])) := by
  induction n with
  | zero => exact fun _ _ _ _ _ _ _ hf => (by cases hf)
  | succ n ih => exact fun _ _ _ _ _ _ _ hf hP hS hl => wZJ1_indexOfChar_4cfef_7 (n := n) hk0 C hr hk ih ((eZJ1_indexOfChar_4cfef_7 _ n _ _ _ _).symm.trans hf) hP hS hl
theorem cZJ1_indexOfChar_4cfef {l : Launch} {z : Zt} {b n : Nat} {k0 : Nat} (hk0 : k0 < 3) {a1 : Int32} {a2 : Int32} {a3 : Int32} {M M' : Mem} {r : Int32} (hf : fZJ1_indexOfChar_4cfef n k0 a1 a2 a3 M = some (r, M')) : CI l z (xd z b) 339 b yJ1_indexOfChar_4cfef cJ1_indexOfChar_4cfef 6 (some .int) rmZJ1_indexOfChar_4cfef [.ref (z.2.2.2.2.2 k0), .int a1, .int a2, .int a3] M M' r :=
  CI.ofW (lv := [(0, .ref (z.2.2.2.2.2 k0)), (1, .int a1), (2, .int a2), (3, .int a3)]) (by decide) (Nat.le_of_ble_eq_true rfl) rfl (fun p e s m args below meth c ls C hr hk hP hS hl => wZJ1_indexOfChar_4cfef_0 (n := n) hk0 C hr hk (lZJ1_indexOfChar_4cfef hk0 C hr hk n) hf hP hS hl)

-- java/lang/StringLatin1.indexOf([BIII)I
theorem dJ1_indexOf_4cfef_0 : decode cJ1_indexOf_4cfef 0 = .ok (.iload_n 1, 1) := by decide +kernel
theorem dJ1_indexOf_4cfef_1 : decode cJ1_indexOf_4cfef 1 = .ok (.invokestatic 88, 3) := by decide +kernel
theorem dJ1_indexOf_4cfef_4 : decode cJ1_indexOf_4cfef 4 = .ok (.ifCond .ne 5, 3) := by decide +kernel
theorem dJ1_indexOf_4cfef_7 : decode cJ1_indexOf_4cfef 7 = .ok (.iconst (-1), 1) := by decide +kernel
theorem dJ1_indexOf_4cfef_8 : decode cJ1_indexOf_4cfef 8 = .ok (.ireturn, 1) := by decide +kernel
theorem dJ1_indexOf_4cfef_9 : decode cJ1_indexOf_4cfef 9 = .ok (.iload_n 2, 1) := by decide +kernel
theorem dJ1_indexOf_4cfef_10 : decode cJ1_indexOf_4cfef 10 = .ok (.iconst 0, 1) := by decide +kernel
theorem dJ1_indexOf_4cfef_11 : decode cJ1_indexOf_4cfef 11 = .ok (.invokestatic 92, 3) := by decide +kernel
theorem dJ1_indexOf_4cfef_14 : decode cJ1_indexOf_4cfef 14 = .ok (.istore_n 2, 1) := by decide +kernel
theorem dJ1_indexOf_4cfef_15 : decode cJ1_indexOf_4cfef 15 = .ok (.iload_n 3, 1) := by decide +kernel
theorem dJ1_indexOf_4cfef_16 : decode cJ1_indexOf_4cfef 16 = .ok (.aload_n 0, 1) := by decide +kernel
theorem dJ1_indexOf_4cfef_17 : decode cJ1_indexOf_4cfef 17 = .ok (.arraylength, 1) := by decide +kernel
theorem dJ1_indexOf_4cfef_18 : decode cJ1_indexOf_4cfef 18 = .ok (.invokestatic 38, 3) := by decide +kernel
theorem dJ1_indexOf_4cfef_21 : decode cJ1_indexOf_4cfef 21 = .ok (.istore_n 3, 1) := by decide +kernel
theorem dJ1_indexOf_4cfef_22 : decode cJ1_indexOf_4cfef 22 = .ok (.iload_n 2, 1) := by decide +kernel
theorem dJ1_indexOf_4cfef_23 : decode cJ1_indexOf_4cfef 23 = .ok (.iload_n 3, 1) := by decide +kernel
theorem dJ1_indexOf_4cfef_24 : decode cJ1_indexOf_4cfef 24 = .ok (.if_icmp .lt 5, 3) := by decide +kernel
theorem dJ1_indexOf_4cfef_27 : decode cJ1_indexOf_4cfef 27 = .ok (.iconst (-1), 1) := by decide +kernel
theorem dJ1_indexOf_4cfef_28 : decode cJ1_indexOf_4cfef 28 = .ok (.ireturn, 1) := by decide +kernel
theorem dJ1_indexOf_4cfef_29 : decode cJ1_indexOf_4cfef 29 = .ok (.aload_n 0, 1) := by decide +kernel
theorem dJ1_indexOf_4cfef_30 : decode cJ1_indexOf_4cfef 30 = .ok (.iload_n 1, 1) := by decide +kernel
theorem dJ1_indexOf_4cfef_31 : decode cJ1_indexOf_4cfef 31 = .ok (.iload_n 2, 1) := by decide +kernel
theorem dJ1_indexOf_4cfef_32 : decode cJ1_indexOf_4cfef 32 = .ok (.iload_n 3, 1) := by decide +kernel
theorem dJ1_indexOf_4cfef_33 : decode cJ1_indexOf_4cfef 33 = .ok (.invokestatic 95, 3) := by decide +kernel
theorem dJ1_indexOf_4cfef_36 : decode cJ1_indexOf_4cfef 36 = .ok (.ireturn, 1) := by decide +kernel
def bZJ1_indexOf_4cfef_0 (k0 : Nat) (rc : Nat → List Int32 → List Int64 → Mem → Option (Int32 × Mem)) (n : Nat) (a1 : Int32) (a2 : Int32) (a3 : Int32) (M : Mem) : Option (Int32 × Mem) :=
  bnd (fZJ1_canEncode_9a6ad n a1 M) fun r1 M2 =>
  (if r1 = 0 then (
   some ((-1 : Int32), M2))
  else (
   lt (if a2 < (0 : Int32) then (0 : Int32) else a2) fun v5 =>
   lt (if (Int32.ofNat (strLens.getD k0 0)) < a3 then (Int32.ofNat (strLens.getD k0 0)) else a3) fun v6 =>
   (if v5 < v6 then (
    bnd (fZJ1_indexOfChar_4cfef n k0 a1 v5 v6 M2) fun r8 M9 =>
    some (r8, M9))
   else (
    some ((-1 : Int32), M2)))))
def fZJ1_indexOf_4cfef (n : Nat) (k0 : Nat) (a1 : Int32) (a2 : Int32) (a3 : Int32) (M : Mem) : Option (Int32 × Mem) := bZJ1_indexOf_4cfef_0 k0 (fun _ _ _ _ => none) n a1 a2 a3 M
abbrev rmZJ1_indexOf_4cfef : Room := { frames := 1, cells := 0, slots := 0, locals := 25 }
theorem yZJ1_indexOf_4cfef_w : yS yJ1_indexOf_4cfef cJ1_indexOf_4cfef 4 (some .int) 4 := ⟨g_558, g_16, g_559, by decide, by decide, by decide +kernel⟩
set_option maxHeartbeats 4000000 in
set_option maxRecDepth 100000 in
theorem wZJ1_indexOf_4cfef_0 {p : Program} {l : Launch} {e : Env} {s : State} {m : MethodId} {args : Array Value} {below : List Frame} {meth : Method} {c : Code} {z : Zt} {b : Nat} {k0 : Nat} (hk0 : k0 < 3) (C : Cx p s m args c cJ1_indexOf_4cfef 4 RJ1 z 339 b) (hr : meth.sig.returnType = (some .int)) (hk : meth.locks = false) {r : Int32} {M' : Mem} {rc : Nat → List Int32 → List Int64 → Mem → Option (Int32 × Mem)} {n : Nat}  {a1 : Int32} {a2 : Int32} {a3 : Int32} {M : Mem} {H : Heap} {locs : List Loc} {ls : Array Slot} (hf : bZJ1_indexOf_4cfef_0 k0 rc n a1 a2 a3 M = some (r, M')) (hP : va_P z.1 vwCl (pw (xd z b) 339 b M) H) (hS : va_S (pA 339 b) s.heap H locs) (hl : lv_has ls 4 [(0, .ref (z.2.2.2.2.2 k0)), (1, .int a1), (2, .int a2), (3, .int a3)]) : W p l e rmZJ1_indexOf_4cfef s m args below meth c H locs 0 0 (MQ below (va_Qi (fun (r' : Int32) (M2 : Mem) => r' = r ∧ M2 = M') (fun M2 t => va_P z.1 vwCl (pw (xd z b) 339 b M2) t.heap) (pA 339 b)) args s 0 0 (pA 339 b)) (F0 m 0 ls []) := by
  have hx := C.1.1
  have hb := C.1.2.1
  unfold bZJ1_indexOf_4cfef_0 at hf
  refine lv_iload_n hx hb dJ1_indexOf_4cfef_0 rfl (lv_at hl 1 rfl) ?_
  obtain ⟨r1, M2, h3, hf⟩ := bnd_s hf
  refine pcSi (As := [.int a1]) C hP hS (cZJ1_canEncode_9a6ad  h3) yZJ1_canEncode_9a6ad_w g_560 rfl rfl rfl ⟨Nat.le_of_ble_eq_true rfl, Nat.le_of_ble_eq_true rfl⟩ hl.1 rfl (Nat.le_of_ble_eq_true rfl) dJ1_indexOf_4cfef_1 ⟨Nat.le_of_ble_eq_true rfl, Nat.le_of_ble_eq_true rfl⟩ (fun H locs hP hS => ?_)
  refine lv_if_ne (tgt := 9) hx hb dJ1_indexOf_4cfef_4 (by decide) (fun c4 => ?_) (fun c4 => ?_)
  · replace hf := ite_f c4 hf
    refine lv_iload_n hx hb dJ1_indexOf_4cfef_9 rfl (lv_at hl 2 rfl) ?_
    refine lv_iconst (v := (0 : Int32)) hx hb dJ1_indexOf_4cfef_10 (by decide) ?_
    refine va_mmax hx hb (by rw [C.1.2.2.1]; exact hl.1.symm) C.1.2.2.2.1 (C.1.2.2.2.2 _ g_563) (C.1.2.2.2.2 _ g_564) (C.1.2.2.2.2 _ g_17) (C.1.2.2.2.2 _ g_565) (Nat.le_of_ble_eq_true rfl) (Nat.le_of_ble_eq_true rfl) (Nat.le_of_ble_eq_true rfl) (Nat.le_of_ble_eq_true rfl) dJ1_indexOf_4cfef_11 ?_
    refine lv_topi (fun v5 ev5 => ?_)
    replace hf := lt_c ev5 hf
    refine lv_istore_n (lv' := [(2, .int v5), (0, .ref (z.2.2.2.2.2 k0)), (1, .int a1), (3, .int a3)]) hx hb dJ1_indexOf_4cfef_14 rfl hl (by decide) rfl (fun ls hl => ?_)
    refine lv_iload_n hx hb dJ1_indexOf_4cfef_15 rfl (lv_at hl 3 rfl) ?_
    refine lv_aload_n hx hb dJ1_indexOf_4cfef_16 rfl (lv_at hl 1 rfl) ?_
    refine va_tlen hx hb (C.2.2.2.2.2.2.1.1 k0 hk0).2.2.2 hS (v := (Int32.ofNat (strLens.getD k0 0))) rfl dJ1_indexOf_4cfef_17 ?_
    refine va_mmin hx hb (by rw [C.1.2.2.1]; exact hl.1.symm) C.1.2.2.2.1 (C.1.2.2.2.2 _ g_566) (C.1.2.2.2.2 _ g_567) (C.1.2.2.2.2 _ g_17) (C.1.2.2.2.2 _ g_568) (Nat.le_of_ble_eq_true rfl) (Nat.le_of_ble_eq_true rfl) (Nat.le_of_ble_eq_true rfl) (Nat.le_of_ble_eq_true rfl) dJ1_indexOf_4cfef_18 ?_
    refine lv_topi (fun v6 ev6 => ?_)
    replace hf := lt_c ev6 hf
    refine lv_istore_n (lv' := [(3, .int v6), (2, .int v5), (0, .ref (z.2.2.2.2.2 k0)), (1, .int a1)]) hx hb dJ1_indexOf_4cfef_21 rfl hl (by decide) rfl (fun ls hl => ?_)
    refine lv_iload_n hx hb dJ1_indexOf_4cfef_22 rfl (lv_at hl 1 rfl) ?_
    refine lv_iload_n hx hb dJ1_indexOf_4cfef_23 rfl (lv_at hl 0 rfl) ?_
    refine lv_icmp_lt (tgt := 29) hx hb dJ1_indexOf_4cfef_24 (by decide) (fun c7 => ?_) (fun c7 => ?_)
    · replace hf := ite_t c7 hf
      refine lv_aload_n hx hb dJ1_indexOf_4cfef_29 rfl (lv_at hl 2 rfl) ?_
      refine lv_iload_n hx hb dJ1_indexOf_4cfef_30 rfl (lv_at hl 3 rfl) ?_
      refine lv_iload_n hx hb dJ1_indexOf_4cfef_31 rfl (lv_at hl 1 rfl) ?_
      refine lv_iload_n hx hb dJ1_indexOf_4cfef_32 rfl (lv_at hl 0 rfl) ?_
      obtain ⟨r8, M9, h10, hf⟩ := bnd_s hf
      refine pcSi (As := [.ref (z.2.2.2.2.2 k0), .int a1, .int v5, .int v6]) C hP hS (cZJ1_indexOfChar_4cfef hk0 h10) yZJ1_indexOfChar_4cfef_w g_569 rfl rfl rfl ⟨Nat.le_of_ble_eq_true rfl, Nat.le_of_ble_eq_true rfl⟩ hl.1 rfl (Nat.le_of_ble_eq_true rfl) dJ1_indexOf_4cfef_33 ⟨Nat.le_of_ble_eq_true rfl, Nat.le_of_ble_eq_true rfl⟩ (fun H locs hP hS => ?_)
      exact prI C hr hk hP hS hf dJ1_indexOf_4cfef_36
    · replace hf := ite_f c7 hf
      refine lv_iconst (v := (-1 : Int32)) hx hb dJ1_indexOf_4cfef_27 (by decide) ?_
      exact prI C hr hk hP hS hf dJ1_indexOf_4cfef_28
  · replace hf := ite_t c4 hf
    refine lv_iconst (v := (-1 : Int32)) hx hb dJ1_indexOf_4cfef_7 (by decide) ?_
    exact prI C hr hk hP hS hf dJ1_indexOf_4cfef_8
theorem cZJ1_indexOf_4cfef {l : Launch} {z : Zt} {b n : Nat} {k0 : Nat} (hk0 : k0 < 3) {a1 : Int32} {a2 : Int32} {a3 : Int32} {M M' : Mem} {r : Int32} (hf : fZJ1_indexOf_4cfef n k0 a1 a2 a3 M = some (r, M')) : CI l z (xd z b) 339 b yJ1_indexOf_4cfef cJ1_indexOf_4cfef 4 (some .int) rmZJ1_indexOf_4cfef [.ref (z.2.2.2.2.2 k0), .int a1, .int a2, .int a3] M M' r :=
  CI.ofW (lv := [(0, .ref (z.2.2.2.2.2 k0)), (1, .int a1), (2, .int a2), (3, .int a3)]) (by decide) (Nat.le_of_ble_eq_true rfl) rfl (fun p e s m args below meth c ls C hr hk hP hS hl => wZJ1_indexOf_4cfef_0 (n := n) hk0 C hr hk  hf hP hS hl)

-- java/lang/String.indexOf(II)I
theorem dJ0_indexOf_7cf53_0 : decode cJ0_indexOf_7cf53 0 = .ok (.aload_n 0, 1) := by decide +kernel
theorem dJ0_indexOf_7cf53_1 : decode cJ0_indexOf_7cf53 1 = .ok (.invokevirtual 492, 3) := by decide +kernel
theorem dJ0_indexOf_7cf53_4 : decode cJ0_indexOf_7cf53 4 = .ok (.ifCond .eq 19, 3) := by decide +kernel
theorem dJ0_indexOf_7cf53_7 : decode cJ0_indexOf_7cf53 7 = .ok (.aload_n 0, 1) := by decide +kernel
theorem dJ0_indexOf_7cf53_8 : decode cJ0_indexOf_7cf53 8 = .ok (.getfield 9, 3) := by decide +kernel
theorem dJ0_indexOf_7cf53_11 : decode cJ0_indexOf_7cf53 11 = .ok (.iload_n 1, 1) := by decide +kernel
theorem dJ0_indexOf_7cf53_12 : decode cJ0_indexOf_7cf53 12 = .ok (.iload_n 2, 1) := by decide +kernel
theorem dJ0_indexOf_7cf53_13 : decode cJ0_indexOf_7cf53 13 = .ok (.aload_n 0, 1) := by decide +kernel
theorem dJ0_indexOf_7cf53_14 : decode cJ0_indexOf_7cf53 14 = .ok (.invokevirtual 505, 3) := by decide +kernel
theorem dJ0_indexOf_7cf53_17 : decode cJ0_indexOf_7cf53 17 = .ok (.invokestatic 637, 3) := by decide +kernel
theorem dJ0_indexOf_7cf53_20 : decode cJ0_indexOf_7cf53 20 = .ok (.goto 16, 3) := by decide +kernel
theorem dJ0_indexOf_7cf53_36 : decode cJ0_indexOf_7cf53 36 = .ok (.ireturn, 1) := by decide +kernel
def bZJ0_indexOf_7cf53_0 (k0 : Nat) (rc : Nat → List Int32 → List Int64 → Mem → Option (Int32 × Mem)) (n : Nat) (a1 : Int32) (a2 : Int32) (M : Mem) : Option (Int32 × Mem) :=
  bnd (fZJ0_isLatin1_aae02 n k0 M) fun r1 M2 =>
  (if r1 = 0 then (
   none)
  else (
   bnd (fZJ0_length_8abf5 n k0 M2) fun r5 M6 =>
   bnd (fZJ1_indexOf_4cfef n k0 a1 a2 r5 M6) fun r8 M9 =>
   some (r8, M9)))
def fZJ0_indexOf_7cf53 (n : Nat) (k0 : Nat) (a1 : Int32) (a2 : Int32) (M : Mem) : Option (Int32 × Mem) := bZJ0_indexOf_7cf53_0 k0 (fun _ _ _ _ => none) n a1 a2 M
abbrev rmZJ0_indexOf_7cf53 : Room := { frames := 2, cells := 0, slots := 0, locals := 48 }
theorem yZJ0_indexOf_7cf53_w : yV RJ0 yJ0_indexOf_7cf53 cJ0_indexOf_7cf53 3 (some .int) 2 := ⟨g_540, g_541, g_15, g_542, rfl, by decide, by decide, by decide +kernel⟩
set_option maxHeartbeats 4000000 in
set_option maxRecDepth 100000 in
theorem wZJ0_indexOf_7cf53_0 {p : Program} {l : Launch} {e : Env} {s : State} {m : MethodId} {args : Array Value} {below : List Frame} {meth : Method} {c : Code} {z : Zt} {b : Nat} {k0 : Nat} (hk0 : k0 < 3) (C : Cx p s m args c cJ0_indexOf_7cf53 3 RJ0 z 339 b) (hr : meth.sig.returnType = (some .int)) (hk : meth.locks = false) {r : Int32} {M' : Mem} {rc : Nat → List Int32 → List Int64 → Mem → Option (Int32 × Mem)} {n : Nat}  {a1 : Int32} {a2 : Int32} {M : Mem} {H : Heap} {locs : List Loc} {ls : Array Slot} (hf : bZJ0_indexOf_7cf53_0 k0 rc n a1 a2 M = some (r, M')) (hP : va_P z.1 vwCl (pw (xd z b) 339 b M) H) (hS : va_S (pA 339 b) s.heap H locs) (hl : lv_has ls 3 [(0, .ref (z.2.2.2.2.1 k0)), (1, .int a1), (2, .int a2)]) : W p l e rmZJ0_indexOf_7cf53 s m args below meth c H locs 0 0 (MQ below (va_Qi (fun (r' : Int32) (M2 : Mem) => r' = r ∧ M2 = M') (fun M2 t => va_P z.1 vwCl (pw (xd z b) 339 b M2) t.heap) (pA 339 b)) args s 0 0 (pA 339 b)) (F0 m 0 ls []) := by
  have hx := C.1.1
  have hb := C.1.2.1
  unfold bZJ0_indexOf_7cf53_0 at hf
  refine lv_aload_n hx hb dJ0_indexOf_7cf53_0 rfl (lv_at hl 0 rfl) ?_
  obtain ⟨r1, M2, h3, hf⟩ := bnd_s hf
  refine pcKi (As := []) C hP hS (k := k0) hk0 (cZJ0_isLatin1_aae02 hk0 h3) yZJ0_isLatin1_aae02_w g_543 rfl rfl rfl ⟨Nat.le_of_ble_eq_true rfl, Nat.le_of_ble_eq_true rfl⟩ hl.1 rfl (Nat.le_of_ble_eq_true rfl) dJ0_indexOf_7cf53_1 ⟨Nat.le_of_ble_eq_true rfl, Nat.le_of_ble_eq_true rfl⟩ (fun H locs hP hS => ?_)
  refine lv_if_eq (tgt := 23) hx hb dJ0_indexOf_7cf53_4 (by decide) (fun c4 => ?_) (fun c4 => ?_)
  · replace hf := ite_t c4 hf
    cases hf
  · replace hf := ite_f c4 hf
    refine lv_aload_n hx hb dJ0_indexOf_7cf53_7 rfl (lv_at hl 0 rfl) ?_
    refine vk_getf hx hb (C.2.2.2.2.2.2.1.1 k0 hk0).2.2.1 hS C.1.2.2.2.1 (C.1.2.2.2.2 _ g_1706) (fun _ h => h) dJ0_indexOf_7cf53_8 ?_
    refine lv_iload_n hx hb dJ0_indexOf_7cf53_11 rfl (lv_at hl 1 rfl) ?_
    refine lv_iload_n hx hb dJ0_indexOf_7cf53_12 rfl (lv_at hl 2 rfl) ?_
    refine lv_aload_n hx hb dJ0_indexOf_7cf53_13 rfl (lv_at hl 0 rfl) ?_
    obtain ⟨r5, M6, h7, hf⟩ := bnd_s hf
    refine pcKi (As := []) C hP hS (k := k0) hk0 (cZJ0_length_8abf5 hk0 h7) yZJ0_length_8abf5_w g_549 rfl rfl rfl ⟨Nat.le_of_ble_eq_true rfl, Nat.le_of_ble_eq_true rfl⟩ hl.1 rfl (Nat.le_of_ble_eq_true rfl) dJ0_indexOf_7cf53_14 ⟨Nat.le_of_ble_eq_true rfl, Nat.le_of_ble_eq_true rfl⟩ (fun H locs hP hS => ?_)
    obtain ⟨r8, M9, h10, hf⟩ := bnd_s hf
    refine pcSi (As := [.ref (z.2.2.2.2.2 k0), .int a1, .int a2, .int r5]) C hP hS (cZJ1_indexOf_4cfef hk0 h10) yZJ1_indexOf_4cfef_w g_557 rfl rfl rfl ⟨Nat.le_of_ble_eq_true rfl, Nat.le_of_ble_eq_true rfl⟩ hl.1 rfl (Nat.le_of_ble_eq_true rfl) dJ0_indexOf_7cf53_17 ⟨Nat.le_of_ble_eq_true rfl, Nat.le_of_ble_eq_true rfl⟩ (fun H locs hP hS => ?_)
    refine lv_goto (tgt := 36) hx hb dJ0_indexOf_7cf53_20 (by decide) ?_
    exact prI C hr hk hP hS hf dJ0_indexOf_7cf53_36
theorem cZJ0_indexOf_7cf53 {l : Launch} {z : Zt} {b n : Nat} {k0 : Nat} (hk0 : k0 < 3) {a1 : Int32} {a2 : Int32} {M M' : Mem} {r : Int32} (hf : fZJ0_indexOf_7cf53 n k0 a1 a2 M = some (r, M')) : CI l z (xd z b) 339 b yJ0_indexOf_7cf53 cJ0_indexOf_7cf53 3 (some .int) rmZJ0_indexOf_7cf53 [.ref (z.2.2.2.2.1 k0), .int a1, .int a2] M M' r :=
  CI.ofW (lv := [(0, .ref (z.2.2.2.2.1 k0)), (1, .int a1), (2, .int a2)]) (by decide) (Nat.le_of_ble_eq_true rfl) rfl (fun p e s m args below meth c ls C hr hk hP hS hl => wZJ0_indexOf_7cf53_0 (n := n) hk0 C hr hk  hf hP hS hl)

-- java/lang/String.indexOf(I)I
theorem dJ0_indexOf_0f7a4_0 : decode cJ0_indexOf_0f7a4 0 = .ok (.aload_n 0, 1) := by decide +kernel
theorem dJ0_indexOf_0f7a4_1 : decode cJ0_indexOf_0f7a4 1 = .ok (.iload_n 1, 1) := by decide +kernel
theorem dJ0_indexOf_0f7a4_2 : decode cJ0_indexOf_0f7a4 2 = .ok (.iconst 0, 1) := by decide +kernel
theorem dJ0_indexOf_0f7a4_3 : decode cJ0_indexOf_0f7a4 3 = .ok (.invokevirtual 633, 3) := by decide +kernel
theorem dJ0_indexOf_0f7a4_6 : decode cJ0_indexOf_0f7a4 6 = .ok (.ireturn, 1) := by decide +kernel
def bZJ0_indexOf_0f7a4_0 (k0 : Nat) (rc : Nat → List Int32 → List Int64 → Mem → Option (Int32 × Mem)) (n : Nat) (a1 : Int32) (M : Mem) : Option (Int32 × Mem) :=
  bnd (fZJ0_indexOf_7cf53 n k0 a1 (0 : Int32) M) fun r1 M2 =>
  some (r1, M2)
def fZJ0_indexOf_0f7a4 (n : Nat) (k0 : Nat) (a1 : Int32) (M : Mem) : Option (Int32 × Mem) := bZJ0_indexOf_0f7a4_0 k0 (fun _ _ _ _ => none) n a1 M
abbrev rmZJ0_indexOf_0f7a4 : Room := { frames := 3, cells := 0, slots := 0, locals := 70 }
theorem yZJ0_indexOf_0f7a4_w : yV RJ0 yJ0_indexOf_0f7a4 cJ0_indexOf_0f7a4 2 (some .int) 1 := ⟨g_536, g_537, g_15, g_538, rfl, by decide, by decide, by decide +kernel⟩
set_option maxHeartbeats 4000000 in
set_option maxRecDepth 100000 in
theorem wZJ0_indexOf_0f7a4_0 {p : Program} {l : Launch} {e : Env} {s : State} {m : MethodId} {args : Array Value} {below : List Frame} {meth : Method} {c : Code} {z : Zt} {b : Nat} {k0 : Nat} (hk0 : k0 < 3) (C : Cx p s m args c cJ0_indexOf_0f7a4 2 RJ0 z 339 b) (hr : meth.sig.returnType = (some .int)) (hk : meth.locks = false) {r : Int32} {M' : Mem} {rc : Nat → List Int32 → List Int64 → Mem → Option (Int32 × Mem)} {n : Nat}  {a1 : Int32} {M : Mem} {H : Heap} {locs : List Loc} {ls : Array Slot} (hf : bZJ0_indexOf_0f7a4_0 k0 rc n a1 M = some (r, M')) (hP : va_P z.1 vwCl (pw (xd z b) 339 b M) H) (hS : va_S (pA 339 b) s.heap H locs) (hl : lv_has ls 2 [(0, .ref (z.2.2.2.2.1 k0)), (1, .int a1)]) : W p l e rmZJ0_indexOf_0f7a4 s m args below meth c H locs 0 0 (MQ below (va_Qi (fun (r' : Int32) (M2 : Mem) => r' = r ∧ M2 = M') (fun M2 t => va_P z.1 vwCl (pw (xd z b) 339 b M2) t.heap) (pA 339 b)) args s 0 0 (pA 339 b)) (F0 m 0 ls []) := by
  have hx := C.1.1
  have hb := C.1.2.1
  unfold bZJ0_indexOf_0f7a4_0 at hf
  refine lv_aload_n hx hb dJ0_indexOf_0f7a4_0 rfl (lv_at hl 0 rfl) ?_
  refine lv_iload_n hx hb dJ0_indexOf_0f7a4_1 rfl (lv_at hl 1 rfl) ?_
  refine lv_iconst (v := (0 : Int32)) hx hb dJ0_indexOf_0f7a4_2 (by decide) ?_
  obtain ⟨r1, M2, h3, hf⟩ := bnd_s hf
  refine pcKi (As := [.int a1, .int (0 : Int32)]) C hP hS (k := k0) hk0 (cZJ0_indexOf_7cf53 hk0 h3) yZJ0_indexOf_7cf53_w g_539 rfl rfl rfl ⟨Nat.le_of_ble_eq_true rfl, Nat.le_of_ble_eq_true rfl⟩ hl.1 rfl (Nat.le_of_ble_eq_true rfl) dJ0_indexOf_0f7a4_3 ⟨Nat.le_of_ble_eq_true rfl, Nat.le_of_ble_eq_true rfl⟩ (fun H locs hP hS => ?_)
  exact prI C hr hk hP hS hf dJ0_indexOf_0f7a4_6
theorem cZJ0_indexOf_0f7a4 {l : Launch} {z : Zt} {b n : Nat} {k0 : Nat} (hk0 : k0 < 3) {a1 : Int32} {M M' : Mem} {r : Int32} (hf : fZJ0_indexOf_0f7a4 n k0 a1 M = some (r, M')) : CI l z (xd z b) 339 b yJ0_indexOf_0f7a4 cJ0_indexOf_0f7a4 2 (some .int) rmZJ0_indexOf_0f7a4 [.ref (z.2.2.2.2.1 k0), .int a1] M M' r :=
  CI.ofW (lv := [(0, .ref (z.2.2.2.2.1 k0)), (1, .int a1)]) (by decide) (Nat.le_of_ble_eq_true rfl) rfl (fun p e s m args below meth c ls C hr hk hP hS hl => wZJ0_indexOf_0f7a4_0 (n := n) hk0 C hr hk  hf hP hS hl)

-- BronzeKing$LawReader.beginFactor(I)I
theorem dX3_beginFactor_0 : decode cX3_beginFactor 0 = .ok (.iload_n 1, 1) := by decide +kernel
theorem dX3_beginFactor_1 : decode cX3_beginFactor 1 = .ok (.bipush 91, 2) := by decide +kernel
theorem dX3_beginFactor_3 : decode cX3_beginFactor 3 = .ok (.if_icmp .ne 10, 3) := by decide +kernel
theorem dX3_beginFactor_6 : decode cX3_beginFactor 6 = .ok (.aload_n 0, 1) := by decide +kernel
theorem dX3_beginFactor_7 : decode cX3_beginFactor 7 = .ok (.bipush 14, 2) := by decide +kernel
theorem dX3_beginFactor_9 : decode cX3_beginFactor 9 = .ok (.invokevirtual 97, 3) := by decide +kernel
theorem dX3_beginFactor_12 : decode cX3_beginFactor 12 = .ok (.ireturn, 1) := by decide +kernel
theorem dX3_beginFactor_13 : decode cX3_beginFactor 13 = .ok (.iload_n 1, 1) := by decide +kernel
theorem dX3_beginFactor_14 : decode cX3_beginFactor 14 = .ok (.invokestatic 62, 3) := by decide +kernel
theorem dX3_beginFactor_17 : decode cX3_beginFactor 17 = .ok (.ifCond .eq 23, 3) := by decide +kernel
theorem dX3_beginFactor_20 : decode cX3_beginFactor 20 = .ok (.aload_n 0, 1) := by decide +kernel
theorem dX3_beginFactor_21 : decode cX3_beginFactor 21 = .ok (.iload_n 1, 1) := by decide +kernel
theorem dX3_beginFactor_22 : decode cX3_beginFactor 22 = .ok (.bipush 48, 2) := by decide +kernel
theorem dX3_beginFactor_24 : decode cX3_beginFactor 24 = .ok (.isub, 1) := by decide +kernel
theorem dX3_beginFactor_25 : decode cX3_beginFactor 25 = .ok (.putfield 43, 3) := by decide +kernel
theorem dX3_beginFactor_28 : decode cX3_beginFactor 28 = .ok (.aload_n 0, 1) := by decide +kernel
theorem dX3_beginFactor_29 : decode cX3_beginFactor 29 = .ok (.iconst 1, 1) := by decide +kernel
theorem dX3_beginFactor_30 : decode cX3_beginFactor 30 = .ok (.putfield 46, 3) := by decide +kernel
theorem dX3_beginFactor_33 : decode cX3_beginFactor 33 = .ok (.aload_n 0, 1) := by decide +kernel
theorem dX3_beginFactor_34 : decode cX3_beginFactor 34 = .ok (.iconst 4, 1) := by decide +kernel
theorem dX3_beginFactor_35 : decode cX3_beginFactor 35 = .ok (.putfield 40, 3) := by decide +kernel
theorem dX3_beginFactor_38 : decode cX3_beginFactor 38 = .ok (.iconst 0, 1) := by decide +kernel
theorem dX3_beginFactor_39 : decode cX3_beginFactor 39 = .ok (.ireturn, 1) := by decide +kernel
theorem dX3_beginFactor_40 : decode cX3_beginFactor 40 = .ok (.ldc 100, 2) := by decide +kernel
theorem dX3_beginFactor_42 : decode cX3_beginFactor 42 = .ok (.iload_n 1, 1) := by decide +kernel
theorem dX3_beginFactor_43 : decode cX3_beginFactor 43 = .ok (.i2c, 1) := by decide +kernel
theorem dX3_beginFactor_44 : decode cX3_beginFactor 44 = .ok (.invokevirtual 102, 3) := by decide +kernel
theorem dX3_beginFactor_47 : decode cX3_beginFactor 47 = .ok (.istore_n 2, 1) := by decide +kernel
theorem dX3_beginFactor_48 : decode cX3_beginFactor 48 = .ok (.iload_n 2, 1) := by decide +kernel
theorem dX3_beginFactor_49 : decode cX3_beginFactor 49 = .ok (.ifCond .ge 5, 3) := by decide +kernel
theorem dX3_beginFactor_52 : decode cX3_beginFactor 52 = .ok (.iconst 1, 1) := by decide +kernel
theorem dX3_beginFactor_53 : decode cX3_beginFactor 53 = .ok (.ireturn, 1) := by decide +kernel
theorem dX3_beginFactor_54 : decode cX3_beginFactor 54 = .ok (.aload_n 0, 1) := by decide +kernel
theorem dX3_beginFactor_55 : decode cX3_beginFactor 55 = .ok (.iconst 1, 1) := by decide +kernel
theorem dX3_beginFactor_56 : decode cX3_beginFactor 56 = .ok (.iload_n 2, 1) := by decide +kernel
theorem dX3_beginFactor_57 : decode cX3_beginFactor 57 = .ok (.invokevirtual 68, 3) := by decide +kernel
theorem dX3_beginFactor_60 : decode cX3_beginFactor 60 = .ok (.aload_n 0, 1) := by decide +kernel
theorem dX3_beginFactor_61 : decode cX3_beginFactor 61 = .ok (.iconst 5, 1) := by decide +kernel
theorem dX3_beginFactor_62 : decode cX3_beginFactor 62 = .ok (.putfield 40, 3) := by decide +kernel
theorem dX3_beginFactor_65 : decode cX3_beginFactor 65 = .ok (.iconst 0, 1) := by decide +kernel
theorem dX3_beginFactor_66 : decode cX3_beginFactor 66 = .ok (.ireturn, 1) := by decide +kernel
def b3_beginFactor_0 (rc : Nat → List Int32 → List Int64 → Mem → Option (Int32 × Mem)) (n : Nat) (a1 : Int32) (M : Mem) : Option (Int32 × Mem) :=
  (if a1 = (91 : Int32) then (
   bnd (f3_open n (14 : Int32) M) fun r17 M18 =>
   some (r17, M18))
  else (
   bnd (f11_isDigit n a1 M) fun r2 M3 =>
   (if r2 = 0 then (
    bnd (fZJ0_indexOf_0f7a4 n 0 ((a1.toUInt32 % 65536).toInt32) M3) fun r6 M7 =>
    (if 0 ≤ r6 then (
     bnd (f3_add n (1 : Int32) r6 M7) fun r10 M11 =>
     lt (wI M11 17 9 (5 : Int32)) fun M13 =>
     some ((0 : Int32), M13))
    else (
     some ((1 : Int32), M7))))
   else (
    lt (wI M3 17 10 (a1 - (48 : Int32))) fun M14 =>
    lt (wI M14 17 11 (1 : Int32)) fun M15 =>
    lt (wI M15 17 9 (4 : Int32)) fun M16 =>
    some ((0 : Int32), M16)))))
def f3_beginFactor (n : Nat) (a1 : Int32) (M : Mem) : Option (Int32 × Mem) := b3_beginFactor_0 (fun _ _ _ _ => none) n a1 M
abbrev rm3_beginFactor : Room := { frames := 4, cells := 0, slots := 0, locals := 91 }
theorem y3_beginFactor_w : yV RX3 yX3_beginFactor cX3_beginFactor 3 (some .int) 1 := ⟨g_532, gp 7 rfl rfl, g_7, g_533, rfl, by decide, by decide, by decide +kernel⟩
set_option maxHeartbeats 4000000 in
set_option maxRecDepth 100000 in
theorem w3_beginFactor_0 {p : Program} {l : Launch} {e : Env} {s : State} {m : MethodId} {args : Array Value} {below : List Frame} {meth : Method} {c : Code} {z : Zt} {b : Nat}  (C : Cx p s m args c cX3_beginFactor 3 RX3 z 339 b) (hr : meth.sig.returnType = (some .int)) (hk : meth.locks = false) {r : Int32} {M' : Mem} {rc : Nat → List Int32 → List Int64 → Mem → Option (Int32 × Mem)} {n : Nat}  {a1 : Int32} {M : Mem} {H : Heap} {locs : List Loc} {ls : Array Slot} (hf : b3_beginFactor_0  rc n a1 M = some (r, M')) (hP : va_P z.1 vwCl (pw (xd z b) 339 b M) H) (hS : va_S (pA 339 b) s.heap H locs) (hl : lv_has ls 3 [(0, .ref (b + 17)), (1, .int a1)]) : W p l e rm3_beginFactor s m args below meth c H locs 0 0 (MQ below (va_Qi (fun (r' : Int32) (M2 : Mem) => r' = r ∧ M2 = M') (fun M2 t => va_P z.1 vwCl (pw (xd z b) 339 b M2) t.heap) (pA 339 b)) args s 0 0 (pA 339 b)) (F0 m 0 ls []) := by
  have hx := C.1.1
  have hb := C.1.2.1
  unfold b3_beginFactor_0 at hf
  refine lv_iload_n hx hb dX3_beginFactor_0 rfl (lv_at hl 1 rfl) ?_
  refine lv_bipush (v := (91 : Int32)) hx hb dX3_beginFactor_1 (by decide) ?_
  refine lv_icmp_ne (tgt := 13) hx hb dX3_beginFactor_3 (by decide) (fun c1 => ?_) (fun c1 => ?_)
  · replace hf := ite_f c1 hf
    refine lv_iload_n hx hb dX3_beginFactor_13 rfl (lv_at hl 1 rfl) ?_
    obtain ⟨r2, M3, h4, hf⟩ := bnd_s hf
    refine pcTi (As := [.int a1]) C hP hS (c11_isDigit  h4) y11_isDigit_w g_503 rfl rfl rfl ⟨Nat.le_of_ble_eq_true rfl, Nat.le_of_ble_eq_true rfl⟩ hl.1 rfl (Nat.le_of_ble_eq_true rfl) dX3_beginFactor_14 ⟨Nat.le_of_ble_eq_true rfl, Nat.le_of_ble_eq_true rfl⟩ (fun H locs hP hS => ?_)
    refine lv_if_eq (tgt := 40) hx hb dX3_beginFactor_17 (by decide) (fun c5 => ?_) (fun c5 => ?_)
    · replace hf := ite_t c5 hf
      refine va_ldcS hx hb C.1.2.2.2.1 C.2.1.2.2.1 dX3_beginFactor_40 ?_
      refine lv_iload_n hx hb dX3_beginFactor_42 rfl (lv_at hl 1 rfl) ?_
      refine lv_i2c hx hb dX3_beginFactor_43 rfl ?_
      obtain ⟨r6, M7, h8, hf⟩ := bnd_s hf
      refine pcKi (As := [.int (a1.toUInt32 % 65536).toInt32]) C hP hS (k := 0) (by decide) (cZJ0_indexOf_0f7a4 (by decide) h8) yZJ0_indexOf_0f7a4_w g_535 rfl rfl rfl ⟨Nat.le_of_ble_eq_true rfl, Nat.le_of_ble_eq_true rfl⟩ hl.1 rfl (Nat.le_of_ble_eq_true rfl) dX3_beginFactor_44 ⟨Nat.le_of_ble_eq_true rfl, Nat.le_of_ble_eq_true rfl⟩ (fun H locs hP hS => ?_)
      refine lv_istore_n (lv' := [(2, .int r6), (0, .ref (b + 17)), (1, .int a1)]) hx hb dX3_beginFactor_47 rfl hl (by decide) rfl (fun ls hl => ?_)
      refine lv_iload_n hx hb dX3_beginFactor_48 rfl (lv_at hl 0 rfl) ?_
      refine lv_if_ge (tgt := 54) hx hb dX3_beginFactor_49 (by decide) (fun c9 => ?_) (fun c9 => ?_)
      · replace hf := ite_t c9 hf
        refine lv_aload_n hx hb dX3_beginFactor_54 rfl (lv_at hl 1 rfl) ?_
        refine lv_iconst (v := (1 : Int32)) hx hb dX3_beginFactor_55 (by decide) ?_
        refine lv_iload_n hx hb dX3_beginFactor_56 rfl (lv_at hl 0 rfl) ?_
        obtain ⟨r10, M11, h12, hf⟩ := bnd_s hf
        refine pcVv (As := [.int (1 : Int32), .int r6]) C hP hS (k := 17) (Nat.le_of_ble_eq_true rfl) (xd_17 _ _) rfl (c3_add  h12) y3_add_w g_506 rfl rfl rfl ⟨Nat.le_of_ble_eq_true rfl, Nat.le_of_ble_eq_true rfl⟩ hl.1 rfl (Nat.le_of_ble_eq_true rfl) dX3_beginFactor_57 ⟨Nat.le_of_ble_eq_true rfl, Nat.le_of_ble_eq_true rfl⟩ (fun H locs hP hS => ?_)
        refine lv_aload_n hx hb dX3_beginFactor_60 rfl (lv_at hl 1 rfl) ?_
        refine lv_iconst (v := (5 : Int32)) hx hb dX3_beginFactor_61 (by decide) ?_
        refine ppI C hP hS (k := 17) (j := 9) (ty := .int) (Nat.le_of_ble_eq_true rfl) (xd_17 _ _) rfl iw_3 tyX3 tyX3_ok nmX3 (Nat.le_of_ble_eq_true rfl) g_164 rfl rfl (by decide +kernel) rfl rfl (Nat.le_of_ble_eq_true rfl) (xu_17_9 _ _ _) dX3_beginFactor_62 (fun M13 H locs eM13 hP hS => ?_)
        replace hf := lt_c eM13 hf
        refine lv_iconst (v := (0 : Int32)) hx hb dX3_beginFactor_65 (by decide) ?_
        exact prI C hr hk hP hS hf dX3_beginFactor_66
      · replace hf := ite_f c9 hf
        refine lv_iconst (v := (1 : Int32)) hx hb dX3_beginFactor_52 (by decide) ?_
        exact prI C hr hk hP hS hf dX3_beginFactor_53
    · replace hf := ite_f c5 hf
      refine lv_aload_n hx hb dX3_beginFactor_20 rfl (lv_at hl 0 rfl) ?_
      refine lv_iload_n hx hb dX3_beginFactor_21 rfl (lv_at hl 1 rfl) ?_
      refine lv_bipush (v := (48 : Int32)) hx hb dX3_beginFactor_22 (by decide) ?_
      refine lv_isub hx hb dX3_beginFactor_24 ?_
      refine ppI C hP hS (k := 17) (j := 10) (ty := .int) (Nat.le_of_ble_eq_true rfl) (xd_17 _ _) rfl iw_3 tyX3 tyX3_ok nmX3 (Nat.le_of_ble_eq_true rfl) g_165 rfl rfl (by decide +kernel) rfl rfl (Nat.le_of_ble_eq_true rfl) (xu_17_10 _ _ _) dX3_beginFactor_25 (fun M14 H locs eM14 hP hS => ?_)
      replace hf := lt_c eM14 hf
      refine lv_aload_n hx hb dX3_beginFactor_28 rfl (lv_at hl 0 rfl) ?_
      refine lv_iconst (v := (1 : Int32)) hx hb dX3_beginFactor_29 (by decide) ?_
      refine ppI C hP hS (k := 17) (j := 11) (ty := .int) (Nat.le_of_ble_eq_true rfl) (xd_17 _ _) rfl iw_3 tyX3 tyX3_ok nmX3 (Nat.le_of_ble_eq_true rfl) g_166 rfl rfl (by decide +kernel) rfl rfl (Nat.le_of_ble_eq_true rfl) (xu_17_11 _ _ _) dX3_beginFactor_30 (fun M15 H locs eM15 hP hS => ?_)
      replace hf := lt_c eM15 hf
      refine lv_aload_n hx hb dX3_beginFactor_33 rfl (lv_at hl 0 rfl) ?_
      refine lv_iconst (v := (4 : Int32)) hx hb dX3_beginFactor_34 (by decide) ?_
      refine ppI C hP hS (k := 17) (j := 9) (ty := .int) (Nat.le_of_ble_eq_true rfl) (xd_17 _ _) rfl iw_3 tyX3 tyX3_ok nmX3 (Nat.le_of_ble_eq_true rfl) g_164 rfl rfl (by decide +kernel) rfl rfl (Nat.le_of_ble_eq_true rfl) (xu_17_9 _ _ _) dX3_beginFactor_35 (fun M16 H locs eM16 hP hS => ?_)
      replace hf := lt_c eM16 hf
      refine lv_iconst (v := (0 : Int32)) hx hb dX3_beginFactor_38 (by decide) ?_
      exact prI C hr hk hP hS hf dX3_beginFactor_39
  · replace hf := ite_t c1 hf
    refine lv_aload_n hx hb dX3_beginFactor_6 rfl (lv_at hl 0 rfl) ?_
    refine lv_bipush (v := (14 : Int32)) hx hb dX3_beginFactor_7 (by decide) ?_
    obtain ⟨r17, M18, h19, hf⟩ := bnd_s hf
    refine pcVi (As := [.int (14 : Int32)]) C hP hS (k := 17) (Nat.le_of_ble_eq_true rfl) (xd_17 _ _) rfl (c3_open  h19) y3_open_w g_518 rfl rfl rfl ⟨Nat.le_of_ble_eq_true rfl, Nat.le_of_ble_eq_true rfl⟩ hl.1 rfl (Nat.le_of_ble_eq_true rfl) dX3_beginFactor_9 ⟨Nat.le_of_ble_eq_true rfl, Nat.le_of_ble_eq_true rfl⟩ (fun H locs hP hS => ?_)
    exact prI C hr hk hP hS hf dX3_beginFactor_12
theorem c3_beginFactor {l : Launch} {z : Zt} {b n : Nat}  {a1 : Int32} {M M' : Mem} {r : Int32} (hf : f3_beginFactor n  a1 M = some (r, M')) : CI l z (xd z b) 339 b yX3_beginFactor cX3_beginFactor 3 (some .int) rm3_beginFactor [.ref (b + 17), .int a1] M M' r :=
  CI.ofW (lv := [(0, .ref (b + 17)), (1, .int a1)]) (by decide) (Nat.le_of_ble_eq_true rfl) rfl (fun p e s m args below meth c ls C hr hk hP hS hl => w3_beginFactor_0 (n := n)  C hr hk  hf hP hS hl)

-- BronzeKing$LawReader.beginTest(I)I
theorem dX3_beginTest_0 : decode cX3_beginTest 0 = .ok (.iload_n 1, 1) := by decide +kernel
theorem dX3_beginTest_1 : decode cX3_beginTest 1 = .ok (.bipush 33, 2) := by decide +kernel
theorem dX3_beginTest_3 : decode cX3_beginTest 3 = .ok (.if_icmp .ne 10, 3) := by decide +kernel
theorem dX3_beginTest_6 : decode cX3_beginTest 6 = .ok (.aload_n 0, 1) := by decide +kernel
theorem dX3_beginTest_7 : decode cX3_beginTest 7 = .ok (.bipush 10, 2) := by decide +kernel
theorem dX3_beginTest_9 : decode cX3_beginTest 9 = .ok (.invokevirtual 97, 3) := by decide +kernel
theorem dX3_beginTest_12 : decode cX3_beginTest 12 = .ok (.ireturn, 1) := by decide +kernel
theorem dX3_beginTest_13 : decode cX3_beginTest 13 = .ok (.iload_n 1, 1) := by decide +kernel
theorem dX3_beginTest_14 : decode cX3_beginTest 14 = .ok (.bipush 40, 2) := by decide +kernel
theorem dX3_beginTest_16 : decode cX3_beginTest 16 = .ok (.if_icmp .ne 12, 3) := by decide +kernel
theorem dX3_beginTest_19 : decode cX3_beginTest 19 = .ok (.aload_n 0, 1) := by decide +kernel
theorem dX3_beginTest_20 : decode cX3_beginTest 20 = .ok (.bipush 13, 2) := by decide +kernel
theorem dX3_beginTest_22 : decode cX3_beginTest 22 = .ok (.invokevirtual 97, 3) := by decide +kernel
theorem dX3_beginTest_25 : decode cX3_beginTest 25 = .ok (.goto 8, 3) := by decide +kernel
theorem dX3_beginTest_28 : decode cX3_beginTest 28 = .ok (.aload_n 0, 1) := by decide +kernel
theorem dX3_beginTest_29 : decode cX3_beginTest 29 = .ok (.iload_n 1, 1) := by decide +kernel
theorem dX3_beginTest_30 : decode cX3_beginTest 30 = .ok (.invokevirtual 82, 3) := by decide +kernel
theorem dX3_beginTest_33 : decode cX3_beginTest 33 = .ok (.ireturn, 1) := by decide +kernel
def b3_beginTest_0 (rc : Nat → List Int32 → List Int64 → Mem → Option (Int32 × Mem)) (n : Nat) (a1 : Int32) (M : Mem) : Option (Int32 × Mem) :=
  (if a1 = (33 : Int32) then (
   bnd (f3_open n (10 : Int32) M) fun r9 M10 =>
   some (r9, M10))
  else (
   (if a1 = (40 : Int32) then (
    bnd (f3_open n (13 : Int32) M) fun r6 M7 =>
    some (r6, M7))
   else (
    bnd (f3_beginFactor n a1 M) fun r3 M4 =>
    some (r3, M4)))))
def f3_beginTest (n : Nat) (a1 : Int32) (M : Mem) : Option (Int32 × Mem) := b3_beginTest_0 (fun _ _ _ _ => none) n a1 M
abbrev rm3_beginTest : Room := { frames := 5, cells := 0, slots := 0, locals := 113 }
theorem y3_beginTest_w : yV RX3 yX3_beginTest cX3_beginTest 2 (some .int) 1 := ⟨g_528, gp 6 rfl rfl, g_7, g_529, rfl, by decide, by decide, by decide +kernel⟩
set_option maxHeartbeats 4000000 in
set_option maxRecDepth 100000 in
theorem w3_beginTest_0 {p : Program} {l : Launch} {e : Env} {s : State} {m : MethodId} {args : Array Value} {below : List Frame} {meth : Method} {c : Code} {z : Zt} {b : Nat}  (C : Cx p s m args c cX3_beginTest 2 RX3 z 339 b) (hr : meth.sig.returnType = (some .int)) (hk : meth.locks = false) {r : Int32} {M' : Mem} {rc : Nat → List Int32 → List Int64 → Mem → Option (Int32 × Mem)} {n : Nat}  {a1 : Int32} {M : Mem} {H : Heap} {locs : List Loc} {ls : Array Slot} (hf : b3_beginTest_0  rc n a1 M = some (r, M')) (hP : va_P z.1 vwCl (pw (xd z b) 339 b M) H) (hS : va_S (pA 339 b) s.heap H locs) (hl : lv_has ls 2 [(0, .ref (b + 17)), (1, .int a1)]) : W p l e rm3_beginTest s m args below meth c H locs 0 0 (MQ below (va_Qi (fun (r' : Int32) (M2 : Mem) => r' = r ∧ M2 = M') (fun M2 t => va_P z.1 vwCl (pw (xd z b) 339 b M2) t.heap) (pA 339 b)) args s 0 0 (pA 339 b)) (F0 m 0 ls []) := by
  have hx := C.1.1
  have hb := C.1.2.1
  unfold b3_beginTest_0 at hf
  refine lv_iload_n hx hb dX3_beginTest_0 rfl (lv_at hl 1 rfl) ?_
  refine lv_bipush (v := (33 : Int32)) hx hb dX3_beginTest_1 (by decide) ?_
  refine lv_icmp_ne (tgt := 13) hx hb dX3_beginTest_3 (by decide) (fun c1 => ?_) (fun c1 => ?_)
  · replace hf := ite_f c1 hf
    refine lv_iload_n hx hb dX3_beginTest_13 rfl (lv_at hl 1 rfl) ?_
    refine lv_bipush (v := (40 : Int32)) hx hb dX3_beginTest_14 (by decide) ?_
    refine lv_icmp_ne (tgt := 28) hx hb dX3_beginTest_16 (by decide) (fun c2 => ?_) (fun c2 => ?_)
    · replace hf := ite_f c2 hf
      refine lv_aload_n hx hb dX3_beginTest_28 rfl (lv_at hl 0 rfl) ?_
      refine lv_iload_n hx hb dX3_beginTest_29 rfl (lv_at hl 1 rfl) ?_
      obtain ⟨r3, M4, h5, hf⟩ := bnd_s hf
      refine pcVi (As := [.int a1]) C hP hS (k := 17) (Nat.le_of_ble_eq_true rfl) (xd_17 _ _) rfl (c3_beginFactor  h5) y3_beginFactor_w g_530 rfl rfl rfl ⟨Nat.le_of_ble_eq_true rfl, Nat.le_of_ble_eq_true rfl⟩ hl.1 rfl (Nat.le_of_ble_eq_true rfl) dX3_beginTest_30 ⟨Nat.le_of_ble_eq_true rfl, Nat.le_of_ble_eq_true rfl⟩ (fun H locs hP hS => ?_)
      exact prI C hr hk hP hS hf dX3_beginTest_33
    · replace hf := ite_t c2 hf
      refine lv_aload_n hx hb dX3_beginTest_19 rfl (lv_at hl 0 rfl) ?_
      refine lv_bipush (v := (13 : Int32)) hx hb dX3_beginTest_20 (by decide) ?_
      obtain ⟨r6, M7, h8, hf⟩ := bnd_s hf
      refine pcVi (As := [.int (13 : Int32)]) C hP hS (k := 17) (Nat.le_of_ble_eq_true rfl) (xd_17 _ _) rfl (c3_open  h8) y3_open_w g_518 rfl rfl rfl ⟨Nat.le_of_ble_eq_true rfl, Nat.le_of_ble_eq_true rfl⟩ hl.1 rfl (Nat.le_of_ble_eq_true rfl) dX3_beginTest_22 ⟨Nat.le_of_ble_eq_true rfl, Nat.le_of_ble_eq_true rfl⟩ (fun H locs hP hS => ?_)
      refine lv_goto (tgt := 33) hx hb dX3_beginTest_25 (by decide) ?_
      exact prI C hr hk hP hS hf dX3_beginTest_33
  · replace hf := ite_t c1 hf
    refine lv_aload_n hx hb dX3_beginTest_6 rfl (lv_at hl 0 rfl) ?_
    refine lv_bipush (v := (10 : Int32)) hx hb dX3_beginTest_7 (by decide) ?_
    obtain ⟨r9, M10, h11, hf⟩ := bnd_s hf
    refine pcVi (As := [.int (10 : Int32)]) C hP hS (k := 17) (Nat.le_of_ble_eq_true rfl) (xd_17 _ _) rfl (c3_open  h11) y3_open_w g_518 rfl rfl rfl ⟨Nat.le_of_ble_eq_true rfl, Nat.le_of_ble_eq_true rfl⟩ hl.1 rfl (Nat.le_of_ble_eq_true rfl) dX3_beginTest_9 ⟨Nat.le_of_ble_eq_true rfl, Nat.le_of_ble_eq_true rfl⟩ (fun H locs hP hS => ?_)
    exact prI C hr hk hP hS hf dX3_beginTest_12
theorem c3_beginTest {l : Launch} {z : Zt} {b n : Nat}  {a1 : Int32} {M M' : Mem} {r : Int32} (hf : f3_beginTest n  a1 M = some (r, M')) : CI l z (xd z b) 339 b yX3_beginTest cX3_beginTest 2 (some .int) rm3_beginTest [.ref (b + 17), .int a1] M M' r :=
  CI.ofW (lv := [(0, .ref (b + 17)), (1, .int a1)]) (by decide) (Nat.le_of_ble_eq_true rfl) rfl (fun p e s m args below meth c ls C hr hk hP hS hl => w3_beginTest_0 (n := n)  C hr hk  hf hP hS hl)

-- BronzeKing$LawReader.goOnBehindFactor(I)I
theorem dX3_goOnBehindFactor_0 : decode cX3_goOnBehindFactor 0 = .ok (.ldc 107, 2) := by decide +kernel
theorem dX3_goOnBehindFactor_2 : decode cX3_goOnBehindFactor 2 = .ok (.iload_n 1, 1) := by decide +kernel
theorem dX3_goOnBehindFactor_3 : decode cX3_goOnBehindFactor 3 = .ok (.i2c, 1) := by decide +kernel
theorem dX3_goOnBehindFactor_4 : decode cX3_goOnBehindFactor 4 = .ok (.invokevirtual 102, 3) := by decide +kernel
theorem dX3_goOnBehindFactor_7 : decode cX3_goOnBehindFactor 7 = .ok (.istore_n 2, 1) := by decide +kernel
theorem dX3_goOnBehindFactor_8 : decode cX3_goOnBehindFactor 8 = .ok (.iload_n 2, 1) := by decide +kernel
theorem dX3_goOnBehindFactor_9 : decode cX3_goOnBehindFactor 9 = .ok (.ifCond .lt 23, 3) := by decide +kernel
theorem dX3_goOnBehindFactor_12 : decode cX3_goOnBehindFactor 12 = .ok (.aload_n 0, 1) := by decide +kernel
theorem dX3_goOnBehindFactor_13 : decode cX3_goOnBehindFactor 13 = .ok (.getstatic 109, 3) := by decide +kernel
theorem dX3_goOnBehindFactor_16 : decode cX3_goOnBehindFactor 16 = .ok (.iconst 2, 1) := by decide +kernel
theorem dX3_goOnBehindFactor_17 : decode cX3_goOnBehindFactor 17 = .ok (.iload_n 2, 1) := by decide +kernel
theorem dX3_goOnBehindFactor_18 : decode cX3_goOnBehindFactor 18 = .ok (.iadd, 1) := by decide +kernel
theorem dX3_goOnBehindFactor_19 : decode cX3_goOnBehindFactor 19 = .ok (.iaload, 1) := by decide +kernel
theorem dX3_goOnBehindFactor_20 : decode cX3_goOnBehindFactor 20 = .ok (.invokevirtual 112, 3) := by decide +kernel
theorem dX3_goOnBehindFactor_23 : decode cX3_goOnBehindFactor 23 = .ok (.aload_n 0, 1) := by decide +kernel
theorem dX3_goOnBehindFactor_24 : decode cX3_goOnBehindFactor 24 = .ok (.iconst 2, 1) := by decide +kernel
theorem dX3_goOnBehindFactor_25 : decode cX3_goOnBehindFactor 25 = .ok (.iload_n 2, 1) := by decide +kernel
theorem dX3_goOnBehindFactor_26 : decode cX3_goOnBehindFactor 26 = .ok (.iadd, 1) := by decide +kernel
theorem dX3_goOnBehindFactor_27 : decode cX3_goOnBehindFactor 27 = .ok (.iconst 3, 1) := by decide +kernel
theorem dX3_goOnBehindFactor_28 : decode cX3_goOnBehindFactor 28 = .ok (.invokevirtual 116, 3) := by decide +kernel
theorem dX3_goOnBehindFactor_31 : decode cX3_goOnBehindFactor 31 = .ok (.ireturn, 1) := by decide +kernel
theorem dX3_goOnBehindFactor_32 : decode cX3_goOnBehindFactor 32 = .ok (.aload_n 0, 1) := by decide +kernel
theorem dX3_goOnBehindFactor_33 : decode cX3_goOnBehindFactor 33 = .ok (.getstatic 109, 3) := by decide +kernel
theorem dX3_goOnBehindFactor_36 : decode cX3_goOnBehindFactor 36 = .ok (.iconst 2, 1) := by decide +kernel
theorem dX3_goOnBehindFactor_37 : decode cX3_goOnBehindFactor 37 = .ok (.iaload, 1) := by decide +kernel
theorem dX3_goOnBehindFactor_38 : decode cX3_goOnBehindFactor 38 = .ok (.invokevirtual 112, 3) := by decide +kernel
theorem dX3_goOnBehindFactor_41 : decode cX3_goOnBehindFactor 41 = .ok (.aload_n 0, 1) := by decide +kernel
theorem dX3_goOnBehindFactor_42 : decode cX3_goOnBehindFactor 42 = .ok (.invokevirtual 119, 3) := by decide +kernel
theorem dX3_goOnBehindFactor_45 : decode cX3_goOnBehindFactor 45 = .ok (.istore_n 3, 1) := by decide +kernel
theorem dX3_goOnBehindFactor_46 : decode cX3_goOnBehindFactor 46 = .ok (.ldc 122, 2) := by decide +kernel
theorem dX3_goOnBehindFactor_48 : decode cX3_goOnBehindFactor 48 = .ok (.iload_n 1, 1) := by decide +kernel
theorem dX3_goOnBehindFactor_49 : decode cX3_goOnBehindFactor 49 = .ok (.i2c, 1) := by decide +kernel
theorem dX3_goOnBehindFactor_50 : decode cX3_goOnBehindFactor 50 = .ok (.invokevirtual 102, 3) := by decide +kernel
theorem dX3_goOnBehindFactor_53 : decode cX3_goOnBehindFactor 53 = .ok (.istore 4, 2) := by decide +kernel
theorem dX3_goOnBehindFactor_55 : decode cX3_goOnBehindFactor 55 = .ok (.iload 4, 2) := by decide +kernel
theorem dX3_goOnBehindFactor_57 : decode cX3_goOnBehindFactor 57 = .ok (.ifCond .lt 49, 3) := by decide +kernel
theorem dX3_goOnBehindFactor_60 : decode cX3_goOnBehindFactor 60 = .ok (.iload_n 3, 1) := by decide +kernel
theorem dX3_goOnBehindFactor_61 : decode cX3_goOnBehindFactor 61 = .ok (.bipush 15, 2) := by decide +kernel
theorem dX3_goOnBehindFactor_63 : decode cX3_goOnBehindFactor 63 = .ok (.if_icmp .eq 20, 3) := by decide +kernel
theorem dX3_goOnBehindFactor_66 : decode cX3_goOnBehindFactor 66 = .ok (.iload_n 3, 1) := by decide +kernel
theorem dX3_goOnBehindFactor_67 : decode cX3_goOnBehindFactor 67 = .ok (.bipush 14, 2) := by decide +kernel
theorem dX3_goOnBehindFactor_69 : decode cX3_goOnBehindFactor 69 = .ok (.if_icmp .eq 14, 3) := by decide +kernel
theorem dX3_goOnBehindFactor_72 : decode cX3_goOnBehindFactor 72 = .ok (.iload_n 3, 1) := by decide +kernel
theorem dX3_goOnBehindFactor_73 : decode cX3_goOnBehindFactor 73 = .ok (.invokestatic 124, 3) := by decide +kernel
theorem dX3_goOnBehindFactor_76 : decode cX3_goOnBehindFactor 76 = .ok (.ifCond .ne 7, 3) := by decide +kernel
theorem dX3_goOnBehindFactor_79 : decode cX3_goOnBehindFactor 79 = .ok (.iconst 1, 1) := by decide +kernel
theorem dX3_goOnBehindFactor_80 : decode cX3_goOnBehindFactor 80 = .ok (.goto 4, 3) := by decide +kernel
theorem dX3_goOnBehindFactor_83 : decode cX3_goOnBehindFactor 83 = .ok (.iconst 0, 1) := by decide +kernel
theorem dX3_goOnBehindFactor_84 : decode cX3_goOnBehindFactor 84 = .ok (.istore 5, 2) := by decide +kernel
theorem dX3_goOnBehindFactor_86 : decode cX3_goOnBehindFactor 86 = .ok (.iload 5, 2) := by decide +kernel
theorem dX3_goOnBehindFactor_88 : decode cX3_goOnBehindFactor 88 = .ok (.ifCond .eq 16, 3) := by decide +kernel
theorem dX3_goOnBehindFactor_91 : decode cX3_goOnBehindFactor 91 = .ok (.aload_n 0, 1) := by decide +kernel
theorem dX3_goOnBehindFactor_92 : decode cX3_goOnBehindFactor 92 = .ok (.bipush 7, 2) := by decide +kernel
theorem dX3_goOnBehindFactor_94 : decode cX3_goOnBehindFactor 94 = .ok (.iload 4, 2) := by decide +kernel
theorem dX3_goOnBehindFactor_96 : decode cX3_goOnBehindFactor 96 = .ok (.iadd, 1) := by decide +kernel
theorem dX3_goOnBehindFactor_97 : decode cX3_goOnBehindFactor 97 = .ok (.iconst 3, 1) := by decide +kernel
theorem dX3_goOnBehindFactor_98 : decode cX3_goOnBehindFactor 98 = .ok (.invokevirtual 116, 3) := by decide +kernel
theorem dX3_goOnBehindFactor_101 : decode cX3_goOnBehindFactor 101 = .ok (.goto 4, 3) := by decide +kernel
theorem dX3_goOnBehindFactor_104 : decode cX3_goOnBehindFactor 104 = .ok (.iconst 1, 1) := by decide +kernel
theorem dX3_goOnBehindFactor_105 : decode cX3_goOnBehindFactor 105 = .ok (.ireturn, 1) := by decide +kernel
theorem dX3_goOnBehindFactor_106 : decode cX3_goOnBehindFactor 106 = .ok (.iload_n 1, 1) := by decide +kernel
theorem dX3_goOnBehindFactor_107 : decode cX3_goOnBehindFactor 107 = .ok (.bipush 93, 2) := by decide +kernel
theorem dX3_goOnBehindFactor_109 : decode cX3_goOnBehindFactor 109 = .ok (.if_icmp .ne 19, 3) := by decide +kernel
theorem dX3_goOnBehindFactor_112 : decode cX3_goOnBehindFactor 112 = .ok (.iload_n 3, 1) := by decide +kernel
theorem dX3_goOnBehindFactor_113 : decode cX3_goOnBehindFactor 113 = .ok (.bipush 14, 2) := by decide +kernel
theorem dX3_goOnBehindFactor_115 : decode cX3_goOnBehindFactor 115 = .ok (.if_icmp .ne 11, 3) := by decide +kernel
theorem dX3_goOnBehindFactor_118 : decode cX3_goOnBehindFactor 118 = .ok (.aload_n 0, 1) := by decide +kernel
theorem dX3_goOnBehindFactor_119 : decode cX3_goOnBehindFactor 119 = .ok (.iconst 5, 1) := by decide +kernel
theorem dX3_goOnBehindFactor_120 : decode cX3_goOnBehindFactor 120 = .ok (.invokevirtual 127, 3) := by decide +kernel
theorem dX3_goOnBehindFactor_123 : decode cX3_goOnBehindFactor 123 = .ok (.goto 4, 3) := by decide +kernel
theorem dX3_goOnBehindFactor_126 : decode cX3_goOnBehindFactor 126 = .ok (.iconst 1, 1) := by decide +kernel
theorem dX3_goOnBehindFactor_127 : decode cX3_goOnBehindFactor 127 = .ok (.ireturn, 1) := by decide +kernel
theorem dX3_goOnBehindFactor_128 : decode cX3_goOnBehindFactor 128 = .ok (.iload_n 1, 1) := by decide +kernel
theorem dX3_goOnBehindFactor_129 : decode cX3_goOnBehindFactor 129 = .ok (.bipush 40, 2) := by decide +kernel
theorem dX3_goOnBehindFactor_131 : decode cX3_goOnBehindFactor 131 = .ok (.if_icmp .ne 18, 3) := by decide +kernel
theorem dX3_goOnBehindFactor_134 : decode cX3_goOnBehindFactor 134 = .ok (.iload_n 3, 1) := by decide +kernel
theorem dX3_goOnBehindFactor_135 : decode cX3_goOnBehindFactor 135 = .ok (.bipush 15, 2) := by decide +kernel
theorem dX3_goOnBehindFactor_137 : decode cX3_goOnBehindFactor 137 = .ok (.if_icmp .ne 10, 3) := by decide +kernel
theorem dX3_goOnBehindFactor_140 : decode cX3_goOnBehindFactor 140 = .ok (.aload_n 0, 1) := by decide +kernel
theorem dX3_goOnBehindFactor_141 : decode cX3_goOnBehindFactor 141 = .ok (.invokevirtual 75, 3) := by decide +kernel
theorem dX3_goOnBehindFactor_144 : decode cX3_goOnBehindFactor 144 = .ok (.goto 4, 3) := by decide +kernel
theorem dX3_goOnBehindFactor_147 : decode cX3_goOnBehindFactor 147 = .ok (.iconst 1, 1) := by decide +kernel
theorem dX3_goOnBehindFactor_148 : decode cX3_goOnBehindFactor 148 = .ok (.ireturn, 1) := by decide +kernel
theorem dX3_goOnBehindFactor_149 : decode cX3_goOnBehindFactor 149 = .ok (.iload_n 3, 1) := by decide +kernel
theorem dX3_goOnBehindFactor_150 : decode cX3_goOnBehindFactor 150 = .ok (.invokestatic 124, 3) := by decide +kernel
theorem dX3_goOnBehindFactor_153 : decode cX3_goOnBehindFactor 153 = .ok (.ifCond .eq 11, 3) := by decide +kernel
theorem dX3_goOnBehindFactor_156 : decode cX3_goOnBehindFactor 156 = .ok (.aload_n 0, 1) := by decide +kernel
theorem dX3_goOnBehindFactor_157 : decode cX3_goOnBehindFactor 157 = .ok (.iload_n 1, 1) := by decide +kernel
theorem dX3_goOnBehindFactor_158 : decode cX3_goOnBehindFactor 158 = .ok (.invokevirtual 91, 3) := by decide +kernel
theorem dX3_goOnBehindFactor_161 : decode cX3_goOnBehindFactor 161 = .ok (.goto 4, 3) := by decide +kernel
theorem dX3_goOnBehindFactor_164 : decode cX3_goOnBehindFactor 164 = .ok (.iconst 1, 1) := by decide +kernel
theorem dX3_goOnBehindFactor_165 : decode cX3_goOnBehindFactor 165 = .ok (.ireturn, 1) := by decide +kernel
def b3_goOnBehindFactor_84 (rc : Nat → List Int32 → List Int64 → Mem → Option (Int32 × Mem)) (n : Nat) (i4 : Int32) (s0 : Int32) (M : Mem) : Option (Int32 × Mem) :=
  (if s0 = 0 then (
   some ((1 : Int32), M))
  else (
   bnd (f3_await n ((7 : Int32) + i4) (3 : Int32) M) fun r47 M48 =>
   some (r47, M48)))
def b3_goOnBehindFactor_83 (rc : Nat → List Int32 → List Int64 → Mem → Option (Int32 × Mem)) (n : Nat) (i4 : Int32) (M : Mem) : Option (Int32 × Mem) :=
  b3_goOnBehindFactor_84  rc n i4 (0 : Int32) M
def b3_goOnBehindFactor_0 (rc : Nat → List Int32 → List Int64 → Mem → Option (Int32 × Mem)) (n : Nat) (a1 : Int32) (M : Mem) : Option (Int32 × Mem) :=
  bnd (fZJ0_indexOf_0f7a4 n 1 ((a1.toUInt32 % 65536).toInt32) M) fun r1 M2 =>
  (if r1 < 0 then (
   chk (inb (2 : Int32) 16) <|
   bnd (f3_settle n (ranksL.getD (2 : Int32).toNatClampNeg 0) M2) fun r6 M7 =>
   bnd (f3_innermost n M7) fun r9 M10 =>
   bnd (fZJ0_indexOf_0f7a4 n 2 ((a1.toUInt32 % 65536).toInt32) M10) fun r12 M13 =>
   (if r12 < 0 then (
    (if a1 = (93 : Int32) then (
     (if r9 = (14 : Int32) then (
      bnd (f3_close n (5 : Int32) M13) fun r30 M31 =>
      some (r30, M31))
     else (
      some ((1 : Int32), M13))))
    else (
     (if a1 = (40 : Int32) then (
      (if r9 = (15 : Int32) then (
       bnd (f3_openRule n M13) fun r26 M27 =>
       some (r26, M27))
      else (
       some ((1 : Int32), M13))))
     else (
      bnd (f3_isComparison n r9 M13) fun r18 M19 =>
      (if r18 = 0 then (
       some ((1 : Int32), M19))
      else (
       bnd (f3_goOnBehindTest n a1 M19) fun r22 M23 =>
       some (r22, M23))))))))
   else (
    (if r9 = (15 : Int32) then (
     b3_goOnBehindFactor_83  rc n r12 M13)
    else (
     (if r9 = (14 : Int32) then (
      b3_goOnBehindFactor_83  rc n r12 M13)
     else (
      bnd (f3_isComparison n r9 M13) fun r35 M36 =>
      (if r35 = 0 then (
       b3_goOnBehindFactor_84  rc n r12 (1 : Int32) M36)
      else (
       b3_goOnBehindFactor_83  rc n r12 M36)))))))))
  else (
   chk (inb ((2 : Int32) + r1) 16) <|
   bnd (f3_settle n (ranksL.getD ((2 : Int32) + r1).toNatClampNeg 0) M2) fun r40 M41 =>
   bnd (f3_await n ((2 : Int32) + r1) (3 : Int32) M41) fun r43 M44 =>
   some (r43, M44)))
def f3_goOnBehindFactor (n : Nat) (a1 : Int32) (M : Mem) : Option (Int32 × Mem) := b3_goOnBehindFactor_0 (fun _ _ _ _ => none) n a1 M
abbrev rm3_goOnBehindFactor : Room := { frames := 4, cells := 0, slots := 0, locals := 91 }
theorem y3_goOnBehindFactor_w : yV RX3 yX3_goOnBehindFactor cX3_goOnBehindFactor 6 (some .int) 1 := ⟨g_627, gp 9 rfl rfl, g_7, g_628, rfl, by decide, by decide, by decide +kernel⟩
set_option maxHeartbeats 4000000 in
set_option maxRecDepth 100000 in
theorem w3_goOnBehindFactor_84 {p : Program} {l : Launch} {e : Env} {s : State} {m : MethodId} {args : Array Value} {below : List Frame} {meth : Method} {c : Code} {z : Zt} {b : Nat}  (C : Cx p s m args c cX3_goOnBehindFactor 6 RX3 z 339 b) (hr : meth.sig.returnType = (some .int)) (hk : meth.locks = false) {r : Int32} {M' : Mem} {rc : Nat → List Int32 → List Int64 → Mem → Option (Int32 × Mem)} {n : Nat}  {i4 : Int32} {s0 : Int32} {M : Mem} {H : Heap} {locs : List Loc} {ls : Array Slot} (hf : b3_goOnBehindFactor_84  rc n i4 s0 M = some (r, M')) (hP : va_P z.1 vwCl (pw (xd z b) 339 b M) H) (hS : va_S (pA 339 b) s.heap H locs) (hl : lv_has ls 6 [(0, .ref (b + 17)), (4, .int i4)]) : W p l e rm3_goOnBehindFactor s m args below meth c H locs 0 0 (MQ below (va_Qi (fun (r' : Int32) (M2 : Mem) => r' = r ∧ M2 = M') (fun M2 t => va_P z.1 vwCl (pw (xd z b) 339 b M2) t.heap) (pA 339 b)) args s 0 0 (pA 339 b)) (F0 m 84 ls [.int s0]) := by
  have hx := C.1.1
  have hb := C.1.2.1
  unfold b3_goOnBehindFactor_84 at hf
  refine lv_istore (lv' := [(5, .int s0), (0, .ref (b + 17)), (4, .int i4)]) hx hb dX3_goOnBehindFactor_84 hl (by decide) rfl (fun ls hl => ?_)
  refine lv_iload hx hb dX3_goOnBehindFactor_86 (lv_at hl 0 rfl) ?_
  refine lv_if_eq (tgt := 104) hx hb dX3_goOnBehindFactor_88 (by decide) (fun c46 => ?_) (fun c46 => ?_)
  · replace hf := ite_t c46 hf
    refine lv_iconst (v := (1 : Int32)) hx hb dX3_goOnBehindFactor_104 (by decide) ?_
    exact prI C hr hk hP hS hf dX3_goOnBehindFactor_105
  · replace hf := ite_f c46 hf
    refine lv_aload_n hx hb dX3_goOnBehindFactor_91 rfl (lv_at hl 1 rfl) ?_
    refine lv_bipush (v := (7 : Int32)) hx hb dX3_goOnBehindFactor_92 (by decide) ?_
    refine lv_iload hx hb dX3_goOnBehindFactor_94 (lv_at hl 2 rfl) ?_
    refine lv_iadd hx hb dX3_goOnBehindFactor_96 ?_
    refine lv_iconst (v := (3 : Int32)) hx hb dX3_goOnBehindFactor_97 (by decide) ?_
    obtain ⟨r47, M48, h49, hf⟩ := bnd_s hf
    refine pcVi (As := [.int ((7 : Int32) + i4), .int (3 : Int32)]) C hP hS (k := 17) (Nat.le_of_ble_eq_true rfl) (xd_17 _ _) rfl (c3_await  h49) y3_await_w g_644 rfl rfl rfl ⟨Nat.le_of_ble_eq_true rfl, Nat.le_of_ble_eq_true rfl⟩ hl.1 rfl (Nat.le_of_ble_eq_true rfl) dX3_goOnBehindFactor_98 ⟨Nat.le_of_ble_eq_true rfl, Nat.le_of_ble_eq_true rfl⟩ (fun H locs hP hS => ?_)
    refine lv_goto (tgt := 105) hx hb dX3_goOnBehindFactor_101 (by decide) ?_
    exact prI C hr hk hP hS hf dX3_goOnBehindFactor_105
set_option maxHeartbeats 4000000 in
set_option maxRecDepth 100000 in
theorem w3_goOnBehindFactor_83 {p : Program} {l : Launch} {e : Env} {s : State} {m : MethodId} {args : Array Value} {below : List Frame} {meth : Method} {c : Code} {z : Zt} {b : Nat}  (C : Cx p s m args c cX3_goOnBehindFactor 6 RX3 z 339 b) (hr : meth.sig.returnType = (some .int)) (hk : meth.locks = false) {r : Int32} {M' : Mem} {rc : Nat → List Int32 → List Int64 → Mem → Option (Int32 × Mem)} {n : Nat}  {i4 : Int32} {M : Mem} {H : Heap} {locs : List Loc} {ls : Array Slot} (hf : b3_goOnBehindFactor_83  rc n i4 M = some (r, M')) (hP : va_P z.1 vwCl (pw (xd z b) 339 b M) H) (hS : va_S (pA 339 b) s.heap H locs) (hl : lv_has ls 6 [(0, .ref (b + 17)), (4, .int i4)]) : W p l e rm3_goOnBehindFactor s m args below meth c H locs 0 0 (MQ below (va_Qi (fun (r' : Int32) (M2 : Mem) => r' = r ∧ M2 = M') (fun M2 t => va_P z.1 vwCl (pw (xd z b) 339 b M2) t.heap) (pA 339 b)) args s 0 0 (pA 339 b)) (F0 m 83 ls []) := by
  have hx := C.1.1
  have hb := C.1.2.1
  unfold b3_goOnBehindFactor_83 at hf
  refine lv_iconst (v := (0 : Int32)) hx hb dX3_goOnBehindFactor_83 (by decide) ?_
  exact w3_goOnBehindFactor_84 (n := n)  C hr hk  hf hP hS (lv_sub hl [0, 1] rfl)
set_option maxHeartbeats 4000000 in
set_option maxRecDepth 100000 in
theorem w3_goOnBehindFactor_0 {p : Program} {l : Launch} {e : Env} {s : State} {m : MethodId} {args : Array Value} {below : List Frame} {meth : Method} {c : Code} {z : Zt} {b : Nat}  (C : Cx p s m args c cX3_goOnBehindFactor 6 RX3 z 339 b) (hr : meth.sig.returnType = (some .int)) (hk : meth.locks = false) {r : Int32} {M' : Mem} {rc : Nat → List Int32 → List Int64 → Mem → Option (Int32 × Mem)} {n : Nat}  {a1 : Int32} {M : Mem} {H : Heap} {locs : List Loc} {ls : Array Slot} (hf : b3_goOnBehindFactor_0  rc n a1 M = some (r, M')) (hP : va_P z.1 vwCl (pw (xd z b) 339 b M) H) (hS : va_S (pA 339 b) s.heap H locs) (hl : lv_has ls 6 [(0, .ref (b + 17)), (1, .int a1)]) : W p l e rm3_goOnBehindFactor s m args below meth c H locs 0 0 (MQ below (va_Qi (fun (r' : Int32) (M2 : Mem) => r' = r ∧ M2 = M') (fun M2 t => va_P z.1 vwCl (pw (xd z b) 339 b M2) t.heap) (pA 339 b)) args s 0 0 (pA 339 b)) (F0 m 0 ls []) := by
  have hx := C.1.1
  have hb := C.1.2.1
  unfold b3_goOnBehindFactor_0 at hf
  refine va_ldcS hx hb C.1.2.2.2.1 C.2.1.2.2.2.1 dX3_goOnBehindFactor_0 ?_
  refine lv_iload_n hx hb dX3_goOnBehindFactor_2 rfl (lv_at hl 1 rfl) ?_
  refine lv_i2c hx hb dX3_goOnBehindFactor_3 rfl ?_
  obtain ⟨r1, M2, h3, hf⟩ := bnd_s hf
  refine pcKi (As := [.int (a1.toUInt32 % 65536).toInt32]) C hP hS (k := 1) (by decide) (cZJ0_indexOf_0f7a4 (by decide) h3) yZJ0_indexOf_0f7a4_w g_535 rfl rfl rfl ⟨Nat.le_of_ble_eq_true rfl, Nat.le_of_ble_eq_true rfl⟩ hl.1 rfl (Nat.le_of_ble_eq_true rfl) dX3_goOnBehindFactor_4 ⟨Nat.le_of_ble_eq_true rfl, Nat.le_of_ble_eq_true rfl⟩ (fun H locs hP hS => ?_)
  refine lv_istore_n (lv' := [(2, .int r1), (0, .ref (b + 17)), (1, .int a1)]) hx hb dX3_goOnBehindFactor_7 rfl hl (by decide) rfl (fun ls hl => ?_)
  refine lv_iload_n hx hb dX3_goOnBehindFactor_8 rfl (lv_at hl 0 rfl) ?_
  refine lv_if_lt (tgt := 32) hx hb dX3_goOnBehindFactor_9 (by decide) (fun c4 => ?_) (fun c4 => ?_)
  · replace hf := ite_t c4 hf
    refine lv_aload_n hx hb dX3_goOnBehindFactor_32 rfl (lv_at hl 1 rfl) ?_
    refine va_gets hx hb C.2.2.1 hS C.1.2.2.2.1 (C.1.2.2.2.2 _ g_630) (fun _ h => h) dX3_goOnBehindFactor_33 ?_
    refine lv_iconst (v := (2 : Int32)) hx hb dX3_goOnBehindFactor_36 (by decide) ?_
    have h5 := chk_1 hf
    replace hf := chk_2 hf
    refine va_ti hx hb C.2.2.2.1 hS (inb_in h5) rfl dX3_goOnBehindFactor_37 ?_
    obtain ⟨r6, M7, h8, hf⟩ := bnd_s hf
    refine pcVv (As := [.int (ranksL.getD (2 : Int32).toNatClampNeg 0)]) C hP hS (k := 17) (Nat.le_of_ble_eq_true rfl) (xd_17 _ _) rfl (c3_settle  h8) y3_settle_w g_632 rfl rfl rfl ⟨Nat.le_of_ble_eq_true rfl, Nat.le_of_ble_eq_true rfl⟩ hl.1 rfl (Nat.le_of_ble_eq_true rfl) dX3_goOnBehindFactor_38 ⟨Nat.le_of_ble_eq_true rfl, Nat.le_of_ble_eq_true rfl⟩ (fun H locs hP hS => ?_)
    refine lv_aload_n hx hb dX3_goOnBehindFactor_41 rfl (lv_at hl 1 rfl) ?_
    obtain ⟨r9, M10, h11, hf⟩ := bnd_s hf
    refine pcVi (As := []) C hP hS (k := 17) (Nat.le_of_ble_eq_true rfl) (xd_17 _ _) rfl (c3_innermost  h11) y3_innermost_w g_636 rfl rfl rfl ⟨Nat.le_of_ble_eq_true rfl, Nat.le_of_ble_eq_true rfl⟩ hl.1 rfl (Nat.le_of_ble_eq_true rfl) dX3_goOnBehindFactor_42 ⟨Nat.le_of_ble_eq_true rfl, Nat.le_of_ble_eq_true rfl⟩ (fun H locs hP hS => ?_)
    refine lv_istore_n (lv' := [(3, .int r9), (2, .int r1), (0, .ref (b + 17)), (1, .int a1)]) hx hb dX3_goOnBehindFactor_45 rfl hl (by decide) rfl (fun ls hl => ?_)
    refine va_ldcS hx hb C.1.2.2.2.1 C.2.1.2.2.2.2 dX3_goOnBehindFactor_46 ?_
    refine lv_iload_n hx hb dX3_goOnBehindFactor_48 rfl (lv_at hl 3 rfl) ?_
    refine lv_i2c hx hb dX3_goOnBehindFactor_49 rfl ?_
    obtain ⟨r12, M13, h14, hf⟩ := bnd_s hf
    refine pcKi (As := [.int (a1.toUInt32 % 65536).toInt32]) C hP hS (k := 2) (by decide) (cZJ0_indexOf_0f7a4 (by decide) h14) yZJ0_indexOf_0f7a4_w g_535 rfl rfl rfl ⟨Nat.le_of_ble_eq_true rfl, Nat.le_of_ble_eq_true rfl⟩ hl.1 rfl (Nat.le_of_ble_eq_true rfl) dX3_goOnBehindFactor_50 ⟨Nat.le_of_ble_eq_true rfl, Nat.le_of_ble_eq_true rfl⟩ (fun H locs hP hS => ?_)
    refine lv_istore (lv' := [(4, .int r12), (3, .int r9), (2, .int r1), (0, .ref (b + 17)), (1, .int a1)]) hx hb dX3_goOnBehindFactor_53 hl (by decide) rfl (fun ls hl => ?_)
    refine lv_iload hx hb dX3_goOnBehindFactor_55 (lv_at hl 0 rfl) ?_
    refine lv_if_lt (tgt := 106) hx hb dX3_goOnBehindFactor_57 (by decide) (fun c15 => ?_) (fun c15 => ?_)
    · replace hf := ite_t c15 hf
      refine lv_iload_n hx hb dX3_goOnBehindFactor_106 rfl (lv_at hl 4 rfl) ?_
      refine lv_bipush (v := (93 : Int32)) hx hb dX3_goOnBehindFactor_107 (by decide) ?_
      refine lv_icmp_ne (tgt := 128) hx hb dX3_goOnBehindFactor_109 (by decide) (fun c16 => ?_) (fun c16 => ?_)
      · replace hf := ite_f c16 hf
        refine lv_iload_n hx hb dX3_goOnBehindFactor_128 rfl (lv_at hl 4 rfl) ?_
        refine lv_bipush (v := (40 : Int32)) hx hb dX3_goOnBehindFactor_129 (by decide) ?_
        refine lv_icmp_ne (tgt := 149) hx hb dX3_goOnBehindFactor_131 (by decide) (fun c17 => ?_) (fun c17 => ?_)
        · replace hf := ite_f c17 hf
          refine lv_iload_n hx hb dX3_goOnBehindFactor_149 rfl (lv_at hl 1 rfl) ?_
          obtain ⟨r18, M19, h20, hf⟩ := bnd_s hf
          refine pcSi (As := [.int r9]) C hP hS (c3_isComparison  h20) y3_isComparison_w g_649 rfl rfl rfl ⟨Nat.le_of_ble_eq_true rfl, Nat.le_of_ble_eq_true rfl⟩ hl.1 rfl (Nat.le_of_ble_eq_true rfl) dX3_goOnBehindFactor_150 ⟨Nat.le_of_ble_eq_true rfl, Nat.le_of_ble_eq_true rfl⟩ (fun H locs hP hS => ?_)
          refine lv_if_eq (tgt := 164) hx hb dX3_goOnBehindFactor_153 (by decide) (fun c21 => ?_) (fun c21 => ?_)
          · replace hf := ite_t c21 hf
            refine lv_iconst (v := (1 : Int32)) hx hb dX3_goOnBehindFactor_164 (by decide) ?_
            exact prI C hr hk hP hS hf dX3_goOnBehindFactor_165
          · replace hf := ite_f c21 hf
            refine lv_aload_n hx hb dX3_goOnBehindFactor_156 rfl (lv_at hl 3 rfl) ?_
            refine lv_iload_n hx hb dX3_goOnBehindFactor_157 rfl (lv_at hl 4 rfl) ?_
            obtain ⟨r22, M23, h24, hf⟩ := bnd_s hf
            refine pcVi (As := [.int a1]) C hP hS (k := 17) (Nat.le_of_ble_eq_true rfl) (xd_17 _ _) rfl (c3_goOnBehindTest  h24) y3_goOnBehindTest_w g_656 rfl rfl rfl ⟨Nat.le_of_ble_eq_true rfl, Nat.le_of_ble_eq_true rfl⟩ hl.1 rfl (Nat.le_of_ble_eq_true rfl) dX3_goOnBehindFactor_158 ⟨Nat.le_of_ble_eq_true rfl, Nat.le_of_ble_eq_true rfl⟩ (fun H locs hP hS => ?_)
            refine lv_goto (tgt := 165) hx hb dX3_goOnBehindFactor_161 (by decide) ?_
            exact prI C hr hk hP hS hf dX3_goOnBehindFactor_165
        · replace hf := ite_t c17 hf
          refine lv_iload_n hx hb dX3_goOnBehindFactor_134 rfl (lv_at hl 1 rfl) ?_
          refine lv_bipush (v := (15 : Int32)) hx hb dX3_goOnBehindFactor_135 (by decide) ?_
          refine lv_icmp_ne (tgt := 147) hx hb dX3_goOnBehindFactor_137 (by decide) (fun c25 => ?_) (fun c25 => ?_)
          · replace hf := ite_f c25 hf
            refine lv_iconst (v := (1 : Int32)) hx hb dX3_goOnBehindFactor_147 (by decide) ?_
            exact prI C hr hk hP hS hf dX3_goOnBehindFactor_148
          · replace hf := ite_t c25 hf
            refine lv_aload_n hx hb dX3_goOnBehindFactor_140 rfl (lv_at hl 3 rfl) ?_
            obtain ⟨r26, M27, h28, hf⟩ := bnd_s hf
            refine pcVi (As := []) C hP hS (k := 17) (Nat.le_of_ble_eq_true rfl) (xd_17 _ _) rfl (c3_openRule  h28) y3_openRule_w g_514 rfl rfl rfl ⟨Nat.le_of_ble_eq_true rfl, Nat.le_of_ble_eq_true rfl⟩ hl.1 rfl (Nat.le_of_ble_eq_true rfl) dX3_goOnBehindFactor_141 ⟨Nat.le_of_ble_eq_true rfl, Nat.le_of_ble_eq_true rfl⟩ (fun H locs hP hS => ?_)
            refine lv_goto (tgt := 148) hx hb dX3_goOnBehindFactor_144 (by decide) ?_
            exact prI C hr hk hP hS hf dX3_goOnBehindFactor_148
      · replace hf := ite_t c16 hf
        refine lv_iload_n hx hb dX3_goOnBehindFactor_112 rfl (lv_at hl 1 rfl) ?_
        refine lv_bipush (v := (14 : Int32)) hx hb dX3_goOnBehindFactor_113 (by decide) ?_
        refine lv_icmp_ne (tgt := 126) hx hb dX3_goOnBehindFactor_115 (by decide) (fun c29 => ?_) (fun c29 => ?_)
        · replace hf := ite_f c29 hf
          refine lv_iconst (v := (1 : Int32)) hx hb dX3_goOnBehindFactor_126 (by decide) ?_
          exact prI C hr hk hP hS hf dX3_goOnBehindFactor_127
        · replace hf := ite_t c29 hf
          refine lv_aload_n hx hb dX3_goOnBehindFactor_118 rfl (lv_at hl 3 rfl) ?_
          refine lv_iconst (v := (5 : Int32)) hx hb dX3_goOnBehindFactor_119 (by decide) ?_
          obtain ⟨r30, M31, h32, hf⟩ := bnd_s hf
          refine pcVi (As := [.int (5 : Int32)]) C hP hS (k := 17) (Nat.le_of_ble_eq_true rfl) (xd_17 _ _) rfl (c3_close  h32) y3_close_w g_652 rfl rfl rfl ⟨Nat.le_of_ble_eq_true rfl, Nat.le_of_ble_eq_true rfl⟩ hl.1 rfl (Nat.le_of_ble_eq_true rfl) dX3_goOnBehindFactor_120 ⟨Nat.le_of_ble_eq_true rfl, Nat.le_of_ble_eq_true rfl⟩ (fun H locs hP hS => ?_)
          refine lv_goto (tgt := 127) hx hb dX3_goOnBehindFactor_123 (by decide) ?_
          exact prI C hr hk hP hS hf dX3_goOnBehindFactor_127
    · replace hf := ite_f c15 hf
      refine lv_iload_n hx hb dX3_goOnBehindFactor_60 rfl (lv_at hl 1 rfl) ?_
      refine lv_bipush (v := (15 : Int32)) hx hb dX3_goOnBehindFactor_61 (by decide) ?_
      refine lv_icmp_eq (tgt := 83) hx hb dX3_goOnBehindFactor_63 (by decide) (fun c33 => ?_) (fun c33 => ?_)
      · replace hf := ite_t c33 hf
        exact w3_goOnBehindFactor_83 (n := n)  C hr hk  hf hP hS (lv_sub hl [3, 0] rfl)
      · replace hf := ite_f c33 hf
        refine lv_iload_n hx hb dX3_goOnBehindFactor_66 rfl (lv_at hl 1 rfl) ?_
        refine lv_bipush (v := (14 : Int32)) hx hb dX3_goOnBehindFactor_67 (by decide) ?_
        refine lv_icmp_eq (tgt := 83) hx hb dX3_goOnBehindFactor_69 (by decide) (fun c34 => ?_) (fun c34 => ?_)
        · replace hf := ite_t c34 hf
          exact w3_goOnBehindFactor_83 (n := n)  C hr hk  hf hP hS (lv_sub hl [3, 0] rfl)
        · replace hf := ite_f c34 hf
          refine lv_iload_n hx hb dX3_goOnBehindFactor_72 rfl (lv_at hl 1 rfl) ?_
          obtain ⟨r35, M36, h37, hf⟩ := bnd_s hf
          refine pcSi (As := [.int r9]) C hP hS (c3_isComparison  h37) y3_isComparison_w g_649 rfl rfl rfl ⟨Nat.le_of_ble_eq_true rfl, Nat.le_of_ble_eq_true rfl⟩ hl.1 rfl (Nat.le_of_ble_eq_true rfl) dX3_goOnBehindFactor_73 ⟨Nat.le_of_ble_eq_true rfl, Nat.le_of_ble_eq_true rfl⟩ (fun H locs hP hS => ?_)
          refine lv_if_ne (tgt := 83) hx hb dX3_goOnBehindFactor_76 (by decide) (fun c38 => ?_) (fun c38 => ?_)
          · replace hf := ite_f c38 hf
            exact w3_goOnBehindFactor_83 (n := n)  C hr hk  hf hP hS (lv_sub hl [3, 0] rfl)
          · replace hf := ite_t c38 hf
            refine lv_iconst (v := (1 : Int32)) hx hb dX3_goOnBehindFactor_79 (by decide) ?_
            refine lv_goto (tgt := 84) hx hb dX3_goOnBehindFactor_80 (by decide) ?_
            exact w3_goOnBehindFactor_84 (n := n)  C hr hk  hf hP hS (lv_sub hl [3, 0] rfl)
  · replace hf := ite_f c4 hf
    refine lv_aload_n hx hb dX3_goOnBehindFactor_12 rfl (lv_at hl 1 rfl) ?_
    refine va_gets hx hb C.2.2.1 hS C.1.2.2.2.1 (C.1.2.2.2.2 _ g_630) (fun _ h => h) dX3_goOnBehindFactor_13 ?_
    refine lv_iconst (v := (2 : Int32)) hx hb dX3_goOnBehindFactor_16 (by decide) ?_
    refine lv_iload_n hx hb dX3_goOnBehindFactor_17 rfl (lv_at hl 0 rfl) ?_
    refine lv_iadd hx hb dX3_goOnBehindFactor_18 ?_
    have h39 := chk_1 hf
    replace hf := chk_2 hf
    refine va_ti hx hb C.2.2.2.1 hS (inb_in h39) rfl dX3_goOnBehindFactor_19 ?_
    obtain ⟨r40, M41, h42, hf⟩ := bnd_s hf
    refine pcVv (As := [.int (ranksL.getD ((2 : Int32) + r1).toNatClampNeg 0)]) C hP hS (k := 17) (Nat.le_of_ble_eq_true rfl) (xd_17 _ _) rfl (c3_settle  h42) y3_settle_w g_632 rfl rfl rfl ⟨Nat.le_of_ble_eq_true rfl, Nat.le_of_ble_eq_true rfl⟩ hl.1 rfl (Nat.le_of_ble_eq_true rfl) dX3_goOnBehindFactor_20 ⟨Nat.le_of_ble_eq_true rfl, Nat.le_of_ble_eq_true rfl⟩ (fun H locs hP hS => ?_)
    refine lv_aload_n hx hb dX3_goOnBehindFactor_23 rfl (lv_at hl 1 rfl) ?_
    refine lv_iconst (v := (2 : Int32)) hx hb dX3_goOnBehindFactor_24 (by decide) ?_
    refine lv_iload_n hx hb dX3_goOnBehindFactor_25 rfl (lv_at hl 0 rfl) ?_
    refine lv_iadd hx hb dX3_goOnBehindFactor_26 ?_
    refine lv_iconst (v := (3 : Int32)) hx hb dX3_goOnBehindFactor_27 (by decide) ?_
    obtain ⟨r43, M44, h45, hf⟩ := bnd_s hf
    refine pcVi (As := [.int ((2 : Int32) + r1), .int (3 : Int32)]) C hP hS (k := 17) (Nat.le_of_ble_eq_true rfl) (xd_17 _ _) rfl (c3_await  h45) y3_await_w g_644 rfl rfl rfl ⟨Nat.le_of_ble_eq_true rfl, Nat.le_of_ble_eq_true rfl⟩ hl.1 rfl (Nat.le_of_ble_eq_true rfl) dX3_goOnBehindFactor_28 ⟨Nat.le_of_ble_eq_true rfl, Nat.le_of_ble_eq_true rfl⟩ (fun H locs hP hS => ?_)
    exact prI C hr hk hP hS hf dX3_goOnBehindFactor_31
theorem c3_goOnBehindFactor {l : Launch} {z : Zt} {b n : Nat}  {a1 : Int32} {M M' : Mem} {r : Int32} (hf : f3_goOnBehindFactor n  a1 M = some (r, M')) : CI l z (xd z b) 339 b yX3_goOnBehindFactor cX3_goOnBehindFactor 6 (some .int) rm3_goOnBehindFactor [.ref (b + 17), .int a1] M M' r :=
  CI.ofW (lv := [(0, .ref (b + 17)), (1, .int a1)]) (by decide) (Nat.le_of_ble_eq_true rfl) rfl (fun p e s m args below meth c ls C hr hk hP hS hl => w3_goOnBehindFactor_0 (n := n)  C hr hk  hf hP hS hl)

-- BronzeKing$LawReader.readSign(I)I
theorem dX3_readSign_0 : decode cX3_readSign 0 = .ok (.aload_n 0, 1) := by decide +kernel
theorem dX3_readSign_1 : decode cX3_readSign 1 = .ok (.getfield 40, 3) := by decide +kernel
theorem dX3_readSign_4 : decode cX3_readSign 4 = .ok (.iconst 4, 1) := by decide +kernel
theorem dX3_readSign_5 : decode cX3_readSign 5 = .ok (.if_icmp .ne 24, 3) := by decide +kernel
theorem dX3_readSign_8 : decode cX3_readSign 8 = .ok (.iload_n 1, 1) := by decide +kernel
theorem dX3_readSign_9 : decode cX3_readSign 9 = .ok (.invokestatic 62, 3) := by decide +kernel
theorem dX3_readSign_12 : decode cX3_readSign 12 = .ok (.ifCond .ne 17, 3) := by decide +kernel
theorem dX3_readSign_15 : decode cX3_readSign 15 = .ok (.aload_n 0, 1) := by decide +kernel
theorem dX3_readSign_16 : decode cX3_readSign 16 = .ok (.iconst 0, 1) := by decide +kernel
theorem dX3_readSign_17 : decode cX3_readSign 17 = .ok (.aload_n 0, 1) := by decide +kernel
theorem dX3_readSign_18 : decode cX3_readSign 18 = .ok (.getfield 43, 3) := by decide +kernel
theorem dX3_readSign_21 : decode cX3_readSign 21 = .ok (.invokevirtual 68, 3) := by decide +kernel
theorem dX3_readSign_24 : decode cX3_readSign 24 = .ok (.aload_n 0, 1) := by decide +kernel
theorem dX3_readSign_25 : decode cX3_readSign 25 = .ok (.iconst 5, 1) := by decide +kernel
theorem dX3_readSign_26 : decode cX3_readSign 26 = .ok (.putfield 40, 3) := by decide +kernel
theorem dX3_readSign_29 : decode cX3_readSign 29 = .ok (.aload_n 0, 1) := by decide +kernel
theorem dX3_readSign_30 : decode cX3_readSign 30 = .ok (.getfield 40, 3) := by decide +kernel
theorem dX3_readSign_33 : decode cX3_readSign 33 = .ok (.tableswitch 94 0 6 #[43, 49, 64, 70, 76, 82, 88], 43) := by decide +kernel
theorem dX3_readSign_76 : decode cX3_readSign 76 = .ok (.aload_n 0, 1) := by decide +kernel
theorem dX3_readSign_77 : decode cX3_readSign 77 = .ok (.iload_n 1, 1) := by decide +kernel
theorem dX3_readSign_78 : decode cX3_readSign 78 = .ok (.invokevirtual 72, 3) := by decide +kernel
theorem dX3_readSign_81 : decode cX3_readSign 81 = .ok (.ireturn, 1) := by decide +kernel
theorem dX3_readSign_82 : decode cX3_readSign 82 = .ok (.iload_n 1, 1) := by decide +kernel
theorem dX3_readSign_83 : decode cX3_readSign 83 = .ok (.bipush 40, 2) := by decide +kernel
theorem dX3_readSign_85 : decode cX3_readSign 85 = .ok (.if_icmp .ne 10, 3) := by decide +kernel
theorem dX3_readSign_88 : decode cX3_readSign 88 = .ok (.aload_n 0, 1) := by decide +kernel
theorem dX3_readSign_89 : decode cX3_readSign 89 = .ok (.invokevirtual 75, 3) := by decide +kernel
theorem dX3_readSign_92 : decode cX3_readSign 92 = .ok (.goto 4, 3) := by decide +kernel
theorem dX3_readSign_95 : decode cX3_readSign 95 = .ok (.iconst 1, 1) := by decide +kernel
theorem dX3_readSign_96 : decode cX3_readSign 96 = .ok (.ireturn, 1) := by decide +kernel
theorem dX3_readSign_97 : decode cX3_readSign 97 = .ok (.aload_n 0, 1) := by decide +kernel
theorem dX3_readSign_98 : decode cX3_readSign 98 = .ok (.iload_n 1, 1) := by decide +kernel
theorem dX3_readSign_99 : decode cX3_readSign 99 = .ok (.invokevirtual 79, 3) := by decide +kernel
theorem dX3_readSign_102 : decode cX3_readSign 102 = .ok (.ireturn, 1) := by decide +kernel
theorem dX3_readSign_103 : decode cX3_readSign 103 = .ok (.aload_n 0, 1) := by decide +kernel
theorem dX3_readSign_104 : decode cX3_readSign 104 = .ok (.iload_n 1, 1) := by decide +kernel
theorem dX3_readSign_105 : decode cX3_readSign 105 = .ok (.invokevirtual 82, 3) := by decide +kernel
theorem dX3_readSign_108 : decode cX3_readSign 108 = .ok (.ireturn, 1) := by decide +kernel
theorem dX3_readSign_109 : decode cX3_readSign 109 = .ok (.aload_n 0, 1) := by decide +kernel
theorem dX3_readSign_110 : decode cX3_readSign 110 = .ok (.iload_n 1, 1) := by decide +kernel
theorem dX3_readSign_111 : decode cX3_readSign 111 = .ok (.invokevirtual 85, 3) := by decide +kernel
theorem dX3_readSign_114 : decode cX3_readSign 114 = .ok (.ireturn, 1) := by decide +kernel
theorem dX3_readSign_115 : decode cX3_readSign 115 = .ok (.aload_n 0, 1) := by decide +kernel
theorem dX3_readSign_116 : decode cX3_readSign 116 = .ok (.iload_n 1, 1) := by decide +kernel
theorem dX3_readSign_117 : decode cX3_readSign 117 = .ok (.invokevirtual 88, 3) := by decide +kernel
theorem dX3_readSign_120 : decode cX3_readSign 120 = .ok (.ireturn, 1) := by decide +kernel
theorem dX3_readSign_121 : decode cX3_readSign 121 = .ok (.aload_n 0, 1) := by decide +kernel
theorem dX3_readSign_122 : decode cX3_readSign 122 = .ok (.iload_n 1, 1) := by decide +kernel
theorem dX3_readSign_123 : decode cX3_readSign 123 = .ok (.invokevirtual 91, 3) := by decide +kernel
theorem dX3_readSign_126 : decode cX3_readSign 126 = .ok (.ireturn, 1) := by decide +kernel
theorem dX3_readSign_127 : decode cX3_readSign 127 = .ok (.aload_n 0, 1) := by decide +kernel
theorem dX3_readSign_128 : decode cX3_readSign 128 = .ok (.iload_n 1, 1) := by decide +kernel
theorem dX3_readSign_129 : decode cX3_readSign 129 = .ok (.invokevirtual 94, 3) := by decide +kernel
theorem dX3_readSign_132 : decode cX3_readSign 132 = .ok (.ireturn, 1) := by decide +kernel
def b3_readSign_29 (rc : Nat → List Int32 → List Int64 → Mem → Option (Int32 × Mem)) (n : Nat) (i1 : Int32) (M : Mem) : Option (Int32 × Mem) :=
  (if (M.1 17 9) = (0 : Int32) then (
   bnd (f3_beginRule n i1 M) fun r11 M12 =>
   some (r11, M12))
  else (
   (if (M.1 17 9) = (1 : Int32) then (
    (if i1 = (40 : Int32) then (
     bnd (f3_openRule n M) fun r16 M17 =>
     some (r16, M17))
    else (
     some ((1 : Int32), M))))
   else (
    (if (M.1 17 9) = (2 : Int32) then (
     bnd (f3_beginTest n i1 M) fun r20 M21 =>
     some (r20, M21))
    else (
     (if (M.1 17 9) = (3 : Int32) then (
      bnd (f3_beginFactor n i1 M) fun r24 M25 =>
      some (r24, M25))
     else (
      (if (M.1 17 9) = (4 : Int32) then (
       bnd (f3_goOnNumber n i1 M) fun r28 M29 =>
       some (r28, M29))
      else (
       (if (M.1 17 9) = (5 : Int32) then (
        bnd (f3_goOnBehindFactor n i1 M) fun r32 M33 =>
        some (r32, M33))
       else (
        (if (M.1 17 9) = (6 : Int32) then (
         bnd (f3_goOnBehindTest n i1 M) fun r36 M37 =>
         some (r36, M37))
        else (
         bnd (f3_endRule n i1 M) fun r39 M40 =>
         some (r39, M40)))))))))))))))
def b3_readSign_0 (rc : Nat → List Int32 → List Int64 → Mem → Option (Int32 × Mem)) (n : Nat) (a1 : Int32) (M : Mem) : Option (Int32 × Mem) :=
  (if (M.1 17 9) = (4 : Int32) then (
   bnd (f11_isDigit n a1 M) fun r2 M3 =>
   (if r2 = 0 then (
    bnd (f3_add n (0 : Int32) (M3.1 17 10) M3) fun r6 M7 =>
    lt (wI M7 17 9 (5 : Int32)) fun M9 =>
    b3_readSign_29  rc n a1 M9)
   else (
    b3_readSign_29  rc n a1 M3)))
  else (
   b3_readSign_29  rc n a1 M))
def f3_readSign (n : Nat) (a1 : Int32) (M : Mem) : Option (Int32 × Mem) := b3_readSign_0 (fun _ _ _ _ => none) n a1 M
abbrev rm3_readSign : Room := { frames := 6, cells := 0, slots := 0, locals := 134 }
theorem y3_readSign_w : yV RX3 yX3_readSign cX3_readSign 2 (some .int) 1 := ⟨g_501, gp 0 rfl rfl, g_7, g_502, rfl, by decide, by decide, by decide +kernel⟩
set_option maxHeartbeats 4000000 in
set_option maxRecDepth 100000 in
theorem w3_readSign_29 {p : Program} {l : Launch} {e : Env} {s : State} {m : MethodId} {args : Array Value} {below : List Frame} {meth : Method} {c : Code} {z : Zt} {b : Nat}  (C : Cx p s m args c cX3_readSign 2 RX3 z 339 b) (hr : meth.sig.returnType = (some .int)) (hk : meth.locks = false) {r : Int32} {M' : Mem} {rc : Nat → List Int32 → List Int64 → Mem → Option (Int32 × Mem)} {n : Nat}  {i1 : Int32} {M : Mem} {H : Heap} {locs : List Loc} {ls : Array Slot} (hf : b3_readSign_29  rc n i1 M = some (r, M')) (hP : va_P z.1 vwCl (pw (xd z b) 339 b M) H) (hS : va_S (pA 339 b) s.heap H locs) (hl : lv_has ls 2 [(0, .ref (b + 17)), (1, .int i1)]) : W p l e rm3_readSign s m args below meth c H locs 0 0 (MQ below (va_Qi (fun (r' : Int32) (M2 : Mem) => r' = r ∧ M2 = M') (fun M2 t => va_P z.1 vwCl (pw (xd z b) 339 b M2) t.heap) (pA 339 b)) args s 0 0 (pA 339 b)) (F0 m 29 ls []) := by
  have hx := C.1.1
  have hb := C.1.2.1
  unfold b3_readSign_29 at hf
  refine lv_aload_n hx hb dX3_readSign_29 rfl (lv_at hl 0 rfl) ?_
  refine pg C hP (k := 17) (j := 9) (Nat.le_of_ble_eq_true rfl) (xd_17 _ _) rfl iw_3 (Nat.le_of_ble_eq_true rfl) g_164 rfl rfl dX3_readSign_30 ?_
  by_cases c10 : (M.1 17 9) = (0 : Int32)
  · replace hf := ite_t c10 hf
    refine lv_tableIn (off := 43) (tgt := 76) hx hb dX3_readSign_33 (by rw [c10]; decide) (by rw [c10]; decide) (by rw [c10]; rfl) (by decide) ?_
    refine lv_aload_n hx hb dX3_readSign_76 rfl (lv_at hl 0 rfl) ?_
    refine lv_iload_n hx hb dX3_readSign_77 rfl (lv_at hl 1 rfl) ?_
    obtain ⟨r11, M12, h13, hf⟩ := bnd_s hf
    refine pcVi (As := [.int i1]) C hP hS (k := 17) (Nat.le_of_ble_eq_true rfl) (xd_17 _ _) rfl (c3_beginRule  h13) y3_beginRule_w g_510 rfl rfl rfl ⟨Nat.le_of_ble_eq_true rfl, Nat.le_of_ble_eq_true rfl⟩ hl.1 rfl (Nat.le_of_ble_eq_true rfl) dX3_readSign_78 ⟨Nat.le_of_ble_eq_true rfl, Nat.le_of_ble_eq_true rfl⟩ (fun H locs hP hS => ?_)
    exact prI C hr hk hP hS hf dX3_readSign_81
  · replace hf := ite_f c10 hf
    by_cases c14 : (M.1 17 9) = (1 : Int32)
    · replace hf := ite_t c14 hf
      refine lv_tableIn (off := 49) (tgt := 82) hx hb dX3_readSign_33 (by rw [c14]; decide) (by rw [c14]; decide) (by rw [c14]; rfl) (by decide) ?_
      refine lv_iload_n hx hb dX3_readSign_82 rfl (lv_at hl 1 rfl) ?_
      refine lv_bipush (v := (40 : Int32)) hx hb dX3_readSign_83 (by decide) ?_
      refine lv_icmp_ne (tgt := 95) hx hb dX3_readSign_85 (by decide) (fun c15 => ?_) (fun c15 => ?_)
      · replace hf := ite_f c15 hf
        refine lv_iconst (v := (1 : Int32)) hx hb dX3_readSign_95 (by decide) ?_
        exact prI C hr hk hP hS hf dX3_readSign_96
      · replace hf := ite_t c15 hf
        refine lv_aload_n hx hb dX3_readSign_88 rfl (lv_at hl 0 rfl) ?_
        obtain ⟨r16, M17, h18, hf⟩ := bnd_s hf
        refine pcVi (As := []) C hP hS (k := 17) (Nat.le_of_ble_eq_true rfl) (xd_17 _ _) rfl (c3_openRule  h18) y3_openRule_w g_514 rfl rfl rfl ⟨Nat.le_of_ble_eq_true rfl, Nat.le_of_ble_eq_true rfl⟩ hl.1 rfl (Nat.le_of_ble_eq_true rfl) dX3_readSign_89 ⟨Nat.le_of_ble_eq_true rfl, Nat.le_of_ble_eq_true rfl⟩ (fun H locs hP hS => ?_)
        refine lv_goto (tgt := 96) hx hb dX3_readSign_92 (by decide) ?_
        exact prI C hr hk hP hS hf dX3_readSign_96
    · replace hf := ite_f c14 hf
      by_cases c19 : (M.1 17 9) = (2 : Int32)
      · replace hf := ite_t c19 hf
        refine lv_tableIn (off := 64) (tgt := 97) hx hb dX3_readSign_33 (by rw [c19]; decide) (by rw [c19]; decide) (by rw [c19]; rfl) (by decide) ?_
        refine lv_aload_n hx hb dX3_readSign_97 rfl (lv_at hl 0 rfl) ?_
        refine lv_iload_n hx hb dX3_readSign_98 rfl (lv_at hl 1 rfl) ?_
        obtain ⟨r20, M21, h22, hf⟩ := bnd_s hf
        refine pcVi (As := [.int i1]) C hP hS (k := 17) (Nat.le_of_ble_eq_true rfl) (xd_17 _ _) rfl (c3_beginTest  h22) y3_beginTest_w g_526 rfl rfl rfl ⟨Nat.le_of_ble_eq_true rfl, Nat.le_of_ble_eq_true rfl⟩ hl.1 rfl (Nat.le_of_ble_eq_true rfl) dX3_readSign_99 ⟨Nat.le_of_ble_eq_true rfl, Nat.le_of_ble_eq_true rfl⟩ (fun H locs hP hS => ?_)
        exact prI C hr hk hP hS hf dX3_readSign_102
      · replace hf := ite_f c19 hf
        by_cases c23 : (M.1 17 9) = (3 : Int32)
        · replace hf := ite_t c23 hf
          refine lv_tableIn (off := 70) (tgt := 103) hx hb dX3_readSign_33 (by rw [c23]; decide) (by rw [c23]; decide) (by rw [c23]; rfl) (by decide) ?_
          refine lv_aload_n hx hb dX3_readSign_103 rfl (lv_at hl 0 rfl) ?_
          refine lv_iload_n hx hb dX3_readSign_104 rfl (lv_at hl 1 rfl) ?_
          obtain ⟨r24, M25, h26, hf⟩ := bnd_s hf
          refine pcVi (As := [.int i1]) C hP hS (k := 17) (Nat.le_of_ble_eq_true rfl) (xd_17 _ _) rfl (c3_beginFactor  h26) y3_beginFactor_w g_530 rfl rfl rfl ⟨Nat.le_of_ble_eq_true rfl, Nat.le_of_ble_eq_true rfl⟩ hl.1 rfl (Nat.le_of_ble_eq_true rfl) dX3_readSign_105 ⟨Nat.le_of_ble_eq_true rfl, Nat.le_of_ble_eq_true rfl⟩ (fun H locs hP hS => ?_)
          exact prI C hr hk hP hS hf dX3_readSign_108
        · replace hf := ite_f c23 hf
          by_cases c27 : (M.1 17 9) = (4 : Int32)
          · replace hf := ite_t c27 hf
            refine lv_tableIn (off := 76) (tgt := 109) hx hb dX3_readSign_33 (by rw [c27]; decide) (by rw [c27]; decide) (by rw [c27]; rfl) (by decide) ?_
            refine lv_aload_n hx hb dX3_readSign_109 rfl (lv_at hl 0 rfl) ?_
            refine lv_iload_n hx hb dX3_readSign_110 rfl (lv_at hl 1 rfl) ?_
            obtain ⟨r28, M29, h30, hf⟩ := bnd_s hf
            refine pcVi (As := [.int i1]) C hP hS (k := 17) (Nat.le_of_ble_eq_true rfl) (xd_17 _ _) rfl (c3_goOnNumber  h30) y3_goOnNumber_w g_621 rfl rfl rfl ⟨Nat.le_of_ble_eq_true rfl, Nat.le_of_ble_eq_true rfl⟩ hl.1 rfl (Nat.le_of_ble_eq_true rfl) dX3_readSign_111 ⟨Nat.le_of_ble_eq_true rfl, Nat.le_of_ble_eq_true rfl⟩ (fun H locs hP hS => ?_)
            exact prI C hr hk hP hS hf dX3_readSign_114
          · replace hf := ite_f c27 hf
            by_cases c31 : (M.1 17 9) = (5 : Int32)
            · replace hf := ite_t c31 hf
              refine lv_tableIn (off := 82) (tgt := 115) hx hb dX3_readSign_33 (by rw [c31]; decide) (by rw [c31]; decide) (by rw [c31]; rfl) (by decide) ?_
              refine lv_aload_n hx hb dX3_readSign_115 rfl (lv_at hl 0 rfl) ?_
              refine lv_iload_n hx hb dX3_readSign_116 rfl (lv_at hl 1 rfl) ?_
              obtain ⟨r32, M33, h34, hf⟩ := bnd_s hf
              refine pcVi (As := [.int i1]) C hP hS (k := 17) (Nat.le_of_ble_eq_true rfl) (xd_17 _ _) rfl (c3_goOnBehindFactor  h34) y3_goOnBehindFactor_w g_625 rfl rfl rfl ⟨Nat.le_of_ble_eq_true rfl, Nat.le_of_ble_eq_true rfl⟩ hl.1 rfl (Nat.le_of_ble_eq_true rfl) dX3_readSign_117 ⟨Nat.le_of_ble_eq_true rfl, Nat.le_of_ble_eq_true rfl⟩ (fun H locs hP hS => ?_)
              exact prI C hr hk hP hS hf dX3_readSign_120
            · replace hf := ite_f c31 hf
              by_cases c35 : (M.1 17 9) = (6 : Int32)
              · replace hf := ite_t c35 hf
                refine lv_tableIn (off := 88) (tgt := 121) hx hb dX3_readSign_33 (by rw [c35]; decide) (by rw [c35]; decide) (by rw [c35]; rfl) (by decide) ?_
                refine lv_aload_n hx hb dX3_readSign_121 rfl (lv_at hl 0 rfl) ?_
                refine lv_iload_n hx hb dX3_readSign_122 rfl (lv_at hl 1 rfl) ?_
                obtain ⟨r36, M37, h38, hf⟩ := bnd_s hf
                refine pcVi (As := [.int i1]) C hP hS (k := 17) (Nat.le_of_ble_eq_true rfl) (xd_17 _ _) rfl (c3_goOnBehindTest  h38) y3_goOnBehindTest_w g_656 rfl rfl rfl ⟨Nat.le_of_ble_eq_true rfl, Nat.le_of_ble_eq_true rfl⟩ hl.1 rfl (Nat.le_of_ble_eq_true rfl) dX3_readSign_123 ⟨Nat.le_of_ble_eq_true rfl, Nat.le_of_ble_eq_true rfl⟩ (fun H locs hP hS => ?_)
                exact prI C hr hk hP hS hf dX3_readSign_126
              · replace hf := ite_f c35 hf
                refine lv_tableOut (tgt := 127) hx hb dX3_readSign_33 (by have z0 : ¬ (M.1 17 9).toInt = 0 := tsn c10; have z1 : ¬ (M.1 17 9).toInt = 1 := tsn c14; have z2 : ¬ (M.1 17 9).toInt = 2 := tsn c19; have z3 : ¬ (M.1 17 9).toInt = 3 := tsn c23; have z4 : ¬ (M.1 17 9).toInt = 4 := tsn c27; have z5 : ¬ (M.1 17 9).toInt = 5 := tsn c31; have z6 : ¬ (M.1 17 9).toInt = 6 := tsn c35; omega) (by decide) ?_
                refine lv_aload_n hx hb dX3_readSign_127 rfl (lv_at hl 0 rfl) ?_
                refine lv_iload_n hx hb dX3_readSign_128 rfl (lv_at hl 1 rfl) ?_
                obtain ⟨r39, M40, h41, hf⟩ := bnd_s hf
                refine pcVi (As := [.int i1]) C hP hS (k := 17) (Nat.le_of_ble_eq_true rfl) (xd_17 _ _) rfl (c3_endRule  h41) y3_endRule_w g_660 rfl rfl rfl ⟨Nat.le_of_ble_eq_true rfl, Nat.le_of_ble_eq_true rfl⟩ hl.1 rfl (Nat.le_of_ble_eq_true rfl) dX3_readSign_129 ⟨Nat.le_of_ble_eq_true rfl, Nat.le_of_ble_eq_true rfl⟩ (fun H locs hP hS => ?_)
                exact prI C hr hk hP hS hf dX3_readSign_132
set_option maxHeartbeats 4000000 in
set_option maxRecDepth 100000 in
theorem w3_readSign_0 {p : Program} {l : Launch} {e : Env} {s : State} {m : MethodId} {args : Array Value} {below : List Frame} {meth : Method} {c : Code} {z : Zt} {b : Nat}  (C : Cx p s m args c cX3_readSign 2 RX3 z 339 b) (hr : meth.sig.returnType = (some .int)) (hk : meth.locks = false) {r : Int32} {M' : Mem} {rc : Nat → List Int32 → List Int64 → Mem → Option (Int32 × Mem)} {n : Nat}  {a1 : Int32} {M : Mem} {H : Heap} {locs : List Loc} {ls : Array Slot} (hf : b3_readSign_0  rc n a1 M = some (r, M')) (hP : va_P z.1 vwCl (pw (xd z b) 339 b M) H) (hS : va_S (pA 339 b) s.heap H locs) (hl : lv_has ls 2 [(0, .ref (b + 17)), (1, .int a1)]) : W p l e rm3_readSign s m args below meth c H locs 0 0 (MQ below (va_Qi (fun (r' : Int32) (M2 : Mem) => r' = r ∧ M2 = M') (fun M2 t => va_P z.1 vwCl (pw (xd z b) 339 b M2) t.heap) (pA 339 b)) args s 0 0 (pA 339 b)) (F0 m 0 ls []) := by
  have hx := C.1.1
  have hb := C.1.2.1
  unfold b3_readSign_0 at hf
  refine lv_aload_n hx hb dX3_readSign_0 rfl (lv_at hl 0 rfl) ?_
  refine pg C hP (k := 17) (j := 9) (Nat.le_of_ble_eq_true rfl) (xd_17 _ _) rfl iw_3 (Nat.le_of_ble_eq_true rfl) g_164 rfl rfl dX3_readSign_1 ?_
  refine lv_iconst (v := (4 : Int32)) hx hb dX3_readSign_4 (by decide) ?_
  refine lv_icmp_ne (tgt := 29) hx hb dX3_readSign_5 (by decide) (fun c1 => ?_) (fun c1 => ?_)
  · replace hf := ite_f c1 hf
    exact w3_readSign_29 (n := n)  C hr hk  hf hP hS (lv_sub hl [0, 1] rfl)
  · replace hf := ite_t c1 hf
    refine lv_iload_n hx hb dX3_readSign_8 rfl (lv_at hl 1 rfl) ?_
    obtain ⟨r2, M3, h4, hf⟩ := bnd_s hf
    refine pcTi (As := [.int a1]) C hP hS (c11_isDigit  h4) y11_isDigit_w g_503 rfl rfl rfl ⟨Nat.le_of_ble_eq_true rfl, Nat.le_of_ble_eq_true rfl⟩ hl.1 rfl (Nat.le_of_ble_eq_true rfl) dX3_readSign_9 ⟨Nat.le_of_ble_eq_true rfl, Nat.le_of_ble_eq_true rfl⟩ (fun H locs hP hS => ?_)
    refine lv_if_ne (tgt := 29) hx hb dX3_readSign_12 (by decide) (fun c5 => ?_) (fun c5 => ?_)
    · replace hf := ite_f c5 hf
      exact w3_readSign_29 (n := n)  C hr hk  hf hP hS (lv_sub hl [0, 1] rfl)
    · replace hf := ite_t c5 hf
      refine lv_aload_n hx hb dX3_readSign_15 rfl (lv_at hl 0 rfl) ?_
      refine lv_iconst (v := (0 : Int32)) hx hb dX3_readSign_16 (by decide) ?_
      refine lv_aload_n hx hb dX3_readSign_17 rfl (lv_at hl 0 rfl) ?_
      refine pg C hP (k := 17) (j := 10) (Nat.le_of_ble_eq_true rfl) (xd_17 _ _) rfl iw_3 (Nat.le_of_ble_eq_true rfl) g_165 rfl rfl dX3_readSign_18 ?_
      obtain ⟨r6, M7, h8, hf⟩ := bnd_s hf
      refine pcVv (As := [.int (0 : Int32), .int (M3.1 17 10)]) C hP hS (k := 17) (Nat.le_of_ble_eq_true rfl) (xd_17 _ _) rfl (c3_add  h8) y3_add_w g_506 rfl rfl rfl ⟨Nat.le_of_ble_eq_true rfl, Nat.le_of_ble_eq_true rfl⟩ hl.1 rfl (Nat.le_of_ble_eq_true rfl) dX3_readSign_21 ⟨Nat.le_of_ble_eq_true rfl, Nat.le_of_ble_eq_true rfl⟩ (fun H locs hP hS => ?_)
      refine lv_aload_n hx hb dX3_readSign_24 rfl (lv_at hl 0 rfl) ?_
      refine lv_iconst (v := (5 : Int32)) hx hb dX3_readSign_25 (by decide) ?_
      refine ppI C hP hS (k := 17) (j := 9) (ty := .int) (Nat.le_of_ble_eq_true rfl) (xd_17 _ _) rfl iw_3 tyX3 tyX3_ok nmX3 (Nat.le_of_ble_eq_true rfl) g_164 rfl rfl (by decide +kernel) rfl rfl (Nat.le_of_ble_eq_true rfl) (xu_17_9 _ _ _) dX3_readSign_26 (fun M9 H locs eM9 hP hS => ?_)
      replace hf := lt_c eM9 hf
      exact w3_readSign_29 (n := n)  C hr hk  hf hP hS (lv_sub hl [0, 1] rfl)
theorem c3_readSign {l : Launch} {z : Zt} {b n : Nat}  {a1 : Int32} {M M' : Mem} {r : Int32} (hf : f3_readSign n  a1 M = some (r, M')) : CI l z (xd z b) 339 b yX3_readSign cX3_readSign 2 (some .int) rm3_readSign [.ref (b + 17), .int a1] M M' r :=
  CI.ofW (lv := [(0, .ref (b + 17)), (1, .int a1)]) (by decide) (Nat.le_of_ble_eq_true rfl) rfl (fun p e s m args below meth c ls C hr hk hP hS hl => w3_readSign_0 (n := n)  C hr hk  hf hP hS hl)

-- BronzeKing$LawReader.read(LBronzeKing$Tape;I)I
theorem dX3_read_0 : decode cX3_read 0 = .ok (.aload_n 0, 1) := by decide +kernel
theorem dX3_read_1 : decode cX3_read 1 = .ok (.iconst 0, 1) := by decide +kernel
theorem dX3_read_2 : decode cX3_read 2 = .ok (.putfield 27, 3) := by decide +kernel
theorem dX3_read_5 : decode cX3_read 5 = .ok (.aload_n 0, 1) := by decide +kernel
theorem dX3_read_6 : decode cX3_read 6 = .ok (.iconst 0, 1) := by decide +kernel
theorem dX3_read_7 : decode cX3_read 7 = .ok (.putfield 31, 3) := by decide +kernel
theorem dX3_read_10 : decode cX3_read 10 = .ok (.aload_n 0, 1) := by decide +kernel
theorem dX3_read_11 : decode cX3_read 11 = .ok (.iconst 0, 1) := by decide +kernel
theorem dX3_read_12 : decode cX3_read 12 = .ok (.putfield 34, 3) := by decide +kernel
theorem dX3_read_15 : decode cX3_read 15 = .ok (.aload_n 0, 1) := by decide +kernel
theorem dX3_read_16 : decode cX3_read 16 = .ok (.iconst 0, 1) := by decide +kernel
theorem dX3_read_17 : decode cX3_read 17 = .ok (.putfield 37, 3) := by decide +kernel
theorem dX3_read_20 : decode cX3_read 20 = .ok (.aload_n 0, 1) := by decide +kernel
theorem dX3_read_21 : decode cX3_read 21 = .ok (.iconst 0, 1) := by decide +kernel
theorem dX3_read_22 : decode cX3_read 22 = .ok (.putfield 40, 3) := by decide +kernel
theorem dX3_read_25 : decode cX3_read 25 = .ok (.iconst 0, 1) := by decide +kernel
theorem dX3_read_26 : decode cX3_read 26 = .ok (.istore_n 3, 1) := by decide +kernel
theorem dX3_read_27 : decode cX3_read 27 = .ok (.iload_n 3, 1) := by decide +kernel
theorem dX3_read_28 : decode cX3_read 28 = .ok (.iload_n 2, 1) := by decide +kernel
theorem dX3_read_29 : decode cX3_read 29 = .ok (.if_icmp .ge 33, 3) := by decide +kernel
theorem dX3_read_32 : decode cX3_read 32 = .ok (.aload_n 0, 1) := by decide +kernel
theorem dX3_read_33 : decode cX3_read 33 = .ok (.aload_n 1, 1) := by decide +kernel
theorem dX3_read_34 : decode cX3_read 34 = .ok (.iload_n 3, 1) := by decide +kernel
theorem dX3_read_35 : decode cX3_read 35 = .ok (.iload_n 2, 1) := by decide +kernel
theorem dX3_read_36 : decode cX3_read 36 = .ok (.invokevirtual 49, 3) := by decide +kernel
theorem dX3_read_39 : decode cX3_read 39 = .ok (.invokevirtual 55, 3) := by decide +kernel
theorem dX3_read_42 : decode cX3_read 42 = .ok (.istore 4, 2) := by decide +kernel
theorem dX3_read_44 : decode cX3_read 44 = .ok (.iload 4, 2) := by decide +kernel
theorem dX3_read_46 : decode cX3_read 46 = .ok (.ifCond .eq 10, 3) := by decide +kernel
theorem dX3_read_49 : decode cX3_read 49 = .ok (.iload 4, 2) := by decide +kernel
theorem dX3_read_51 : decode cX3_read 51 = .ok (.iload_n 3, 1) := by decide +kernel
theorem dX3_read_52 : decode cX3_read 52 = .ok (.invokestatic 59, 3) := by decide +kernel
theorem dX3_read_55 : decode cX3_read 55 = .ok (.ireturn, 1) := by decide +kernel
theorem dX3_read_56 : decode cX3_read 56 = .ok (.iinc 3 1, 3) := by decide +kernel
theorem dX3_read_59 : decode cX3_read 59 = .ok (.goto (-32), 3) := by decide +kernel
theorem dX3_read_62 : decode cX3_read 62 = .ok (.aload_n 0, 1) := by decide +kernel
theorem dX3_read_63 : decode cX3_read 63 = .ok (.getfield 40, 3) := by decide +kernel
theorem dX3_read_66 : decode cX3_read 66 = .ok (.bipush 7, 2) := by decide +kernel
theorem dX3_read_68 : decode cX3_read 68 = .ok (.if_icmp .ne 10, 3) := by decide +kernel
theorem dX3_read_71 : decode cX3_read 71 = .ok (.aload_n 0, 1) := by decide +kernel
theorem dX3_read_72 : decode cX3_read 72 = .ok (.getfield 27, 3) := by decide +kernel
theorem dX3_read_75 : decode cX3_read 75 = .ok (.goto 8, 3) := by decide +kernel
theorem dX3_read_78 : decode cX3_read 78 = .ok (.iconst 1, 1) := by decide +kernel
theorem dX3_read_79 : decode cX3_read 79 = .ok (.iload_n 2, 1) := by decide +kernel
theorem dX3_read_80 : decode cX3_read 80 = .ok (.invokestatic 59, 3) := by decide +kernel
theorem dX3_read_83 : decode cX3_read 83 = .ok (.ireturn, 1) := by decide +kernel
def b3_read_27 (rc : Nat → List Int32 → List Int64 → Mem → Option (Int32 × Mem)) (n : Nat) (i2 : Int32) (i3 : Int32) (M : Mem) : Option (Int32 × Mem) :=
  (if i2 ≤ i3 then (
   (if (M.1 17 9) = (7 : Int32) then (
    some ((M.1 17 5), M))
   else (
    bnd (f11_faultAt n (1 : Int32) i2 M) fun r8 M9 =>
    some (r8, M9))))
  else (
   bnd (f7_at n i3 i2 M) fun r11 M12 =>
   bnd (f3_readSign n r11 M12) fun r14 M15 =>
   (if r14 = 0 then (
    lt (i3 + (1 : Int32)) fun v18 =>
    rc 27 [i2, v18] [] M15)
   else (
    bnd (f11_faultAt n r14 i3 M15) fun r19 M20 =>
    some (r19, M20)))))
def b3_read_0 (rc : Nat → List Int32 → List Int64 → Mem → Option (Int32 × Mem)) (n : Nat) (a2 : Int32) (M : Mem) : Option (Int32 × Mem) :=
  lt (wI M 17 5 (0 : Int32)) fun M1 =>
  lt (wI M1 17 6 (0 : Int32)) fun M2 =>
  lt (wI M2 17 7 (0 : Int32)) fun M3 =>
  lt (wI M3 17 8 (0 : Int32)) fun M4 =>
  lt (wI M4 17 9 (0 : Int32)) fun M5 =>
  b3_read_27  rc n a2 (0 : Int32) M5
def r3_read : Nat → Nat → List Int32 → List Int64 → Mem → Option (Int32 × Mem)
  | 0 => fun _ _ _ _ => none
  | n + 1 => fun pc li lj M =>
    if pc = 27 then (match li, lj with | [i2, i3], [] => b3_read_27  (r3_read  n) n i2 i3 M | _, _ => none) else
    none
theorem e3_read_27  (n : Nat) (i2 : Int32) (i3 : Int32) (M : Mem) : r3_read  (n + 1) 27 [i2, i3] [] M = b3_read_27  (r3_read  n) n i2 i3 M := by
  rw [r3_read]
  simp
def f3_read (n : Nat) (a2 : Int32) (M : Mem) : Option (Int32 × Mem) := b3_read_0 (r3_read n) n a2 M
abbrev rm3_read : Room := { frames := 7, cells := 0, slots := 0, locals := 155 }
theorem y3_read_w : yV RX3 yX3_read cX3_read 5 (some .int) 2 := ⟨g_492, g_493, g_7, g_494, rfl, by decide, by decide, by decide +kernel⟩
set_option maxHeartbeats 4000000 in
set_option maxRecDepth 100000 in
theorem w3_read_27 {p : Program} {l : Launch} {e : Env} {s : State} {m : MethodId} {args : Array Value} {below : List Frame} {meth : Method} {c : Code} {z : Zt} {b : Nat}  (C : Cx p s m args c cX3_read 5 RX3 z 339 b) (hr : meth.sig.returnType = (some .int)) (hk : meth.locks = false) {r : Int32} {M' : Mem} {rc : Nat → List Int32 → List Int64 → Mem → Option (Int32 × Mem)} {n : Nat} (q27 : ∀ (i2 : Int32) (i3 : Int32) (M : Mem) (H : Heap) (locs : List Loc) (ls : Array Slot), rc 27 [i2, i3] [] M = some (r, M') → va_P z.1 vwCl (pw (xd z b) 339 b M) H → va_S (pA 339 b) s.heap H locs → lv_has ls 5 [(0, .ref (b + 17)), (1, .ref (b + 1)), (2, .int i2), (3, .int i3)] → W p l e rm3_read s m args below meth c H locs 0 0 (MQ below (va_Qi (fun (r' : Int32) (M2 : Mem) => r' = r ∧ M2 = M') (fun M2 t => va_P z.1 vwCl (pw (xd z b) 339 b M2) t.heap) (pA 339 b)) args s 0 0 (pA 339 b)) (F0 m 27 ls [])) {i2 : Int32} {i3 : Int32} {M : Mem} {H : Heap} {locs : List Loc} {ls : Array Slot} (hf : b3_read_27  rc n i2 i3 M = some (r, M')) (hP : va_P z.1 vwCl (pw (xd z b) 339 b M) H) (hS : va_S (pA 339 b) s.heap H locs) (hl : lv_has ls 5 [(0, .ref (b + 17)), (1, .ref (b + 1)), (2, .int i2), (3, .int i3)]) : W p l e rm3_read s m args below meth c H locs 0 0 (MQ below (va_Qi (fun (r' : Int32) (M2 : Mem) => r' = r ∧ M2 = M') (fun M2 t => va_P z.1 vwCl (pw (xd z b) 339 b M2) t.heap) (pA 339 b)) args s 0 0 (pA 339 b)) (F0 m 27 ls []) := by
  have hx := C.1.1
  have hb := C.1.2.1
  unfold b3_read_27 at hf
  refine lv_iload_n hx hb dX3_read_27 rfl (lv_at hl 3 rfl) ?_
  refine lv_iload_n hx hb dX3_read_28 rfl (lv_at hl 2 rfl) ?_
  refine lv_icmp_ge (tgt := 62) hx hb dX3_read_29 (by decide) (fun c6 => ?_) (fun c6 => ?_)
  · replace hf := ite_t c6 hf
    refine lv_aload_n hx hb dX3_read_62 rfl (lv_at hl 0 rfl) ?_
    refine pg C hP (k := 17) (j := 9) (Nat.le_of_ble_eq_true rfl) (xd_17 _ _) rfl iw_3 (Nat.le_of_ble_eq_true rfl) g_164 rfl rfl dX3_read_63 ?_
    refine lv_bipush (v := (7 : Int32)) hx hb dX3_read_66 (by decide) ?_
    refine lv_icmp_ne (tgt := 78) hx hb dX3_read_68 (by decide) (fun c7 => ?_) (fun c7 => ?_)
    · replace hf := ite_f c7 hf
      refine lv_iconst (v := (1 : Int32)) hx hb dX3_read_78 (by decide) ?_
      refine lv_iload_n hx hb dX3_read_79 rfl (lv_at hl 2 rfl) ?_
      obtain ⟨r8, M9, h10, hf⟩ := bnd_s hf
      refine pcTi (As := [.int (1 : Int32), .int i2]) C hP hS (c11_faultAt  h10) y11_faultAt_w g_664 rfl rfl rfl ⟨Nat.le_of_ble_eq_true rfl, Nat.le_of_ble_eq_true rfl⟩ hl.1 rfl (Nat.le_of_ble_eq_true rfl) dX3_read_80 ⟨Nat.le_of_ble_eq_true rfl, Nat.le_of_ble_eq_true rfl⟩ (fun H locs hP hS => ?_)
      exact prI C hr hk hP hS hf dX3_read_83
    · replace hf := ite_t c7 hf
      refine lv_aload_n hx hb dX3_read_71 rfl (lv_at hl 0 rfl) ?_
      refine pg C hP (k := 17) (j := 5) (Nat.le_of_ble_eq_true rfl) (xd_17 _ _) rfl iw_3 (Nat.le_of_ble_eq_true rfl) g_159 rfl rfl dX3_read_72 ?_
      refine lv_goto (tgt := 83) hx hb dX3_read_75 (by decide) ?_
      exact prI C hr hk hP hS hf dX3_read_83
  · replace hf := ite_f c6 hf
    refine lv_aload_n hx hb dX3_read_32 rfl (lv_at hl 0 rfl) ?_
    refine lv_aload_n hx hb dX3_read_33 rfl (lv_at hl 1 rfl) ?_
    refine lv_iload_n hx hb dX3_read_34 rfl (lv_at hl 3 rfl) ?_
    refine lv_iload_n hx hb dX3_read_35 rfl (lv_at hl 2 rfl) ?_
    obtain ⟨r11, M12, h13, hf⟩ := bnd_s hf
    refine pcVi (As := [.int i3, .int i2]) C hP hS (k := 1) (Nat.le_of_ble_eq_true rfl) (xd_1 _ _) rfl (c7_at  h13) y7_at_w g_495 rfl rfl rfl ⟨Nat.le_of_ble_eq_true rfl, Nat.le_of_ble_eq_true rfl⟩ hl.1 rfl (Nat.le_of_ble_eq_true rfl) dX3_read_36 ⟨Nat.le_of_ble_eq_true rfl, Nat.le_of_ble_eq_true rfl⟩ (fun H locs hP hS => ?_)
    obtain ⟨r14, M15, h16, hf⟩ := bnd_s hf
    refine pcVi (As := [.int r11]) C hP hS (k := 17) (Nat.le_of_ble_eq_true rfl) (xd_17 _ _) rfl (c3_readSign  h16) y3_readSign_w g_499 rfl rfl rfl ⟨Nat.le_of_ble_eq_true rfl, Nat.le_of_ble_eq_true rfl⟩ hl.1 rfl (Nat.le_of_ble_eq_true rfl) dX3_read_39 ⟨Nat.le_of_ble_eq_true rfl, Nat.le_of_ble_eq_true rfl⟩ (fun H locs hP hS => ?_)
    refine lv_istore (lv' := [(4, .int r14), (0, .ref (b + 17)), (1, .ref (b + 1)), (2, .int i2), (3, .int i3)]) hx hb dX3_read_42 hl (by decide) rfl (fun ls hl => ?_)
    refine lv_iload hx hb dX3_read_44 (lv_at hl 0 rfl) ?_
    refine lv_if_eq (tgt := 56) hx hb dX3_read_46 (by decide) (fun c17 => ?_) (fun c17 => ?_)
    · replace hf := ite_t c17 hf
      obtain ⟨v18, ev18⟩ : ∃ v : Int32, v = i3 + (1 : Int32) := ⟨_, rfl⟩
      replace hf := lt_c ev18 hf
      refine lv_iinc (v := v18) (lv' := [(3, .int v18), (4, .int r14), (0, .ref (b + 17)), (1, .ref (b + 1)), (2, .int i2)]) hx hb dX3_read_56 hl (k := 4) rfl (by rw [ev18]; rfl) (by decide) rfl (fun ls hl => ?_)
      refine lv_goto (tgt := 27) hx hb dX3_read_59 (by decide) ?_
      exact q27 i2 v18 M15 _ _ _ hf hP hS (lv_sub hl [2, 3, 4, 0] rfl)
    · replace hf := ite_f c17 hf
      refine lv_iload hx hb dX3_read_49 (lv_at hl 0 rfl) ?_
      refine lv_iload_n hx hb dX3_read_51 rfl (lv_at hl 4 rfl) ?_
      obtain ⟨r19, M20, h21, hf⟩ := bnd_s hf
      refine pcTi (As := [.int r14, .int i3]) C hP hS (c11_faultAt  h21) y11_faultAt_w g_664 rfl rfl rfl ⟨Nat.le_of_ble_eq_true rfl, Nat.le_of_ble_eq_true rfl⟩ hl.1 rfl (Nat.le_of_ble_eq_true rfl) dX3_read_52 ⟨Nat.le_of_ble_eq_true rfl, Nat.le_of_ble_eq_true rfl⟩ (fun H locs hP hS => ?_)
      exact prI C hr hk hP hS hf dX3_read_55
set_option maxHeartbeats 4000000 in
set_option maxRecDepth 100000 in
theorem w3_read_0 {p : Program} {l : Launch} {e : Env} {s : State} {m : MethodId} {args : Array Value} {below : List Frame} {meth : Method} {c : Code} {z : Zt} {b : Nat}  (C : Cx p s m args c cX3_read 5 RX3 z 339 b) (hr : meth.sig.returnType = (some .int)) (hk : meth.locks = false) {r : Int32} {M' : Mem} {rc : Nat → List Int32 → List Int64 → Mem → Option (Int32 × Mem)} {n : Nat} (q27 : ∀ (i2 : Int32) (i3 : Int32) (M : Mem) (H : Heap) (locs : List Loc) (ls : Array Slot), rc 27 [i2, i3] [] M = some (r, M') → va_P z.1 vwCl (pw (xd z b) 339 b M) H → va_S (pA 339 b) s.heap H locs → lv_has ls 5 [(0, .ref (b + 17)), (1, .ref (b + 1)), (2, .int i2), (3, .int i3)] → W p l e rm3_read s m args below meth c H locs 0 0 (MQ below (va_Qi (fun (r' : Int32) (M2 : Mem) => r' = r ∧ M2 = M') (fun M2 t => va_P z.1 vwCl (pw (xd z b) 339 b M2) t.heap) (pA 339 b)) args s 0 0 (pA 339 b)) (F0 m 27 ls [])) {a2 : Int32} {M : Mem} {H : Heap} {locs : List Loc} {ls : Array Slot} (hf : b3_read_0  rc n a2 M = some (r, M')) (hP : va_P z.1 vwCl (pw (xd z b) 339 b M) H) (hS : va_S (pA 339 b) s.heap H locs) (hl : lv_has ls 5 [(0, .ref (b + 17)), (1, .ref (b + 1)), (2, .int a2)]) : W p l e rm3_read s m args below meth c H locs 0 0 (MQ below (va_Qi (fun (r' : Int32) (M2 : Mem) => r' = r ∧ M2 = M') (fun M2 t => va_P z.1 vwCl (pw (xd z b) 339 b M2) t.heap) (pA 339 b)) args s 0 0 (pA 339 b)) (F0 m 0 ls []) := by
  have hx := C.1.1
  have hb := C.1.2.1
  unfold b3_read_0 at hf
  refine lv_aload_n hx hb dX3_read_0 rfl (lv_at hl 0 rfl) ?_
  refine lv_iconst (v := (0 : Int32)) hx hb dX3_read_1 (by decide) ?_
  refine ppI C hP hS (k := 17) (j := 5) (ty := .int) (Nat.le_of_ble_eq_true rfl) (xd_17 _ _) rfl iw_3 tyX3 tyX3_ok nmX3 (Nat.le_of_ble_eq_true rfl) g_159 rfl rfl (by decide +kernel) rfl rfl (Nat.le_of_ble_eq_true rfl) (xu_17_5 _ _ _) dX3_read_2 (fun M1 H locs eM1 hP hS => ?_)
  replace hf := lt_c eM1 hf
  refine lv_aload_n hx hb dX3_read_5 rfl (lv_at hl 0 rfl) ?_
  refine lv_iconst (v := (0 : Int32)) hx hb dX3_read_6 (by decide) ?_
  refine ppI C hP hS (k := 17) (j := 6) (ty := .int) (Nat.le_of_ble_eq_true rfl) (xd_17 _ _) rfl iw_3 tyX3 tyX3_ok nmX3 (Nat.le_of_ble_eq_true rfl) g_161 rfl rfl (by decide +kernel) rfl rfl (Nat.le_of_ble_eq_true rfl) (xu_17_6 _ _ _) dX3_read_7 (fun M2 H locs eM2 hP hS => ?_)
  replace hf := lt_c eM2 hf
  refine lv_aload_n hx hb dX3_read_10 rfl (lv_at hl 0 rfl) ?_
  refine lv_iconst (v := (0 : Int32)) hx hb dX3_read_11 (by decide) ?_
  refine ppI C hP hS (k := 17) (j := 7) (ty := .int) (Nat.le_of_ble_eq_true rfl) (xd_17 _ _) rfl iw_3 tyX3 tyX3_ok nmX3 (Nat.le_of_ble_eq_true rfl) g_162 rfl rfl (by decide +kernel) rfl rfl (Nat.le_of_ble_eq_true rfl) (xu_17_7 _ _ _) dX3_read_12 (fun M3 H locs eM3 hP hS => ?_)
  replace hf := lt_c eM3 hf
  refine lv_aload_n hx hb dX3_read_15 rfl (lv_at hl 0 rfl) ?_
  refine lv_iconst (v := (0 : Int32)) hx hb dX3_read_16 (by decide) ?_
  refine ppI C hP hS (k := 17) (j := 8) (ty := .int) (Nat.le_of_ble_eq_true rfl) (xd_17 _ _) rfl iw_3 tyX3 tyX3_ok nmX3 (Nat.le_of_ble_eq_true rfl) g_163 rfl rfl (by decide +kernel) rfl rfl (Nat.le_of_ble_eq_true rfl) (xu_17_8 _ _ _) dX3_read_17 (fun M4 H locs eM4 hP hS => ?_)
  replace hf := lt_c eM4 hf
  refine lv_aload_n hx hb dX3_read_20 rfl (lv_at hl 0 rfl) ?_
  refine lv_iconst (v := (0 : Int32)) hx hb dX3_read_21 (by decide) ?_
  refine ppI C hP hS (k := 17) (j := 9) (ty := .int) (Nat.le_of_ble_eq_true rfl) (xd_17 _ _) rfl iw_3 tyX3 tyX3_ok nmX3 (Nat.le_of_ble_eq_true rfl) g_164 rfl rfl (by decide +kernel) rfl rfl (Nat.le_of_ble_eq_true rfl) (xu_17_9 _ _ _) dX3_read_22 (fun M5 H locs eM5 hP hS => ?_)
  replace hf := lt_c eM5 hf
  refine lv_iconst (v := (0 : Int32)) hx hb dX3_read_25 (by decide) ?_
  refine lv_istore_n (lv' := [(3, .int (0 : Int32)), (0, .ref (b + 17)), (1, .ref (b + 1)), (2, .int a2)]) hx hb dX3_read_26 rfl hl (by decide) rfl (fun ls hl => ?_)
  exact w3_read_27 (n := n)  C hr hk q27 hf hP hS (lv_sub hl [1, 2, 3, 0] rfl)
set_option maxHeartbeats 4000000 in
set_option maxRecDepth 100000 in
theorem l3_read {p : Program} {l : Launch} {e : Env} {s : State} {m : MethodId} {args : Array Value} {below : List Frame} {meth : Method} {c : Code} {z : Zt} {b : Nat}  (C : Cx p s m args c cX3_read 5 RX3 z 339 b) (hr : meth.sig.returnType = (some .int)) (hk : meth.locks = false) {r : Int32} {M' : Mem} (n : Nat) : (∀ (i2 : Int32) (i3 : Int32) (M : Mem) (H : Heap) (locs : List Loc) (ls : Array Slot), (r3_read  n) 27 [i2, i3] [] M = some (r, M') → va_P z.1 vwCl (pw (xd z b) 339 b M) H → va_S (pA 339 b) s.heap H locs → lv_has ls 5 [(0, .ref (b + 17)), (1, .ref (b + 1)), (2, .int i2), (3, .int i3)] → W p l e rm3_read s m args below meth c H locs 0 0 (MQ below (va_Qi (fun (r' : Int32) (M2 : Mem) => r' = r ∧ M2 = M') (fun M2 t => va_P z.1 vwCl (pw (xd z b) 339 b M2) t.heap) (pA 339 b)) args s 0 0 (pA 339 b)) (F0 m 27 ls [])) := by
  induction n with
  | zero => exact fun _ _ _ _ _ _ hf => (by cases hf)
  | succ n ih => exact fun _ _ _ _ _ _ hf hP hS hl => w3_read_27 (n := n)  C hr hk ih ((e3_read_27  n _ _ _).symm.trans hf) hP hS hl
theorem c3_read {l : Launch} {z : Zt} {b n : Nat}  {a2 : Int32} {M M' : Mem} {r : Int32} (hf : f3_read n  a2 M = some (r, M')) : CI l z (xd z b) 339 b yX3_read cX3_read 5 (some .int) rm3_read [.ref (b + 17), .ref (b + 1), .int a2] M M' r :=
  CI.ofW (lv := [(0, .ref (b + 17)), (1, .ref (b + 1)), (2, .int a2)]) (by decide) (Nat.le_of_ble_eq_true rfl) rfl (fun p e s m args below meth c ls C hr hk hP hS hl => w3_read_0 (n := n)  C hr hk (l3_read  C hr hk n) hf hP hS hl)

-- BronzeKing.law(I)I
theorem dX11_law_0 : decode cX11_law 0 = .ok (.aload_n 0, 1) := by decide +kernel
theorem dX11_law_1 : decode cX11_law 1 = .ok (.getfield 10, 3) := by decide +kernel
theorem dX11_law_4 : decode cX11_law 4 = .ok (.iload_n 1, 1) := by decide +kernel
theorem dX11_law_5 : decode cX11_law 5 = .ok (.iconst 1, 1) := by decide +kernel
theorem dX11_law_6 : decode cX11_law 6 = .ok (.sipush 240, 3) := by decide +kernel
theorem dX11_law_9 : decode cX11_law 9 = .ok (.invokevirtual 124, 3) := by decide +kernel
theorem dX11_law_12 : decode cX11_law 12 = .ok (.ifCond .ne 5, 3) := by decide +kernel
theorem dX11_law_15 : decode cX11_law 15 = .ok (.iconst (-1), 1) := by decide +kernel
theorem dX11_law_16 : decode cX11_law 16 = .ok (.ireturn, 1) := by decide +kernel
theorem dX11_law_17 : decode cX11_law 17 = .ok (.aload_n 0, 1) := by decide +kernel
theorem dX11_law_18 : decode cX11_law 18 = .ok (.getfield 33, 3) := by decide +kernel
theorem dX11_law_21 : decode cX11_law 21 = .ok (.aload_n 0, 1) := by decide +kernel
theorem dX11_law_22 : decode cX11_law 22 = .ok (.getfield 10, 3) := by decide +kernel
theorem dX11_law_25 : decode cX11_law 25 = .ok (.iload_n 1, 1) := by decide +kernel
theorem dX11_law_26 : decode cX11_law 26 = .ok (.invokevirtual 128, 3) := by decide +kernel
theorem dX11_law_29 : decode cX11_law 29 = .ok (.istore_n 2, 1) := by decide +kernel
theorem dX11_law_30 : decode cX11_law 30 = .ok (.aload_n 0, 1) := by decide +kernel
theorem dX11_law_31 : decode cX11_law 31 = .ok (.getfield 10, 3) := by decide +kernel
theorem dX11_law_34 : decode cX11_law 34 = .ok (.iconst 0, 1) := by decide +kernel
theorem dX11_law_35 : decode cX11_law 35 = .ok (.putfield 121, 3) := by decide +kernel
theorem dX11_law_38 : decode cX11_law 38 = .ok (.iload_n 2, 1) := by decide +kernel
theorem dX11_law_39 : decode cX11_law 39 = .ok (.ifCond .le 14, 3) := by decide +kernel
theorem dX11_law_42 : decode cX11_law 42 = .ok (.aload_n 0, 1) := by decide +kernel
theorem dX11_law_43 : decode cX11_law 43 = .ok (.getfield 26, 3) := by decide +kernel
theorem dX11_law_46 : decode cX11_law 46 = .ok (.aload_n 0, 1) := by decide +kernel
theorem dX11_law_47 : decode cX11_law 47 = .ok (.getfield 33, 3) := by decide +kernel
theorem dX11_law_50 : decode cX11_law 50 = .ok (.invokevirtual 132, 3) := by decide +kernel
theorem dX11_law_53 : decode cX11_law 53 = .ok (.iload_n 2, 1) := by decide +kernel
theorem dX11_law_54 : decode cX11_law 54 = .ok (.ireturn, 1) := by decide +kernel
def b11_law_53 (rc : Nat → List Int32 → List Int64 → Mem → Option (Int32 × Mem)) (n : Nat) (i2 : Int32) (M : Mem) : Option (Int32 × Mem) :=
  some (i2, M)
def b11_law_0 (rc : Nat → List Int32 → List Int64 → Mem → Option (Int32 × Mem)) (n : Nat) (a1 : Int32) (M : Mem) : Option (Int32 × Mem) :=
  bnd (f7_canGive n a1 (1 : Int32) (240 : Int32) M) fun r1 M2 =>
  (if r1 = 0 then (
   some ((-1 : Int32), M2))
  else (
   bnd (f3_read n a1 M2) fun r5 M6 =>
   lt (wI M6 1 1 (0 : Int32)) fun M8 =>
   (if r5 ≤ 0 then (
    b11_law_53  rc n r5 M8)
   else (
    bnd (f2_take n M8) fun r10 M11 =>
    b11_law_53  rc n r5 M11))))
def f11_law (n : Nat) (a1 : Int32) (M : Mem) : Option (Int32 × Mem) := b11_law_0 (fun _ _ _ _ => none) n a1 M
abbrev rm11_law : Room := { frames := 8, cells := 0, slots := 0, locals := 179 }
theorem y11_law_w : yV RX11 yX11_law cX11_law 3 (some .int) 1 := ⟨g_484, g_485, g_1, g_486, rfl, by decide, by decide, by decide +kernel⟩
set_option maxHeartbeats 4000000 in
set_option maxRecDepth 100000 in
theorem w11_law_53 {p : Program} {l : Launch} {e : Env} {s : State} {m : MethodId} {args : Array Value} {below : List Frame} {meth : Method} {c : Code} {z : Zt} {b : Nat}  (C : Cx p s m args c cX11_law 3 RX11 z 339 b) (hr : meth.sig.returnType = (some .int)) (hk : meth.locks = false) {r : Int32} {M' : Mem} {rc : Nat → List Int32 → List Int64 → Mem → Option (Int32 × Mem)} {n : Nat}  {i2 : Int32} {M : Mem} {H : Heap} {locs : List Loc} {ls : Array Slot} (hf : b11_law_53  rc n i2 M = some (r, M')) (hP : va_P z.1 vwCl (pw (xd z b) 339 b M) H) (hS : va_S (pA 339 b) s.heap H locs) (hl : lv_has ls 3 [(2, .int i2)]) : W p l e rm11_law s m args below meth c H locs 0 0 (MQ below (va_Qi (fun (r' : Int32) (M2 : Mem) => r' = r ∧ M2 = M') (fun M2 t => va_P z.1 vwCl (pw (xd z b) 339 b M2) t.heap) (pA 339 b)) args s 0 0 (pA 339 b)) (F0 m 53 ls []) := by
  have hx := C.1.1
  have hb := C.1.2.1
  unfold b11_law_53 at hf
  refine lv_iload_n hx hb dX11_law_53 rfl (lv_at hl 0 rfl) ?_
  exact prI C hr hk hP hS hf dX11_law_54
set_option maxHeartbeats 4000000 in
set_option maxRecDepth 100000 in
theorem w11_law_0 {p : Program} {l : Launch} {e : Env} {s : State} {m : MethodId} {args : Array Value} {below : List Frame} {meth : Method} {c : Code} {z : Zt} {b : Nat}  (C : Cx p s m args c cX11_law 3 RX11 z 339 b) (hr : meth.sig.returnType = (some .int)) (hk : meth.locks = false) {r : Int32} {M' : Mem} {rc : Nat → List Int32 → List Int64 → Mem → Option (Int32 × Mem)} {n : Nat}  {a1 : Int32} {M : Mem} {H : Heap} {locs : List Loc} {ls : Array Slot} (hf : b11_law_0  rc n a1 M = some (r, M')) (hP : va_P z.1 vwCl (pw (xd z b) 339 b M) H) (hS : va_S (pA 339 b) s.heap H locs) (hl : lv_has ls 3 [(0, .ref (b + 0)), (1, .int a1)]) : W p l e rm11_law s m args below meth c H locs 0 0 (MQ below (va_Qi (fun (r' : Int32) (M2 : Mem) => r' = r ∧ M2 = M') (fun M2 t => va_P z.1 vwCl (pw (xd z b) 339 b M2) t.heap) (pA 339 b)) args s 0 0 (pA 339 b)) (F0 m 0 ls []) := by
  have hx := C.1.1
  have hb := C.1.2.1
  unfold b11_law_0 at hf
  refine lv_aload_n hx hb dX11_law_0 rfl (lv_at hl 0 rfl) ?_
  refine pg C hP (k := 0) (j := 0) (Nat.le_of_ble_eq_true rfl) (xd_0 _ _) rfl iw_11 (Nat.le_of_ble_eq_true rfl) g_420 rfl rfl dX11_law_1 ?_
  refine lv_iload_n hx hb dX11_law_4 rfl (lv_at hl 1 rfl) ?_
  refine lv_iconst (v := (1 : Int32)) hx hb dX11_law_5 (by decide) ?_
  refine lv_sipush (v := (240 : Int32)) hx hb dX11_law_6 (by decide) ?_
  obtain ⟨r1, M2, h3, hf⟩ := bnd_s hf
  refine pcVi (As := [.int a1, .int (1 : Int32), .int (240 : Int32)]) C hP hS (k := 1) (Nat.le_of_ble_eq_true rfl) (xd_1 _ _) rfl (c7_canGive  h3) y7_canGive_w g_487 rfl rfl rfl ⟨Nat.le_of_ble_eq_true rfl, Nat.le_of_ble_eq_true rfl⟩ hl.1 rfl (Nat.le_of_ble_eq_true rfl) dX11_law_9 ⟨Nat.le_of_ble_eq_true rfl, Nat.le_of_ble_eq_true rfl⟩ (fun H locs hP hS => ?_)
  refine lv_if_ne (tgt := 17) hx hb dX11_law_12 (by decide) (fun c4 => ?_) (fun c4 => ?_)
  · replace hf := ite_f c4 hf
    refine lv_aload_n hx hb dX11_law_17 rfl (lv_at hl 0 rfl) ?_
    refine pg C hP (k := 0) (j := 3) (Nat.le_of_ble_eq_true rfl) (xd_0 _ _) rfl iw_11 (Nat.le_of_ble_eq_true rfl) g_423 rfl rfl dX11_law_18 ?_
    refine lv_aload_n hx hb dX11_law_21 rfl (lv_at hl 0 rfl) ?_
    refine pg C hP (k := 0) (j := 0) (Nat.le_of_ble_eq_true rfl) (xd_0 _ _) rfl iw_11 (Nat.le_of_ble_eq_true rfl) g_420 rfl rfl dX11_law_22 ?_
    refine lv_iload_n hx hb dX11_law_25 rfl (lv_at hl 1 rfl) ?_
    obtain ⟨r5, M6, h7, hf⟩ := bnd_s hf
    refine pcVi (As := [.ref (b + 1), .int a1]) C hP hS (k := 17) (Nat.le_of_ble_eq_true rfl) (xd_17 _ _) rfl (c3_read  h7) y3_read_w g_491 rfl rfl rfl ⟨Nat.le_of_ble_eq_true rfl, Nat.le_of_ble_eq_true rfl⟩ hl.1 rfl (Nat.le_of_ble_eq_true rfl) dX11_law_26 ⟨Nat.le_of_ble_eq_true rfl, Nat.le_of_ble_eq_true rfl⟩ (fun H locs hP hS => ?_)
    refine lv_istore_n (lv' := [(2, .int r5), (0, .ref (b + 0)), (1, .int a1)]) hx hb dX11_law_29 rfl hl (by decide) rfl (fun ls hl => ?_)
    refine lv_aload_n hx hb dX11_law_30 rfl (lv_at hl 1 rfl) ?_
    refine pg C hP (k := 0) (j := 0) (Nat.le_of_ble_eq_true rfl) (xd_0 _ _) rfl iw_11 (Nat.le_of_ble_eq_true rfl) g_420 rfl rfl dX11_law_31 ?_
    refine lv_iconst (v := (0 : Int32)) hx hb dX11_law_34 (by decide) ?_
    refine ppIN C hP hS (k := 1) (j := 1) (ty := .int) (Nat.le_of_ble_eq_true rfl) (xd_1 _ _) rfl iw_7 tyX7 tyX7_ok nmX7 (Nat.le_of_ble_eq_true rfl) g_41 rfl rfl (by decide +kernel) rfl rfl (Nat.le_of_ble_eq_true rfl) (xu_1_1 _ _ _) dX11_law_35 (fun M8 H locs eM8 hP hS => ?_)
    replace hf := lt_c eM8 hf
    refine lv_iload_n hx hb dX11_law_38 rfl (lv_at hl 0 rfl) ?_
    refine lv_if_le (tgt := 53) hx hb dX11_law_39 (by decide) (fun c9 => ?_) (fun c9 => ?_)
    · replace hf := ite_t c9 hf
      exact w11_law_53 (n := n)  C hr hk  hf hP hS (lv_sub hl [0] rfl)
    · replace hf := ite_f c9 hf
      refine lv_aload_n hx hb dX11_law_42 rfl (lv_at hl 1 rfl) ?_
      refine pg C hP (k := 0) (j := 2) (Nat.le_of_ble_eq_true rfl) (xd_0 _ _) rfl iw_11 (Nat.le_of_ble_eq_true rfl) g_422 rfl rfl dX11_law_43 ?_
      refine lv_aload_n hx hb dX11_law_46 rfl (lv_at hl 1 rfl) ?_
      refine pg C hP (k := 0) (j := 3) (Nat.le_of_ble_eq_true rfl) (xd_0 _ _) rfl iw_11 (Nat.le_of_ble_eq_true rfl) g_423 rfl rfl dX11_law_47 ?_
      obtain ⟨r10, M11, h12, hf⟩ := bnd_s hf
      refine pcVv (As := [.ref (b + 17)]) C hP hS (k := 11) (Nat.le_of_ble_eq_true rfl) (xd_11 _ _) rfl (c2_take  h12) y2_take_w g_667 rfl rfl rfl ⟨Nat.le_of_ble_eq_true rfl, Nat.le_of_ble_eq_true rfl⟩ hl.1 rfl (Nat.le_of_ble_eq_true rfl) dX11_law_50 ⟨Nat.le_of_ble_eq_true rfl, Nat.le_of_ble_eq_true rfl⟩ (fun H locs hP hS => ?_)
      exact w11_law_53 (n := n)  C hr hk  hf hP hS (lv_sub hl [0] rfl)
  · replace hf := ite_t c4 hf
    refine lv_iconst (v := (-1 : Int32)) hx hb dX11_law_15 (by decide) ?_
    exact prI C hr hk hP hS hf dX11_law_16
theorem c11_law {l : Launch} {z : Zt} {b n : Nat}  {a1 : Int32} {M M' : Mem} {r : Int32} (hf : f11_law n  a1 M = some (r, M')) : CI l z (xd z b) 339 b yX11_law cX11_law 3 (some .int) rm11_law [.ref (b + 0), .int a1] M M' r :=
  CI.ofW (lv := [(0, .ref (b + 0)), (1, .int a1)]) (by decide) (Nat.le_of_ble_eq_true rfl) rfl (fun p e s m args below meth c ls C hr hk hP hS hl => w11_law_0 (n := n)  C hr hk  hf hP hS hl)
