/-! the start, and all calls together -/
def kd0 : Nat → Nat := fun _ => 2
def dr0 : Nat → Nat := fun _ => 999
def PostX (FU : Nat) (M2 : Mem) : Prop := ∃ M, XI M ∧ f8_refresh FU M = some ((), M2) ∧ RX 0 kd0 dr0 M2 ∧ M2.1 3 9 = M.1 3 9 + 1
theorem start_X {FU : Nat} (hFU : 1000000000000 ≤ FU) (M : Mem) (h : XI M) : ∃ M2, f8_refresh FU M = some ((), M2) ∧ PostX FU M2 := by
  obtain ⟨a1, a2, a3, a4⟩ := id h
  have hT : TX 0 kd0 M := ⟨by decide, a3, fun p hp => ⟨a1 p hp, Nat.le_refl _⟩⟩
  obtain ⟨M2, e, r1, r2⟩ := refresh_X (n := FU) (dr := dr0) (by omega) hT (by rw [a2 9 (by decide)]; rfl)
  exact ⟨M2, e, M, h, e, r1, r2⟩
theorem start_XY {FU : Nat} (Mx My : Mem) (h : PostX FU Mx) (g : YI My) : Inv Lw 0 Mx My := by
  obtain ⟨M, ⟨a1, a2, a3, a4, a5, a6, a7, a8, a9, a10, a11, a12, a13, a14, a15, a16, a17, a18, a19⟩, e, r1, r2⟩ := h
  obtain ⟨b1, b2, b3, b4, b5, b6, b7⟩ := g
  have fr := fr8_refresh e
  have qr := fq8_refresh e
  have k : ∀ c, c ∉ ([3, 7, 8, 9, 10] : List Nat) → Mx.1 c = M.1 c := fun c hc => (fr c hc (fun e => by cases e)).1
  refine ⟨⟨⟨0, kd0, dr0, ⟨by decide, ?_, fun p hp => ⟨?_, Nat.le_refl _⟩⟩, ⟨⟨by decide, b6 5, fun p hp => ⟨b4 p hp, Nat.le_refl _⟩⟩, Or.inl (b6 9)⟩, r1, ⟨fun j h1 h2 => ?_, 0, by decide, ?_, fun i => ?_⟩, fun j h1 h2 => b5 j (by omega), 1, by decide, ?_, Or.inl ?_⟩, ⟨0, fun _ => 0, fun _ => 0, fun _ => 0, fun _ => 0, fun _ => 0, fun _ => 0, by decide, ?_, b6 20, fun r hr => absurd hr (Nat.not_lt_zero _)⟩⟩, ⟨0, by decide, ?_, b6 11, fun j hj => ?_⟩, ⟨?_, 0, by decide, ?_⟩, ⟨⟨fun j hj => ?_, fun j hj => ?_, ?_, ?_, ?_, ?_, ?_, ?_⟩, ⟨fun j hj => ⟨0, by decide, ?_⟩, fun j hj => ⟨0, by decide, ?_⟩, Or.inl ?_, ⟨0, by decide, ?_⟩, ⟨0, by decide, ?_⟩, ⟨0, by decide, ?_⟩, ⟨0, by decide, ?_⟩, 1, by decide, ?_⟩, ?_, Or.inl ?_⟩⟩
  · rw [qr 3 7 (by decide) (by decide)]; exact a3
  · rw [k 4 (by decide)]; exact a1 p hp
  · rw [k 6 (by decide), a2 j (by omega)]; rfl
  · rw [qr 3 8 (by decide) (by decide)]; exact a4
  · rw [Nat.zero_testBit, show decide (dr0 i < 96) = false from rfl]
    simp
  · rw [r2, a9]; rfl
  · rw [k 326 (by decide)]; exact a8
  · rw [k 11 (by decide)]; exact a6
  · rw [k 1 (by decide)]; exact a5
  · rw [k 2 (by decide), a18 j, b7 j]; rfl
  · rw [k 25 (by decide), a7, b6 6]
  · rw [k 25 (by decide)]; exact a7
  · rw [k 331 (by decide), a10 j, b1 j (by omega) (by omega)]
  · rw [k 332 (by decide), a19 j, b1 (96 + j) (by omega) (by omega)]
  · rw [k 330 (by decide), a13, b3]
  · rw [k 330 (by decide), a14, b1 157 (by decide) (by decide)]
  · rw [k 330 (by decide), a15, b1 158 (by decide) (by decide)]
  · rw [k 330 (by decide), a16, b1 159 (by decide) (by decide)]
  · rw [k 330 (by decide), a11, b1 160 (by decide) (by decide)]
  · rw [k 330 (by decide), a12, b2]
  · rw [k 331 (by decide)]; exact a10 j
  · rw [k 332 (by decide)]; exact a19 j
  · rw [k 330 (by decide)]; exact a13
  · rw [k 330 (by decide)]; exact a14
  · rw [k 330 (by decide)]; exact a15
  · rw [k 330 (by decide)]; exact a16
  · rw [k 330 (by decide)]; exact a11
  · rw [k 330 (by decide)]; exact a12
  · rw [k 0 (by decide), a17, b6 53]
  · rw [k 0 (by decide)]; exact a17
theorem steps_gen {FU : Nat} (hFU : 1000000000000 ≤ FU) : Steps2 (Inv Lw) FU := by
  have hF : 10000000 ≤ FU := by omega
  have hL := Lw.ok
  have hR := RsT.ok Lw.ok
  exact ⟨fun t Mx My a0 a1 ht h => st_square hL hF t Mx My a0 a1 ht h, fun t Mx My a0 a1 a2 ht h => st_door hL hF t Mx My a0 a1 a2 ht h, fun t Mx My a0 a1 a2 a3 a4 ht h => st_feed hR hF t Mx My a0 a1 a2 a3 a4 ht h, fun t Mx My a0 ht h => st_law hF t Mx My a0 ht h, fun t Mx My a0 ht h => st_map hL hF t Mx My a0 ht h, fun t Mx My a0 ht h => st_notes hR hF t Mx My a0 ht h, fun t Mx My a0 ht h => st_days hF t Mx My a0 ht h, fun t Mx My a0 a1 ht h => st_tried hF t Mx My a0 a1 ht h, fun t Mx My a0 a1 a2 ht h => st_placeIs hL hF t Mx My a0 a1 a2 ht h, fun t Mx My a0 a1 ht h => st_likely hF t Mx My a0 a1 ht h, fun t Mx My a0 a1 ht h => st_watch hF t Mx My a0 a1 ht h, fun t Mx My a0 ht h => st_sure hF t Mx My a0 ht h, fun t Mx My a0 ht h => st_walk hR hF t Mx My a0 ht h, fun t Mx My ht h => st_worn hR hF t Mx My ht h, fun t Mx My a0 ht h => st_far hL hF t Mx My a0 ht h, fun t Mx My a0 a1 ht h => st_calls hL hF t Mx My a0 a1 ht h, fun t Mx My a0 a1 ht h => st_old hL hFU t Mx My a0 a1 ht h, fun t Mx My a0 a1 a2 ht h => st_barred hL hFU t Mx My a0 a1 a2 ht h, fun t Mx My a0 a1 ht h => st_chase hL hF t Mx My a0 a1 ht h, fun t Mx My a0 a1 ht h => st_lovers hL hF t Mx My a0 a1 ht h, fun t Mx My a0 a1 ht h => st_benches hL hF t Mx My a0 a1 ht h, fun t Mx My a0 ht h => st_pigeons hR hF t Mx My a0 ht h, fun t Mx My a0 ht h => st_streets hL hF t Mx My a0 ht h, fun t Mx My a0 ht h => st_seed hR hF t Mx My a0 ht h, fun t Mx My ht h => st_keep hR hF t Mx My ht h, fun t Mx My ht h => st_undo hR hF t Mx My ht h, fun t Mx My a0 a1 ht h => st_check hR hF t Mx My a0 a1 ht h, fun t Mx My a0 ht h => st_count hF t Mx My a0 ht h⟩
theorem steps_ex {FU : Nat} (hFU : 1000000000000 ≤ FU) : ∃ (Iv : Nat → Mem → Mem → Prop) (Px : Mem → Prop) (FU : Nat), 1000 ≤ FU ∧ (∀ M, XI M → ∃ M2, f8_refresh FU M = some ((), M2) ∧ Px M2) ∧ (∀ Mx My, Px Mx → YI My → Iv 0 Mx My) ∧ (∀ t Mx My, Iv t Mx My → Iv (t + 6) Mx My) ∧ Steps2 Iv FU := ⟨Inv Lw, PostX FU, FU, by omega, start_X hFU, start_XY, fun _ _ _ h => h.same Lw.ok, steps_gen hFU⟩
theorem steps_all : ∃ (Inv : Nat → Mem → Mem → Prop) (PostX : Mem → Prop) (FU : Nat), 1000 ≤ FU ∧ (∀ M, XI M → ∃ M2, f8_refresh FU M = some ((), M2) ∧ PostX M2) ∧ (∀ Mx My, PostX Mx → YI My → Inv 0 Mx My) ∧ (∀ t Mx My, Inv t Mx My → Inv (t + 6) Mx My) ∧ Steps2 Inv FU :=
  steps_ex (Nat.le_refl 1000000000000)
theorem whole_start {p : Program} {e : Env} {s : State} {m : MethodId} {below : List Frame} {meth : Method} {c : Code} (l : Launch) {b L : Nat} {xs : Nat → Int32} (hL : L ≤ 3072) (C0 : lw_At p s m meth c b L xs) : W p l e room_1 s m #[Value.ref b] below meth c s.heap [] 0 0 (lw_Z below #[Value.ref b] s) (entryFrame m ([Value.ref b] : List Value).toArray 4) := by
  obtain ⟨Inv, PostX, FU, h1, h2, h3, h4, h5⟩ := steps_all
  exact whole_start_of h1 h2 h3 h4 h5 l hL C0
set_option maxHeartbeats 4000000 in
theorem lw_walk (l : Launch) (b : Addr) (xs : List Int32) : MetFree l x (headSpec (Jvm.Cond.code x code maxLocals ret :: tables_1) room_1) (lw_P b xs) (fun _ _ _ _ _ => True) lw_Q := by
  refine MetFree.of_bodyS (code := code) (maxLocals := maxLocals) (ret := ret) (by decide) ?_ ?_
  · intro args s m h hn
    obtain ⟨meth, c, h1, h2, h3, h4, h5, h6, -, -⟩ := Cond.code_spec hn (atoms_spec (ws := Jvm.Cond.code x code maxLocals ret :: tables_1) h _ List.mem_cons_self)
    exact ⟨meth, c, h1, h2, h3, h4, h5, h6⟩
  · intro p e s m args below meth c s₁ B hml0 hP _
    obtain ⟨rfl, hx, hbd, hgv⟩ := hP
    obtain ⟨scr, harrAt, hlist, hof, hsmall⟩ := hx
    obtain ⟨hcb, hkn, -, -⟩ := State.arrayAt?_spec harrAt
    have hown : s.vm.findClass R_law = some m.cls := findClass_of_methodNamed B.named
    have hts0 : ∀ c ∈ (Jvm.Cond.code x code maxLocals ret :: tables_1), c.before #[Value.ref b] s = true := atoms_spec (ws := Jvm.Cond.code x code maxLocals ret :: tables_1) B.pre
    have hts : ∀ w ∈ lw_tbl, w.before #[Value.ref b] s = true := k2_hts_sels lw_privs (fun w hw => hts0 w (List.mem_cons_of_mem _ hw)) lw_privs_ok
    have hml : c.maxLocals = 4 := B.maxLocals_eq (hts0 _ List.mem_cons_self)
    have X₀ : Stand p l e room_1 s m #[Value.ref b] below meth c s₁ [] 0 0 := Stand.of_body B
    have hh0 : s₁.heap = s.heap := by rw [B.state]; rfl
    have hsz : scr.slots.size = xs.length := by rw [← Array.length_toList, hlist, List.length_map]
    have hval : ∀ j : Nat, j < xs.length → scr.slots[j]? = some (.int (xs.getD j 0)) := fun j hj => by
      rw [← Array.getElem?_toList, hlist]
      simp [hj]
    have hbl : b < s.heap.size := (Array.getElem?_eq_some_iff.mp hcb).1
    have hX : va_X b xs.length (fun j => xs.getD j 0) s s.heap := ⟨scr, hcb, hof, hkn, hsz, hval⟩
    have K : W p l e room_1 s m #[Value.ref b] below meth c s₁.heap [] 0 0 (lw_Z below #[Value.ref b] s) (entryFrame m ([Value.ref b] : List Value).toArray 4) := by
      rw [hh0]
      exact whole_start l hbd ⟨B.exec, B.bytes, B.returns, hml, hown, hts, hX, hbl, B.notSynchronized, hgv⟩
    obtain ⟨t, a1, o, b1, b2, b3⟩ := K s₁ rfl X₀
    exact ⟨t, o, a1, b1, b2, b3⟩
theorem lw_pre_spec {args : Array Value} {s : State} (h : (Jvm.Cond.and given_1 narrow_1).before args s = true) (hr : rest_1_c.before args s = true) : ∃ (b : Addr) (xs : List Int32), lw_P b xs args s := by
  have hs := flat_of_before _ h
  have hq := flat_of_before _ hr
  have hc : (Cond.count 1).before args s = true := hs _ (by decide +kernel)
  have harr : (Cond.arrayOf (.arg 0) .int).before args s = true := hs _ (by decide +kernel)
  have hle : (Cond.le (.length (.arg 0)) (.int 3072)).before args s = true := hs _ (by decide +kernel)
  have hlen : (Cond.isInt (.length (.arg 0))).before args s = true := hq _ (by decide +kernel)
  have hall : (Cond.all (.arg 0) (.isInt (.elem (.arg 0) (.index 0)))).before args s = true := hq _ (by decide +kernel)
  obtain ⟨b, xs, hb, hx⟩ := State.ints_of_pre rfl harr hlen hall
  have hsm : xs.length < 2 ^ 31 := hx.choose_spec.2.2.2
  have hev : (Term.length (.arg 0)).eval args s none [] s = some (.int xs.length.toInt32) := hx.length_eval hb
  have hv := Cond.le_ints hev (show (Term.int 3072).eval args s none [] s = some (.int 3072) from rfl)
  have hd : xs.length.toInt32 ≤ 3072 := by
    simpa [Cond.before, Cond.holds, hv] using hle
  have hN : xs.length ≤ 3072 := (Int32.ofNat_le_ofNat hsm (by decide)).mp (show Int32.ofNat xs.length ≤ Int32.ofNat 3072 from hd)
  exact ⟨b, xs, Cond.one_arg hc (show args[0]? = some (.ref b) from hb), hx, hN, h⟩
theorem lw_comes (l : Launch) : Comes l x (Jvm.Cond.code x code maxLocals ret :: tables_1) room_1 (fun tb e args s => Calls_1 tb e args s ∧ rest_1 tb e args s ∧ Pre_1 tb e args s)
    (fun _ _ args s o t => lw_Q args s o t) := by
  intro p e ha hc hk s m args below hf hfit hheap happ hpre
  obtain ⟨b, xs, hP⟩ := lw_pre_spec hpre.2.2 hpre.2.1
  obtain ⟨k, o, h1, h2, h3, hQ⟩ := lw_walk l b xs p e ha hc hk s m args below hf ((Spec.applies_iff_loose hf).mp happ).1 hP trivial
  exact ⟨k, o, h1, h2, h3, hQ⟩
theorem lw_frame {s t : State} {o : Outcome} {args : Array Value} (h : Framed s o t [] 600000 7302250) :
    Framed s o t (fieldLocs frame_1_writes args s ++ arrayLocs frame_1_arrays args s ++ staticLocs frame_1_statics s) 600000 7302250 := h
theorem lw_limb (L : Cond) (hL : ∀ (args : Array Value) (s t : State), L.after args s (.returned (some (.int 1))) t = true) :
    ArmFor flags0 classFile x code maxLocals ret World_1 tables_1 room_1 Calls_1 rest_1 Pre_1
      (fun tb e a s o t => postC L tb e a s o t ∧ Framed s o t (fieldLocs frame_1_writes a s ++ arrayLocs frame_1_arrays a s ++ staticLocs frame_1_statics s) 600000 7302250) := by
  intro l _ _ _ p e ha hc hk s m args below hf hfit hheap happ hpre
  obtain ⟨k, o, h1, h2, h3, rfl, hF⟩ := lw_comes l p e ha hc hk s m args below hf hfit hheap happ hpre
  exact ⟨k, _, h1, h2, h3, hL args s _, lw_frame hF⟩
theorem i_vc : Claimed_1_1 ∧ Claimed_1_2 := ⟨lw_limb limb_1_1 (fun args s t => by simp [limb_1_1, Cond.after, Cond.holds, Cond.value]), lw_limb limb_1_2 (fun args s t => Cond.after_iff.mpr (by
  first | (rw [show limb_1_2 = Cond.eq .result (.int 1) from rfl, Cond.eq_ints (x := 1) (y := 1) rfl rfl]; simp; done) | (simp [limb_1_2, Cond.value, Term.eval]; done)))⟩

