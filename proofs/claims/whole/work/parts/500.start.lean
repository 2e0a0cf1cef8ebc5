abbrev nw1 : Cond := Jvm.Cond.and given_1 narrow_1
def strIx : Nat → Nat := fun i => if i = 0 then 100 else if i = 1 then 107 else 122
abbrev strT (i : Nat) : Term := Term.string "BronzeKing$LawReader" (strIx i)
abbrev ranksT : Term := Term.static "BronzeKing$LawReader" "RANKS" "[I"
abbrev tensT : Term := Term.static "BronzeKing$Rounds" "TENS" "[I"
theorem n_r1 : Cond.arrayOf ranksT .int ∈ flatC nw1 := by decide +kernel
theorem n_r2 : Cond.eq (.length ranksT) (.int (Int32.ofNat 16)) ∈ flatC nw1 := by decide +kernel
theorem n_r3 : ∀ j, j < 16 → Cond.eq (.elem ranksT (.int (Int32.ofNat j))) (.int (ranksL.getD j 0)) ∈ flatC nw1 := by decide +kernel
theorem n_t1 : Cond.arrayOf tensT .int ∈ flatC nw1 := by decide +kernel
theorem n_t2 : Cond.eq (.length tensT) (.int (Int32.ofNat 9)) ∈ flatC nw1 := by decide +kernel
theorem n_t3 : ∀ j, j < 9 → Cond.eq (.elem tensT (.int (Int32.ofNat j))) (.int (tensL.getD j 0)) ∈ flatC nw1 := by decide +kernel
theorem n_cs : Cond.eq (.static "java/lang/String" "COMPACT_STRINGS" "Z") (.int 1) ∈ flatC nw1 := by decide +kernel
theorem n_s1 : ∀ i, i < 3 → Cond.exactly (strT i) "java/lang/String" ∈ flatC nw1 := by decide +kernel
theorem n_s2 : ∀ i, i < 3 → Cond.eq (.field (strT i) "java/lang/String" "coder" "B") (.int 0) ∈ flatC nw1 := by decide +kernel
theorem n_s3 : ∀ i, i < 3 → Cond.arrayOf (.field (strT i) "java/lang/String" "value" "[B") .byte ∈ flatC nw1 := by decide +kernel
theorem n_s4 : ∀ i, i < 3 → Cond.eq (.length (.field (strT i) "java/lang/String" "value" "[B")) (.int (Int32.ofNat (strLens.getD i 0))) ∈ flatC nw1 := by decide +kernel
theorem n_s5 : ∀ i, i < 3 → ∀ j, j < strLens.getD i 0 → Cond.eq (.elem (.field (strT i) "java/lang/String" "value" "[B") (.int (Int32.ofNat j))) (.int ((strByts.getD i []).getD j 0)) ∈ flatC nw1 := by decide +kernel
theorem n_s6 : ∀ i, i < 3 → ∀ j, j < 3 → i ≠ j → Cond.not (Cond.eq (strT i) (strT j)) ∈ flatC nw1 ∨ Cond.not (Cond.eq (strT j) (strT i)) ∈ flatC nw1 := by decide +kernel
theorem arr_known {args : Array Value} {s : State} {ty : FieldType} (h : (Cond.arrayClass ty).before args s = true) (hp : ∀ c, s.vm.findClass ("[" ++ ty.toString) = some c → va_RA s c ty) : ∃ c : ClassId, ArrOfT s c ty ∧ va_RA s c ty := by
  obtain ⟨c, k, comp, h1, h2, h3⟩ := Cond.arrayClass_spec h
  exact ⟨c, fun n z => ⟨fun k h => (by cases h), k, h2, comp, h3⟩, hp c h1⟩
set_option maxHeartbeats 4000000 in
set_option maxRecDepth 100000 in
theorem start_G {s : State} {args : Array Value} (hts : ∀ w ∈ lw_tbl, w.before args s = true) (hgv : nw1.before args s = true) : ∃ z : Zt, Gx z (Ax s) s ∧ va_AO "BronzeKing$PlaceSet" s := by
  have hs := flat_of_before _ hgv
  have hg : ∀ w ∈ lw_good, w.before args s = true := fun w hw => hts w (List.mem_filter.mp hw).1
  have hA : ∀ a : Nat, a < s.heap.size → ¬ Ax s a := fun a h => Nat.not_le.mpr h
  obtain ⟨c0, i0, hK0⟩ := u_known (C := RX0) (T := TX0) (N := 8) (n := 8) hg iw_0 (hg _ g_348)
  obtain ⟨c1, i1, hK1⟩ := u_known (C := RX1) (T := TX1) (N := 3) (n := 3) hg iw_1 (hg _ g_300)
  obtain ⟨c2, i2, hK2⟩ := u_known (C := RX2) (T := TX2) (N := 6) (n := 6) hg iw_2 (hg _ g_120)
  obtain ⟨c3, i3, hK3⟩ := u_known (C := RX3) (T := TX3) (N := 12) (n := 12) hg iw_3 (hg _ g_146)
  obtain ⟨c4, i4, hK4⟩ := u_known (C := RX4) (T := TX4) (N := 2) (n := 2) hg iw_4 (hg _ g_55)
  obtain ⟨c5, i5, hK5⟩ := u_known (C := RX5) (T := TX5) (N := 7) (n := 7) hg iw_5 (hg _ g_318)
  obtain ⟨c6, i6, hK6⟩ := u_known (C := RX6) (T := TX6) (N := 13) (n := 13) hg iw_6 (hg _ g_245)
  obtain ⟨c7, i7, hK7⟩ := u_known (C := RX7) (T := TX7) (N := 2) (n := 2) hg iw_7 (hg _ g_33)
  obtain ⟨c8, i8, hK8⟩ := u_known (C := RX8) (T := TX8) (N := 10) (n := 10) hg iw_8 (hg _ g_49)
  obtain ⟨c9, i9, hK9⟩ := u_known (C := RX9) (T := TX9) (N := 8) (n := 8) hg iw_9 (hg _ g_209)
  obtain ⟨c10, i10, hK10⟩ := u_known (C := RX10) (T := TX10) (N := 3) (n := 3) hg iw_10 (hg _ g_193)
  obtain ⟨c11, i11, hK11⟩ := u_known (C := RX11) (T := TX11) (N := 13) (n := 13) hg iw_11 (hg _ g_25)
  obtain ⟨c12, i12, hK12⟩ := u_known (C := RX12) (T := TX12) (N := 54) (n := 54) hg iw_12 (hg _ g_1130)
  obtain ⟨dC, dI, hKc⟩ : ∃ (dC : Nat → ClassId) (dI : Nat → Nat → Nat), ∀ (k : Nat) (q : vw_C), vwCl[k]? = some q → u_Kn s q.1 q.2.1 q.2.2 (dC k) (dI k) := by
    refine ⟨fun k => if k = 0 then c0 else if k = 1 then c1 else if k = 2 then c2 else if k = 3 then c3 else if k = 4 then c4 else if k = 5 then c5 else if k = 6 then c6 else if k = 7 then c7 else if k = 8 then c8 else if k = 9 then c9 else if k = 10 then c10 else if k = 11 then c11 else c12, fun k => if k = 0 then i0 else if k = 1 then i1 else if k = 2 then i2 else if k = 3 then i3 else if k = 4 then i4 else if k = 5 then i5 else if k = 6 then i6 else if k = 7 then i7 else if k = 8 then i8 else if k = 9 then i9 else if k = 10 then i10 else if k = 11 then i11 else i12, ?_⟩
    intro k q hq
    match k, hq with
    | 0, hq => cases hq; exact hK0
    | 1, hq => cases hq; exact hK1
    | 2, hq => cases hq; exact hK2
    | 3, hq => cases hq; exact hK3
    | 4, hq => cases hq; exact hK4
    | 5, hq => cases hq; exact hK5
    | 6, hq => cases hq; exact hK6
    | 7, hq => cases hq; exact hK7
    | 8, hq => cases hq; exact hK8
    | 9, hq => cases hq; exact hK9
    | 10, hq => cases hq; exact hK10
    | 11, hq => cases hq; exact hK11
    | 12, hq => cases hq; exact hK12
    | k + 13, hq => simp [vwCl] at hq
  obtain ⟨a_int, hA_int, hR_int⟩ := arr_known (ty := .int) (hg _ g_47) (fun c h => h)
  obtain ⟨a_long, hA_long, hR_long⟩ := arr_known (ty := .long) (hg _ g_346) (fun c h => h)
  obtain ⟨a_byte, hA_byte, hR_byte⟩ := arr_known (ty := .byte) (hg _ g_674) (fun c h => h)
  obtain ⟨a_boolean, hA_boolean, hR_boolean⟩ := arr_known (ty := .boolean) (hg _ g_1298) (fun c h => h)
  have hAO : va_AO "BronzeKing$PlaceSet" s := va_AO.of (hts _ (List.mem_append_right _ (tm_2 (List.mem_of_getElem? (i := 11) rfl))))
  obtain ⟨comp, aO, kO, o1, o2, o3, o4, o5⟩ := Cond.arrayOver_spec hAO
  obtain ⟨tR, htR, hTR⟩ := va_Tof (f := fun j => .int (ranksL.getD j 0)) (A := Ax s) (N := 16) (by decide) (hs _ n_r1) (va_eqt (hs _ n_r2)) (fun j hj => va_eqt (hs _ (n_r3 j hj))) hA
  obtain ⟨tT, htT, hTT⟩ := va_Tof (f := fun j => .int (tensL.getD j 0)) (A := Ax s) (N := 9) (by decide) (hs _ n_t1) (va_eqt (hs _ n_t2)) (fun j hj => va_eqt (hs _ (n_t3 j hj))) hA
  obtain ⟨adK, adV, hSt, hev⟩ := vk_Sof (args := args) (s := s) (N := 3) (tm := strT) (len := strLens) (byt := strByts) (A := Ax s) (by decide) (fun i hi => hs _ (n_s1 i hi)) (fun i hi => hs _ (n_s2 i hi)) (fun i hi => hs _ (n_s3 i hi)) (fun i hi => hs _ (n_s4 i hi)) (fun i hi j hj => hs _ (n_s5 i hi j hj)) (fun i j hi hj hne => (n_s6 i hi j hj hne).imp (hs _) (hs _)) hA
  refine ⟨((dC, dI), (a_int, a_long, a_byte, a_boolean, aO), tR, tT, adK, adV), ⟨⟨⟨hKc, fun k q hk => ?_⟩, fun w hw hn => ?_, ?_, ?_, ?_⟩, ?_, hTR, ?_, hTT, hSt, ?_⟩, hAO⟩
  · match k, hk with
    | 0, hk => cases hk; exact ⟨hA_int, hR_int⟩
    | 1, hk => cases hk; exact ⟨hA_long, hR_long⟩
    | 2, hk => cases hk; exact ⟨hA_byte, hR_byte⟩
    | 3, hk => cases hk; exact ⟨hA_boolean, hR_boolean⟩
    | 4, hk => cases hk; exact ⟨fun N z => ⟨(fun k h => by cases h), kO, o3, comp, o4⟩, kO, comp, o3, o4, o1, o5⟩
    | k + 5, hk => simp [ztys] at hk
  · exact va_Nw.of (isNest_tab hn) (hts w (List.mem_append_right _ hw))
  · exact vk_R.of (hts _ (List.mem_append_right _ (tm_3 (List.mem_of_getElem? (i := 54) rfl)))) (hev 0 (by decide))
  · exact vk_R.of (hts _ (List.mem_append_right _ (tm_3 (List.mem_of_getElem? (i := 149) rfl)))) (hev 1 (by decide))
  · exact vk_R.of (hts _ (List.mem_append_right _ (tm_3 (List.mem_of_getElem? (i := 168) rfl)))) (hev 2 (by decide))
  · exact va_Zof (hts _ (List.mem_append_right _ (tm_3 (List.mem_of_getElem? (i := 151) rfl)))) (hg _ g_7) htR hA
  · exact va_Zof (hts _ (List.mem_append_right _ (tm_4 (List.mem_of_getElem? (i := 181) rfl)))) (hg _ g_12) htT hA
  · exact va_Zof (hts _ (List.mem_append_right _ (tm_3 (List.mem_of_getElem? (i := 68) rfl)))) (hg _ g_15) (va_eqi (hs _ n_cs)) hA
section LI
variable {p : Program} {l : Launch} {e : Env} {R : Room} {s : State} {m : MethodId} {args : Array Value} {below : List Frame} {meth : Method} {c : Code} {H : Heap} {locs : List Loc} {cells slots : Nat} {Q : State → Prop} {cc : ByteArray} {nL : Nat} {own : String} {z : Zt} {d d2 : Cds} {N b N2 : Nat} {M : Mem} {pc : Nat} {ls : Array Slot} {rest st0 As : List Value} {y : MethodName} {bytes : ByteArray} {maxL index n mc ms : Nat} {rm : Room} {Post : Mem → Prop}
/-- a constructor is called by the law -/
theorem lcI (C : CallFix p m c cc nL s args lw_good own) (G : Gx z (Ax s) s) (hAO : va_AO "BronzeKing$PlaceSet" s) (hP : va_P z.1 vwCl (pw d N b M) H) (hS : va_S (Ax s) s.heap H locs) (hb : s.heap.size ≤ b) (hend : H.size = b + N) (hM : Met l y (Cond.code y bytes maxL none :: lw_good) rm (va_Pc (.ref (b + 0) :: As) (fun U => va_P z.1 vwCl (pw d N b M) U.heap ∧ U.heap.size = b + N ∧ Gx z (Bx b) U ∧ va_AO "BronzeKing$PlaceSet" U)) (va_Qv Post (fun M2 t => va_P z.1 vwCl (pw d2 N2 b M2) t.heap) (Bx b)) mc ms (Bx b)) (hy : yI y bytes maxL n) (hl : Cond.methodLink own index y ∈ lw_good) (hrc : rm.cells = mc) (hrs : rm.slots = ms) (hn : As.length = n) (hR : rm.frames + 1 ≤ R.frames ∧ 8 + (maxL + 11) + rm.locals ≤ R.locals) (hls : ls.size = nL) (hst : st0 = As.reverse ++ .ref (b + 0) :: rest) (hroom : (rest.map fun v => v.category).sum ≤ 8) (hdg : decode cc pc = .ok (.invokespecial index, 3)) (hcs : cells + mc ≤ R.cells ∧ slots + ms ≤ R.slots)
    (kk : ∀ (M2 : Mem) (H1 : Heap) (locs1 : List Loc), Post M2 → va_P z.1 vwCl (pw d2 N2 b M2) H1 → (∀ q : Nat, q < H.size → ¬ Bx b q → H1[q]? = H[q]?) → va_S (Ax s) s.heap H1 locs1 → W p l e R s m args below meth c H1 locs1 (cells + mc) (slots + ms) Q (F0 m (pc + 3) ls rest)) : W p l e R s m args below meth c H locs cells slots Q (F0 m pc ls st0) := by
  have hAB : ∀ q, Bx b q → Ax s q := fun q h => Nat.le_trans hb h
  refine va_callv (va_runI (As := As) (rest := rest) C hM (cwI n C.2.2.2.2 (gC hy.2.2.1) rfl hrc hrs (C.2.2.2.2 _ hy.2.1) (C.2.2.2.2 _ hl) (C.2.2.2.2 _ hy.1) hy.2.2.2.1 ⟨hy.2.2.2.2.1, hy.2.2.2.2.2.1, hy.2.2.2.2.2.2⟩ hR) ⟨CC_blind, fun U hU hW => ⟨rfl, by rw [hU]; exact hP, by rw [hU]; exact hend, (G.to hS hU hW).narrow hAB, va_AO.moved hW.alike hAO⟩⟩ rfl hn hls hst (lv_room hroom) hdg hcs) hS (fun q _ h => hAB q h) hAB (fun u t H1 locs1 ht hvm hw hB hz1 hk1 hS1 => ?_)
  exact kk u H1 locs1 hw (by rw [← ht]; exact hB) hk1 hS1
end LI
set_option maxHeartbeats 8000000 in
set_option maxRecDepth 100000 in
/-- THE LAW, from its entry, over what is wanted of the two objects -/
theorem whole_start_of {Inv : Nat → Mem → Mem → Prop} {FU : Nat} (hFU : 1000 ≤ FU) {PostX : Mem → Prop} (hfr : ∀ M, XI M → ∃ M2, f8_refresh FU M = some ((), M2) ∧ PostX M2) (hinit : ∀ Mx My, PostX Mx → YI My → Inv 0 Mx My) (hmo : ∀ t Mx My, Inv t Mx My → Inv (t + 6) Mx My) (hst : Steps2 Inv FU) {p : Program} {e : Env} {s : State} {m : MethodId} {below : List Frame} {meth : Method} {c : Code} (l : Launch) {b L : Nat} {xs : Nat → Int32} (hL : L ≤ 3072) (C0 : lw_At p s m meth c b L xs) : W p l e room_1 s m #[Value.ref b] below meth c s.heap [] 0 0 (lw_Z below #[Value.ref b] s) (entryFrame m ([Value.ref b] : List Value).toArray 4) := by
  obtain ⟨hx, hb, hr, hml, hown, hts, hX, hbl, hlocks, hgv⟩ := id C0
  obtain ⟨z, G, hAO⟩ := start_G hts hgv
  have CF : CallFix p m c code 4 s #[Value.ref b] lw_good R_law := ⟨hx, hb, hml, hown, fun w hw => hts w (List.mem_filter.mp hw).1⟩
  obtain ⟨b1, eb1⟩ : ∃ b1 : Nat, b1 = s.heap.size := ⟨_, rfl⟩
  have hA : ∀ q : Nat, s.heap.size ≤ q → Ax s q := fun _ h => h
  have hS : va_S (Ax s) s.heap s.heap [] := va_S.rf
  have hl := lv_entry ([.ref b]) (n := 4) (Nat.le_of_ble_eq_true rfl)
  rw [lg_entry_eq]
  generalize (lg_sl ([.ref b]) ++ List.replicate (4 - (lg_sl ([.ref b])).length) Slot.unset).toArray = ls at hl ⊢
  have hl : lv_has ls 4 [(0, .ref b)] := hl
  have MZ : Mem := (fun _ _ => 0, fun _ _ => 0)
  have R0 : Rm := fun _ _ => none
  have hP0 : va_P z.1 vwCl (pw (dR (xc z) R0) 0 b1 MZ) s.heap := fun k q h => by simp [pw] at h
  have hBA : Bx b1 = Ax s := by rw [eb1]; rfl
  have hD0 : va_D (Ax s) (pw (dR (xc z) R0) 0 b1 MZ) := by rw [← hBA]; exact pw_DB
  refine va_new (ci := 11) (fs := [.null, .null, .null, .null, .null, .null, .null, .null, .null, .null, .null, .null, .int 0]) hx hb CF.2.2.2.2 iw_11 tyX11 tyX11_ok hown (CF.2.2.2.2 _ g_24) (CF.2.2.2.2 _ g_25) (CF.2.2.2.2 _ g_1) G.1.1 hP0 hD0 hS hA rfl (by decide) (Nat.le_of_ble_eq_true rfl) (Nat.le_of_ble_eq_true rfl) dL_law_0 (fun q H hP hD hS => wsz (fun hz => ?_))
  have hq : q = b1 + 0 := qpos hP (by rw [hBA]; exact hD) hz (by omega)
  rw [hq] at hP ⊢
  rw [pw_succ2 (d' := dR (xc z) (zR R0 0)) (M' := zM MZ 0) (by unfold dR; rw [zM_k1, zM_k2, zR_k]; rfl) (fun a h => by omega)] at hP
  have hend : H.size = b1 + 1 := by
    have := (hP 0 _ (pw_get (by decide))).lt
    simp only at this
    omega
  refine W.widen (k := 1) (n := 13) (Nat.le_of_ble_eq_true rfl) (Nat.le_of_ble_eq_true rfl) ?_
  refine lv_dup hx hb dL_law_3 rfl ?_
  refine lcI (As := []) CF G hAO hP hS (by omega) hend (cq11_init hFU hfr) y11_init_w g_26 rfl rfl rfl ⟨Nat.le_of_ble_eq_true rfl, Nat.le_of_ble_eq_true rfl⟩ hl.1 rfl (Nat.le_of_ble_eq_true rfl) dL_law_4 ⟨Nat.le_of_ble_eq_true rfl, Nat.le_of_ble_eq_true rfl⟩ (fun Mx H locs hpx hP _ hS => ?_)
  refine W.widen (k := 339) (n := 8716) (Nat.le_of_ble_eq_true rfl) (Nat.le_of_ble_eq_true rfl) ?_
  refine lv_astore_n (lv' := [(1, .ref (b1 + 0)), (0, .ref b)]) hx hb dL_law_7 rfl hl (by decide) rfl (fun ls hl => ?_)
  have hD1 : va_D (Ax s) (pw (xd z b1) 339 b1 Mx) := by rw [← hBA]; exact pw_DB
  refine va_new (ci := 12) (fs := [.null, .null, .null, .null, .null, .int 0, .int 0, .null, .null, .int 0, .null, .int 0, .int 0, .int 0, .int 0, .int 0, .int 0, .int 0, .int 0, .int 0, .int 0, .null, .null, .null, .null, .null, .null, .null, .null, .null, .null, .null, .null, .null, .null, .int 0, .int 0, .int 0, .int 0, .int 0, .null, .int 0, .int 0, .null, .null, .int 0, .int 0, .null, .null, .null, .null, .null, .null, .int 0]) hx hb CF.2.2.2.2 iw_12 tyX12 tyX12_ok hown (CF.2.2.2.2 _ g_1129) (CF.2.2.2.2 _ g_1130) (CF.2.2.2.2 _ g_14) G.1.1 hP hD1 hS hA rfl (by decide) (Nat.le_of_ble_eq_true rfl) (Nat.le_of_ble_eq_true rfl) dL_law_8 (fun q H hP hD hS => wsz (fun hz => ?_))
  have hq : q = b1 + 339 := qpos hP (by rw [hBA]; exact hD) hz (by omega)
  subst hq
  have hPx : va_P z.1 vwCl (pw (xd z b1) 339 b1 Mx) H := fun k q hk => hP k q (by rw [List.getElem?_append_left (List.getElem?_eq_some_iff.mp hk).1]; exact hk)
  have hPy : va_P z.1 vwCl (pw (dR (yc z) (zR R0 0)) 1 (b1 + 339) (zM MZ 0)) H := by
    intro k q hk
    obtain ⟨hlt, rfl⟩ := pw_at hk
    have hk0 : k = 0 := by omega
    subst hk0
    have h := hP 339 ((b1 + 339), .inr (12, [.null, .null, .null, .null, .null, .int 0, .int 0, .null, .null, .int 0, .null, .int 0, .int 0, .int 0, .int 0, .int 0, .int 0, .int 0, .int 0, .int 0, .int 0, .null, .null, .null, .null, .null, .null, .null, .null, .null, .null, .null, .null, .null, .null, .int 0, .int 0, .int 0, .int 0, .int 0, .null, .int 0, .int 0, .null, .null, .int 0, .int 0, .null, .null, .null, .null, .null, .null, .int 0])) (by
      rw [List.getElem?_append_right (by simp [pw])]
      simp [pw])
    have e : dR (yc z) (zR R0 0) 0 ((zM MZ 0).1 0) ((zM MZ 0).2 0) = .inr (12, [.null, .null, .null, .null, .null, .int 0, .int 0, .null, .null, .int 0, .null, .int 0, .int 0, .int 0, .int 0, .int 0, .int 0, .int 0, .int 0, .int 0, .int 0, .null, .null, .null, .null, .null, .null, .null, .null, .null, .null, .null, .null, .null, .null, .int 0, .int 0, .int 0, .int 0, .int 0, .null, .int 0, .int 0, .null, .null, .int 0, .int 0, .null, .null, .null, .null, .null, .null, .int 0]) := by
      unfold dR
      rw [zM_k1, zM_k2, zR_k]
      rfl
    rw [e]
    exact h
  have hend : H.size = b1 + 339 + 1 := by
    have := (hPy 0 _ (pw_get (by decide))).lt
    simp only at this
    omega
  refine W.widen (k := 340) (n := 8770) (Nat.le_of_ble_eq_true rfl) (Nat.le_of_ble_eq_true rfl) ?_
  refine lv_dup hx hb dL_law_11 rfl ?_
  refine lcI (As := []) CF G hAO hPy hS (by omega) hend (cq12_init (fun j => by simp [zM])) y12_init_w g_1131 rfl rfl rfl ⟨Nat.le_of_ble_eq_true rfl, Nat.le_of_ble_eq_true rfl⟩ hl.1 rfl (Nat.le_of_ble_eq_true rfl) dL_law_12 ⟨Nat.le_of_ble_eq_true rfl, Nat.le_of_ble_eq_true rfl⟩ (fun My H1 locs hpy hPy hkeep hS => ?_)
  have hPx : va_P z.1 vwCl (pw (xd z b1) 339 b1 Mx) H1 := hPx.kept (fun k q hk => by
    obtain ⟨hlt, rfl⟩ := pw_at hk
    exact hkeep _ ((hPx k _ hk).lt) (fun h => by simp only [Bx] at h; omega))
  refine W.widen (k := 371) (n := 43664) (Nat.le_of_ble_eq_true rfl) (Nat.le_of_ble_eq_true rfl) ?_
  refine lv_astore_n (lv' := [(2, .ref (b1 + 339 + 0)), (1, .ref (b1 + 0)), (0, .ref b)]) hx hb dL_law_15 rfl hl (by decide) rfl (fun ls hl => ?_)
  refine lv_iconst (v := (0 : Int32)) hx hb dL_law_16 (by decide) ?_
  refine lv_istore_n (lv' := [(3, .int 0), (2, .ref (b1 + 339 + 0)), (1, .ref (b1 + 0)), (0, .ref b)]) hx hb dL_law_17 rfl hl (by decide) rfl (fun ls hl => ?_)
  exact law_loop hL C0 G (by omega) (Nat.le_refl _) ⟨Nat.le_of_ble_eq_true rfl, Nat.le_of_ble_eq_true rfl⟩ hmo hst (L + 8) 0 0 Mx My H1 locs ls (by omega) (by omega) nI_0.symm (hinit Mx My hpx hpy) hPx hPy hS (lv_sub hl [3, 2, 1, 0] rfl)
