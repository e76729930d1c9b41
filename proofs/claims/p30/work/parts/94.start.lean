/-! FROM THE ENTRY TO THE LOOP -/
theorem z_arrP {s : State} {args : Array Value} {ty : FieldType} (h : (Cond.arrayClass ty).before args s = true) (hr : ∀ cA, s.vm.findClass ("[" ++ ty.toString) = some cA → va_RA s cA ty) : ∃ cA, ArrOfT s cA ty ∧ va_RA s cA ty := by
  obtain ⟨cA, kA, comp, h1, h2, h3⟩ := Cond.arrayClass_spec (args := args) (first := s) (o := none) (s := s) (idx := []) h
  exact ⟨cA, fun n z => ⟨(fun k h => by cases h), kA, h2, comp, h3⟩, hr cA h1⟩
theorem z_arrO {s : State} {args : Array Value} {C : String} (h : (Cond.arrayOver (.object C)).before args s = true) : ∃ cA, ArrOfT s cA (.object C) ∧ va_RA s cA (.object C) := by
  obtain ⟨comp, cA, kA, h1, -, h3, h4, h5⟩ := Cond.arrayOver_spec (args := args) (first := s) (o := none) (s := s) (idx := []) h
  exact ⟨cA, fun n z => ⟨(fun k h => by cases h), kA, h3, comp, h4⟩, kA, comp, h3, h4, h1, h5⟩
theorem z_arrA {s : State} {args : Array Value} {t : FieldType} (h : (Cond.arrayOver (.array t)).before args s = true) : ∃ cA, ArrOfT s cA (.array t) ∧ va_RA s cA (.array t) := by
  obtain ⟨comp, cA, kA, h1, -, h3, h4, h5⟩ := arrayOverA_spec (args := args) (first := s) (o := none) (s := s) (idx := []) h
  exact ⟨cA, fun n z => ⟨(fun k h => by cases h), kA, h3, comp, h4⟩, h5⟩
theorem ko_S : Cond.arrayOver (.object "BacklotPlanner$Scene") ∈ lw_tbl := tin1 _ (List.mem_of_getElem? (i := 24) (by decide +kernel))
theorem ko_P : Cond.arrayOver (.object "BacklotPlanner$Permit") ∈ lw_tbl := tin1 _ (List.mem_of_getElem? (i := 26) (by decide +kernel))
theorem ko_II : Cond.arrayOver (.array .int) ∈ lw_tbl := tin1 _ (List.mem_of_getElem? (i := 34) (by decide +kernel))
theorem kls_1 : Cond.laysStatic "java/lang/Throwable" "UNASSIGNED_STACK" "[Ljava/lang/StackTraceElement;" ∈ lw_tbl := tin2 _ (List.mem_of_getElem? (i := 2) (by decide +kernel))
theorem kls_2 : Cond.laysStatic "java/lang/Throwable" "SUPPRESSED_SENTINEL" "Ljava/util/List;" ∈ lw_tbl := tin2 _ (List.mem_of_getElem? (i := 4) (by decide +kernel))
theorem kini_Thr : Cond.initialized "java/lang/Throwable" ∈ lw_tbl := tin1 _ (List.mem_of_getElem? (i := 6) (by decide +kernel))
theorem kst_218 : Cond.stringRef RX4 218 "too many scenes to order" ∈ lw_tbl := tin2 _ (List.mem_of_getElem? (i := 16) (by decide +kernel))
theorem kst_253 : Cond.stringRef RX4 253 "no such day" ∈ lw_tbl := tin2 _ (List.mem_of_getElem? (i := 86) (by decide +kernel))
theorem kst_244 : Cond.stringRef RX4 244 "no such scene" ∈ lw_tbl := tin2 _ (List.mem_of_getElem? (i := 115) (by decide +kernel))
theorem kst_251 : Cond.stringRef RX4 251 "no such prop" ∈ lw_tbl := tin2 _ (List.mem_of_getElem? (i := 151) (by decide +kernel))
theorem kst_249 : Cond.stringRef RX4 249 "no such actor" ∈ lw_tbl := tin2 _ (List.mem_of_getElem? (i := 186) (by decide +kernel))
theorem kst_239 : Cond.stringRef RX4 239 "no such state" ∈ lw_tbl := tin2 _ (List.mem_of_getElem? (i := 194) (by decide +kernel))
theorem kst_60 : Cond.stringRef RX4 60 "no such set or number of flames" ∈ lw_tbl := tin2 _ (List.mem_of_getElem? (i := 212) (by decide +kernel))
theorem kst_71 : Cond.stringRef RX4 71 "no room for a scene" ∈ lw_tbl := tin2 _ (List.mem_of_getElem? (i := 217) (by decide +kernel))
theorem kst_88 : Cond.stringRef RX4 88 "no such beard" ∈ lw_tbl := tin3 _ (List.mem_of_getElem? (i := 31) (by decide +kernel))
theorem kst_255 : Cond.stringRef RX4 255 "the scene is not planned" ∈ lw_tbl := tin3 _ (List.mem_of_getElem? (i := 35) (by decide +kernel))
theorem kst_103 : Cond.stringRef RX4 103 "no such states" ∈ lw_tbl := tin3 _ (List.mem_of_getElem? (i := 58) (by decide +kernel))
theorem kst_109 : Cond.stringRef RX4 109 "the prop would age backwards" ∈ lw_tbl := tin3 _ (List.mem_of_getElem? (i := 63) (by decide +kernel))
theorem kst_131 : Cond.stringRef RX4 131 "no such day to come" ∈ lw_tbl := tin3 _ (List.mem_of_getElem? (i := 78) (by decide +kernel))
theorem kst_181 : Cond.stringRef RX4 181 "all days are over" ∈ lw_tbl := tin3 _ (List.mem_of_getElem? (i := 86) (by decide +kernel))
theorem kst_140 : Cond.stringRef RX4 140 "no such days" ∈ lw_tbl := tin3 _ (List.mem_of_getElem? (i := 107) (by decide +kernel))
theorem kst_142 : Cond.stringRef RX4 142 "no more permits" ∈ lw_tbl := tin3 _ (List.mem_of_getElem? (i := 108) (by decide +kernel))
theorem kst_247 : Cond.stringRef RX4 247 "no such permit" ∈ lw_tbl := tin3 _ (List.mem_of_getElem? (i := 142) (by decide +kernel))
theorem kst_155 : Cond.stringRef RX4 155 "the permit was revoked" ∈ lw_tbl := tin3 _ (List.mem_of_getElem? (i := 143) (by decide +kernel))
theorem kst_171 : Cond.stringRef RX4 171 "enough copies" ∈ lw_tbl := tin3 _ (List.mem_of_getElem? (i := 162) (by decide +kernel))
theorem kst_177 : Cond.stringRef RX4 177 "no such whole state" ∈ lw_tbl := tin3 _ (List.mem_of_getElem? (i := 170) (by decide +kernel))
theorem kst_179 : Cond.stringRef RX4 179 "no copy in this state" ∈ lw_tbl := tin3 _ (List.mem_of_getElem? (i := 171) (by decide +kernel))
theorem z_str {s : State} {args : Array Value} {own tx : String} {k : Nat} (h1 : (Cond.stringRef own k tx).before args s = true) (h2 : (Cond.exactly (.string own k) "java/lang/String").before args s = true) : ∃ a : Nat, vk_R own k tx a s := by
  obtain ⟨a, -, -, -, q1, -⟩ := Cond.exactly_spec (args := args) (first := s) (o := none) (s := s) (idx := []) h2
  exact ⟨a, vk_R.of h1 q1⟩
set_option maxRecDepth 100000 in
set_option maxHeartbeats 8000000 in
theorem lw_St {s : State} {args : Array Value} (hts : ∀ w ∈ lw_tbl, w.before args s = true) (hgv : (Jvm.Cond.and given_1 narrow_1).before args s = true) : zSt s := by
  have hs := flat_of_before _ hgv
  have h218 := z_str (hts _ kst_218) (hs _ (by decide +kernel))
  have h253 := z_str (hts _ kst_253) (hs _ (by decide +kernel))
  have h244 := z_str (hts _ kst_244) (hs _ (by decide +kernel))
  have h251 := z_str (hts _ kst_251) (hs _ (by decide +kernel))
  have h249 := z_str (hts _ kst_249) (hs _ (by decide +kernel))
  have h239 := z_str (hts _ kst_239) (hs _ (by decide +kernel))
  have h60 := z_str (hts _ kst_60) (hs _ (by decide +kernel))
  have h71 := z_str (hts _ kst_71) (hs _ (by decide +kernel))
  have h88 := z_str (hts _ kst_88) (hs _ (by decide +kernel))
  have h255 := z_str (hts _ kst_255) (hs _ (by decide +kernel))
  have h103 := z_str (hts _ kst_103) (hs _ (by decide +kernel))
  have h109 := z_str (hts _ kst_109) (hs _ (by decide +kernel))
  have h131 := z_str (hts _ kst_131) (hs _ (by decide +kernel))
  have h181 := z_str (hts _ kst_181) (hs _ (by decide +kernel))
  have h140 := z_str (hts _ kst_140) (hs _ (by decide +kernel))
  have h142 := z_str (hts _ kst_142) (hs _ (by decide +kernel))
  have h247 := z_str (hts _ kst_247) (hs _ (by decide +kernel))
  have h155 := z_str (hts _ kst_155) (hs _ (by decide +kernel))
  have h171 := z_str (hts _ kst_171) (hs _ (by decide +kernel))
  have h177 := z_str (hts _ kst_177) (hs _ (by decide +kernel))
  have h179 := z_str (hts _ kst_179) (hs _ (by decide +kernel))
  intro q hq
  unfold zStrs at hq
  rcases List.mem_cons.mp hq with rfl | hq
  · exact h218
  rcases List.mem_cons.mp hq with rfl | hq
  · exact h253
  rcases List.mem_cons.mp hq with rfl | hq
  · exact h244
  rcases List.mem_cons.mp hq with rfl | hq
  · exact h251
  rcases List.mem_cons.mp hq with rfl | hq
  · exact h249
  rcases List.mem_cons.mp hq with rfl | hq
  · exact h239
  rcases List.mem_cons.mp hq with rfl | hq
  · exact h60
  rcases List.mem_cons.mp hq with rfl | hq
  · exact h71
  rcases List.mem_cons.mp hq with rfl | hq
  · exact h88
  rcases List.mem_cons.mp hq with rfl | hq
  · exact h255
  rcases List.mem_cons.mp hq with rfl | hq
  · exact h103
  rcases List.mem_cons.mp hq with rfl | hq
  · exact h109
  rcases List.mem_cons.mp hq with rfl | hq
  · exact h131
  rcases List.mem_cons.mp hq with rfl | hq
  · exact h181
  rcases List.mem_cons.mp hq with rfl | hq
  · exact h140
  rcases List.mem_cons.mp hq with rfl | hq
  · exact h142
  rcases List.mem_cons.mp hq with rfl | hq
  · exact h247
  rcases List.mem_cons.mp hq with rfl | hq
  · exact h155
  rcases List.mem_cons.mp hq with rfl | hq
  · exact h171
  rcases List.mem_cons.mp hq with rfl | hq
  · exact h177
  rw [List.mem_singleton.mp hq]
  exact h179
set_option maxRecDepth 100000 in
set_option maxHeartbeats 8000000 in
theorem lw_NcF {s : State} {args : Array Value} (hgv : (Jvm.Cond.and given_1 narrow_1).before args s = true) : zNcF s := by
  have hs := flat_of_before _ hgv
  intro q hq
  unfold zNcs at hq
  rcases List.mem_cons.mp hq with rfl | hq
  · exact va_Nc.of (hs _ (by decide +kernel))
  rcases List.mem_cons.mp hq with rfl | hq
  · exact va_Nc.of (hs _ (by decide +kernel))
  rcases List.mem_cons.mp hq with rfl | hq
  · exact va_Nc.of (hs _ (by decide +kernel))
  rcases List.mem_cons.mp hq with rfl | hq
  · exact va_Nc.of (hs _ (by decide +kernel))
  rcases List.mem_cons.mp hq with rfl | hq
  · exact va_Nc.of (hs _ (by decide +kernel))
  rw [List.mem_singleton.mp hq]
  exact va_Nc.of (hs _ (by decide +kernel))
theorem lw_W {s : State} {args : Array Value} (hts : ∀ w ∈ lw_tbl, w.before args s = true) : zW s := by
  intro w hw hg
  cases h : goodWord w with
  | true => exact word_at (args := args) (State.WarmedH.refl s) (good_of_word h) (hts w hw)
  | false => exact va_Nw.of (zgood_tab hg h) (hts w hw)
set_option maxRecDepth 100000 in
set_option maxHeartbeats 8000000 in
theorem lw_K {s : State} {args : Array Value} (hts : ∀ w ∈ lw_tbl, w.before args s = true) (hgv : (Jvm.Cond.and given_1 narrow_1).before args s = true) : ∃ (D : va_G) (ca : Nat → ClassId), ZK D ca s.heap.size s s.heap := by
  have hs := flat_of_before _ hgv
  obtain ⟨c0, i0, k0⟩ := u_known (C := RX0) (T := TX0) (N := 3) (n := 3) hts inX0 (hts _ kI_X0)
  obtain ⟨c1, i1, k1⟩ := u_known (C := RX1) (T := TX1) (N := 5) (n := 5) hts inX1 (hts _ kI_X1)
  obtain ⟨c2, i2, k2⟩ := u_known (C := RX2) (T := TX2) (N := 8) (n := 8) hts inX2 (hts _ kI_X2)
  obtain ⟨c3, i3, k3⟩ := u_known (C := RX3) (T := TX3) (N := 3) (n := 3) hts inX3 (hts _ kI_X3)
  obtain ⟨c4, i4, k4⟩ := u_known (C := RX4) (T := TX4) (N := 11) (n := 11) hts inX4 (hts _ kI_X4)
  obtain ⟨aI, fI⟩ := z_arrP (hts _ ka_int) (fun _ h => h)
  obtain ⟨aS, fS⟩ := z_arrO (hts _ ko_S)
  obtain ⟨aP, fP⟩ := z_arrO (hts _ ko_P)
  obtain ⟨aA, fA⟩ := z_arrA (hts _ ko_II)
  have hW := lw_W hts
  refine ⟨(fun k => if k = 0 then c0 else if k = 1 then c1 else if k = 2 then c2 else if k = 3 then c3 else c4, fun k => if k = 0 then i0 else if k = 1 then i1 else if k = 2 then i2 else if k = 3 then i3 else i4), fun k => if k = 0 then aI else if k = 1 then aI else if k = 2 then aS else if k = 3 then aP else if k = 4 then aA else aI, ⟨fun k q hq => ?_, fun k q hq => ?_⟩, hW, Nat.le_refl _, ?_, ?_, lw_St hts hgv, lw_NcF hgv, va_AO.of (hts _ ko_S), va_AO.of (hts _ ko_P), Jvm.Stand.arrayOver_alikeB (Vm.Alike.refl _) (hts _ ko_II)⟩
  · match k, hq with
    | 0, hq => cases hq; exact k0
    | 1, hq => cases hq; exact k1
    | 2, hq => cases hq; exact k2
    | 3, hq => cases hq; exact k3
    | 4, hq => cases hq; exact k4
    | k + 5, hq => simp [vwCl] at hq
  · match k, hq with
    | 0, hq => cases hq; exact fI
    | 1, hq => cases hq; exact fI
    | 2, hq => cases hq; exact fS
    | 3, hq => cases hq; exact fP
    | 4, hq => cases hq; exact fA
    | 5, hq => cases hq; exact fI
    | k + 6, hq => simp [zT] at hq
  · exact vx_Zqof (hts _ kls_1) (hts _ kini_Thr) (hs _ (by decide +kernel)) (fun a h => Nat.not_le.mpr h)
  · exact vx_Zqof (hts _ kls_2) (hts _ kini_Thr) (hs _ (by decide +kernel)) (fun a h => Nat.not_le.mpr h)
theorem E8_0 : ∀ d, d < 30 → mu0 8 0 d = -1 := fun d hd => by
  show zfill 30 (-1) (fun _ => 0) d = -1
  unfold zfill
  rw [if_pos hd]
theorem J_0 : Jv 0 0 0 mu0 mu0 := by
  obtain ⟨t, h1, h2⟩ := Inv_0
  have e : nI t = 0 := by
    have h := h1.2.2.1.2.2.1
    exact h.symm
  have ht : t ≤ 30 := h1.1.2.2
  have et : t = 0 := (nI_eq (a := t) (b := 0) (by omega) (by omega)).mp e
  subst et
  exact ⟨h1, h2, fun _ _ => rfl⟩
theorem LI_0 : LI 0 0 0 mu0 := ⟨rfl, rfl, rfl, rfl, fun a p _ _ => by rw [if_neg (Nat.not_lt_zero a)]; rfl, fun k _ => Iff.rfl, ⟨fun a _ ha => absurd ha (Nat.not_lt_zero a), fun _ b _ _ hb => absurd hb (Nat.not_lt_zero b)⟩, fun a ha => absurd ha (Nat.not_lt_zero a)⟩
set_option maxRecDepth 100000 in
set_option maxHeartbeats 8000000 in
theorem whole_start {p : Program} {e : Env} {s : State} {m : MethodId} {below : List Frame} {meth : Method} {c : Code} (l : Launch) (hflags : l.flags = flags0) {b L : Nat} {xs : Nat → Int32} (hL : L ≤ 260) (C0 : lw_At p s m meth c b L xs) : W p l e room_1 s m #[Value.ref b] below meth c s.heap [] 0 0 (lw_Z below #[Value.ref b] s) (entryFrame m ([Value.ref b] : List Value).toArray 7) := by
  obtain ⟨hx, hb, hr, hml, hown, hts, hX, hbl, hlocks, hgv⟩ := id C0
  have hst : l.stackTraces = false := by
    unfold Launch.stackTraces
    rw [hflags]
    decide +kernel
  obtain ⟨D, ca, hZK⟩ := lw_K hts hgv
  have hC : ZC p m meth c s RL cL_law 7 := ⟨hx, hb, hml, hown, hlocks⟩
  have hKU : KU D ca s := ⟨hZK.1, hZK.2.1, hZK.2.2.2.2.2.2.2⟩
  have hA : ∀ q, s.heap.size ≤ q → zB s.heap.size q := fun _ h => h
  have hS : va_S (zB s.heap.size) s.heap s.heap [] := va_S.rf
  have hP : va_P D vwCl [] s.heap := fun k q h => by simp at h
  have hD : va_D (zB s.heap.size) [] := ⟨fun i j p q h => by simp at h, fun k q h => by simp at h⟩
  have hl := lv_entry ([.ref b]) (n := 7) (Nat.le_of_ble_eq_true rfl)
  rw [lg_entry_eq]
  generalize (lg_sl ([.ref b]) ++ List.replicate (7 - (lg_sl ([.ref b])).length) Slot.unset).toArray = ls at hl ⊢
  have hl : lv_has ls 7 [(0, .ref b)] := hl
  refine k_new hC hKU.1 hKU.2.1 hP hD hS hA inX4 tyX4 tyX4_ok kc_L_11 kI_X4 kini_X4 (ci := 4) rfl (fs := [.null, .null, .null, .null, .null, .null, .null, .int 0, .int 0, .int 0, .int 0]) (fun j hj => by rcases (show j = 0 ∨ j = 1 ∨ j = 2 ∨ j = 3 ∨ j = 4 ∨ j = 5 ∨ j = 6 ∨ j = 7 ∨ j = 8 ∨ j = 9 ∨ j = 10 by omega) with rfl | rfl | rfl | rfl | rfl | rfl | rfl | rfl | rfl | rfl | rfl <;> rfl) (Nat.le_of_ble_eq_true rfl) (Nat.le_of_ble_eq_true rfl) dL_law_0 (fun h4 H hP hD hS => ?_)
  have hP : va_P D vwCl [(h4, .inr (4, [.null, .null, .null, .null, .null, .null, .null, .int 0, .int 0, .int 0, .int 0]))] H := hP
  have hD : va_D (zB s.heap.size) [(h4, .inr (4, [.null, .null, .null, .null, .null, .null, .null, .int 0, .int 0, .int 0, .int 0]))] := hD
  refine lv_dup hC.1 hC.2.1 dL_law_3 rfl ?_
  refine k_callI (As := []) (rest := [.ref h4]) hC hKU hP hD hS hA (q0 := 0) rfl (c_X4_init l) km_L_179 zc_X4_init zi_X4_init kini_X4 rfl (by decide +kernel) (na := 0) (by decide +kernel) rfl ⟨rfl, rfl⟩ ⟨(Nat.le_of_ble_eq_true rfl), (Nat.le_of_ble_eq_true rfl)⟩ hl.1 rfl (Nat.le_of_ble_eq_true rfl) dL_law_4 ⟨(Nat.le_of_ble_eq_true rfl), (Nat.le_of_ble_eq_true rfl)⟩ (fun H1 locs hPH hz hk hS1 => ?_)
  obtain ⟨p1, p2, p3, p4, p5, p6, p7, p8, p9, p10, p11, p12, p13, p14, p15, p16, p17, p18, p19, p20, p21, p22, p23, f0, f1, e0, e1, e2, e3, e4, e5, e6, e7, e8, e9, hP1, hD1⟩ := hPH
  obtain ⟨hP, hD⟩ := k_join (wr := []) (w1 := VX4 ca h4 p1 p2 p3 p4 p5 p6 p7 p8 p9 p10 p11 p12 p13 p14 p15 p16 p17 p18 p19 p20 p21 p22 p23 f0 f1) hP hD hS hA (q0 := 0) rfl [] rfl rfl (by decide) hk hP1 hD1
  have hP : va_P D vwCl (VX4 ca h4 p1 p2 p3 p4 p5 p6 p7 p8 p9 p10 p11 p12 p13 p14 p15 p16 p17 p18 p19 p20 p21 p22 p23 f0 f1) H1 := hP
  have hD : va_D (zB s.heap.size) (VX4 ca h4 p1 p2 p3 p4 p5 p6 p7 p8 p9 p10 p11 p12 p13 p14 p15 p16 p17 p18 p19 p20 p21 p22 p23 f0 f1) := hD
  refine lv_astore_n (lv' := [(1, .ref h4), (0, .ref b)]) hC.1 hC.2.1 dL_law_7 rfl hl (by decide) rfl (fun ls hl => ?_)
  refine lv_iconst (v := 5) hC.1 hC.2.1 dL_law_8 (by decide) ?_
  refine k_newI hC hKU.1 hKU.2.1 hP hD hS1 hA (by decide) (N := 5) rfl (by decide) (Nat.le_of_ble_eq_true rfl) (Nat.le_of_ble_eq_true rfl) dL_law_9 (fun qg H hP hD hS => ?_)
  refine lv_astore_n (lv' := [(2, .ref qg), (1, .ref h4), (0, .ref b)]) hC.1 hC.2.1 dL_law_11 rfl hl (by decide) rfl (fun ls hl => ?_)
  refine lv_bipush (v := 50) hC.1 hC.2.1 dL_law_12 (by decide) ?_
  refine k_newI hC hKU.1 hKU.2.1 hP hD hS hA (by decide) (N := 50) rfl (by decide) (Nat.le_of_ble_eq_true rfl) (Nat.le_of_ble_eq_true rfl) dL_law_14 (fun qu H hP hD hS => ?_)
  refine lv_astore_n (lv' := [(3, .ref qu), (2, .ref qg), (1, .ref h4), (0, .ref b)]) hC.1 hC.2.1 dL_law_16 rfl hl (by decide) rfl (fun ls hl => ?_)
  refine lv_bipush (v := 20) hC.1 hC.2.1 dL_law_17 (by decide) ?_
  refine k_newI hC hKU.1 hKU.2.1 hP hD hS hA (by decide) (N := 20) rfl (by decide) (Nat.le_of_ble_eq_true rfl) (Nat.le_of_ble_eq_true rfl) dL_law_19 (fun qv H hP hD hS => ?_)
  refine lv_astore (lv' := [(4, .ref qv), (3, .ref qu), (2, .ref qg), (1, .ref h4), (0, .ref b)]) hC.1 hC.2.1 dL_law_21 hl (by decide) rfl (fun ls hl => ?_)
  have hP : va_P D vwCl (VXL ca h4 p1 p2 p3 p4 p5 p6 p7 p8 p9 p10 p11 p12 p13 p14 p15 p16 p17 p18 p19 p20 p21 p22 p23 qg qu qv f0 f1) H := hP
  have hD : va_D (zB s.heap.size) (VXL ca h4 p1 p2 p3 p4 p5 p6 p7 p8 p9 p10 p11 p12 p13 p14 p15 p16 p17 p18 p19 p20 p21 p22 p23 qg qu qv f0 f1) := hD
  have hWd := zWd e0 e1 e2 e3 e4 e5 e6 e7 e8 e9 hP hD
  have hl : lv_has ls 7 (LL b (ad0 h4 p1 p2 p3 p4 p5 p6 p7 p8 p9 p10 p11 p12 p13 p14 p15 p16 p17 p18 p19 p20 p21 p22 p23 qg qu qv)) := lv_sub hl [4, 3, 2, 1, 0] rfl
  have hJ : Jv 0 0 0 mu0 mu0 := J_0
  refine W.widen (k := 100) (n := 1000) (Nat.le_of_ble_eq_true rfl) (Nat.le_of_ble_eq_true rfl) ?_
  exact law_first (c0 := 100) (s0 := 1000) hst hC hr hX hbl hL (by decide) (by decide) hJ LI_0 E8_0 (fun _ => rfl) ⟨hZK, hS, hWd⟩ hl
