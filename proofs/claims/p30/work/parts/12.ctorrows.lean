/-! OBJECTS IN THE MAKING: worlds as lists, over the kit's rows; classes of arrays by ca -/
def KU (D : va_G) (ca : Nat → ClassId) (U : State) : Prop := va_K D vwCl (zT ca) U ∧ zW U ∧ va_AO "BacklotPlanner$Scene" U ∧ va_AO "BacklotPlanner$Permit" U ∧ (Cond.arrayOver (.array .int)).before #[] U = true
theorem KU.moved {D : va_G} {ca : Nat → ClassId} {s U : State} (hW : s.WarmedH U.vm) (h : KU D ca s) : KU D ca U :=
  ⟨va_K.moved hW.alike h.1, h.2.1.moved hW, va_AO.moved hW.alike h.2.2.1, va_AO.moved hW.alike h.2.2.2.1, Jvm.Stand.arrayOver_alikeB hW.alike h.2.2.2.2⟩
theorem KU.blind {D : va_G} {ca : Nat → ClassId} {U : State} {g : JFrame} {mk : MethodId} {a : Array Value} (h : KU D ca U) : KU D ca (U.calling g mk a) := h.moved (s := U) (U := U.calling g mk a) (State.WarmedH.refl U)
/-- a constructor's end: what the heap holds; old cells but b stay -/
def KQ (PH : Heap → Prop) (b sz : Nat) : Array Value → State → Outcome → State → Prop := fun _ st o t => o = .returned none ∧ PH t.heap ∧ va_F (fun q => q = b ∨ sz ≤ q) st t
def KPre (D : va_G) (ca : Nat → ClassId) (b sz : Nat) (e : va_E) (U : State) : Prop := U.heap.size = sz ∧ va_at D vwCl (b, e) U.heap ∧ b < sz ∧ KU D ca U
def KMet (l : Launch) (y : MethodName) (cc : ByteArray) (ml : Nat) (rm : Room) (mc ms : Nat) (D : va_G) (ca : Nat → ClassId) (b sz : Nat) (e : va_E) (av : List Value) (PH : Heap → Prop) : Prop :=
  Met l y [Cond.code y cc ml none] rm (va_Pc av (KPre D ca b sz e)) (KQ PH b sz) mc ms (fun q => q = b ∨ sz ≤ q)
theorem KPre_blind {D : va_G} {ca : Nat → ClassId} {b sz : Nat} {e : va_E} {av : List Value} : FrameBlind (va_Pc av (KPre D ca b sz e)) := fun _ _ _ _ q => ⟨q.1, q.2.1, q.2.2.1, q.2.2.2.1, q.2.2.2.2.blind⟩
theorem zi_obj : Cond.instanceMethod objectInit ∈ lw_tbl := tin1 _ (List.mem_of_getElem? (i := 21) (by decide +kernel))
theorem zc_obj : Cond.code objectInit ⟨#[0xb1]⟩ 1 none ∈ lw_tbl := tin1 _ (List.mem_of_getElem? (i := 22) (by decide +kernel))
section KROWS
variable {p : Program} {l : Launch} {e : Env} {R : Room} {s : State} {m : MethodId} {args : Array Value} {below : List Frame} {meth : Method} {c : Code} {H : Heap} {locs : List Loc} {cells slots : Nat} {Q : State → Prop}
variable {cc : ByteArray} {pc : Nat} {ls : Array Slot} {rest st0 : List Value} {own : String} {nL : Nat}
variable {D : va_G} {ca : Nat → ClassId} {A : Nat → Prop} {H0 : Heap} {ws : va_W}
theorem k_ra (hK : va_K D vwCl (zT ca) s) {t : Nat} {ty : FieldType} (ht : (zT ca)[t]? = some (ca t, ty)) (h1 : s.vm.findClass ("[" ++ ty.toString) = some (ca t)) {cA : ClassId} (h2 : s.vm.findClass ("[" ++ ty.toString) = some cA) : cA = ca t := Option.some.inj (h2.symm.trans h1)
theorem k_I (hK : va_K D vwCl (zT ca) s) : s.vm.findClass ("[" ++ FieldType.int.toString) = some (ca 0) := (hK.2 0 _ rfl).2
theorem k_S (hK : va_K D vwCl (zT ca) s) : s.vm.findClass ("[" ++ (FieldType.object "BacklotPlanner$Scene").toString) = some (ca 2) := by
  obtain ⟨_, _, _, _, _, h⟩ := (hK.2 2 _ rfl).2
  exact h
theorem k_P (hK : va_K D vwCl (zT ca) s) : s.vm.findClass ("[" ++ (FieldType.object "BacklotPlanner$Permit").toString) = some (ca 3) := by
  obtain ⟨_, _, _, _, _, h⟩ := (hK.2 3 _ rfl).2
  exact h
theorem k_II (hK : va_K D vwCl (zT ca) s) : s.vm.findClass ("[" ++ (FieldType.array .int).toString) = some (ca 4) := (hK.2 4 _ rfl).2
theorem k_newI (hC : ZC p m meth c s own cc nL) (hK : va_K D vwCl (zT ca) s) (hW : zW s) (hP : va_P D vwCl ws H) (hD : va_D A ws) (hS : va_S A H0 H locs) (hA : ∀ q, H0.size ≤ q → A q) {k : Int32} {N : Nat} (hn : ¬ k < 0) (hN : k.toNatClampNeg = N) (hb : N * 4 ≤ 536870912) (hc : cells + 1 ≤ R.cells) (hs : slots + N ≤ R.slots) (hdg : decode cc pc = .ok (.newarray .int, 2))
    (kk : ∀ (q : Nat) (H1 : Heap), va_P D vwCl (ws ++ [(q, .inl (ca 0, N, .inl (fun _ => 0)))]) H1 → va_D A (ws ++ [(q, .inl (ca 0, N, .inl (fun _ => 0)))]) → va_S A H0 H1 locs → W p l e R s m args below meth c H1 locs (cells + 1) (slots + N) Q (F0 m (pc + 2) ls (.ref q :: rest))) : W p l e R s m args below meth c H locs cells slots Q (F0 m pc ls (.int k :: rest)) := by
  refine va_newa (atype := .int) hC.1 hC.2.1 (hW.use args ka_int rfl) (ty := .int) rfl hK hP hD hS hA (a0 := (N, .inl (fun _ => 0))) (fun cA => by rw [vp_cell_i]; rfl) hn hN hb hc hs hdg (fun q cA H1 hK1 hP1 hD1 hS1 => ?_)
  have e1 : cA = ca 0 := k_ra hK rfl (k_I hK) (hK1.2 6 (cA, .int) rfl).2
  subst e1
  exact kk q H1 hP1 hD1 hS1
theorem k_newS (hC : ZC p m meth c s own cc nL) (hK : va_K D vwCl (zT ca) s) (hW : zW s) (hO : va_AO "BacklotPlanner$Scene" s) (hP : va_P D vwCl ws H) (hD : va_D A ws) (hS : va_S A H0 H locs) (hA : ∀ q, H0.size ≤ q → A q) {index : Nat} (hlink : Cond.classLink own index "BacklotPlanner$Scene" ∈ lw_tbl) {k : Int32} {N : Nat} (hn : ¬ k < 0) (hN : k.toNatClampNeg = N) (hb : N * 4 ≤ 536870912) (hc : cells + 1 ≤ R.cells) (hs : slots + N ≤ R.slots) (hdg : decode cc pc = .ok (.anewarray index, 3))
    (kk : ∀ (q : Nat) (H1 : Heap), va_P D vwCl (ws ++ [(q, .inl (ca 2, N, .inr (.inr (.inr (.inr (fun _ => none))))))]) H1 → va_D A (ws ++ [(q, .inl (ca 2, N, .inr (.inr (.inr (.inr (fun _ => none))))))]) → va_S A H0 H1 locs → W p l e R s m args below meth c H1 locs (cells + 1) (slots + N) Q (F0 m (pc + 3) ls (.ref q :: rest))) : W p l e R s m args below meth c H locs cells slots Q (F0 m pc ls (.int k :: rest)) := by
  refine va_newq hC.1 hC.2.1 hC.2.2.2.1 (hW.use args hlink rfl) hO hK hP hD hS hA hn hN hb hc hs hdg (fun q cA H1 hK1 hP1 hD1 hS1 => ?_)
  have e1 : cA = ca 2 := by
    obtain ⟨_, _, _, _, _, h⟩ := (hK1.2 6 (cA, .object "BacklotPlanner$Scene") rfl).2
    exact k_ra hK rfl (k_S hK) h
  subst e1
  exact kk q H1 hP1 hD1 hS1
theorem k_newP (hC : ZC p m meth c s own cc nL) (hK : va_K D vwCl (zT ca) s) (hW : zW s) (hO : va_AO "BacklotPlanner$Permit" s) (hP : va_P D vwCl ws H) (hD : va_D A ws) (hS : va_S A H0 H locs) (hA : ∀ q, H0.size ≤ q → A q) {index : Nat} (hlink : Cond.classLink own index "BacklotPlanner$Permit" ∈ lw_tbl) {k : Int32} {N : Nat} (hn : ¬ k < 0) (hN : k.toNatClampNeg = N) (hb : N * 4 ≤ 536870912) (hc : cells + 1 ≤ R.cells) (hs : slots + N ≤ R.slots) (hdg : decode cc pc = .ok (.anewarray index, 3))
    (kk : ∀ (q : Nat) (H1 : Heap), va_P D vwCl (ws ++ [(q, .inl (ca 3, N, .inr (.inr (.inr (.inr (fun _ => none))))))]) H1 → va_D A (ws ++ [(q, .inl (ca 3, N, .inr (.inr (.inr (.inr (fun _ => none))))))]) → va_S A H0 H1 locs → W p l e R s m args below meth c H1 locs (cells + 1) (slots + N) Q (F0 m (pc + 3) ls (.ref q :: rest))) : W p l e R s m args below meth c H locs cells slots Q (F0 m pc ls (.int k :: rest)) := by
  refine va_newq hC.1 hC.2.1 hC.2.2.2.1 (hW.use args hlink rfl) hO hK hP hD hS hA hn hN hb hc hs hdg (fun q cA H1 hK1 hP1 hD1 hS1 => ?_)
  have e1 : cA = ca 3 := by
    obtain ⟨_, _, _, _, _, h⟩ := (hK1.2 6 (cA, .object "BacklotPlanner$Permit") rfl).2
    exact k_ra hK rfl (k_P hK) h
  subst e1
  exact kk q H1 hP1 hD1 hS1
theorem k_new (hC : ZC p m meth c s own cc nL) (hK : va_K D vwCl (zT ca) s) (hW : zW s) (hP : va_P D vwCl ws H) (hD : va_D A ws) (hS : va_S A H0 H locs) (hA : ∀ q, H0.size ≤ q → A q) {C : String} {T : u_T} {N ci index : Nat} (hin : ∀ w ∈ u_ws C T N, w ∈ lw_tbl) (ty : Nat → FieldType) (hty : ∀ k, k < N → parseFieldDescriptor (T k).2.2.1 = some (ty k)) (hlink : Cond.classLink own index C ∈ lw_tbl) (hinst : Cond.instantiable C N ∈ lw_tbl) (hini : Cond.initialized C ∈ lw_tbl) (hcl : vwCl[ci]? = some (C, T, N)) {fs : List Value} (hfs : ∀ j, j < N → defaultValue (ty j) = vp_V fs j) (hc : cells + 1 ≤ R.cells) (hs : slots + N ≤ R.slots) (hdg : decode cc pc = .ok (.new index, 3))
    (kk : ∀ (q : Nat) (H1 : Heap), va_P D vwCl (ws ++ [(q, .inr (ci, fs))]) H1 → va_D A (ws ++ [(q, .inr (ci, fs))]) → va_S A H0 H1 locs → W p l e R s m args below meth c H1 locs (cells + 1) (slots + N) Q (F0 m (pc + 3) ls (.ref q :: rest))) : W p l e R s m args below meth c H locs cells slots Q (F0 m pc ls rest) :=
  va_new hC.1 hC.2.1 (hW.lay args hin) (fun _ h => h) ty hty hC.2.2.2.1 (hW.use args hlink rfl) (hW.use args hinst rfl) (hW.use args hini rfl) hK hP hD hS hA hcl hfs hc hs hdg kk
theorem k_putF (hC : ZC p m meth c s own cc nL) (hin2 : meth.name = "<init>") (hK : va_K D vwCl (zT ca) s) (hW : zW s) (hP : va_P D vwCl ws H) (hD : va_D A ws) (hS : va_S A H0 H locs) (q0 : Nat) {a ci index : Nat} {fs : List Value} (he : ws[q0]? = some (a, .inr (ci, fs))) {T : u_T} {N : Nat} (hcl : vwCl[ci]? = some (own, T, N)) (hin : ∀ w ∈ u_ws own T N, w ∈ lw_tbl) (ty0 : Nat → FieldType) (hty : ∀ k, k < N → parseFieldDescriptor (T k).2.2.1 = some (ty0 k)) (hnm : ∀ a, a < N → ∀ b, b < N → a ≠ b → (T a).2.1 ≠ (T b).2.1)
    (k : Nat) (hk : k < N) (hd : (T k).1 = own) (hfin : (T k).2.2.2 = true) (hlink : Cond.fieldLink own index own (T k).2.1 (T k).2.2.1 ∈ lw_tbl) {v : Value} (hn : narrow (ty0 k) v = v) (hfit : fits (ty0 k) v = true) (hl : k < fs.length) (hdg : decode cc pc = .ok (.putfield index, 3))
    (kk : ∀ (H1 : Heap) (locs1 : List Loc), va_P D vwCl (ws.set q0 (a, .inr (ci, fs.set k v))) H1 → va_D A (ws.set q0 (a, .inr (ci, fs.set k v))) → va_S A H0 H1 locs1 → W p l e R s m args below meth c H1 locs1 cells slots Q (F0 m (pc + 3) ls rest)) : W p l e R s m args below meth c H locs cells slots Q (F0 m pc ls (v :: .ref a :: rest)) :=
  va_putF (D := D) (cl := vwCl) hC.1 hC.2.1 (hW.lay args hin) (fun _ h => h) ty0 hty hnm hC.2.2.2.1 hK hP hD hS q0 he hcl k hk (hW.use args hlink rfl) (fun _ h => by rw [hd] at h; exact h) hfin hin2 hd (hty k hk) hn hfit hl hdg kk
theorem k_put (hC : ZC p m meth c s own cc nL) (hK : va_K D vwCl (zT ca) s) (hW : zW s) (hP : va_P D vwCl ws H) (hD : va_D A ws) (hS : va_S A H0 H locs) (q0 : Nat) {a ci index : Nat} {fs : List Value} (he : ws[q0]? = some (a, .inr (ci, fs))) {T : u_T} {N : Nat} (hcl : vwCl[ci]? = some (own, T, N)) (hin : ∀ w ∈ u_ws own T N, w ∈ lw_tbl) (ty0 : Nat → FieldType) (hty : ∀ k, k < N → parseFieldDescriptor (T k).2.2.1 = some (ty0 k)) (hnm : ∀ a, a < N → ∀ b, b < N → a ≠ b → (T a).2.1 ≠ (T b).2.1)
    (k : Nat) (hk : k < N) (hd : (T k).1 = own) (hfin : (T k).2.2.2 = false) (hlink : Cond.fieldLink own index own (T k).2.1 (T k).2.2.1 ∈ lw_tbl) {v : Value} (hn : narrow (ty0 k) v = v) (hfit : fits (ty0 k) v = true) (hl : k < fs.length) (hdg : decode cc pc = .ok (.putfield index, 3))
    (kk : ∀ (H1 : Heap) (locs1 : List Loc), va_P D vwCl (ws.set q0 (a, .inr (ci, fs.set k v))) H1 → va_D A (ws.set q0 (a, .inr (ci, fs.set k v))) → va_S A H0 H1 locs1 → W p l e R s m args below meth c H1 locs1 cells slots Q (F0 m (pc + 3) ls rest)) : W p l e R s m args below meth c H locs cells slots Q (F0 m pc ls (v :: .ref a :: rest)) :=
  va_put (D := D) (cl := vwCl) hC.1 hC.2.1 (hW.lay args hin) (fun _ h => h) ty0 hty hnm hC.2.2.2.1 hK hP hD hS q0 he hcl k hk (hW.use args hlink rfl) (fun _ h => by rw [hd] at h; exact h) hfin (hty k hk) hn hfit hl hdg kk
theorem k_obj (hC : ZC p m meth c s own cc nL) (hW : zW s) {idx : Nat} (hlink : Cond.methodLink own idx objectInit ∈ lw_tbl) (hsz : ls.size = nL) {a : Nat} (hdg : decode cc pc = .ok (.invokespecial idx, 3)) (hf : 1 ≤ R.frames) (hlo : (rest.map fun v => v.category).sum + 12 ≤ R.locals)
    (kk : W p l e R s m args below meth c H locs cells slots Q (F0 m (pc + 3) ls rest)) : W p l e R s m args below meth c H locs cells slots Q (F0 m pc ls (.ref a :: rest)) :=
  W.objInit hC.1 hC.2.1 hC.2.2.2.1 (hW.use args hlink rfl) (hW.use args zi_obj rfl) (hW.use args zc_obj rfl) rfl (by rw [hC.2.2.1]; exact hsz) rfl hdg hf (by show 2 * 0 + _ + 12 ≤ _; omega) kk
/-- new int[5][4]: the outer row and five inner ones, just behind the heap -/
theorem k_newII (hC : ZC p m meth c s own cc nL) (hK : KU D ca s) (hP : va_P D vwCl ws H) (hD : va_D A ws) (hS : va_S A H0 H locs) (hA : ∀ q, H0.size ≤ q → A q) {index : Nat} (hlink : Cond.classLink own index ("[" ++ (FieldType.array .int).toString) ∈ lw_tbl) (hc : cells + 6 ≤ R.cells) (hs : slots + 25 ≤ R.slots) (hdg : decode cc pc = .ok (.multianewarray index 2, 4))
    (kk : ∀ (q q0 q1 q2 q3 q4 : Nat) (f : Nat → Option Nat) (H1 : Heap), f 0 = some q0 → f 1 = some q1 → f 2 = some q2 → f 3 = some q3 → f 4 = some q4 → va_P D vwCl (ws ++ [(q, .inl (ca 4, 5, .inr (.inr (.inr (.inr f))))), (q0, .inl (ca 0, 4, .inl (fun _ => 0))), (q1, .inl (ca 0, 4, .inl (fun _ => 0))), (q2, .inl (ca 0, 4, .inl (fun _ => 0))), (q3, .inl (ca 0, 4, .inl (fun _ => 0))), (q4, .inl (ca 0, 4, .inl (fun _ => 0)))]) H1 → va_D A (ws ++ [(q, .inl (ca 4, 5, .inr (.inr (.inr (.inr f))))), (q0, .inl (ca 0, 4, .inl (fun _ => 0))), (q1, .inl (ca 0, 4, .inl (fun _ => 0))), (q2, .inl (ca 0, 4, .inl (fun _ => 0))), (q3, .inl (ca 0, 4, .inl (fun _ => 0))), (q4, .inl (ca 0, 4, .inl (fun _ => 0)))]) → va_S A H0 H1 locs → W p l e R s m args below meth c H1 locs (cells + 6) (slots + 25) Q (F0 m (pc + 4) ls (.ref q :: rest))) : W p l e R s m args below meth c H locs cells slots Q (F0 m pc ls (.int 4 :: .int 5 :: rest)) := by
  intro T hT Xs
  obtain ⟨vm₁, cA, comp, -, fA, fC, hO, -, X', step⟩ := Xs.multianewarray2F hC.1 hC.2.2.2.1 (hK.2.1.use args hlink rfl) (ty := .int) hK.2.2.2.2 (hK.2.1.use args ka_int rfl) (g := F0 m pc ls (.int 4 :: .int 5 :: rest)) rfl (by rw [hC.2.1]; exact hdg) rfl (by decide) (by decide) (by decide) (by decide) (by decide) (by decide) (by decide) hc hs
  have e0 : cA = ca 4 := k_ra hK.1 rfl (k_II hK.1) fA
  have e1 : comp = ca 0 := k_ra hK.1 rfl (k_I hK.1) fC
  subst e0
  subst e1
  rw [show (5 : Int32).toNatClampNeg = 5 from rfl, show (4 : Int32).toNatClampNeg = 4 from rfl] at X' step
  generalize hF : Jvm.Free.Multi.fill (T.setVm vm₁) (ca 4) (ca 0) 5 4 (defaultValue .int) 5 = F at X' step
  have hTh : (T.setVm vm₁).heap = H := hT
  obtain ⟨f1, f2, -, -⟩ := Jvm.Free.Multi.fill_facts (T.setVm vm₁) (ca 4) (ca 0) 5 4 (defaultValue .int) 5
  rw [hF, hTh] at f1 f2
  have hold : ∀ x : Nat, x < H.size → F.heap[x]? = H[x]? := fun x hx => by
    have := Jvm.Free.Multi.fill_old (T.setVm vm₁) (ca 4) (ca 0) 5 4 (defaultValue .int) (a := x) (by rw [hTh]; exact hx) 5
    rw [hF, hTh] at this
    exact this
  have hrow : ∀ j : Nat, j < 5 → F.heap[H.size + 1 + j]? = some (vp_cell (ca 0) (4, .inl (fun _ => 0))) := fun j hj => by
    have := Jvm.Free.Multi.fill_inner (T.setVm vm₁) (ca 4) (ca 0) 5 4 (defaultValue .int) 5 j hj
    rw [hF, hTh] at this
    rw [this, vp_cell_i, ← arrV_new]
    rfl
  have hout : Jvm.Free.Multi.outerC (ca 4) 5 H.size 5 = vp_cell (ca 4) (5, .inr (.inr (.inr (.inr (fun j => some (H.size + 1 + j)))))) := by
    rw [vp_cell_q]
    unfold Jvm.Free.Multi.outerC Jvm.Free.Multi.outerC Jvm.Free.Multi.outerC Jvm.Free.Multi.outerC Jvm.Free.Multi.outerC Jvm.Free.Multi.outerC
    rw [arrV_new, arrV_store, arrV_store, arrV_store, arrV_store, arrV_store]
    unfold arrV
    congr 1
  rw [hout] at f2
  have hlt : ∀ (k : Nat) (q : Nat × va_E), ws[k]? = some q → q.1 < H.size := fun k q hk => (hP k q hk).lt
  have hPw : va_P D vwCl ws F.heap := hP.kept (fun k q hk => hold _ (hlt k q hk))
  have hnew : va_P D vwCl [(H.size, .inl (ca 4, 5, .inr (.inr (.inr (.inr (fun j => some (H.size + 1 + j))))))), (H.size + 1 + 0, .inl (ca 0, 4, .inl (fun _ => 0))), (H.size + 1 + 1, .inl (ca 0, 4, .inl (fun _ => 0))), (H.size + 1 + 2, .inl (ca 0, 4, .inl (fun _ => 0))), (H.size + 1 + 3, .inl (ca 0, 4, .inl (fun _ => 0))), (H.size + 1 + 4, .inl (ca 0, 4, .inl (fun _ => 0)))] F.heap := by
    intro k q hk
    match k, hk with
    | 0, hk => cases hk; exact f2
    | 1, hk => cases hk; exact hrow 0 (by decide)
    | 2, hk => cases hk; exact hrow 1 (by decide)
    | 3, hk => cases hk; exact hrow 2 (by decide)
    | 4, hk => cases hk; exact hrow 3 (by decide)
    | 5, hk => cases hk; exact hrow 4 (by decide)
    | k + 6, hk => simp at hk
  have hDn : va_D A [(H.size, (.inl (ca 4, 5, .inr (.inr (.inr (.inr (fun j => some (H.size + 1 + j)))))) : va_E)), (H.size + 1 + 0, .inl (ca 0, 4, .inl (fun _ => 0))), (H.size + 1 + 1, .inl (ca 0, 4, .inl (fun _ => 0))), (H.size + 1 + 2, .inl (ca 0, 4, .inl (fun _ => 0))), (H.size + 1 + 3, .inl (ca 0, 4, .inl (fun _ => 0))), (H.size + 1 + 4, .inl (ca 0, 4, .inl (fun _ => 0)))] := by
    have key : ∀ (k : Nat) (q : Nat × va_E), ([(H.size, (.inl (ca 4, 5, .inr (.inr (.inr (.inr (fun j => some (H.size + 1 + j)))))) : va_E)), (H.size + 1 + 0, .inl (ca 0, 4, .inl (fun _ => 0))), (H.size + 1 + 1, .inl (ca 0, 4, .inl (fun _ => 0))), (H.size + 1 + 2, .inl (ca 0, 4, .inl (fun _ => 0))), (H.size + 1 + 3, .inl (ca 0, 4, .inl (fun _ => 0))), (H.size + 1 + 4, .inl (ca 0, 4, .inl (fun _ => 0)))] : va_W)[k]? = some q → q.1 = H.size + k := by
      intro k q hk
      match k, hk with
      | 0, hk => cases hk; rfl
      | 1, hk => cases hk; rfl
      | 2, hk => cases hk; rfl
      | 3, hk => cases hk; rfl
      | 4, hk => cases hk; rfl
      | 5, hk => cases hk; rfl
      | k + 6, hk => simp at hk
    refine ⟨fun i j a b h1 h2 hq => ?_, fun k q hk => ?_⟩
    · rw [key i a h1, key j b h2] at hq
      omega
    · rw [key k q hk]
      exact hA _ (Nat.le_trans hS.1 (Nat.le_add_right _ _))
  have hDall := hD.app hDn (fun i j a b h1 h2 => by
    have h3 := hlt i a h1
    have h4 : H.size ≤ b.1 := by
      match j, h2 with
      | 0, h2 => cases h2; exact Nat.le_refl _
      | 1, h2 => cases h2; show H.size ≤ H.size + 1 + 0; omega
      | 2, h2 => cases h2; show H.size ≤ H.size + 1 + 1; omega
      | 3, h2 => cases h2; show H.size ≤ H.size + 1 + 2; omega
      | 4, h2 => cases h2; show H.size ≤ H.size + 1 + 3; omega
      | 5, h2 => cases h2; show H.size ≤ H.size + 1 + 4; omega
      | j + 6, h2 => simp at h2
    omega)
  have hS1 : va_S A H0 F.heap locs := ⟨by rw [f1]; exact Nat.le_trans hS.1 (by omega), fun q g1 g2 => by rw [hold q (Nat.lt_of_lt_of_le g1 hS.1)]; exact hS.2.1 q g1 g2, hS.2.2⟩
  obtain ⟨t, a1, b1⟩ := kk H.size (H.size + 1 + 0) (H.size + 1 + 1) (H.size + 1 + 2) (H.size + 1 + 3) (H.size + 1 + 4) (fun j => some (H.size + 1 + j)) F.heap rfl rfl rfl rfl rfl (hPw.app hnew) hDall hS1 F rfl X'
  exact ⟨t, step t (by rw [show T.heap.size = H.size by rw [hT]]; exact a1), b1⟩
theorem k_free {b : Nat} {q0 : Nat} {e0 : va_E} (hD : va_D A ws) (hS : va_S A H0 H locs) (hA : ∀ q, H0.size ≤ q → A q) (he : ws[q0]? = some (b, e0)) : ∀ q, (q = b ∨ H.size ≤ q) → A q := fun q h => h.elim (fun h => by rw [h]; exact hD.2 q0 _ he) (fun h => hA q (Nat.le_trans hS.1 h))
theorem k_join {b q0 : Nat} {e0 : va_E} {H1 : Heap} {wr w1 : va_W} (hP : va_P D vwCl ws H) (hD : va_D A ws) (hS : va_S A H0 H locs) (hA : ∀ q, H0.size ≤ q → A q) (he : ws[q0]? = some (b, e0)) (isR : List Nat) (hR : isR.map (fun i => ws[i]?) = wr.map some) (hn : va_nd isR = true) (hdis : q0 ∉ isR) (hk : ∀ q : Nat, q < H.size → q ≠ b → H1[q]? = H[q]?) (hP1 : va_P D vwCl w1 H1) (hD1 : va_D (fun q => q = b ∨ H.size ≤ q) w1) : va_P D vwCl (wr ++ w1) H1 ∧ va_D A (wr ++ w1) := by
  have hin : ∀ (k : Nat) (q : Nat × va_E), wr[k]? = some q → q.1 ≠ b ∧ q.1 < H.size ∧ va_at D vwCl q H := by
    intro k q hq
    obtain ⟨i, hi, hw⟩ := va_in_of isR hR hq
    refine ⟨fun e => ?_, (hP i q hw).lt, hP i q hw⟩
    have h1 := hD.1 i q0 q _ hw he e
    subst h1
    exact hdis (List.mem_of_getElem? hi)
  have hPr : va_P D vwCl wr H1 := fun k q hq => (hin k q hq).2.2.kept (hk _ (hin k q hq).2.1 (hin k q hq).1)
  refine ⟨hPr.app hP1, (hD.sub isR hn hR).app (hD1.weaken (fun k q _ h => k_free hD hS hA he _ h)) (fun i j p q h1 h2 e => ?_)⟩
  rcases hD1.2 j q h2 with h | h
  · exact (hin i p h1).1 (e.trans h)
  · have := (hin i p h1).2.1
    omega
theorem k_run {free : Addr → Prop} {a : Array Value} {b q0 mc ms : Nat} {e0 : va_E} {PH : Heap → Prop} (hD : va_D A ws) (hS : va_S A H0 H locs) (hA : ∀ q, H0.size ≤ q → A q) (he : ws[q0]? = some (b, e0)) (hf : ∀ q, free q → q = b ∨ H.size ≤ q) (hr : va_Run p l e R s m args below meth c H locs cells slots mc ms (F0 m pc ls st0) rest (KQ PH b H.size a) free)
    (kk : ∀ (H1 : Heap) (locs1 : List Loc), PH H1 → H.size ≤ H1.size → (∀ q : Nat, q < H.size → q ≠ b → H1[q]? = H[q]?) → va_S A H0 H1 locs1 → W p l e R s m args below meth c H1 locs1 (cells + mc) (slots + ms) Q (F0 m (pc + 3) ls rest)) : W p l e R s m args below meth c H locs cells slots Q (F0 m pc ls st0) := by
  intro T hT X
  obtain ⟨v, st₀, t, T', L, h0, X', hL, e1, e2, ⟨hv, hp, hz, hk⟩, st⟩ := hr T hT X
  cases hv
  rw [h0] at hz hk
  have hfr := k_free hD hS hA he
  have hk2 : ∀ q : Nat, q < H.size → q ≠ b → T'.heap[q]? = H[q]? := fun q h1 h2 => by
    rw [e1]
    exact hk q h1 (fun h => h.elim h2 (fun h => absurd h (Nat.not_le.mpr h1)))
  obtain ⟨t2, a1, b1⟩ := kk T'.heap (locs ++ L) (by rw [e1]; exact hp) (by rw [e1]; exact hz) hk2 ⟨Nat.le_trans hS.1 (by rw [e1]; exact hz), fun q h1 h2 => by rw [hk2 q (Nat.lt_of_lt_of_le h1 hS.1) (fun h => h2 (hfr q (Or.inl h)))]; exact hS.2.1 q h1 h2, fun q hq => by
      rcases List.mem_append.mp hq with h | h
      · exact hS.2.2 q h
      · exact hfr _ (hf _ (hL q h))⟩ T' rfl X'
  exact ⟨t2, st t2 a1, b1⟩
theorem k_pre {y : MethodName} {bytes : ByteArray} {maxL : Nat} (hW : zW s) (hcode : Cond.code y bytes maxL none ∈ lw_tbl) : ∀ w ∈ [Cond.code y bytes maxL none], ∀ (a' : Array Value) (U : State), s.WarmedH U.vm → w.before a' U = true := by
  intro w hw a' U hWU
  rw [List.mem_singleton.mp hw]
  exact word_at (args := #[]) hWU (good_of_word rfl) (hW _ hcode rfl)
/-- a call of a constructor -/
theorem k_callI {y : MethodName} {bytes : ByteArray} {maxL index na mc ms b q0 : Nat} {rm : Room} {As : List Value} {e0 : va_E} {PH : Heap → Prop} (hC : ZC p m meth c s own cc nL) (hK : KU D ca s) (hP : va_P D vwCl ws H) (hD : va_D A ws) (hS : va_S A H0 H locs) (hA : ∀ q, H0.size ≤ q → A q) (he : ws[q0]? = some (b, e0))
    (hM : KMet l y bytes maxL rm mc ms D ca b H.size e0 (.ref b :: As) PH) (hlink : Cond.methodLink own index y ∈ lw_tbl) (hcode : Cond.code y bytes maxL none ∈ lw_tbl) (hin : Cond.instanceMethod y ∈ lw_tbl) (hini : Cond.initialized y.cls ∈ lw_tbl) (hy : y.name = "<init>") (hy2 : y.cls ≠ "java/lang/invoke/MethodHandle" ∧ y.cls ≠ "java/lang/invoke/VarHandle") (hl : (parseMethodDescriptor y.desc).map (fun d => d.parameters.length) = some na) (hn : As.length = na) (hrm : rm.cells = mc ∧ rm.slots = ms) (hR : rm.frames + 1 ≤ R.frames ∧ 8 + (maxL + 11) + rm.locals ≤ R.locals) (hsize : ls.size = nL) (hst : st0 = As.reverse ++ .ref b :: rest) (hrest : (rest.map fun v => v.category).sum ≤ 8) (hdg : decode cc pc = .ok (.invokespecial index, 3)) (hf : cells + mc ≤ R.cells ∧ slots + ms ≤ R.slots)
    (kk : ∀ (H1 : Heap) (locs1 : List Loc), PH H1 → H.size ≤ H1.size → (∀ q : Nat, q < H.size → q ≠ b → H1[q]? = H[q]?) → va_S A H0 H1 locs1 → W p l e R s m args below meth c H1 locs1 (cells + mc) (slots + ms) Q (F0 m (pc + 3) ls rest)) : W p l e R s m args below meth c H locs cells slots Q (F0 m pc ls st0) := by
  have hW := hK.2.1
  refine k_run hD hS hA he (fun _ h => h) (va_runI (g := F0 m pc ls st0) (As := As) (rest := rest) (n := na) (bytes := bytes) (maxL := maxL) (hC.fix args) hM ⟨⟨hrm.1, hrm.2, hR.1, hR.2, k_pre hW hcode, List.mem_cons_self, hW.use args hcode rfl, hW.use args hini rfl, hy2, z_lens hl, hW.use args hlink rfl⟩, hy, hW.use args hin rfl⟩ ⟨KPre_blind, fun U hU hWU => ⟨rfl, by rw [hU], by rw [hU]; exact hP q0 _ he, (hP q0 _ he).lt, hK.moved hWU⟩⟩ rfl hn hsize hst (lv_room hrest) hdg hf) kk
/-- .. of a nest mate's private one -/
theorem k_callN {y : MethodName} {host : String} {bytes : ByteArray} {maxL index na mc ms b q0 : Nat} {rm : Room} {As : List Value} {e0 : va_E} {PH : Heap → Prop} (hC : ZC p m meth c s own cc nL) (hK : KU D ca s) (hP : va_P D vwCl ws H) (hD : va_D A ws) (hS : va_S A H0 H locs) (hA : ∀ q, H0.size ≤ q → A q) (he : ws[q0]? = some (b, e0))
    (hM : KMet l y bytes maxL rm mc ms D ca b H.size e0 (.ref b :: As) PH) (hlink : Cond.methodLinkNest own index y host ∈ lw_tbl) (hcode : Cond.code y bytes maxL none ∈ lw_tbl) (hin : Cond.instanceMethod y ∈ lw_tbl) (hini : Cond.initialized y.cls ∈ lw_tbl) (hy : y.name = "<init>") (hy2 : y.cls ≠ "java/lang/invoke/MethodHandle" ∧ y.cls ≠ "java/lang/invoke/VarHandle") (hl : (parseMethodDescriptor y.desc).map (fun d => d.parameters.length) = some na) (hn : As.length = na) (hrm : rm.cells = mc ∧ rm.slots = ms) (hR : rm.frames + 1 ≤ R.frames ∧ 8 + (maxL + 11) + rm.locals ≤ R.locals) (hsize : ls.size = nL) (hst : st0 = As.reverse ++ .ref b :: rest) (hrest : (rest.map fun v => v.category).sum ≤ 8) (hdg : decode cc pc = .ok (.invokespecial index, 3)) (hf : cells + mc ≤ R.cells ∧ slots + ms ≤ R.slots)
    (kk : ∀ (H1 : Heap) (locs1 : List Loc), PH H1 → H.size ≤ H1.size → (∀ q : Nat, q < H.size → q ≠ b → H1[q]? = H[q]?) → va_S A H0 H1 locs1 → W p l e R s m args below meth c H1 locs1 (cells + mc) (slots + ms) Q (F0 m (pc + 3) ls rest)) : W p l e R s m args below meth c H locs cells slots Q (F0 m pc ls st0) := by
  have hW := hK.2.1
  have hcw := va_cnB (R := R) (s := s) (args := args) (own := own) (host := host) (index := index) (Ts := [Cond.code y bytes maxL none]) (ws := [Cond.code y bytes maxL none]) (ws' := []) (rm := rm) (mc := mc) (ms := ms) na (fun w hw => by rw [List.mem_singleton.mp hw]; exact hW.use args hcode rfl) (fun w hw => ⟨hw, by rw [List.mem_singleton.mp hw]; exact good_of_word rfl⟩) rfl hrm.1 hrm.2 (hW.useN hlink (by unfold zgood; cases goodWord (Cond.methodLinkNest own index y host) <;> rfl)) (hW.use args hini rfl) ⟨hy2.1, hy2.2, hl⟩ hR
  refine k_run hD hS hA he (fun _ h => h) (va_runIN (g := F0 m pc ls st0) (As := As) (rest := rest) (n := na) (bytes := bytes) (maxL := maxL) (hC.fix args) hM ⟨hcw, hy, hW.use args hin rfl⟩ ⟨KPre_blind, fun U hU hWU => ⟨rfl, by rw [hU], by rw [hU]; exact hP q0 _ he, (hP q0 _ he).lt, hK.moved hWU⟩⟩ rfl hn hsize hst (lv_room hrest) hdg hf) kk
end KROWS
