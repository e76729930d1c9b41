/-! THE LAW'S WRAPPERS: rows. A wrapper answers a code k; the world may have grown (scene, permit). -/
def ZWMet (l : Launch) (y : MethodName) (cc : ByteArray) (ml : Nat) (hh : List (Nat × Nat × Nat × Nat)) (rm : Room) (mc ms : Nat) (D : va_G) (ca : Nat → ClassId) (base : Nat) (ad : Nat → Nat → Nat) (n np : Nat) (av : List Value) (μ : Mem) (post : Int32 → Nat → Nat → Mem → Prop) : Prop :=
  vx_Met l y [Cond.codeWith y cc ml (some FieldType.int) hh] rm (va_Pc av (ZU D ca base ad n np μ)) (ZQN D ca base ad post) (ZX D ca base ad n np (fun _ _ => False)) mc ms (zB base)
def zYW (y : MethodName) (bytes : ByteArray) (maxL : Nat) (hh : List (Nat × Nat × Nat × Nat)) (na : Nat) : Prop :=
  Cond.static y ∈ lw_tbl ∧ Cond.initialized y.cls ∈ lw_tbl ∧ Cond.codeWith y bytes maxL (some FieldType.int) hh ∈ lw_tbl ∧ (y.cls ≠ "java/lang/invoke/MethodHandle" ∧ y.cls ≠ "java/lang/invoke/VarHandle") ∧ (parseMethodDescriptor y.desc).map (fun d => d.parameters.length) = some na
def ZVMet (l : Launch) (y : MethodName) (cc : ByteArray) (ml : Nat) (hh : List (Nat × Nat × Nat × Nat)) (rm : Room) (mc ms : Nat) (D : va_G) (ca : Nat → ClassId) (base : Nat) (ad : Nat → Nat → Nat) (n np : Nat) (av : List Value) (μ : Mem) (post : Int32 → Mem → Prop) : Prop :=
  vx_Met l y [Cond.codeWith y cc ml (some FieldType.int) hh] rm (va_Pc av (ZU D ca base ad n np μ)) (ZQ D ca base ad n np (zpi post)) (ZX D ca base ad n np (fun _ _ => False)) mc ms (zB base)
def ZGMet (l : Launch) (y : MethodName) (cc : ByteArray) (ml : Nat) (ret : Option FieldType) (rm : Room) (mc ms : Nat) (D : va_G) (ca : Nat → ClassId) (base : Nat) (ad : Nat → Nat → Nat) (n np : Nat) (av : List Value) (μ : Mem) (post : Int32 → Nat → Nat → Mem → Prop) : Prop :=
  Met l y [Cond.code y cc ml ret] rm (va_Pc av (ZU D ca base ad n np μ)) (ZQN D ca base ad post) mc ms (zB base)
theorem kcast_16 : Cond.castable "java/lang/IllegalArgumentException" "java/lang/IllegalArgumentException" ∈ lw_tbl := tin2 _ (List.mem_of_getElem? (i := 79) (by decide +kernel))
theorem kcast_19 : Cond.castable "java/lang/IllegalStateException" "java/lang/IllegalStateException" ∈ lw_tbl := tin1 _ (List.mem_of_getElem? (i := 217) (by decide +kernel))
theorem kcast_26 : Cond.castable "java/lang/IndexOutOfBoundsException" "java/lang/IndexOutOfBoundsException" ∈ lw_tbl := tin2 _ (List.mem_of_getElem? (i := 108) (by decide +kernel))
section ZWRAP
variable {p : Program} {l : Launch} {e : Env} {R : Room} {s : State} {m : MethodId} {args : Array Value} {below : List Frame} {meth : Method} {c : Code} {H : Heap} {locs : List Loc} {cells slots : Nat} {Q : State → Prop}
variable {cc : ByteArray} {pc : Nat} {ls : Array Slot} {rest st0 : List Value} {own : String} {nL : Nat}
variable {D : va_G} {ca : Nat → ClassId} {base : Nat} {ad : Nat → Nat → Nat} {n np : Nat} {μ : Mem}
variable {y : MethodName} {C : String} {bytes : ByteArray} {maxL mc ms index na : Nat} {ret : Option FieldType} {rm : Room} {post : Option Value → Mem → Prop} {xp : String → Mem → Prop} {As : List Value}
theorem z_runN {free : Addr → Prop} {a : Array Value} {P : Int32 → Nat → Nat → Mem → Prop} (hZ : ZS D ca base ad n np μ s H locs) (hf : ∀ q, free q → zB base q) (hr : vx_Run p l e R s m args below meth c H locs cells slots mc ms (F0 m pc ls st0) rest (ZQN D ca base ad P a) (ZX D ca base ad n np xp) free)
    (kx : ∀ (E : String) (ce : Cell) (q9 : Addr) (u : Mem) (H1 : Heap) (locs1 : List Loc), xp E u → ZS D ca base ad n np u s H1 locs1 → H1[q9]? = some ce → ce.vm = .none → s.vm.findClass E = some ce.cls → vx_W p l e R s m args below meth c H1 locs1 (cells + mc) (slots + ms) Q (F0 m pc ls rest) q9)
    (kk : ∀ (r : Int32) (n2 np2 : Nat) (ad2 : Nat → Nat → Nat) (u : Mem) (H1 : Heap) (locs1 : List Loc), P r n2 np2 u → zagr ad ad2 → ZS D ca base ad2 n2 np2 u s H1 locs1 → W p l e R s m args below meth c H1 locs1 (cells + mc) (slots + ms) Q (F0 m (pc + 3) ls (.int r :: rest))) : W p l e R s m args below meth c H locs cells slots Q (F0 m pc ls st0) := by
  intro T hT X
  rcases hr T hT X with ⟨v, st₀, t, T', L, h0, X', hL, e1, e2, ⟨⟨r, n2, np2, ad2, u, hv, hp, hag, hb⟩, hF⟩, st⟩ | ⟨q, st₀, t, T', L, E, ce, h0, X', hL, e1, e2, ⟨⟨u, hx, hb⟩, hF⟩, hce, hcv, hcl, st⟩
  · cases hv
    obtain ⟨t2, a1, b1⟩ := kk r n2 np2 ad2 u T'.heap (locs ++ L) hp hag (z_after hZ h0 e1 hb hF (fun q hq => hf _ (hL q hq))) T' rfl X'
    exact ⟨t2, st t2 a1, b1⟩
  · obtain ⟨t2, a1, b1⟩ := kx E ce q u T'.heap (locs ++ L) hx (z_after hZ h0 e1 hb hF (fun q hq => hf _ (hL q hq))) (by rw [e1]; exact hce) hcv hcl T' rfl X'
    exact ⟨t2, st.trans a1, b1⟩
theorem z_callVN {P : Int32 → Nat → Nat → Mem → Prop} (hC : ZC p m meth c s own cc nL) (hZ : ZS D ca base ad n np μ s H locs) {f i ci N : Nat} {fs : List Value} {T : u_T} (he : zF ad ca n np f i (μ f i) = some (.inr (ci, fs))) (hcl : vwCl[ci]? = some (C, T, N)) (hY : zYV y C bytes maxL ret na)
    (hM : ZNMet l y bytes maxL ret rm mc ms D ca base ad n np (.ref (ad f i) :: As) μ P xp) (hlink : Cond.methodLink own index y ∈ lw_tbl) (hn : As.length = na) (hrm : rm.cells = mc ∧ rm.slots = ms) (hR : rm.frames + 1 ≤ R.frames ∧ 8 + (maxL + 11) + rm.locals ≤ R.locals) (hsize : ls.size = nL) (hst : st0 = As.reverse ++ .ref (ad f i) :: rest) (hrest : (rest.map fun v => v.category).sum ≤ 8) (hdg : decode cc pc = .ok (.invokevirtual index, 3)) (hf : cells + mc ≤ R.cells ∧ slots + ms ≤ R.slots)
    (kx : ∀ (E : String) (ce : Cell) (q9 : Addr) (u : Mem) (H1 : Heap) (locs1 : List Loc), xp E u → ZS D ca base ad n np u s H1 locs1 → H1[q9]? = some ce → ce.vm = .none → s.vm.findClass E = some ce.cls → vx_W p l e R s m args below meth c H1 locs1 (cells + mc) (slots + ms) Q (F0 m pc ls rest) q9)
    (kk : ∀ (r : Int32) (n2 np2 : Nat) (ad2 : Nat → Nat → Nat) (u : Mem) (H1 : Heap) (locs1 : List Loc), P r n2 np2 u → zagr ad ad2 → ZS D ca base ad2 n2 np2 u s H1 locs1 → W p l e R s m args below meth c H1 locs1 (cells + mc) (slots + ms) Q (F0 m (pc + 3) ls (.int r :: rest))) : W p l e R s m args below meth c H locs cells slots Q (F0 m pc ls st0) := by
  obtain ⟨y1, y2, y3, y4, y5, y6, y7⟩ := hY
  have hW := hZ.1.2.1
  refine z_runN hZ (fun _ h => h) (vx_runV (g := F0 m pc ls st0) (As := As) (rest := rest) (hC.fix args) hM ⟨zCallB hW y4 (by rw [y5]; exact y3) y6 y7 hlink hrm hR, hW.use args y1 rfl, hW.use args y2 rfl⟩ ⟨ZU_blind, z_recv hZ he hcl, fun U hU hWU => ⟨rfl, hZ.toU hU hWU⟩⟩ rfl hn hsize hst (lv_room hrest) hdg hf) kx kk
/-- the law calls a wrapper -/
theorem z_callW {hh : List (Nat × Nat × Nat × Nat)} {P : Int32 → Nat → Nat → Mem → Prop} (hC : ZC p m meth c s own cc nL) (hZ : ZS D ca base ad n np μ s H locs) (hY : zYW y bytes maxL hh na)
    (hM : ZWMet l y bytes maxL hh rm mc ms D ca base ad n np As μ P) (hlink : Cond.methodLink own index y ∈ lw_tbl) (hn : As.length = na) (hrm : rm.cells = mc ∧ rm.slots = ms) (hR : rm.frames + 1 ≤ R.frames ∧ 8 + (maxL + 11) + rm.locals ≤ R.locals) (hsize : ls.size = nL) (hst : st0 = As.reverse ++ rest) (hrest : (rest.map fun v => v.category).sum ≤ 8) (hdg : decode cc pc = .ok (.invokestatic index, 3)) (hf : cells + mc ≤ R.cells ∧ slots + ms ≤ R.slots)
    (kk : ∀ (r : Int32) (n2 np2 : Nat) (ad2 : Nat → Nat → Nat) (u : Mem) (H1 : Heap) (locs1 : List Loc), P r n2 np2 u → zagr ad ad2 → ZS D ca base ad2 n2 np2 u s H1 locs1 → W p l e R s m args below meth c H1 locs1 (cells + mc) (slots + ms) Q (F0 m (pc + 3) ls (.int r :: rest))) : W p l e R s m args below meth c H locs cells slots Q (F0 m pc ls st0) := by
  obtain ⟨y1, y2, y3, y4, y5⟩ := hY
  have hW := hZ.1.2.1
  refine z_runN hZ (fun _ h => h) (vx_runSX (g := F0 m pc ls st0) (As := As) (rest := rest) (hC.fix args) hM ⟨⟨hrm.1, hrm.2, hR.1, hR.2, fun w hw a' U hWU => ?_, List.mem_cons_self⟩, hW.use args y3 rfl, hW.use args y2 rfl, y4, z_lens y5, hW.use args hlink rfl, hW.use args y1 rfl⟩ ⟨ZU_blind, fun U hU hWU => ⟨rfl, hZ.toU hU hWU⟩⟩ rfl hn hsize hst (lv_room hrest) hdg hf) (fun E ce q9 u H1 locs1 h => h.elim) kk
  rw [List.mem_singleton.mp hw]
  exact word_at (args := args) hWU (good_of_word rfl) (hW.use args y3 rfl)
/-- a handler takes it -/
theorem z_catch {E : String} {ce : Cell} {q : Addr} (hC : ZC p m meth c s own cc nL) (hZ : ZS D ca base ad n np μ s H locs) (pre : List ExceptionTableEntry) (x : ExceptionTableEntry) (suf : List ExceptionTableEntry) (hsplit : c.exceptionTable.toList = pre ++ x :: suf)
    (hpass : ∀ z ∈ pre, z.catchType ≠ 0 ∧ ∃ nm : String, Cond.classLink own z.catchType nm ∈ lw_tbl ∧ (E, nm) ∈ zNcs) (hx : covers x pc = true) (h0 : x.catchType ≠ 0)
    (hlink : Cond.classLink own x.catchType E ∈ lw_tbl) (hcast : Cond.castable E E ∈ lw_tbl) (hcell : H[q]? = some ce) (hv : ce.vm = .none) (hcl : s.vm.findClass E = some ce.cls)
    (kk : W p l e R s m args below meth c H locs cells slots Q (F0 m x.handlerPc ls [.ref q])) : vx_W p l e R s m args below meth c H locs cells slots Q (F0 m pc ls rest) q :=
  vx_catch (own := own) (name := E) hC.2.2.2.1 pre x suf hsplit (fun z hz => Or.inr ⟨(hpass z hz).1, (hpass z hz).2.imp fun nm h => ⟨hZ.1.2.1.use args h.1 rfl, hZ.1.2.2.2.2.2.2.1 (E, nm) h.2⟩⟩) hx h0 (hZ.1.2.1.use args hlink rfl) (hZ.1.2.1 _ hcast rfl) hcell hv hcl kk
/-- a wrapper that makes nothing: the world stays as large as it was -/
theorem z_cWi {hh : List (Nat × Nat × Nat × Nat)} {P : Int32 → Mem → Prop} (hC : ZC p m meth c s own cc nL) (hZ : ZS D ca base ad n np μ s H locs) (hY : zYW y bytes maxL hh na)
    (hM : ZVMet l y bytes maxL hh rm mc ms D ca base ad n np As μ P) (hlink : Cond.methodLink own index y ∈ lw_tbl) (hn : As.length = na) (hrm : rm.cells = mc ∧ rm.slots = ms) (hR : rm.frames + 1 ≤ R.frames ∧ 8 + (maxL + 11) + rm.locals ≤ R.locals) (hsize : ls.size = nL) (hst : st0 = As.reverse ++ rest) (hrest : (rest.map fun v => v.category).sum ≤ 8) (hdg : decode cc pc = .ok (.invokestatic index, 3)) (hf : cells + mc ≤ R.cells ∧ slots + ms ≤ R.slots)
    (kk : ∀ (r : Int32) (u : Mem) (H1 : Heap) (locs1 : List Loc), P r u → ZS D ca base ad n np u s H1 locs1 → W p l e R s m args below meth c H1 locs1 (cells + mc) (slots + ms) Q (F0 m (pc + 3) ls (.int r :: rest))) : W p l e R s m args below meth c H locs cells slots Q (F0 m pc ls st0) := by
  obtain ⟨y1, y2, y3, y4, y5⟩ := hY
  have hW := hZ.1.2.1
  refine z_runX hZ (fun _ h => h) (vx_runSX (g := F0 m pc ls st0) (As := As) (rest := rest) (hC.fix args) hM ⟨⟨hrm.1, hrm.2, hR.1, hR.2, fun w hw a' U hWU => ?_, List.mem_cons_self⟩, hW.use args y3 rfl, hW.use args y2 rfl, y4, z_lens y5, hW.use args hlink rfl, hW.use args y1 rfl⟩ ⟨ZU_blind, fun U hU hWU => ⟨rfl, hZ.toU hU hWU⟩⟩ rfl hn hsize hst (lv_room hrest) hdg hf) (fun E ce q9 u H1 locs1 h => h.elim) (fun v u H1 locs1 hv h => ?_)
  · rw [List.mem_singleton.mp hw]
    exact word_at (args := args) hWU (good_of_word rfl) (hW.use args y3 rfl)
  · obtain ⟨r, rfl, hp⟩ := hv
    exact kk r u H1 locs1 hp h
/-- a method of the law that may make things -/
theorem z_runG {free : Addr → Prop} {a : Array Value} {P : Int32 → Nat → Nat → Mem → Prop} (hZ : ZS D ca base ad n np μ s H locs) (hf : ∀ q, free q → zB base q) (hr : va_Run p l e R s m args below meth c H locs cells slots mc ms (F0 m pc ls st0) rest (ZQN D ca base ad P a) free)
    (kk : ∀ (r : Int32) (n2 np2 : Nat) (ad2 : Nat → Nat → Nat) (u : Mem) (H1 : Heap) (locs1 : List Loc), P r n2 np2 u → zagr ad ad2 → ZS D ca base ad2 n2 np2 u s H1 locs1 → W p l e R s m args below meth c H1 locs1 (cells + mc) (slots + ms) Q (F0 m (pc + 3) ls (.int r :: rest))) : W p l e R s m args below meth c H locs cells slots Q (F0 m pc ls st0) := by
  intro T hT X
  obtain ⟨v, st₀, t, T', L, h0, X', hL, e1, e2, ⟨⟨r, n2, np2, ad2, u, hv, hp, hag, hb⟩, hF⟩, st⟩ := hr T hT X
  cases hv
  obtain ⟨t2, a1, b1⟩ := kk r n2 np2 ad2 u T'.heap (locs ++ L) hp hag (z_after hZ h0 e1 hb hF (fun q hq => hf _ (hL q hq))) T' rfl X'
  exact ⟨t2, st t2 a1, b1⟩
theorem z_callG {P : Int32 → Nat → Nat → Mem → Prop} (hC : ZC p m meth c s own cc nL) (hZ : ZS D ca base ad n np μ s H locs) (hY : zYS y bytes maxL ret na)
    (hM : ZGMet l y bytes maxL ret rm mc ms D ca base ad n np As μ P) (hlink : Cond.methodLink own index y ∈ lw_tbl) (hn : As.length = na) (hrm : rm.cells = mc ∧ rm.slots = ms) (hR : rm.frames + 1 ≤ R.frames ∧ 8 + (maxL + 11) + rm.locals ≤ R.locals) (hsize : ls.size = nL) (hst : st0 = As.reverse ++ rest) (hrest : (rest.map fun v => v.category).sum ≤ 8) (hdg : decode cc pc = .ok (.invokestatic index, 3)) (hf : cells + mc ≤ R.cells ∧ slots + ms ≤ R.slots)
    (kk : ∀ (r : Int32) (n2 np2 : Nat) (ad2 : Nat → Nat → Nat) (u : Mem) (H1 : Heap) (locs1 : List Loc), P r n2 np2 u → zagr ad ad2 → ZS D ca base ad2 n2 np2 u s H1 locs1 → W p l e R s m args below meth c H1 locs1 (cells + mc) (slots + ms) Q (F0 m (pc + 3) ls (.int r :: rest))) : W p l e R s m args below meth c H locs cells slots Q (F0 m pc ls st0) := by
  obtain ⟨y1, y2, y3, y4, y5⟩ := hY
  have hW := hZ.1.2.1
  exact z_runG hZ (fun _ h => h) (va_runS (g := F0 m pc ls st0) (As := As) (rest := rest) (hC.fix args) hM ⟨zCallB hW y3 y2 y4 y5 hlink hrm hR, hW.use args y1 rfl⟩ ⟨ZU_blind, fun U hU hWU => ⟨rfl, hZ.toU hU hWU⟩⟩ rfl hn hsize hst (lv_room hrest) hdg hf) kk
theorem z_nretb {ad2 : Nat → Nat → Nat} (hC : ZC p m meth c s own cc nL) (hr : meth.sig.returnType = some .boolean) (hZ : ZS D ca base ad2 n np μ s H locs) (hag : zagr ad ad2) {P : Int32 → Nat → Nat → Mem → Prop} {v : Int32} (hv : v = 0 ∨ v = 1) (hp : P v n np μ) (hdg : decode cc pc = .ok (.ireturn, 1)) (h1 : cells ≤ mc) (h2 : slots ≤ ms) : W p l e R s m args below meth c H locs cells slots (MQ below (ZQN D ca base ad P) args s mc ms (zB base)) (F0 m pc ls [.int v]) := by
  have hlk := hC.2.2.2.2
  exact W.widen h1 h2 (W.zret hC.1 hC.2.1 hr (by rcases hv with rfl | rfl <;> rfl) (fun t ht hW => by subst ht; exact ⟨⟨v, n, np, ad2, μ, rfl, hp, hag, hZ.2.2⟩, hZ.2.1.F rfl⟩) hZ.2.1.2.2 hdg)
end ZWRAP
/-- families 0 to 16 lie in no cell: they tell what the document speaks of, and may be told anew at any time -/
def gs (u v : Mem) : Prop := ∀ f, 17 ≤ f → v f = u f
theorem gs.rf (u : Mem) : gs u u := fun _ _ => rfl
theorem zF_gs {ad : Nat → Nat → Nat} {ca : Nat → ClassId} {n np : Nat} {u v : Mem} (h : gs u v) (f i : Nat) : zF ad ca n np f i (v f i) = zF ad ca n np f i (u f i) := by
  by_cases hf : 17 ≤ f
  · rw [h f hf]
  · have h20 : f ≤ 20 := by omega
    unfold zF
    rw [if_pos h20, if_pos h20]
theorem ZS.gs {D : va_G} {ca : Nat → ClassId} {base : Nat} {ad : Nat → Nat → Nat} {n np : Nat} {u v : Mem} {s : State} {H : Heap} {locs : List Loc} (h : ZS D ca base ad n np u s H locs) (hg : gs u v) : ZS D ca base ad n np v s H locs :=
  ⟨h.1, h.2.1, fun f i e he => h.2.2.1 f i e (by rw [← zF_gs hg]; exact he), fun f i f' i' e e' he he' hq => h.2.2.2.1 f i f' i' e e' (by rw [← zF_gs hg]; exact he) (by rw [← zF_gs hg]; exact he') hq, fun f i e he => h.2.2.2.2 f i e (by rw [← zF_gs hg]; exact he)⟩
theorem zagr_rf (ad : Nat → Nat → Nat) : zagr ad ad := fun _ _ _ => rfl
theorem zagr_tr {a b d : Nat → Nat → Nat} (h1 : zagr a b) (h2 : zagr b d) : zagr a d := fun f i h => (h2 f i h).trans (h1 f i h)
theorem znc_16_19 : (("java/lang/IllegalArgumentException", "java/lang/IllegalStateException") : String × String) ∈ zNcs := List.mem_of_getElem? (i := 0) rfl
theorem znc_16_26 : (("java/lang/IllegalArgumentException", "java/lang/IndexOutOfBoundsException") : String × String) ∈ zNcs := List.mem_of_getElem? (i := 1) rfl
theorem znc_19_16 : (("java/lang/IllegalStateException", "java/lang/IllegalArgumentException") : String × String) ∈ zNcs := List.mem_of_getElem? (i := 2) rfl
theorem znc_19_26 : (("java/lang/IllegalStateException", "java/lang/IndexOutOfBoundsException") : String × String) ∈ zNcs := List.mem_of_getElem? (i := 3) rfl
