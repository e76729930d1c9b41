/-! CALLS, RETURNS, THROWS over our world -/
def zpi (P : Int32 → Mem → Prop) : Option Value → Mem → Prop := fun v u => ∃ r : Int32, v = some (.int r) ∧ P r u
def zpv (P : Mem → Prop) : Option Value → Mem → Prop := fun v u => v = none ∧ P u
def zpr (ad : Nat → Nat → Nat) (g : Nat) (P : Int32 → Mem → Prop) : Option Value → Mem → Prop := fun v u => ∃ r : Int32, v = some (va_rf (zr ad g r)) ∧ P r u
def ZQ (D : va_G) (ca : Nat → ClassId) (base : Nat) (ad : Nat → Nat → Nat) (n np : Nat) (post : Option Value → Mem → Prop) : Array Value → State → Outcome → State → Prop := fun _ st o t =>
  (∃ (v : Option Value) (u : Mem), o = .returned v ∧ post v u ∧ Wd D ca base ad n np u t.heap) ∧ va_F (zB base) st t
def ZX (D : va_G) (ca : Nat → ClassId) (base : Nat) (ad : Nat → Nat → Nat) (n np : Nat) (xp : String → Mem → Prop) : String → State → State → Prop := fun E st t =>
  (∃ u : Mem, xp E u ∧ Wd D ca base ad n np u t.heap) ∧ va_F (zB base) st t
def ZMet (l : Launch) (y : MethodName) (cc : ByteArray) (ml : Nat) (ret : Option FieldType) (rm : Room) (mc ms : Nat) (D : va_G) (ca : Nat → ClassId) (base : Nat) (ad : Nat → Nat → Nat) (n np : Nat) (av : List Value) (μ : Mem) (post : Option Value → Mem → Prop) : Prop :=
  Met l y [Cond.code y cc ml ret] rm (va_Pc av (ZU D ca base ad n np μ)) (ZQ D ca base ad n np post) mc ms (zB base)
def ZXMet (l : Launch) (y : MethodName) (cc : ByteArray) (ml : Nat) (ret : Option FieldType) (rm : Room) (mc ms : Nat) (D : va_G) (ca : Nat → ClassId) (base : Nat) (ad : Nat → Nat → Nat) (n np : Nat) (av : List Value) (μ : Mem) (post : Option Value → Mem → Prop) (xp : String → Mem → Prop) : Prop :=
  vx_Met l y [Cond.code y cc ml ret] rm (va_Pc av (ZU D ca base ad n np μ)) (ZQ D ca base ad n np post) (ZX D ca base ad n np xp) mc ms (zB base)
/-- what the tables say of an instance method -/
def zYV (y : MethodName) (C : String) (bytes : ByteArray) (maxL : Nat) (ret : Option FieldType) (na : Nat) : Prop :=
  Cond.instanceMethod y ∈ lw_tbl ∧ Cond.selects C y y ∈ lw_tbl ∧ Cond.initialized C ∈ lw_tbl ∧ Cond.code y bytes maxL ret ∈ lw_tbl ∧ y.cls = C ∧ (y.cls ≠ "java/lang/invoke/MethodHandle" ∧ y.cls ≠ "java/lang/invoke/VarHandle") ∧ (parseMethodDescriptor y.desc).map (fun d => d.parameters.length) = some na
def zYS (y : MethodName) (bytes : ByteArray) (maxL : Nat) (ret : Option FieldType) (na : Nat) : Prop :=
  Cond.static y ∈ lw_tbl ∧ Cond.initialized y.cls ∈ lw_tbl ∧ Cond.code y bytes maxL ret ∈ lw_tbl ∧ (y.cls ≠ "java/lang/invoke/MethodHandle" ∧ y.cls ≠ "java/lang/invoke/VarHandle") ∧ (parseMethodDescriptor y.desc).map (fun d => d.parameters.length) = some na
section ZCALLS
variable {p : Program} {l : Launch} {e : Env} {R : Room} {s : State} {m : MethodId} {args : Array Value} {below : List Frame} {meth : Method} {c : Code} {H : Heap} {locs : List Loc} {cells slots : Nat} {Q : State → Prop}
variable {cc : ByteArray} {pc : Nat} {ls : Array Slot} {rest st0 : List Value} {own : String} {nL : Nat}
variable {D : va_G} {ca : Nat → ClassId} {base : Nat} {ad : Nat → Nat → Nat} {n np : Nat} {μ : Mem}
variable {y : MethodName} {C : String} {bytes : ByteArray} {maxL mc ms index na : Nat} {ret : Option FieldType} {rm : Room} {post : Option Value → Mem → Prop} {xp : String → Mem → Prop} {As : List Value}
theorem z_lens {k : Nat} (h : (parseMethodDescriptor y.desc).map (fun d => d.parameters.length) = some k) : ∀ sig, parseMethodDescriptor y.desc = some sig → k = sig.parameters.length := by
  intro sig hs
  rw [hs] at h
  exact (Option.some.inj h).symm
theorem zCallB (hW : zW s) (hcode : Cond.code y bytes maxL ret ∈ lw_tbl) (hini : Cond.initialized y.cls ∈ lw_tbl) (hy : y.cls ≠ "java/lang/invoke/MethodHandle" ∧ y.cls ≠ "java/lang/invoke/VarHandle") (hl : (parseMethodDescriptor y.desc).map (fun d => d.parameters.length) = some na) (hlink : Cond.methodLink own index y ∈ lw_tbl) (hrm : rm.cells = mc ∧ rm.slots = ms) (hR : rm.frames + 1 ≤ R.frames ∧ 8 + (maxL + 11) + rm.locals ≤ R.locals) :
    CallB R s args own index y bytes maxL ret [Cond.code y bytes maxL ret] rm mc ms na := by
  refine ⟨hrm.1, hrm.2, hR.1, hR.2, ?_, List.mem_cons_self, hW.use args hcode rfl, hW.use args hini rfl, hy, z_lens hl, hW.use args hlink rfl⟩
  intro w hw a' U hWU
  rw [List.mem_singleton.mp hw]
  exact word_at (args := args) hWU (good_of_word rfl) (hW.use args hcode rfl)
/-- behind a call -/
theorem z_after {st₀ t : State} {H2 : Heap} {L : List Loc} (hZ : ZS D ca base ad n np μ s H locs) {u : Mem} {n2 np2 : Nat} {ad2 : Nat → Nat → Nat} (h0 : st₀.heap = H) (e1 : H2 = t.heap) (hw : Wd D ca base ad2 n2 np2 u t.heap) (hF : va_F (zB base) st₀ t) (hL : ∀ q ∈ L, zB base q.base) : ZS D ca base ad2 n2 np2 u s H2 (locs ++ L) := by
  subst e1
  obtain ⟨hK, hS, hwd⟩ := hZ
  obtain ⟨hz, hk⟩ := hF
  rw [h0] at hz hk
  refine ⟨hK, ⟨Nat.le_trans hS.1 hz, fun q h1 h2 => ?_, fun q hq => ?_⟩, hw⟩
  · rw [hk q (Nat.lt_of_lt_of_le h1 hS.1) h2]
    exact hS.2.1 q h1 h2
  · rcases List.mem_append.mp hq with h | h
    · exact hS.2.2 q h
    · exact hL q h
theorem z_run {free : Addr → Prop} {a : Array Value} (hZ : ZS D ca base ad n np μ s H locs) (hf : ∀ q, free q → zB base q) (hr : va_Run p l e R s m args below meth c H locs cells slots mc ms (F0 m pc ls st0) rest (ZQ D ca base ad n np post a) free)
    (kk : ∀ (v : Option Value) (u : Mem) (H1 : Heap) (locs1 : List Loc), post v u → ZS D ca base ad n np u s H1 locs1 → W p l e R s m args below meth c H1 locs1 (cells + mc) (slots + ms) Q (F0 m (pc + 3) ls (v.toList ++ rest))) : W p l e R s m args below meth c H locs cells slots Q (F0 m pc ls st0) := by
  intro T hT X
  obtain ⟨v, st₀, t, T', L, h0, X', hL, e1, e2, ⟨⟨v', u, hv, hp, hb⟩, hF⟩, st⟩ := hr T hT X
  cases hv
  obtain ⟨t2, a1, b1⟩ := kk v u T'.heap (locs ++ L) hp (z_after hZ h0 e1 hb hF (fun q hq => hf _ (hL q hq))) T' rfl X'
  exact ⟨t2, st t2 a1, b1⟩
theorem z_runX {free : Addr → Prop} {a : Array Value} (hZ : ZS D ca base ad n np μ s H locs) (hf : ∀ q, free q → zB base q) (hr : vx_Run p l e R s m args below meth c H locs cells slots mc ms (F0 m pc ls st0) rest (ZQ D ca base ad n np post a) (ZX D ca base ad n np xp) free)
    (kx : ∀ (E : String) (ce : Cell) (q9 : Addr) (u : Mem) (H1 : Heap) (locs1 : List Loc), xp E u → ZS D ca base ad n np u s H1 locs1 → H1[q9]? = some ce → ce.vm = .none → s.vm.findClass E = some ce.cls → vx_W p l e R s m args below meth c H1 locs1 (cells + mc) (slots + ms) Q (F0 m pc ls rest) q9)
    (kk : ∀ (v : Option Value) (u : Mem) (H1 : Heap) (locs1 : List Loc), post v u → ZS D ca base ad n np u s H1 locs1 → W p l e R s m args below meth c H1 locs1 (cells + mc) (slots + ms) Q (F0 m (pc + 3) ls (v.toList ++ rest))) : W p l e R s m args below meth c H locs cells slots Q (F0 m pc ls st0) := by
  intro T hT X
  rcases hr T hT X with ⟨v, st₀, t, T', L, h0, X', hL, e1, e2, ⟨⟨v', u, hv, hp, hb⟩, hF⟩, st⟩ | ⟨q, st₀, t, T', L, E, ce, h0, X', hL, e1, e2, ⟨⟨u, hx, hb⟩, hF⟩, hce, hcv, hcl, st⟩
  · cases hv
    obtain ⟨t2, a1, b1⟩ := kk v u T'.heap (locs ++ L) hp (z_after hZ h0 e1 hb hF (fun q hq => hf _ (hL q hq))) T' rfl X'
    exact ⟨t2, st t2 a1, b1⟩
  · obtain ⟨t2, a1, b1⟩ := kx E ce q u T'.heap (locs ++ L) hx (z_after hZ h0 e1 hb hF (fun q hq => hf _ (hL q hq))) (by rw [e1]; exact hce) hcv hcl T' rfl X'
    exact ⟨t2, st.trans a1, b1⟩
theorem z_recv (hZ : ZS D ca base ad n np μ s H locs) {f i ci N : Nat} {fs : List Value} {T : u_T} (he : zF ad ca n np f i (μ f i) = some (.inr (ci, fs))) (hcl : vwCl[ci]? = some (C, T, N)) : ∃ cellB : Cell, H[ad f i]? = some cellB ∧ cellB.vm.isStatics = false ∧ s.vm.findClass C = some cellB.cls :=
  va_recv hZ.1.1 (va_P1 (hZ.2.2.1 f i _ he)) hcl (q0 := 0) rfl
theorem z_callV (hC : ZC p m meth c s own cc nL) (hZ : ZS D ca base ad n np μ s H locs) {f i ci N : Nat} {fs : List Value} {T : u_T} (he : zF ad ca n np f i (μ f i) = some (.inr (ci, fs))) (hcl : vwCl[ci]? = some (C, T, N)) (hY : zYV y C bytes maxL ret na)
    (hM : ZMet l y bytes maxL ret rm mc ms D ca base ad n np (.ref (ad f i) :: As) μ post) (hlink : Cond.methodLink own index y ∈ lw_tbl) (hn : As.length = na) (hrm : rm.cells = mc ∧ rm.slots = ms) (hR : rm.frames + 1 ≤ R.frames ∧ 8 + (maxL + 11) + rm.locals ≤ R.locals) (hsize : ls.size = nL) (hst : st0 = As.reverse ++ .ref (ad f i) :: rest) (hrest : (rest.map fun v => v.category).sum ≤ 8) (hdg : decode cc pc = .ok (.invokevirtual index, 3)) (hf : cells + mc ≤ R.cells ∧ slots + ms ≤ R.slots)
    (kk : ∀ (v : Option Value) (u : Mem) (H1 : Heap) (locs1 : List Loc), post v u → ZS D ca base ad n np u s H1 locs1 → W p l e R s m args below meth c H1 locs1 (cells + mc) (slots + ms) Q (F0 m (pc + 3) ls (v.toList ++ rest))) : W p l e R s m args below meth c H locs cells slots Q (F0 m pc ls st0) := by
  obtain ⟨y1, y2, y3, y4, y5, y6, y7⟩ := hY
  have hW := hZ.1.2.1
  refine z_run hZ (fun _ h => h) (va_runV (g := F0 m pc ls st0) (As := As) (rest := rest) (hC.fix args) hM ⟨zCallB hW y4 (by rw [y5]; exact y3) y6 y7 hlink hrm hR, hW.use args y1 rfl, hW.use args y2 rfl⟩ ⟨ZU_blind, z_recv hZ he hcl, fun U hU hWU => ⟨rfl, hZ.toU hU hWU⟩⟩ rfl hn hsize hst (lv_room hrest) hdg hf) kk
theorem z_callVX (hC : ZC p m meth c s own cc nL) (hZ : ZS D ca base ad n np μ s H locs) {f i ci N : Nat} {fs : List Value} {T : u_T} (he : zF ad ca n np f i (μ f i) = some (.inr (ci, fs))) (hcl : vwCl[ci]? = some (C, T, N)) (hY : zYV y C bytes maxL ret na)
    (hM : ZXMet l y bytes maxL ret rm mc ms D ca base ad n np (.ref (ad f i) :: As) μ post xp) (hlink : Cond.methodLink own index y ∈ lw_tbl) (hn : As.length = na) (hrm : rm.cells = mc ∧ rm.slots = ms) (hR : rm.frames + 1 ≤ R.frames ∧ 8 + (maxL + 11) + rm.locals ≤ R.locals) (hsize : ls.size = nL) (hst : st0 = As.reverse ++ .ref (ad f i) :: rest) (hrest : (rest.map fun v => v.category).sum ≤ 8) (hdg : decode cc pc = .ok (.invokevirtual index, 3)) (hf : cells + mc ≤ R.cells ∧ slots + ms ≤ R.slots)
    (kx : ∀ (E : String) (ce : Cell) (q9 : Addr) (u : Mem) (H1 : Heap) (locs1 : List Loc), xp E u → ZS D ca base ad n np u s H1 locs1 → H1[q9]? = some ce → ce.vm = .none → s.vm.findClass E = some ce.cls → vx_W p l e R s m args below meth c H1 locs1 (cells + mc) (slots + ms) Q (F0 m pc ls rest) q9)
    (kk : ∀ (v : Option Value) (u : Mem) (H1 : Heap) (locs1 : List Loc), post v u → ZS D ca base ad n np u s H1 locs1 → W p l e R s m args below meth c H1 locs1 (cells + mc) (slots + ms) Q (F0 m (pc + 3) ls (v.toList ++ rest))) : W p l e R s m args below meth c H locs cells slots Q (F0 m pc ls st0) := by
  obtain ⟨y1, y2, y3, y4, y5, y6, y7⟩ := hY
  have hW := hZ.1.2.1
  refine z_runX hZ (fun _ h => h) (vx_runV (g := F0 m pc ls st0) (As := As) (rest := rest) (hC.fix args) hM ⟨zCallB hW y4 (by rw [y5]; exact y3) y6 y7 hlink hrm hR, hW.use args y1 rfl, hW.use args y2 rfl⟩ ⟨ZU_blind, z_recv hZ he hcl, fun U hU hWU => ⟨rfl, hZ.toU hU hWU⟩⟩ rfl hn hsize hst (lv_room hrest) hdg hf) kx kk
theorem z_callS (hC : ZC p m meth c s own cc nL) (hZ : ZS D ca base ad n np μ s H locs) (hY : zYS y bytes maxL ret na)
    (hM : ZMet l y bytes maxL ret rm mc ms D ca base ad n np As μ post) (hlink : Cond.methodLink own index y ∈ lw_tbl) (hn : As.length = na) (hrm : rm.cells = mc ∧ rm.slots = ms) (hR : rm.frames + 1 ≤ R.frames ∧ 8 + (maxL + 11) + rm.locals ≤ R.locals) (hsize : ls.size = nL) (hst : st0 = As.reverse ++ rest) (hrest : (rest.map fun v => v.category).sum ≤ 8) (hdg : decode cc pc = .ok (.invokestatic index, 3)) (hf : cells + mc ≤ R.cells ∧ slots + ms ≤ R.slots)
    (kk : ∀ (v : Option Value) (u : Mem) (H1 : Heap) (locs1 : List Loc), post v u → ZS D ca base ad n np u s H1 locs1 → W p l e R s m args below meth c H1 locs1 (cells + mc) (slots + ms) Q (F0 m (pc + 3) ls (v.toList ++ rest))) : W p l e R s m args below meth c H locs cells slots Q (F0 m pc ls st0) := by
  obtain ⟨y1, y2, y3, y4, y5⟩ := hY
  have hW := hZ.1.2.1
  refine z_run hZ (fun _ h => h) (va_runS (g := F0 m pc ls st0) (As := As) (rest := rest) (hC.fix args) hM ⟨zCallB hW y3 y2 y4 y5 hlink hrm hR, hW.use args y1 rfl⟩ ⟨ZU_blind, fun U hU hWU => ⟨rfl, hZ.toU hU hWU⟩⟩ rfl hn hsize hst (lv_room hrest) hdg hf) kk
theorem z_callSX (hC : ZC p m meth c s own cc nL) (hZ : ZS D ca base ad n np μ s H locs) (hY : zYS y bytes maxL ret na)
    (hM : ZXMet l y bytes maxL ret rm mc ms D ca base ad n np As μ post xp) (hlink : Cond.methodLink own index y ∈ lw_tbl) (hn : As.length = na) (hrm : rm.cells = mc ∧ rm.slots = ms) (hR : rm.frames + 1 ≤ R.frames ∧ 8 + (maxL + 11) + rm.locals ≤ R.locals) (hsize : ls.size = nL) (hst : st0 = As.reverse ++ rest) (hrest : (rest.map fun v => v.category).sum ≤ 8) (hdg : decode cc pc = .ok (.invokestatic index, 3)) (hf : cells + mc ≤ R.cells ∧ slots + ms ≤ R.slots)
    (kx : ∀ (E : String) (ce : Cell) (q9 : Addr) (u : Mem) (H1 : Heap) (locs1 : List Loc), xp E u → ZS D ca base ad n np u s H1 locs1 → H1[q9]? = some ce → ce.vm = .none → s.vm.findClass E = some ce.cls → vx_W p l e R s m args below meth c H1 locs1 (cells + mc) (slots + ms) Q (F0 m pc ls rest) q9)
    (kk : ∀ (v : Option Value) (u : Mem) (H1 : Heap) (locs1 : List Loc), post v u → ZS D ca base ad n np u s H1 locs1 → W p l e R s m args below meth c H1 locs1 (cells + mc) (slots + ms) Q (F0 m (pc + 3) ls (v.toList ++ rest))) : W p l e R s m args below meth c H locs cells slots Q (F0 m pc ls st0) := by
  obtain ⟨y1, y2, y3, y4, y5⟩ := hY
  have hW := hZ.1.2.1
  refine z_runX hZ (fun _ h => h) (vx_runS (g := F0 m pc ls st0) (As := As) (rest := rest) (hC.fix args) hM ⟨zCallB hW y3 y2 y4 y5 hlink hrm hR, hW.use args y1 rfl⟩ ⟨ZU_blind, fun U hU hWU => ⟨rfl, hZ.toU hU hWU⟩⟩ rfl hn hsize hst (lv_room hrest) hdg hf) kx kk
/-- a private static method of a nest mate -/
theorem z_callSN (hC : ZC p m meth c s own cc nL) (hZ : ZS D ca base ad n np μ s H locs) (hY : zYS y bytes maxL ret na) {host : String}
    (hM : ZMet l y bytes maxL ret rm mc ms D ca base ad n np As μ post) (hlink : Cond.methodLinkNest own index y host ∈ lw_tbl) (hn : As.length = na) (hrm : rm.cells = mc ∧ rm.slots = ms) (hR : rm.frames + 1 ≤ R.frames ∧ 8 + (maxL + 11) + rm.locals ≤ R.locals) (hsize : ls.size = nL) (hst : st0 = As.reverse ++ rest) (hrest : (rest.map fun v => v.category).sum ≤ 8) (hdg : decode cc pc = .ok (.invokestatic index, 3)) (hf : cells + mc ≤ R.cells ∧ slots + ms ≤ R.slots)
    (kk : ∀ (v : Option Value) (u : Mem) (H1 : Heap) (locs1 : List Loc), post v u → ZS D ca base ad n np u s H1 locs1 → W p l e R s m args below meth c H1 locs1 (cells + mc) (slots + ms) Q (F0 m (pc + 3) ls (v.toList ++ rest))) : W p l e R s m args below meth c H locs cells slots Q (F0 m pc ls st0) := by
  obtain ⟨y1, y2, y3, y4, y5⟩ := hY
  have hW := hZ.1.2.1
  have hcw := va_cnB (R := R) (s := s) (args := args) (own := own) (host := host) (index := index) (Ts := [Cond.code y bytes maxL ret]) (ws := [Cond.code y bytes maxL ret]) (ws' := []) (rm := rm) (mc := mc) (ms := ms) na (fun w hw => by rw [List.mem_singleton.mp hw]; exact hW.use args y3 rfl) (fun w hw => ⟨hw, by rw [List.mem_singleton.mp hw]; exact good_of_word rfl⟩) rfl hrm.1 hrm.2 (hW.useN hlink (by unfold zgood; cases goodWord (Cond.methodLinkNest own index y host) <;> rfl)) (hW.use args y2 rfl) ⟨y4.1, y4.2, y5⟩ hR
  refine z_run hZ (fun _ h => h) (va_runSN (g := F0 m pc ls st0) (As := As) (rest := rest) (hC.fix args) hM ⟨hcw, hW.use args y1 rfl, trivial⟩ ⟨ZU_blind, fun U hU hWU => ⟨rfl, hZ.toU hU hWU⟩⟩ rfl hn hsize hst (lv_room hrest) hdg hf) kk
-- returns
theorem z_qret (hZ : ZS D ca base ad n np μ s H locs) {v : Option Value} (hp : post v μ) : ∀ t : State, t.heap = H → s.WarmedH t.vm → ZQ D ca base ad n np post args s (.returned v) t := by
  intro t ht hW
  subst ht
  exact ⟨⟨v, μ, rfl, hp, hZ.2.2⟩, hZ.2.1.F rfl⟩
theorem z_iret (hC : ZC p m meth c s own cc nL) (hr : meth.sig.returnType = some .int) (hZ : ZS D ca base ad n np μ s H locs) {P : Int32 → Mem → Prop} {v : Int32} (hp : P v μ) (hdg : decode cc pc = .ok (.ireturn, 1)) (h1 : cells ≤ mc) (h2 : slots ≤ ms) : W p l e R s m args below meth c H locs cells slots (MQ below (ZQ D ca base ad n np (zpi P)) args s mc ms (zB base)) (F0 m pc ls [.int v]) := by
  have hlk := hC.2.2.2.2
  exact W.widen h1 h2 (W.iret hC.1 hC.2.1 hr (z_qret hZ ⟨v, rfl, hp⟩) hZ.2.1.2.2 hdg)
theorem z_bret (hC : ZC p m meth c s own cc nL) (hr : meth.sig.returnType = some .boolean) (hZ : ZS D ca base ad n np μ s H locs) {P : Int32 → Mem → Prop} {v : Int32} (hv : v = 0 ∨ v = 1) (hp : P v μ) (hdg : decode cc pc = .ok (.ireturn, 1)) (h1 : cells ≤ mc) (h2 : slots ≤ ms) : W p l e R s m args below meth c H locs cells slots (MQ below (ZQ D ca base ad n np (zpi P)) args s mc ms (zB base)) (F0 m pc ls [.int v]) := by
  have hlk := hC.2.2.2.2
  exact W.widen h1 h2 (W.zret hC.1 hC.2.1 hr (by rcases hv with rfl | rfl <;> rfl) (z_qret hZ ⟨v, rfl, hp⟩) hZ.2.1.2.2 hdg)
theorem z_vret (hC : ZC p m meth c s own cc nL) (hr : meth.sig.returnType = none) (hZ : ZS D ca base ad n np μ s H locs) {P : Mem → Prop} (hp : P μ) (hdg : decode cc pc = .ok (.return_, 1)) (h1 : cells ≤ mc) (h2 : slots ≤ ms) : W p l e R s m args below meth c H locs cells slots (MQ below (ZQ D ca base ad n np (zpv P)) args s mc ms (zB base)) (F0 m pc ls []) := by
  have hlk := hC.2.2.2.2
  exact W.widen h1 h2 (W.vret hC.1 hC.2.1 hr (z_qret hZ ⟨rfl, hp⟩) hZ.2.1.2.2 hdg)
theorem z_aret (hC : ZC p m meth c s own cc nL) {rt : FieldType} (hr : meth.sig.returnType = some rt) (hrt : (∃ n, rt = .object n) ∨ ∃ t, rt = .array t) (hZ : ZS D ca base ad n np μ s H locs) {g : Nat} {P : Int32 → Mem → Prop} {v : Int32} (hp : P v μ) (hdg : decode cc pc = .ok (.areturn, 1)) (h1 : cells ≤ mc) (h2 : slots ≤ ms) : W p l e R s m args below meth c H locs cells slots (MQ below (ZQ D ca base ad n np (zpr ad g P)) args s mc ms (zB base)) (F0 m pc ls [va_rf (zr ad g v)]) := by
  have hlk := hC.2.2.2.2
  exact W.widen h1 h2 (W.aret hC.1 hC.2.1 hr hrt (va_rf_or _) (z_qret hZ ⟨v, rfl, hp⟩) hZ.2.1.2.2 hdg)
/-- a throw of a callee goes on to our caller -/
theorem z_xout {Qc : Array Value → State → Outcome → State → Prop} {E : String} {ce : Cell} {q : Addr} (hC : ZC p m meth c s own cc nL) (hnx : ∀ x ∈ c.exceptionTable.toList, False) (hZ : ZS D ca base ad n np μ s H locs) (hx : xp E μ) (hce : H[q]? = some ce) (hcv : ce.vm = .none) (hcl : s.vm.findClass E = some ce.cls) (h1 : cells ≤ mc) (h2 : slots ≤ ms) :
    vx_W p l e R s m args below meth c H locs cells slots (vx_MQ below Qc (ZX D ca base ad n np xp) args s mc ms (zB base)) (F0 m pc ls rest) q :=
  vx_out (fun x h => (hnx x h).elim) hC.2.2.2.2 hce hcv hcl (fun t ht hA => by subst ht; exact ⟨⟨μ, hx, hZ.2.2⟩, hZ.2.1.F rfl⟩) hZ.2.1.2.2 h1 h2
end ZCALLS
