abbrev vwCl : List vw_C := [(RX0, TX0, 3), (RX1, TX1, 5), (RX2, TX2, 8), (RX3, TX3, 3), (RX4, TX4, 11)]
/-! OUR OWN WORLD: one logical memory for the class, the reference and the law's row of one long. A cell has a family and an index in it; ad tells where it lies; mu tells what its ints are. -/
abbrev Mem : Type := Nat → Nat → Nat → Int32
def zcp (μ : Mem) (f i : Nat) (r : Nat → Int32) : Mem := fun a b => if a = f ∧ b = i then r else μ a b
def zst (μ : Mem) (f i k : Nat) (v : Int32) : Mem := zcp μ f i (upd (μ f i) k v)
def zr (ad : Nat → Nat → Nat) (f : Nat) (v : Int32) : Option Nat := if v < 0 then none else some (ad f v.toNatClampNeg)
def zF (ad : Nat → Nat → Nat) (ca : Nat → ClassId) (n np f i : Nat) (r : Nat → Int32) : Option va_E :=
  if f ≤ 20 then none
  else if f = 22 then (if i = 0 then some (.inl (ca 0, 5, .inl r)) else none)
  else if f = 23 then (if i = 0 then some (.inl (ca 0, 50, .inl r)) else none)
  else if f = 24 then (if i = 0 then some (.inl (ca 0, 20, .inl r)) else none)
  else if f = 30 then (if i = 0 then some (.inr (4, [.ref (ad 31 0), .ref (ad 32 0), .ref (ad 33 0), .ref (ad 34 0), .ref (ad 40 0), .ref (ad 40 1), .ref (ad 60 0), .int (r 7), .int (r 8), .int (r 9), .int (r 10)])) else none)
  else if f = 31 then (if i = 0 then some (.inl (ca 2, 10, .inr (.inr (.inr (.inr (fun k => zr ad 70 (r k))))))) else none)
  else if f = 32 then (if i = 0 then some (.inl (ca 2, 30, .inr (.inr (.inr (.inr (fun k => zr ad 70 (r k))))))) else none)
  else if f = 33 then (if i = 0 then some (.inl (ca 3, 20, .inr (.inr (.inr (.inr (fun k => zr ad 80 (r k))))))) else none)
  else if f = 34 then (if i = 0 then some (.inl (ca 0, 5, .inl r)) else none)
  else if f = 40 then (if i < 2 then some (.inr (3, [.ref (ad 41 i), .ref (ad 42 i), .int (r 2)])) else none)
  else if f = 41 then (if i < 2 then some (.inl (ca 4, 5, .inr (.inr (.inr (.inr (fun k => some (ad 43 (5 * i + k)))))))) else none)
  else if f = 42 then (if i < 2 then some (.inl (ca 0, 5, .inl r)) else none)
  else if f = 43 then (if i < 10 then some (.inl (ca 0, 4, .inl r)) else none)
  else if f = 60 then (if i = 0 then some (.inr (0, [.ref (ad 61 0), .ref (ad 62 0), .int (r 2)])) else none)
  else if f = 61 then (if i = 0 then some (.inl (ca 0, 10, .inl r)) else none)
  else if f = 62 then (if i = 0 then some (.inl (ca 2, 10, .inr (.inr (.inr (.inr (fun k => zr ad 70 (r k))))))) else none)
  else if f = 70 then (if i < n then some (.inr (2, [.int (r 0), .int (r 1), .int (r 2), .ref (ad 71 i), .ref (ad 72 i), .ref (ad 73 i), .int (r 6), .int (r 7)])) else none)
  else if f = 71 then (if i < n then some (.inl (ca 0, 5, .inl r)) else none)
  else if f = 72 then (if i < n then some (.inl (ca 0, 5, .inl r)) else none)
  else if f = 73 then (if i < n then some (.inl (ca 0, 5, .inl r)) else none)
  else if f = 80 then (if i < np then some (.inr (1, [.int (r 0), .int (r 1), .int (r 2), .int (r 3), .int (r 4)])) else none)
  else none
def zT (ca : Nat → ClassId) : List (ClassId × FieldType) := [(ca 0, .int), (ca 1, .int), (ca 2, .object "BacklotPlanner$Scene"), (ca 3, .object "BacklotPlanner$Permit"), (ca 4, .array .int), (ca 5, .int)]
/-- the heap H holds the logical memory -/
def Wd (D : va_G) (ca : Nat → ClassId) (base : Nat) (ad : Nat → Nat → Nat) (n np : Nat) (μ : Mem) (H : Heap) : Prop :=
  (∀ (f i : Nat) (e : va_E), zF ad ca n np f i (μ f i) = some e → va_at D vwCl (ad f i, e) H) ∧
  (∀ (f i f' i' : Nat) (e e' : va_E), zF ad ca n np f i (μ f i) = some e → zF ad ca n np f' i' (μ f' i') = some e' → ad f i = ad f' i' → f = f' ∧ i = i') ∧
  (∀ (f i : Nat) (e : va_E), zF ad ca n np f i (μ f i) = some e → base ≤ ad f i)
/-- the words of the tables that hold in every later state too -/
def zgood (w : Cond) : Bool := goodWord w || (match w with | .castable _ _ => true | .methodLinkNest _ _ _ _ => true | .declares _ => true | _ => false)
def zW (U : State) : Prop := ∀ w ∈ lw_tbl, zgood w = true → w.before #[] U = true
/-- the texts of the class's throws -/
def zStrs : List (Nat × String) := [(218, "too many scenes to order"), (253, "no such day"), (244, "no such scene"), (251, "no such prop"), (249, "no such actor"), (239, "no such state"), (60, "no such set or number of flames"), (71, "no room for a scene"), (88, "no such beard"), (255, "the scene is not planned"), (103, "no such states"), (109, "the prop would age backwards"), (131, "no such day to come"), (181, "all days are over"), (140, "no such days"), (142, "no more permits"), (247, "no such permit"), (155, "the permit was revoked"), (171, "enough copies"), (177, "no such whole state"), (179, "no copy in this state")]
def zSt (U : State) : Prop := ∀ q ∈ zStrs, ∃ a : Nat, vk_R RX4 q.1 q.2 a U
def zNcs : List (String × String) := [("java/lang/IllegalArgumentException", "java/lang/IllegalStateException"), ("java/lang/IllegalArgumentException", "java/lang/IndexOutOfBoundsException"), ("java/lang/IllegalStateException", "java/lang/IllegalArgumentException"), ("java/lang/IllegalStateException", "java/lang/IndexOutOfBoundsException"), ("java/lang/IndexOutOfBoundsException", "java/lang/IllegalArgumentException"), ("java/lang/IndexOutOfBoundsException", "java/lang/IllegalStateException")]
def zNcF (U : State) : Prop := ∀ q ∈ zNcs, va_Nc q.1 q.2 U
/-- arrays of references may be made -/
def zAO (U : State) : Prop := va_AO "BacklotPlanner$Scene" U ∧ va_AO "BacklotPlanner$Permit" U ∧ (Cond.arrayOver (.array .int)).before #[] U = true
theorem zAO.moved {s U : State} (hW : s.WarmedH U.vm) (h : zAO s) : zAO U := ⟨va_AO.moved hW.alike h.1, va_AO.moved hW.alike h.2.1, Jvm.Stand.arrayOver_alikeB hW.alike h.2.2⟩
abbrev zB (base : Nat) : Nat → Prop := fun q => base ≤ q
/-- what holds of the tables and of the statics that a throw reads -/
def ZK (D : va_G) (ca : Nat → ClassId) (base : Nat) (U : State) (H : Heap) : Prop :=
  va_K D vwCl (zT ca) U ∧ zW U ∧ base ≤ H.size ∧ vx_Zq Bundle.tN "UNASSIGNED_STACK" Bundle.steD (zB base) U H ∧ vx_Zq Bundle.tN "SUPPRESSED_SENTINEL" Bundle.listD (zB base) U H ∧ zSt U ∧ zNcF U ∧ zAO U
/-- a method's start -/
def ZU (D : va_G) (ca : Nat → ClassId) (base : Nat) (ad : Nat → Nat → Nat) (n np : Nat) (μ : Mem) (U : State) : Prop := ZK D ca base U U.heap ∧ Wd D ca base ad n np μ U.heap
/-- inside a method that began in s -/
def ZS (D : va_G) (ca : Nat → ClassId) (base : Nat) (ad : Nat → Nat → Nat) (n np : Nat) (μ : Mem) (s : State) (H : Heap) (locs : List Loc) : Prop :=
  ZK D ca base s s.heap ∧ va_S (zB base) s.heap H locs ∧ Wd D ca base ad n np μ H
theorem zcp_self (μ : Mem) (f i : Nat) (r : Nat → Int32) : zcp μ f i r f i = r := by simp [zcp]
theorem zcp_ne {μ : Mem} {f i f' i' : Nat} {r : Nat → Int32} (h : ¬ (f' = f ∧ i' = i)) : zcp μ f i r f' i' = μ f' i' := by simp [zcp, h]
/-- one cell is written -/
theorem Wd.put {D : va_G} {ca : Nat → ClassId} {base : Nat} {ad : Nat → Nat → Nat} {n np : Nat} {μ : Mem} {H H1 : Heap} (h : Wd D ca base ad n np μ H) {f i : Nat} {e0 e1 : va_E} {r : Nat → Int32} (h0 : zF ad ca n np f i (μ f i) = some e0) (h1 : zF ad ca n np f i r = some e1) (he : va_at D vwCl (ad f i, e1) H1) (oq : ∀ q : Nat, q ≠ ad f i → H1[q]? = H[q]?) : Wd D ca base ad n np (zcp μ f i r) H1 := by
  have key : ∀ (f' i' : Nat) (e : va_E), zF ad ca n np f' i' (zcp μ f i r f' i') = some e → ∃ e', zF ad ca n np f' i' (μ f' i') = some e' := by
    intro f' i' e hz
    by_cases hc : f' = f ∧ i' = i
    · obtain ⟨rfl, rfl⟩ := hc
      exact ⟨e0, h0⟩
    · rw [zcp_ne hc] at hz
      exact ⟨e, hz⟩
  refine ⟨?_, ?_, ?_⟩
  · intro f' i' e hz
    by_cases hc : f' = f ∧ i' = i
    · obtain ⟨rfl, rfl⟩ := hc
      rw [zcp_self, h1] at hz
      cases hz
      exact he
    · rw [zcp_ne hc] at hz
      exact va_at.kept (h.1 f' i' e hz) (oq _ (fun q => hc (h.2.1 _ _ _ _ _ _ hz h0 q)))
  · intro f' i' f2 i2 e e' hz hz2 hq
    obtain ⟨a1, b1⟩ := key _ _ _ hz
    obtain ⟨a2, b2⟩ := key _ _ _ hz2
    exact h.2.1 _ _ _ _ _ _ b1 b2 hq
  · intro f' i' e hz
    obtain ⟨a1, b1⟩ := key _ _ _ hz
    exact h.2.2 _ _ _ b1
/-- the world stays where the heap only grew -/
theorem Wd.kept {D : va_G} {ca : Nat → ClassId} {base : Nat} {ad : Nat → Nat → Nat} {n np : Nat} {μ : Mem} {H H1 : Heap} (h : Wd D ca base ad n np μ H) (hq : ∀ q : Nat, q < H.size → H1[q]? = H[q]?) : Wd D ca base ad n np μ H1 :=
  ⟨fun f i e hz => va_at.kept (h.1 f i e hz) (hq _ (va_at.lt (h.1 f i e hz))), h.2.1, h.2.2⟩
theorem zgood_tab {w : Cond} (h : zgood w = true) (h2 : goodWord w = false) : w.onTables = true := by
  unfold zgood at h
  rw [h2] at h
  cases w <;> first | rfl | simp at h
theorem zW.moved {s U : State} (hW : s.WarmedH U.vm) (h : zW s) : zW U := by
  intro w hw hg
  have h1 := h w hw hg
  cases hgw : goodWord w with
  | true => exact word_at (args := #[]) hW (good_of_word hgw) h1
  | false =>
    unfold zgood at hg
    rw [hgw] at hg
    cases w <;> first | exact va_Nw.warmC hW h1 | exact va_Nw.warmM hW h1 | exact va_Nw.warmD hW h1 | (simp at hg)
theorem zW.use {s : State} (h : zW s) {w : Cond} (args : Array Value) (hw : w ∈ lw_tbl) (hg : goodWord w = true) : w.before args s = true := word_at (args := #[]) (State.WarmedH.refl s) (good_of_word hg) (h w hw (by unfold zgood; rw [hg]; rfl))
theorem zW.useN {s : State} (h : zW s) {w : Cond} (hw : w ∈ lw_tbl) (hg : zgood w = true) : va_Nw w s := h w hw hg
theorem zW.lay {s : State} (h : zW s) (args : Array Value) {C : String} {T : u_T} {N : Nat} (hin : ∀ w ∈ u_ws C T N, w ∈ lw_tbl) : ∀ w ∈ u_ws C T N, w.before args s = true := by
  intro w hw
  refine h.use args (hin w hw) ?_
  obtain ⟨k, -, rfl⟩ := List.mem_map.mp hw
  unfold u_lay
  split <;> rfl
theorem vx_Zq.at {C n d : String} {base : Nat} {s U : State} {H : Heap} {locs : List Loc} (hW : s.WarmedH U.vm) (hS : va_S (zB base) s.heap H locs) (h : vx_Zq C n d (zB base) s s.heap) : vx_Zq C n d (zB base) U H := vx_Zq.moved hW.alike (h.kept hS.2.1)
theorem ZK.at {D : va_G} {ca : Nat → ClassId} {base : Nat} {s U : State} {H : Heap} {locs : List Loc} (h : ZK D ca base s s.heap) (hS : va_S (zB base) s.heap H locs) (hW : s.WarmedH U.vm) : ZK D ca base U H :=
  ⟨va_K.moved hW.alike h.1, h.2.1.moved hW, Nat.le_trans h.2.2.1 hS.1, h.2.2.2.1.at hW hS, h.2.2.2.2.1.at hW hS, fun q hq => (h.2.2.2.2.2.1 q hq).imp fun _ g => vk_R.warm hW g, fun q hq => va_Nc.moved hW.alike (h.2.2.2.2.2.2.1 q hq), h.2.2.2.2.2.2.2.moved hW⟩
theorem ZS.toU {D : va_G} {ca : Nat → ClassId} {base : Nat} {ad : Nat → Nat → Nat} {n np : Nat} {μ : Mem} {s U : State} {H : Heap} {locs : List Loc} (h : ZS D ca base ad n np μ s H locs) (hU : U.heap = H) (hW : s.WarmedH U.vm) : ZU D ca base ad n np μ U := by
  subst hU
  exact ⟨h.1.at h.2.1 hW, h.2.2⟩
theorem ZU.toS {D : va_G} {ca : Nat → ClassId} {base : Nat} {ad : Nat → Nat → Nat} {n np : Nat} {μ : Mem} {s : State} (h : ZU D ca base ad n np μ s) : ZS D ca base ad n np μ s s.heap [] := ⟨h.1, va_S.rf, h.2⟩
theorem ZU_blind {D : va_G} {ca : Nat → ClassId} {base : Nat} {ad : Nat → Nat → Nat} {n np : Nat} {μ : Mem} {av : List Value} : FrameBlind (va_Pc av (ZU D ca base ad n np μ)) := by
  intro a U g_ mk q
  obtain ⟨h0, ⟨hK, hL, hz, h1, h2, h3, h4, h5⟩, hw⟩ := q
  exact ⟨h0, ⟨va_K.moved (u := U) (U := U.calling g_ mk a) (Vm.Alike.refl U.vm) hK, zW.moved (s := U) (U := U.calling g_ mk a) (State.WarmedH.refl U) hL, hz, vx_Zq.moved (u := U) (U := U.calling g_ mk a) (Vm.Alike.refl U.vm) h1, vx_Zq.moved (u := U) (U := U.calling g_ mk a) (Vm.Alike.refl U.vm) h2, fun q hq => (h3 q hq).imp fun _ g => vk_R.same (u := U) (U := U.calling g_ mk a) rfl g, fun q hq => va_Nc.moved (u := U) (U := U.calling g_ mk a) (Vm.Alike.refl U.vm) (h4 q hq), zAO.moved (s := U) (U := U.calling g_ mk a) (State.WarmedH.refl U) h5⟩, hw⟩
theorem ZS.put {D : va_G} {ca : Nat → ClassId} {base : Nat} {ad : Nat → Nat → Nat} {n np : Nat} {μ : Mem} {s : State} {H H1 : Heap} {locs : List Loc} (h : ZS D ca base ad n np μ s H locs) {f i k : Nat} {e0 e1 : va_E} {r : Nat → Int32} (h0 : zF ad ca n np f i (μ f i) = some e0) (h1 : zF ad ca n np f i r = some e1) (he : va_at D vwCl (ad f i, e1) H1) (z : H1.size = H.size) (oq : ∀ q : Nat, q ≠ ad f i → H1[q]? = H[q]?) : ZS D ca base ad n np (zcp μ f i r) s H1 (locs ++ [⟨ad f i, k⟩]) :=
  ⟨h.1, h.2.1.put z oq (h.2.2.2.2 _ _ _ h0), h.2.2.put h0 h1 he oq⟩
/-- what stands of the method in which we are -/
def ZC (p : Program) (m : MethodId) (meth : Method) (c : Code) (s : State) (own : String) (cc : ByteArray) (nL : Nat) : Prop :=
  p.tables.exec = Jvm.exec ∧ c.code = cc ∧ c.maxLocals = nL ∧ s.vm.findClass own = some m.cls ∧ meth.locks = false
theorem ZC.fix {p : Program} {m : MethodId} {meth : Method} {c : Code} {s : State} {own : String} {cc : ByteArray} {nL : Nat} (h : ZC p m meth c s own cc nL) (args : Array Value) : CallFix p m c cc nL s args [] own := ⟨h.1, h.2.1, h.2.2.1, h.2.2.2.1, fun _ h => absurd h List.not_mem_nil⟩
theorem zs_218 : ((218, "too many scenes to order") : Nat × String) ∈ zStrs := List.mem_of_getElem? (i := 0) rfl
theorem zs_253 : ((253, "no such day") : Nat × String) ∈ zStrs := List.mem_of_getElem? (i := 1) rfl
theorem zs_244 : ((244, "no such scene") : Nat × String) ∈ zStrs := List.mem_of_getElem? (i := 2) rfl
theorem zs_251 : ((251, "no such prop") : Nat × String) ∈ zStrs := List.mem_of_getElem? (i := 3) rfl
theorem zs_249 : ((249, "no such actor") : Nat × String) ∈ zStrs := List.mem_of_getElem? (i := 4) rfl
theorem zs_239 : ((239, "no such state") : Nat × String) ∈ zStrs := List.mem_of_getElem? (i := 5) rfl
theorem zs_60 : ((60, "no such set or number of flames") : Nat × String) ∈ zStrs := List.mem_of_getElem? (i := 6) rfl
theorem zs_71 : ((71, "no room for a scene") : Nat × String) ∈ zStrs := List.mem_of_getElem? (i := 7) rfl
theorem zs_88 : ((88, "no such beard") : Nat × String) ∈ zStrs := List.mem_of_getElem? (i := 8) rfl
theorem zs_255 : ((255, "the scene is not planned") : Nat × String) ∈ zStrs := List.mem_of_getElem? (i := 9) rfl
theorem zs_103 : ((103, "no such states") : Nat × String) ∈ zStrs := List.mem_of_getElem? (i := 10) rfl
theorem zs_109 : ((109, "the prop would age backwards") : Nat × String) ∈ zStrs := List.mem_of_getElem? (i := 11) rfl
theorem zs_131 : ((131, "no such day to come") : Nat × String) ∈ zStrs := List.mem_of_getElem? (i := 12) rfl
theorem zs_181 : ((181, "all days are over") : Nat × String) ∈ zStrs := List.mem_of_getElem? (i := 13) rfl
theorem zs_140 : ((140, "no such days") : Nat × String) ∈ zStrs := List.mem_of_getElem? (i := 14) rfl
theorem zs_142 : ((142, "no more permits") : Nat × String) ∈ zStrs := List.mem_of_getElem? (i := 15) rfl
theorem zs_247 : ((247, "no such permit") : Nat × String) ∈ zStrs := List.mem_of_getElem? (i := 16) rfl
theorem zs_155 : ((155, "the permit was revoked") : Nat × String) ∈ zStrs := List.mem_of_getElem? (i := 17) rfl
theorem zs_171 : ((171, "enough copies") : Nat × String) ∈ zStrs := List.mem_of_getElem? (i := 18) rfl
theorem zs_177 : ((177, "no such whole state") : Nat × String) ∈ zStrs := List.mem_of_getElem? (i := 19) rfl
theorem zs_179 : ((179, "no copy in this state") : Nat × String) ∈ zStrs := List.mem_of_getElem? (i := 20) rfl
theorem va_P1 {D : va_G} {cl : List vw_C} {q : Nat × va_E} {H : Heap} (h : va_at D cl q H) : va_P D cl [q] H := by
  intro k r hk
  cases k with
  | zero => cases hk; exact h
  | succ k => simp at hk
section ZROWS
variable {p : Program} {l : Launch} {e : Env} {R : Room} {s : State} {m : MethodId} {args : Array Value} {below : List Frame} {meth : Method} {c : Code} {H : Heap} {locs : List Loc} {cells slots : Nat} {Q : State → Prop}
variable {cc : ByteArray} {pc : Nat} {ls : Array Slot} {rest : List Value} {own : String} {nL : Nat}
variable {D : va_G} {ca : Nat → ClassId} {base : Nat} {ad : Nat → Nat → Nat} {n np : Nat} {μ : Mem}
theorem z_get (hC : ZC p m meth c s own cc nL) (hZ : ZS D ca base ad n np μ s H locs) {f i ci index : Nat} {fs : List Value} (he : zF ad ca n np f i (μ f i) = some (.inr (ci, fs))) {C : String} {T : u_T} {N : Nat} (hc : vwCl[ci]? = some (C, T, N)) (hin : ∀ w ∈ u_ws C T N, w ∈ lw_tbl) (k : Nat) (hk : k < N) (hd : (T k).1 = C) (hlink : Cond.fieldLink own index C (T k).2.1 (T k).2.2.1 ∈ lw_tbl) {v : Value} (hv : fs[k]? = some v) (hdg : decode cc pc = .ok (.getfield index, 3))
    (kk : W p l e R s m args below meth c H locs cells slots Q (F0 m (pc + 3) ls (v :: rest))) : W p l e R s m args below meth c H locs cells slots Q (F0 m pc ls (.ref (ad f i) :: rest)) :=
  va_get (D := D) (cl := vwCl) (tys := zT ca) hC.1 hC.2.1 (hZ.1.2.1.lay args hin) (fun _ h => h) hC.2.2.2.1 hZ.1.1 (va_P1 (hZ.2.2.1 f i _ he)) 0 rfl hc k hk (hZ.1.2.1.use args hlink rfl) (fun _ h => by rw [hd] at h; exact h) hv hdg kk
theorem z_put (hC : ZC p m meth c s own cc nL) (hZ : ZS D ca base ad n np μ s H locs) {f i ci index : Nat} {fs : List Value} (he : zF ad ca n np f i (μ f i) = some (.inr (ci, fs))) {C : String} {T : u_T} {N : Nat} (hc : vwCl[ci]? = some (C, T, N)) (hin : ∀ w ∈ u_ws C T N, w ∈ lw_tbl) (ty0 : Nat → FieldType) (hty : ∀ k, k < N → parseFieldDescriptor (T k).2.2.1 = some (ty0 k)) (hnm : ∀ a, a < N → ∀ b, b < N → a ≠ b → (T a).2.1 ≠ (T b).2.1)
    (k : Nat) (hk : k < N) (hd : (T k).1 = C) (hfin : (T k).2.2.2 = false) (hlink : Cond.fieldLink own index C (T k).2.1 (T k).2.2.1 ∈ lw_tbl) {x : Int32} (hn : narrow (ty0 k) (.int x) = .int x) (hfit : fits (ty0 k) (.int x) = true) (hl : k < fs.length) (h1 : zF ad ca n np f i (upd (μ f i) k x) = some (.inr (ci, fs.set k (.int x)))) (hdg : decode cc pc = .ok (.putfield index, 3))
    (kk : ∀ (H1 : Heap) (locs1 : List Loc), ZS D ca base ad n np (zst μ f i k x) s H1 locs1 → W p l e R s m args below meth c H1 locs1 cells slots Q (F0 m (pc + 3) ls rest)) : W p l e R s m args below meth c H locs cells slots Q (F0 m pc ls (.int x :: .ref (ad f i) :: rest)) := by
  have hts := hZ.1.2.1.lay args hin
  have hown := hC.2.2.2.1
  have hap := va_apart (own := own) hts (fun _ h => h) ty0 hty hnm hZ.1.1 hc
  obtain ⟨r, g1, cell, q1, q2, q3, q4⟩ := hZ.2.2.1 f i _ he
  have hr : r = (C, T, N) := Option.some.inj (g1.symm.trans hc)
  subst hr
  obtain ⟨hS, hfc, kC, hkC, hkind⟩ := hZ.1.1.1 ci _ hc
  obtain ⟨cf, kf, fi, fd, hi, hsl⟩ := hS k hk
  have hlay := hts _ (u_in_lay hk)
  unfold u_lay at hlay
  rw [if_neg (by rw [hfin]; decide)] at hlay
  have hst := (u_facts hfc hkC (u_lays hts (fun _ h => h) hk) hi).1
  have h6 := u_store hfc hkC hkind hlay hi (hty k hk) hn hfit
  refine W.putK hC.1 hC.2.1 (f := fd) ⟨hown, hZ.1.2.1.use args hlink rfl, ⟨_, _, _, by rw [hd] at hi; exact hi⟩, hst⟩ (by rw [q2]; exact h6) q1 q3 (by rw [hsl]; exact k2_hasslot (q4 k hk)) rfl rfl hdg fun H' e1 e2 e3 => ?_
  rw [hsl] at e1 ⊢
  exact kk H' _ (hZ.put he h1 ⟨_, hc, t_OB.to (V := updV (vp_V fs) k (.int x)) ⟨_, e1, q2, q3, t_set q4 hap hk (.int x)⟩ (fun j _ => vp_updV_set hl (.int x) j)⟩ e2 e3)
theorem z_iald (hC : ZC p m meth c s own cc nL) (hZ : ZS D ca base ad n np μ s H locs) {f i t N : Nat} {r : Nat → Int32} (he : zF ad ca n np f i (μ f i) = some (.inl (ca t, N, .inl r))) (ht : (zT ca)[t]? = some (ca t, .int)) {x : Int32} (hin : vp_in x N) (hdg : decode cc pc = .ok (.iaload, 1))
    (kk : W p l e R s m args below meth c H locs cells slots Q (F0 m (pc + 1) ls (.int (r x.toNatClampNeg) :: rest))) : W p l e R s m args below meth c H locs cells slots Q (F0 m pc ls (.int x :: .ref (ad f i) :: rest)) :=
  va_iald (D := D) (cl := vwCl) hC.1 hC.2.1 hZ.1.1 (va_P1 (hZ.2.2.1 f i _ he)) 0 t rfl ht hin hdg kk
theorem z_zald (hC : ZC p m meth c s own cc nL) (hZ : ZS D ca base ad n np μ s H locs) {f i t N : Nat} {r : Nat → Int32} (he : zF ad ca n np f i (μ f i) = some (.inl (ca t, N, .inl r))) (ht : (zT ca)[t]? = some (ca t, .boolean)) {x : Int32} (hin : vp_in x N) (hdg : decode cc pc = .ok (.baload, 1))
    (kk : W p l e R s m args below meth c H locs cells slots Q (F0 m (pc + 1) ls (.int (r x.toNatClampNeg) :: rest))) : W p l e R s m args below meth c H locs cells slots Q (F0 m pc ls (.int x :: .ref (ad f i) :: rest)) :=
  va_zald (D := D) (cl := vwCl) hC.1 hC.2.1 hZ.1.1 (va_P1 (hZ.2.2.1 f i _ he)) 0 t rfl ht hin hdg kk
theorem z_lald (hC : ZC p m meth c s own cc nL) (hZ : ZS D ca base ad n np μ s H locs) {f i t N : Nat} {r : Nat → Int64} (he : zF ad ca n np f i (μ f i) = some (.inl (ca t, N, .inr (.inl r)))) (ht : (zT ca)[t]? = some (ca t, .long)) {x : Int32} (hin : vp_in x N) (hdg : decode cc pc = .ok (.laload, 1))
    (kk : W p l e R s m args below meth c H locs cells slots Q (F0 m (pc + 1) ls (.long (r x.toNatClampNeg) :: rest))) : W p l e R s m args below meth c H locs cells slots Q (F0 m pc ls (.int x :: .ref (ad f i) :: rest)) :=
  va_lald (D := D) (cl := vwCl) hC.1 hC.2.1 hZ.1.1 (va_P1 (hZ.2.2.1 f i _ he)) 0 t rfl ht hin hdg kk
theorem z_aald (hC : ZC p m meth c s own cc nL) (hZ : ZS D ca base ad n np μ s H locs) {f i t N : Nat} {r : Nat → Option Nat} {ty : FieldType} (he : zF ad ca n np f i (μ f i) = some (.inl (ca t, N, .inr (.inr (.inr (.inr r)))))) (ht : (zT ca)[t]? = some (ca t, ty)) (hty : ty.isReference = true) {x : Int32} (hin : vp_in x N) (hdg : decode cc pc = .ok (.aaload, 1))
    (kk : W p l e R s m args below meth c H locs cells slots Q (F0 m (pc + 1) ls (va_rf (r x.toNatClampNeg) :: rest))) : W p l e R s m args below meth c H locs cells slots Q (F0 m pc ls (.int x :: .ref (ad f i) :: rest)) := by
  have hlt : x.toNatClampNeg < N := Nat.not_le.mp fun q => hin (Or.inr q)
  exact W.aald (v := va_rf (r x.toNatClampNeg)) (ty := ty) hC.1 hC.2.1 (hZ.2.2.1 f i _ he) ((hZ.1.1.2 t _ ht).1 N (fun j => va_rf (r j))) hty (fun q => by cases q) (by show ¬ (x < 0 ∨ (arrV _ _ _).slots.size ≤ _); rw [arrV_size]; exact hin) (by show (arrV _ _ _).slots[_]? = _; rw [arrV_read _ _ hlt]) rfl rfl hdg kk
theorem z_alen (hC : ZC p m meth c s own cc nL) (hZ : ZS D ca base ad n np μ s H locs) {f i t : Nat} {x : vp_A} (he : zF ad ca n np f i (μ f i) = some (.inl (ca t, x))) {ty : FieldType} (ht : (zT ca)[t]? = some (ca t, ty)) {v : Int32} (hv : Int32.ofNat x.1 = v) (hdg : decode cc pc = .ok (.arraylength, 1))
    (kk : W p l e R s m args below meth c H locs cells slots Q (F0 m (pc + 1) ls (.int v :: rest))) : W p l e R s m args below meth c H locs cells slots Q (F0 m pc ls (.ref (ad f i) :: rest)) :=
  va_alen (D := D) (cl := vwCl) hC.1 hC.2.1 hZ.1.1 (va_P1 (hZ.2.2.1 f i _ he)) 0 t rfl ht hv hdg kk
theorem zupd_i (cA : ClassId) (N : Nat) (r : Nat → Int32) (k : Nat) (x : Int32) : (vp_cell cA (N, .inl r)).setSlot k (.int x) = vp_cell cA (N, .inl (upd r k x)) := by
  rw [vp_cell_i, vp_cell_i, arrV_store]
  congr 2
  funext q
  by_cases hq : q = k
  · subst hq
    simp [updV, upd]
  · simp [updV, upd, hq]
theorem zupd_l (cA : ClassId) (N : Nat) (r : Nat → Int32) (k : Nat) (x : Int32) : (vp_cell cA (N, .inr (.inl (fun j => (r j).toInt64)))).setSlot k (.long x.toInt64) = vp_cell cA (N, .inr (.inl (fun j => (upd r k x j).toInt64))) := by
  rw [vp_cell_l, vp_cell_l, arrV_store]
  congr 2
  funext q
  by_cases hq : q = k
  · subst hq
    simp [updV, upd]
  · simp [updV, upd, hq]
theorem zupd_q (cA : ClassId) (N : Nat) (ad : Nat → Nat → Nat) (g : Nat) (r : Nat → Int32) (k : Nat) (x : Int32) : (vp_cell cA (N, .inr (.inr (.inr (.inr (fun j => zr ad g (r j))))))).setSlot k (va_rf (zr ad g x)) = vp_cell cA (N, .inr (.inr (.inr (.inr (fun j => zr ad g (upd r k x j)))))) := by
  rw [vp_cell_q, vp_cell_q, arrV_store]
  congr 2
  funext q
  by_cases hq : q = k
  · subst hq
    simp [updV, upd]
  · simp [updV, upd, hq]
theorem z_iast (hC : ZC p m meth c s own cc nL) (hZ : ZS D ca base ad n np μ s H locs) {f i t N : Nat} (he : ∀ r, zF ad ca n np f i r = some (.inl (ca t, N, .inl r))) (ht : (zT ca)[t]? = some (ca t, .int)) {x y : Int32} (hin : vp_in x N) (hdg : decode cc pc = .ok (.iastore, 1))
    (kk : ∀ (H1 : Heap) (locs1 : List Loc), ZS D ca base ad n np (zst μ f i x.toNatClampNeg y) s H1 locs1 → W p l e R s m args below meth c H1 locs1 cells slots Q (F0 m (pc + 1) ls rest)) : W p l e R s m args below meth c H locs cells slots Q (F0 m pc ls (.int y :: .int x :: .ref (ad f i) :: rest)) := by
  refine W.iast hC.1 hC.2.1 (hZ.2.2.1 f i _ (he _)) ((hZ.1.1.2 t _ ht).1 N (fun j => .int (μ f i j))) (fun q => by cases q) (by show ¬ (x < 0 ∨ (arrV _ _ _).slots.size ≤ _); rw [arrV_size]; exact hin) rfl rfl hdg fun H1 e1 z oq => ?_
  refine kk H1 _ (hZ.put (he _) (he _) ?_ z oq)
  show H1[ad f i]? = some (vp_cell _ _)
  rw [e1, zupd_i]
theorem z_zast (hC : ZC p m meth c s own cc nL) (hZ : ZS D ca base ad n np μ s H locs) {f i t N : Nat} (he : ∀ r, zF ad ca n np f i r = some (.inl (ca t, N, .inl r))) (ht : (zT ca)[t]? = some (ca t, .boolean)) {x y : Int32} (hin : vp_in x N) (hy : narrow .boolean (.int y) = .int y) (hdg : decode cc pc = .ok (.bastore, 1))
    (kk : ∀ (H1 : Heap) (locs1 : List Loc), ZS D ca base ad n np (zst μ f i x.toNatClampNeg y) s H1 locs1 → W p l e R s m args below meth c H1 locs1 cells slots Q (F0 m (pc + 1) ls rest)) : W p l e R s m args below meth c H locs cells slots Q (F0 m pc ls (.int y :: .int x :: .ref (ad f i) :: rest)) := by
  refine W.zast hC.1 hC.2.1 (hZ.2.2.1 f i _ (he _)) ((hZ.1.1.2 t _ ht).1 N (fun j => .int (μ f i j))) (fun q => by cases q) (by show ¬ (x < 0 ∨ (arrV _ _ _).slots.size ≤ _); rw [arrV_size]; exact hin) rfl rfl hdg fun H1 e1 z oq => ?_
  refine kk H1 _ (hZ.put (he _) (he _) ?_ z oq)
  show H1[ad f i]? = some (vp_cell _ _)
  rw [e1, hy, zupd_i]
theorem z_last (hC : ZC p m meth c s own cc nL) (hZ : ZS D ca base ad n np μ s H locs) {f i t N : Nat} (he : ∀ r : Nat → Int32, zF ad ca n np f i r = some (.inl (ca t, N, .inr (.inl (fun k => (r k).toInt64))))) (ht : (zT ca)[t]? = some (ca t, .long)) {x y : Int32} (hin : vp_in x N) (hdg : decode cc pc = .ok (.lastore, 1))
    (kk : ∀ (H1 : Heap) (locs1 : List Loc), ZS D ca base ad n np (zst μ f i x.toNatClampNeg y) s H1 locs1 → W p l e R s m args below meth c H1 locs1 cells slots Q (F0 m (pc + 1) ls rest)) : W p l e R s m args below meth c H locs cells slots Q (F0 m pc ls (.long y.toInt64 :: .int x :: .ref (ad f i) :: rest)) := by
  refine W.last hC.1 hC.2.1 (hZ.2.2.1 f i _ (he _)) ((hZ.1.1.2 t _ ht).1 N (fun j => .long (μ f i j).toInt64)) (fun q => by cases q) (by show ¬ (x < 0 ∨ (arrV _ _ _).slots.size ≤ _); rw [arrV_size]; exact hin) rfl rfl hdg fun H1 e1 z oq => ?_
  refine kk H1 _ (hZ.put (he _) (he _) ?_ z oq)
  show H1[ad f i]? = some (vp_cell _ _)
  rw [e1, zupd_l]
theorem zr_neg {g : Nat} {v : Int32} (h : v < 0) : zr ad g v = none := if_pos h
theorem zr_pos {g : Nat} {v : Int32} (h : ¬ v < 0) : zr ad g v = some (ad g v.toNatClampNeg) := if_neg h
/-- a reference (or null) is laid into an array: y names it in its family g (70: scenes, 80: permits) -/
theorem z_aast (hC : ZC p m meth c s own cc nL) (hZ : ZS D ca base ad n np μ s H locs) {f i t N g : Nat} (he : ∀ r : Nat → Int32, zF ad ca n np f i r = some (.inl (ca t, N, .inr (.inr (.inr (.inr (fun k => zr ad g (r k)))))))) {C : String} {T : u_T} {M ci : Nat} (hc : vwCl[ci]? = some (C, T, M)) (ht : (zT ca)[t]? = some (ca t, .object C)) {x y : Int32} (hin : vp_in x N) (hy : ¬ y < 0 → ∃ fs, zF ad ca n np g y.toNatClampNeg (μ g y.toNatClampNeg) = some (.inr (ci, fs))) (hdg : decode cc pc = .ok (.aastore, 1))
    (kk : ∀ (H1 : Heap) (locs1 : List Loc), ZS D ca base ad n np (zst μ f i x.toNatClampNeg y) s H1 locs1 → W p l e R s m args below meth c H1 locs1 cells slots Q (F0 m (pc + 1) ls rest)) : W p l e R s m args below meth c H locs cells slots Q (F0 m pc ls (va_rf (zr ad g y) :: .int x :: .ref (ad f i) :: rest)) := by
  have fin : ∀ H1 : Heap, H1[ad f i]? = some ((vp_cell (ca t) (N, .inr (.inr (.inr (.inr (fun k => zr ad g (μ f i k))))))).setSlot x.toNatClampNeg (va_rf (zr ad g y))) → H1.size = H.size → (∀ q, q ≠ ad f i → H1[q]? = H[q]?) → ZS D ca base ad n np (zst μ f i x.toNatClampNeg y) s H1 (locs ++ [⟨ad f i, x.toNatClampNeg⟩]) := by
    intro H1 e1 z oq
    refine hZ.put (he _) (he _) ?_ z oq
    show H1[ad f i]? = some (vp_cell _ _)
    rw [e1, zupd_q]
  by_cases h0 : y < 0
  · rw [zr_neg h0] at fin ⊢
    exact va_WaastN hC.1 hC.2.1 (C := C) (hZ.2.2.1 f i _ (he _)) ((hZ.1.1.2 t _ ht).1 N (fun j => va_rf (zr ad g (μ f i j)))) (fun q => by cases q) (by show ¬ (x < 0 ∨ (arrV _ _ _).slots.size ≤ _); rw [arrV_size]; exact hin) rfl rfl hdg fun H1 e1 z oq => kk H1 _ (fin H1 e1 z oq)
  · obtain ⟨fs, hfs⟩ := hy h0
    rw [zr_pos h0] at fin ⊢
    have hlt : x.toNatClampNeg < N := Nat.not_le.mp fun q => hin (Or.inr q)
    have hx0 : ¬ x < 0 := fun q => hin (Or.inl q)
    obtain ⟨r', hr', cellV, g1, g2, g3, -⟩ := hZ.2.2.1 g _ _ hfs
    have hcls := (hZ.1.1.1 ci _ hc).2
    obtain ⟨kA, comp, k1, k2, k3, -⟩ := (hZ.1.1.2 t _ ht).2
    have hcomp : comp = D.1 ci := Option.some.inj (k3.symm.trans hcls.1)
    subst hcomp
    obtain ⟨hfc, kC, hkC, hkind⟩ := id hcls
    have hD : va_D (zB base) [(ad f i, .inl (ca t, N, .inr (.inr (.inr (.inr (fun k => zr ad g (μ f i k))))))), (ad g y.toNatClampNeg, .inr (ci, fs))] := by
      have hne : ad f i ≠ ad g y.toNatClampNeg := fun q => by
        obtain ⟨rfl, rfl⟩ := hZ.2.2.2.1 _ _ _ _ _ _ (he _) hfs q
        have := (he (μ f y.toNatClampNeg)).symm.trans hfs
        simp at this
      refine ⟨fun a b pa pb h1 h2 hq => ?_, fun k q hk => ?_⟩
      · match a, b, h1, h2 with
        | 0, 0, _, _ => rfl
        | 1, 1, _, _ => rfl
        | 0, 1, h1, h2 => cases h1; cases h2; exact absurd hq hne
        | 1, 0, h1, h2 => cases h1; cases h2; exact absurd hq.symm hne
        | a + 2, _, h1, _ => simp at h1
        | _, b + 2, _, h2 => simp at h2
      · match k, hk with
        | 0, hk => cases hk; exact hZ.2.2.2.2 _ _ _ (he _)
        | 1, hk => cases hk; exact hZ.2.2.2.2 _ _ _ hfs
        | k + 2, hk => simp at hk
    refine W.aast (t := .object C) (comp := D.1 ci) (k := kA) hC.1 hC.2.1 (hZ.2.2.1 f i _ (he _)) (fun q h => by cases h) (fun h => by cases h) k1 k2 rfl hkC ⟨hx0, by show _ < (arrV _ _ _).slots.size; rw [arrV_size]; exact hlt⟩ g1 (fun q h => by rw [g3] at h; cases h) (by rw [g2]; exact hkC) (by rw [g2]; exact va_assign hcls) rfl rfl hdg fun H1 e1 z oq => kk H1 _ (fin H1 e1 z oq)
end ZROWS
