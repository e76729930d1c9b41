/-- 'x != 0' as a number -/
def zbl (x z : Int32) : Prop := (z = 0 ∨ z = 1) ∧ (x = 0 → z = 0) ∧ (¬ x = 0 → z = 1)
theorem zbl.eq {x y z : Int32} (h : zbl x y) (h2 : zbl x z) : y = z := by
  by_cases c : x = 0
  · rw [h.2.1 c, h2.2.1 c]
  · rw [h.2.2 c, h2.2.2 c]
theorem z_toB {p : Program} {l : Launch} {e : Env} {R : Room} {s : State} {m : MethodId} {args : Array Value} {below : List Frame} {meth : Method} {c : Code} {H : Heap} {locs : List Loc} {cells slots : Nat} {Q : State → Prop} {cc : ByteArray} {pc t pc1 pc2 : Nat} {ls : Array Slot} {rest : List Value} {own : String} {nL : Nat} {x : Int32} {o1 o2 : Int} (hC : ZC p m meth c s own cc nL) (h0 : decode cc pc = .ok (.ifCond .eq o1, 3)) (ht : (pc : Int) + o1 = (t : Int)) (h1 : decode cc pc1 = .ok (.iconst 1, 1)) (h2 : decode cc pc2 = .ok (.goto o2, 3)) (ht2 : (pc2 : Int) + o2 = ((t + 1 : Nat) : Int)) (h3 : decode cc t = .ok (.iconst 0, 1)) (e1 : pc1 = pc + 3) (e2 : pc2 = pc + 3 + 1)
    (kk : ∀ z : Int32, zbl x z → W p l e R s m args below meth c H locs cells slots Q (F0 m (t + 1) ls (.int z :: rest))) : W p l e R s m args below meth c H locs cells slots Q (F0 m pc ls (.int x :: rest)) := by
  subst e1
  subst e2
  refine lv_if_eq (tgt := t) hC.1 hC.2.1 h0 ht (fun c1 => ?_) (fun c1 => ?_)
  · refine lv_iconst (v := 0) hC.1 hC.2.1 h3 (by decide) ?_
    exact kk 0 ⟨Or.inl rfl, fun _ => rfl, fun h => absurd c1 h⟩
  · refine lv_iconst (v := 1) hC.1 hC.2.1 h1 (by decide) ?_
    refine lv_goto (tgt := t + 1) hC.1 hC.2.1 h2 ht2 ?_
    exact kk 1 ⟨Or.inr rfl, fun h => absurd h c1, fun _ => rfl⟩
/-! THE LAW (written by a program): what each call owes, and one turn of the loop for each call -/
/-- behind a call: the reference threw what the class threw, answers alike where nothing was thrown, and the two still go together -/
def oT (Inv : Nat → Nat → Mem → Prop) (n np : Nat) (k b : Int32) : Int32 → Mem → Prop := fun t u => t = k ∧ (k = 0 → u 21 0 0 = b) ∧ Inv n np u
def oB (Inv : Nat → Nat → Mem → Prop) (n np : Nat) (k b : Int32) : Int32 → Mem → Prop := fun t u => t = k ∧ (k = 0 → (b = 0 → u 21 0 0 = 0) ∧ (¬ b = 0 → u 21 0 0 = 1)) ∧ Inv n np u
abbrev LL (b : Nat) (ad : Nat → Nat → Nat) (i : Int32) : List (Nat × Value) := [(0, .ref b), (1, .ref (ad 30 0)), (2, .ref (ad 0 0)), (3, .ref (ad 21 0)), (4, .int i)]
def LK (p : Program) (l : Launch) (e : Env) (s : State) (m : MethodId) (args : Array Value) (below : List Frame) (meth : Method) (c : Code) (Inv : Nat → Nat → Mem → Prop) (D : va_G) (ca : Nat → ClassId) (b : Nat) (i : Int32) (cells slots : Nat) (Q : State → Prop) : Prop :=
  ∀ (n2 np2 : Nat) (ad2 : Nat → Nat → Nat) (u : Mem) (H : Heap) (locs : List Loc) (ls : Array Slot), Inv n2 np2 u → ZS D ca s.heap.size ad2 n2 np2 u s H locs → lv_has ls 7 (LL b ad2 i) → W p l e room_1 s m args below meth c H locs (cells + 4) (slots + 24) Q (F0 m 1526 ls [])
theorem z_cmp0 {x y : Int32} (h : x = y) : lg_cmp x.toInt64 y.toInt64 = 0 := by
  subst h
  simp [lg_cmp]
section LAW
variable {p : Program} {l : Launch} {e : Env} {s : State} {m : MethodId} {args : Array Value} {below : List Frame} {meth : Method} {c : Code} {b L : Nat} {xs : Nat → Int32}
variable {D : va_G} {ca : Nat → ClassId} {ad : Nat → Nat → Nat} {n np : Nat} {μ : Mem} {H : Heap} {locs : List Loc} {ls : Array Slot} {cells slots : Nat} {i : Int32} {Q : State → Prop} {Inv : Nat → Nat → Mem → Prop}
def ob_scene (Inv : Nat → Nat → Mem → Prop) : Prop := ∀ (n np : Nat) (μ : Mem) (a1 a2 : Int32), Inv n np μ → w_L_scene n np (fun (k : Int32) (n2 np2 : Nat) (u : Mem) => w_X5_scene (fun (b : Int32) (u2 : Mem) => w_X5_thrown (oT Inv n2 np2 k b) u2) a1 a2 u) a1 a2 μ
set_option maxRecDepth 100000 in
set_option maxHeartbeats 4000000 in
theorem law_160 (hst : l.stackTraces = false) (hC : ZC p m meth c s RL cL_law 7) (hX : va_X b L xs s s.heap) (hbl : b < s.heap.size) (ho : ob_scene Inv) (hI : Inv n np μ) (hZ : ZS D ca s.heap.size ad n np μ s H locs) (hl : lv_has ls 7 (LL b ad i)) (hi1 : vp_in (i + 1) L) (hi2 : vp_in (i + 2) L) (hi3 : vp_in (i + 3) L) (hi4 : vp_in (i + 4) L) (hc : cells + 4 ≤ 605506) (hs : slots + 24 ≤ 7279587) (kk : LK p l e s m args below meth c Inv D ca b i cells slots Q) : W p l e room_1 s m args below meth c H locs cells slots Q (F0 m 160 ls []) := by
  have hbA : ¬ zB s.heap.size b := Nat.not_le.mpr hbl
  refine lv_aload_n hC.1 hC.2.1 dL_law_160 rfl (lv_at hl 1 rfl) ?_
  refine lv_aload_n hC.1 hC.2.1 dL_law_161 rfl (lv_at hl 0 rfl) ?_
  refine lv_iload hC.1 hC.2.1 dL_law_162 (lv_at hl 4 rfl) ?_
  refine lv_iconst (v := 1) hC.1 hC.2.1 dL_law_164 (by decide) ?_
  refine lv_iadd hC.1 hC.2.1 dL_law_165 ?_
  refine va_sld hC.1 hC.2.1 hX hbl hbA hZ.2.1 hi1 dL_law_166 ?_
  refine lv_aload_n hC.1 hC.2.1 dL_law_167 rfl (lv_at hl 0 rfl) ?_
  refine lv_iload hC.1 hC.2.1 dL_law_168 (lv_at hl 4 rfl) ?_
  refine lv_iconst (v := 2) hC.1 hC.2.1 dL_law_170 (by decide) ?_
  refine lv_iadd hC.1 hC.2.1 dL_law_171 ?_
  refine va_sld hC.1 hC.2.1 hX hbl hbA hZ.2.1 hi2 dL_law_172 ?_
  refine lv_aload_n hC.1 hC.2.1 dL_law_173 rfl (lv_at hl 3 rfl) ?_
  have h := ho n np μ (xs (i + 1).toNatClampNeg) (xs (i + 2).toNatClampNeg) hI
  refine z_callW (As := [.ref (ad 30 0), .int (xs (i + 1).toNatClampNeg), .int (xs (i + 2).toNatClampNeg), .ref (ad 21 0)]) (rest := []) hC hZ zy_L_scene (c_L_scene l hst h) km_L_83 rfl ⟨rfl, rfl⟩ ⟨(Nat.le_of_ble_eq_true rfl), (Nat.le_of_ble_eq_true rfl)⟩ hl.1 rfl (Nat.le_of_ble_eq_true rfl) dL_law_174 ⟨by show _ ≤ 605506; omega, by show _ ≤ 7279587; omega⟩ (fun k n2 np2 ad2 u H locs h hag hZ => ?_)
  have hl : lv_has ls 7 (LL b ad2 i) := by
    have e1 := hag 30 0 (by decide)
    have e2 := hag 0 0 (by decide)
    have e3 := hag 21 0 (by decide)
    unfold LL
    rw [e1, e2, e3]
    exact hl
  refine lv_istore (lv' := [(5, .int k), (0, .ref b), (1, .ref (ad2 30 0)), (2, .ref (ad2 0 0)), (3, .ref (ad2 21 0)), (4, .int i)]) hC.1 hC.2.1 dL_law_177 hl (by decide) rfl (fun ls hl => ?_)
  refine lv_aload_n hC.1 hC.2.1 dL_law_179 rfl (lv_at hl 3 rfl) ?_
  refine lv_aload_n hC.1 hC.2.1 dL_law_180 rfl (lv_at hl 1 rfl) ?_
  refine lv_iload hC.1 hC.2.1 dL_law_181 (lv_at hl 5 rfl) ?_
  refine lv_iconst (v := 1) hC.1 hC.2.1 dL_law_183 (by decide) ?_
  refine lv_iadd hC.1 hC.2.1 dL_law_184 ?_
  refine va_sld hC.1 hC.2.1 hX hbl hbA hZ.2.1 hi1 dL_law_185 ?_
  refine lv_aload_n hC.1 hC.2.1 dL_law_186 rfl (lv_at hl 1 rfl) ?_
  refine lv_iload hC.1 hC.2.1 dL_law_187 (lv_at hl 5 rfl) ?_
  refine lv_iconst (v := 2) hC.1 hC.2.1 dL_law_189 (by decide) ?_
  refine lv_iadd hC.1 hC.2.1 dL_law_190 ?_
  refine va_sld hC.1 hC.2.1 hX hbl hbA hZ.2.1 hi2 dL_law_191 ?_
  refine z_cVi (As := [.int (xs (i + 1).toNatClampNeg), .int (xs (i + 2).toNatClampNeg)]) (rest := []) hC hZ (zF_0 _) rfl zy_X5_scene (c_X5_scene l h) km_L_88 rfl ⟨rfl, rfl⟩ ⟨(Nat.le_of_ble_eq_true rfl), (Nat.le_of_ble_eq_true rfl)⟩ hl.1 rfl (Nat.le_of_ble_eq_true rfl) dL_law_192 ⟨by show _ ≤ 605506; omega, by show _ ≤ 7279587; omega⟩ (fun b1 u2 H locs h hZ => ?_)
  refine lv_istore (lv' := [(6, .int b1), (5, .int k), (0, .ref b), (1, .ref (ad2 30 0)), (2, .ref (ad2 0 0)), (3, .ref (ad2 21 0)), (4, .int i)]) hC.1 hC.2.1 dL_law_195 hl (by decide) rfl (fun ls hl => ?_)
  refine lv_aload_n hC.1 hC.2.1 dL_law_197 rfl (lv_at hl 4 rfl) ?_
  refine z_cVi (As := []) (rest := []) hC hZ (zF_0 _) rfl zy_X5_thrown (c_X5_thrown l h) km_L_89 rfl ⟨rfl, rfl⟩ ⟨(Nat.le_of_ble_eq_true rfl), (Nat.le_of_ble_eq_true rfl)⟩ hl.1 rfl (Nat.le_of_ble_eq_true rfl) dL_law_198 ⟨by show _ ≤ 605506; omega, by show _ ≤ 7279587; omega⟩ (fun t u3 H locs h hZ => ?_)
  refine lv_iload hC.1 hC.2.1 dL_law_201 (lv_at hl 1 rfl) ?_
  refine lv_icmp_eq (tgt := 208) hC.1 hC.2.1 dL_law_203 (by decide) (fun c1 => ?_) (fun c1 => absurd h.1 c1)
  have hl1 : lv_has ls 7 (LL b ad2 i) := lv_sub hl [2, 3, 4, 5, 6] rfl
  refine lv_iload hC.1 hC.2.1 dL_law_208 (lv_at hl 1 rfl) ?_
  have fin : ∀ (H : Heap) (locs : List Loc), ZS D ca s.heap.size ad2 n2 np2 u3 s H locs → W p l e room_1 s m args below meth c H locs (cells + 4 + 0 + 0) (slots + 23 + 0 + 0) Q (F0 m 225 ls []) := by
    intro H locs hZ
    refine lv_goto (tgt := 1526) hC.1 hC.2.1 dL_law_225 (by decide) ?_
    refine W.widen (k := cells + 4) (n := slots + 24) (by omega) (by omega) ?_
    exact kk n2 np2 ad2 u3 _ _ _ h.2.2 hZ hl1
  refine lv_if_ne (tgt := 225) hC.1 hC.2.1 dL_law_210 (by decide) (fun c2 => fin _ _ hZ) (fun c2 => ?_)
  have h4 := h.2.1 c2
  refine lv_aload_n hC.1 hC.2.1 dL_law_213 rfl (lv_at hl 5 rfl) ?_
  refine lv_iconst (v := 0) hC.1 hC.2.1 dL_law_214 (by decide) ?_
  refine aL_21 hC hZ z01 dL_law_215 ?_
  refine lv_iload hC.1 hC.2.1 dL_law_216 (lv_at hl 0 rfl) ?_
  refine lv_i2l hC.1 hC.2.1 dL_law_218 rfl ?_
  refine W.lcmp hC.1 hC.2.1 dL_law_219 ?_
  refine lv_if_eq (tgt := 225) hC.1 hC.2.1 dL_law_220 (by decide) (fun c3 => fin _ _ hZ) (fun c3 => absurd (z_cmp0 (h4)) c3)
def ob_plays (Inv : Nat → Nat → Mem → Prop) : Prop := ∀ (n np : Nat) (μ : Mem) (a1 a2 a3 : Int32), Inv n np μ → w_L_plays n np (fun (k : Int32) (n2 np2 : Nat) (u : Mem) => w_X5_plays (fun (b : Int32) (u2 : Mem) => w_X5_thrown (oT Inv n2 np2 k b) u2) a1 a2 a3 u) a1 a2 a3 μ
set_option maxRecDepth 100000 in
set_option maxHeartbeats 4000000 in
theorem law_228 (hst : l.stackTraces = false) (hC : ZC p m meth c s RL cL_law 7) (hX : va_X b L xs s s.heap) (hbl : b < s.heap.size) (ho : ob_plays Inv) (hI : Inv n np μ) (hZ : ZS D ca s.heap.size ad n np μ s H locs) (hl : lv_has ls 7 (LL b ad i)) (hi1 : vp_in (i + 1) L) (hi2 : vp_in (i + 2) L) (hi3 : vp_in (i + 3) L) (hi4 : vp_in (i + 4) L) (hc : cells + 4 ≤ 605506) (hs : slots + 24 ≤ 7279587) (kk : LK p l e s m args below meth c Inv D ca b i cells slots Q) : W p l e room_1 s m args below meth c H locs cells slots Q (F0 m 228 ls []) := by
  have hbA : ¬ zB s.heap.size b := Nat.not_le.mpr hbl
  refine lv_aload_n hC.1 hC.2.1 dL_law_228 rfl (lv_at hl 1 rfl) ?_
  refine lv_aload_n hC.1 hC.2.1 dL_law_229 rfl (lv_at hl 0 rfl) ?_
  refine lv_iload hC.1 hC.2.1 dL_law_230 (lv_at hl 4 rfl) ?_
  refine lv_iconst (v := 1) hC.1 hC.2.1 dL_law_232 (by decide) ?_
  refine lv_iadd hC.1 hC.2.1 dL_law_233 ?_
  refine va_sld hC.1 hC.2.1 hX hbl hbA hZ.2.1 hi1 dL_law_234 ?_
  refine lv_aload_n hC.1 hC.2.1 dL_law_235 rfl (lv_at hl 0 rfl) ?_
  refine lv_iload hC.1 hC.2.1 dL_law_236 (lv_at hl 4 rfl) ?_
  refine lv_iconst (v := 2) hC.1 hC.2.1 dL_law_238 (by decide) ?_
  refine lv_iadd hC.1 hC.2.1 dL_law_239 ?_
  refine va_sld hC.1 hC.2.1 hX hbl hbA hZ.2.1 hi2 dL_law_240 ?_
  refine lv_aload_n hC.1 hC.2.1 dL_law_241 rfl (lv_at hl 0 rfl) ?_
  refine lv_iload hC.1 hC.2.1 dL_law_242 (lv_at hl 4 rfl) ?_
  refine lv_iconst (v := 3) hC.1 hC.2.1 dL_law_244 (by decide) ?_
  refine lv_iadd hC.1 hC.2.1 dL_law_245 ?_
  refine va_sld hC.1 hC.2.1 hX hbl hbA hZ.2.1 hi3 dL_law_246 ?_
  refine lv_aload_n hC.1 hC.2.1 dL_law_247 rfl (lv_at hl 3 rfl) ?_
  have h := ho n np μ (xs (i + 1).toNatClampNeg) (xs (i + 2).toNatClampNeg) (xs (i + 3).toNatClampNeg) hI
  refine z_callW (As := [.ref (ad 30 0), .int (xs (i + 1).toNatClampNeg), .int (xs (i + 2).toNatClampNeg), .int (xs (i + 3).toNatClampNeg), .ref (ad 21 0)]) (rest := []) hC hZ zy_L_plays (c_L_plays l hst h) km_L_92 rfl ⟨rfl, rfl⟩ ⟨(Nat.le_of_ble_eq_true rfl), (Nat.le_of_ble_eq_true rfl)⟩ hl.1 rfl (Nat.le_of_ble_eq_true rfl) dL_law_248 ⟨by show _ ≤ 605506; omega, by show _ ≤ 7279587; omega⟩ (fun k n2 np2 ad2 u H locs h hag hZ => ?_)
  have hl : lv_has ls 7 (LL b ad2 i) := by
    have e1 := hag 30 0 (by decide)
    have e2 := hag 0 0 (by decide)
    have e3 := hag 21 0 (by decide)
    unfold LL
    rw [e1, e2, e3]
    exact hl
  refine lv_istore (lv' := [(5, .int k), (0, .ref b), (1, .ref (ad2 30 0)), (2, .ref (ad2 0 0)), (3, .ref (ad2 21 0)), (4, .int i)]) hC.1 hC.2.1 dL_law_251 hl (by decide) rfl (fun ls hl => ?_)
  refine lv_aload_n hC.1 hC.2.1 dL_law_253 rfl (lv_at hl 3 rfl) ?_
  refine lv_aload_n hC.1 hC.2.1 dL_law_254 rfl (lv_at hl 1 rfl) ?_
  refine lv_iload hC.1 hC.2.1 dL_law_255 (lv_at hl 5 rfl) ?_
  refine lv_iconst (v := 1) hC.1 hC.2.1 dL_law_257 (by decide) ?_
  refine lv_iadd hC.1 hC.2.1 dL_law_258 ?_
  refine va_sld hC.1 hC.2.1 hX hbl hbA hZ.2.1 hi1 dL_law_259 ?_
  refine lv_aload_n hC.1 hC.2.1 dL_law_260 rfl (lv_at hl 1 rfl) ?_
  refine lv_iload hC.1 hC.2.1 dL_law_261 (lv_at hl 5 rfl) ?_
  refine lv_iconst (v := 2) hC.1 hC.2.1 dL_law_263 (by decide) ?_
  refine lv_iadd hC.1 hC.2.1 dL_law_264 ?_
  refine va_sld hC.1 hC.2.1 hX hbl hbA hZ.2.1 hi2 dL_law_265 ?_
  refine lv_aload_n hC.1 hC.2.1 dL_law_266 rfl (lv_at hl 1 rfl) ?_
  refine lv_iload hC.1 hC.2.1 dL_law_267 (lv_at hl 5 rfl) ?_
  refine lv_iconst (v := 3) hC.1 hC.2.1 dL_law_269 (by decide) ?_
  refine lv_iadd hC.1 hC.2.1 dL_law_270 ?_
  refine va_sld hC.1 hC.2.1 hX hbl hbA hZ.2.1 hi3 dL_law_271 ?_
  refine z_cVi (As := [.int (xs (i + 1).toNatClampNeg), .int (xs (i + 2).toNatClampNeg), .int (xs (i + 3).toNatClampNeg)]) (rest := []) hC hZ (zF_0 _) rfl zy_X5_plays (c_X5_plays l h) km_L_95 rfl ⟨rfl, rfl⟩ ⟨(Nat.le_of_ble_eq_true rfl), (Nat.le_of_ble_eq_true rfl)⟩ hl.1 rfl (Nat.le_of_ble_eq_true rfl) dL_law_272 ⟨by show _ ≤ 605506; omega, by show _ ≤ 7279587; omega⟩ (fun b1 u2 H locs h hZ => ?_)
  refine lv_istore (lv' := [(6, .int b1), (5, .int k), (0, .ref b), (1, .ref (ad2 30 0)), (2, .ref (ad2 0 0)), (3, .ref (ad2 21 0)), (4, .int i)]) hC.1 hC.2.1 dL_law_275 hl (by decide) rfl (fun ls hl => ?_)
  refine lv_aload_n hC.1 hC.2.1 dL_law_277 rfl (lv_at hl 4 rfl) ?_
  refine z_cVi (As := []) (rest := []) hC hZ (zF_0 _) rfl zy_X5_thrown (c_X5_thrown l h) km_L_89 rfl ⟨rfl, rfl⟩ ⟨(Nat.le_of_ble_eq_true rfl), (Nat.le_of_ble_eq_true rfl)⟩ hl.1 rfl (Nat.le_of_ble_eq_true rfl) dL_law_278 ⟨by show _ ≤ 605506; omega, by show _ ≤ 7279587; omega⟩ (fun t u3 H locs h hZ => ?_)
  refine lv_iload hC.1 hC.2.1 dL_law_281 (lv_at hl 1 rfl) ?_
  refine lv_icmp_eq (tgt := 288) hC.1 hC.2.1 dL_law_283 (by decide) (fun c1 => ?_) (fun c1 => absurd h.1 c1)
  have hl1 : lv_has ls 7 (LL b ad2 i) := lv_sub hl [2, 3, 4, 5, 6] rfl
  refine lv_iload hC.1 hC.2.1 dL_law_288 (lv_at hl 1 rfl) ?_
  have fin : ∀ (H : Heap) (locs : List Loc), ZS D ca s.heap.size ad2 n2 np2 u3 s H locs → W p l e room_1 s m args below meth c H locs (cells + 3 + 0 + 0) (slots + 18 + 0 + 0) Q (F0 m 305 ls []) := by
    intro H locs hZ
    refine lv_goto (tgt := 1526) hC.1 hC.2.1 dL_law_305 (by decide) ?_
    refine W.widen (k := cells + 4) (n := slots + 24) (by omega) (by omega) ?_
    exact kk n2 np2 ad2 u3 _ _ _ h.2.2 hZ hl1
  refine lv_if_ne (tgt := 305) hC.1 hC.2.1 dL_law_290 (by decide) (fun c2 => fin _ _ hZ) (fun c2 => ?_)
  have h4 := h.2.1 c2
  refine lv_aload_n hC.1 hC.2.1 dL_law_293 rfl (lv_at hl 5 rfl) ?_
  refine lv_iconst (v := 0) hC.1 hC.2.1 dL_law_294 (by decide) ?_
  refine aL_21 hC hZ z01 dL_law_295 ?_
  refine lv_iload hC.1 hC.2.1 dL_law_296 (lv_at hl 0 rfl) ?_
  refine lv_i2l hC.1 hC.2.1 dL_law_298 rfl ?_
  refine W.lcmp hC.1 hC.2.1 dL_law_299 ?_
  refine lv_if_eq (tgt := 305) hC.1 hC.2.1 dL_law_300 (by decide) (fun c3 => fin _ _ hZ) (fun c3 => absurd (z_cmp0 (h4)) c3)
def ob_uses (Inv : Nat → Nat → Mem → Prop) : Prop := ∀ (n np : Nat) (μ : Mem) (a1 a2 a3 a4 : Int32), Inv n np μ → w_L_uses n np (fun (k : Int32) (n2 np2 : Nat) (u : Mem) => w_X5_uses (fun (b : Int32) (u2 : Mem) => w_X5_thrown (oT Inv n2 np2 k b) u2) a1 a2 a3 a4 u) a1 a2 a3 a4 μ
set_option maxRecDepth 100000 in
set_option maxHeartbeats 4000000 in
theorem law_308 (hst : l.stackTraces = false) (hC : ZC p m meth c s RL cL_law 7) (hX : va_X b L xs s s.heap) (hbl : b < s.heap.size) (ho : ob_uses Inv) (hI : Inv n np μ) (hZ : ZS D ca s.heap.size ad n np μ s H locs) (hl : lv_has ls 7 (LL b ad i)) (hi1 : vp_in (i + 1) L) (hi2 : vp_in (i + 2) L) (hi3 : vp_in (i + 3) L) (hi4 : vp_in (i + 4) L) (hc : cells + 4 ≤ 605506) (hs : slots + 24 ≤ 7279587) (kk : LK p l e s m args below meth c Inv D ca b i cells slots Q) : W p l e room_1 s m args below meth c H locs cells slots Q (F0 m 308 ls []) := by
  have hbA : ¬ zB s.heap.size b := Nat.not_le.mpr hbl
  refine lv_aload_n hC.1 hC.2.1 dL_law_308 rfl (lv_at hl 1 rfl) ?_
  refine lv_aload_n hC.1 hC.2.1 dL_law_309 rfl (lv_at hl 0 rfl) ?_
  refine lv_iload hC.1 hC.2.1 dL_law_310 (lv_at hl 4 rfl) ?_
  refine lv_iconst (v := 1) hC.1 hC.2.1 dL_law_312 (by decide) ?_
  refine lv_iadd hC.1 hC.2.1 dL_law_313 ?_
  refine va_sld hC.1 hC.2.1 hX hbl hbA hZ.2.1 hi1 dL_law_314 ?_
  refine lv_aload_n hC.1 hC.2.1 dL_law_315 rfl (lv_at hl 0 rfl) ?_
  refine lv_iload hC.1 hC.2.1 dL_law_316 (lv_at hl 4 rfl) ?_
  refine lv_iconst (v := 2) hC.1 hC.2.1 dL_law_318 (by decide) ?_
  refine lv_iadd hC.1 hC.2.1 dL_law_319 ?_
  refine va_sld hC.1 hC.2.1 hX hbl hbA hZ.2.1 hi2 dL_law_320 ?_
  refine lv_aload_n hC.1 hC.2.1 dL_law_321 rfl (lv_at hl 0 rfl) ?_
  refine lv_iload hC.1 hC.2.1 dL_law_322 (lv_at hl 4 rfl) ?_
  refine lv_iconst (v := 3) hC.1 hC.2.1 dL_law_324 (by decide) ?_
  refine lv_iadd hC.1 hC.2.1 dL_law_325 ?_
  refine va_sld hC.1 hC.2.1 hX hbl hbA hZ.2.1 hi3 dL_law_326 ?_
  refine lv_aload_n hC.1 hC.2.1 dL_law_327 rfl (lv_at hl 0 rfl) ?_
  refine lv_iload hC.1 hC.2.1 dL_law_328 (lv_at hl 4 rfl) ?_
  refine lv_iconst (v := 4) hC.1 hC.2.1 dL_law_330 (by decide) ?_
  refine lv_iadd hC.1 hC.2.1 dL_law_331 ?_
  refine va_sld hC.1 hC.2.1 hX hbl hbA hZ.2.1 hi4 dL_law_332 ?_
  refine lv_aload_n hC.1 hC.2.1 dL_law_333 rfl (lv_at hl 3 rfl) ?_
  have h := ho n np μ (xs (i + 1).toNatClampNeg) (xs (i + 2).toNatClampNeg) (xs (i + 3).toNatClampNeg) (xs (i + 4).toNatClampNeg) hI
  refine z_callW (As := [.ref (ad 30 0), .int (xs (i + 1).toNatClampNeg), .int (xs (i + 2).toNatClampNeg), .int (xs (i + 3).toNatClampNeg), .int (xs (i + 4).toNatClampNeg), .ref (ad 21 0)]) (rest := []) hC hZ zy_L_uses (c_L_uses l hst h) km_L_96 rfl ⟨rfl, rfl⟩ ⟨(Nat.le_of_ble_eq_true rfl), (Nat.le_of_ble_eq_true rfl)⟩ hl.1 rfl (Nat.le_of_ble_eq_true rfl) dL_law_334 ⟨by show _ ≤ 605506; omega, by show _ ≤ 7279587; omega⟩ (fun k n2 np2 ad2 u H locs h hag hZ => ?_)
  have hl : lv_has ls 7 (LL b ad2 i) := by
    have e1 := hag 30 0 (by decide)
    have e2 := hag 0 0 (by decide)
    have e3 := hag 21 0 (by decide)
    unfold LL
    rw [e1, e2, e3]
    exact hl
  refine lv_istore (lv' := [(5, .int k), (0, .ref b), (1, .ref (ad2 30 0)), (2, .ref (ad2 0 0)), (3, .ref (ad2 21 0)), (4, .int i)]) hC.1 hC.2.1 dL_law_337 hl (by decide) rfl (fun ls hl => ?_)
  refine lv_aload_n hC.1 hC.2.1 dL_law_339 rfl (lv_at hl 3 rfl) ?_
  refine lv_aload_n hC.1 hC.2.1 dL_law_340 rfl (lv_at hl 1 rfl) ?_
  refine lv_iload hC.1 hC.2.1 dL_law_341 (lv_at hl 5 rfl) ?_
  refine lv_iconst (v := 1) hC.1 hC.2.1 dL_law_343 (by decide) ?_
  refine lv_iadd hC.1 hC.2.1 dL_law_344 ?_
  refine va_sld hC.1 hC.2.1 hX hbl hbA hZ.2.1 hi1 dL_law_345 ?_
  refine lv_aload_n hC.1 hC.2.1 dL_law_346 rfl (lv_at hl 1 rfl) ?_
  refine lv_iload hC.1 hC.2.1 dL_law_347 (lv_at hl 5 rfl) ?_
  refine lv_iconst (v := 2) hC.1 hC.2.1 dL_law_349 (by decide) ?_
  refine lv_iadd hC.1 hC.2.1 dL_law_350 ?_
  refine va_sld hC.1 hC.2.1 hX hbl hbA hZ.2.1 hi2 dL_law_351 ?_
  refine lv_aload_n hC.1 hC.2.1 dL_law_352 rfl (lv_at hl 1 rfl) ?_
  refine lv_iload hC.1 hC.2.1 dL_law_353 (lv_at hl 5 rfl) ?_
  refine lv_iconst (v := 3) hC.1 hC.2.1 dL_law_355 (by decide) ?_
  refine lv_iadd hC.1 hC.2.1 dL_law_356 ?_
  refine va_sld hC.1 hC.2.1 hX hbl hbA hZ.2.1 hi3 dL_law_357 ?_
  refine lv_aload_n hC.1 hC.2.1 dL_law_358 rfl (lv_at hl 1 rfl) ?_
  refine lv_iload hC.1 hC.2.1 dL_law_359 (lv_at hl 5 rfl) ?_
  refine lv_iconst (v := 4) hC.1 hC.2.1 dL_law_361 (by decide) ?_
  refine lv_iadd hC.1 hC.2.1 dL_law_362 ?_
  refine va_sld hC.1 hC.2.1 hX hbl hbA hZ.2.1 hi4 dL_law_363 ?_
  refine z_cVi (As := [.int (xs (i + 1).toNatClampNeg), .int (xs (i + 2).toNatClampNeg), .int (xs (i + 3).toNatClampNeg), .int (xs (i + 4).toNatClampNeg)]) (rest := []) hC hZ (zF_0 _) rfl zy_X5_uses (c_X5_uses l h) km_L_99 rfl ⟨rfl, rfl⟩ ⟨(Nat.le_of_ble_eq_true rfl), (Nat.le_of_ble_eq_true rfl)⟩ hl.1 rfl (Nat.le_of_ble_eq_true rfl) dL_law_364 ⟨by show _ ≤ 605506; omega, by show _ ≤ 7279587; omega⟩ (fun b1 u2 H locs h hZ => ?_)
  refine lv_istore (lv' := [(6, .int b1), (5, .int k), (0, .ref b), (1, .ref (ad2 30 0)), (2, .ref (ad2 0 0)), (3, .ref (ad2 21 0)), (4, .int i)]) hC.1 hC.2.1 dL_law_367 hl (by decide) rfl (fun ls hl => ?_)
  refine lv_aload_n hC.1 hC.2.1 dL_law_369 rfl (lv_at hl 4 rfl) ?_
  refine z_cVi (As := []) (rest := []) hC hZ (zF_0 _) rfl zy_X5_thrown (c_X5_thrown l h) km_L_89 rfl ⟨rfl, rfl⟩ ⟨(Nat.le_of_ble_eq_true rfl), (Nat.le_of_ble_eq_true rfl)⟩ hl.1 rfl (Nat.le_of_ble_eq_true rfl) dL_law_370 ⟨by show _ ≤ 605506; omega, by show _ ≤ 7279587; omega⟩ (fun t u3 H locs h hZ => ?_)
  refine lv_iload hC.1 hC.2.1 dL_law_373 (lv_at hl 1 rfl) ?_
  refine lv_icmp_eq (tgt := 380) hC.1 hC.2.1 dL_law_375 (by decide) (fun c1 => ?_) (fun c1 => absurd h.1 c1)
  have hl1 : lv_has ls 7 (LL b ad2 i) := lv_sub hl [2, 3, 4, 5, 6] rfl
  refine lv_iload hC.1 hC.2.1 dL_law_380 (lv_at hl 1 rfl) ?_
  have fin : ∀ (H : Heap) (locs : List Loc), ZS D ca s.heap.size ad2 n2 np2 u3 s H locs → W p l e room_1 s m args below meth c H locs (cells + 4 + 0 + 0) (slots + 24 + 0 + 0) Q (F0 m 397 ls []) := by
    intro H locs hZ
    refine lv_goto (tgt := 1526) hC.1 hC.2.1 dL_law_397 (by decide) ?_
    refine W.widen (k := cells + 4) (n := slots + 24) (by omega) (by omega) ?_
    exact kk n2 np2 ad2 u3 _ _ _ h.2.2 hZ hl1
  refine lv_if_ne (tgt := 397) hC.1 hC.2.1 dL_law_382 (by decide) (fun c2 => fin _ _ hZ) (fun c2 => ?_)
  have h4 := h.2.1 c2
  refine lv_aload_n hC.1 hC.2.1 dL_law_385 rfl (lv_at hl 5 rfl) ?_
  refine lv_iconst (v := 0) hC.1 hC.2.1 dL_law_386 (by decide) ?_
  refine aL_21 hC hZ z01 dL_law_387 ?_
  refine lv_iload hC.1 hC.2.1 dL_law_388 (lv_at hl 0 rfl) ?_
  refine lv_i2l hC.1 hC.2.1 dL_law_390 rfl ?_
  refine W.lcmp hC.1 hC.2.1 dL_law_391 ?_
  refine lv_if_eq (tgt := 397) hC.1 hC.2.1 dL_law_392 (by decide) (fun c3 => fin _ _ hZ) (fun c3 => absurd (z_cmp0 (h4)) c3)
def ob_cut (Inv : Nat → Nat → Mem → Prop) : Prop := ∀ (n np : Nat) (μ : Mem) (a1 : Int32), Inv n np μ → w_L_cut n np (fun (k : Int32) (n2 np2 : Nat) (u : Mem) => w_X5_cut (fun (b : Int32) (u2 : Mem) => w_X5_thrown (oT Inv n2 np2 k b) u2) a1 u) a1 μ
set_option maxRecDepth 100000 in
set_option maxHeartbeats 4000000 in
theorem law_400 (hst : l.stackTraces = false) (hC : ZC p m meth c s RL cL_law 7) (hX : va_X b L xs s s.heap) (hbl : b < s.heap.size) (ho : ob_cut Inv) (hI : Inv n np μ) (hZ : ZS D ca s.heap.size ad n np μ s H locs) (hl : lv_has ls 7 (LL b ad i)) (hi1 : vp_in (i + 1) L) (hi2 : vp_in (i + 2) L) (hi3 : vp_in (i + 3) L) (hi4 : vp_in (i + 4) L) (hc : cells + 4 ≤ 605506) (hs : slots + 24 ≤ 7279587) (kk : LK p l e s m args below meth c Inv D ca b i cells slots Q) : W p l e room_1 s m args below meth c H locs cells slots Q (F0 m 400 ls []) := by
  have hbA : ¬ zB s.heap.size b := Nat.not_le.mpr hbl
  refine lv_aload_n hC.1 hC.2.1 dL_law_400 rfl (lv_at hl 1 rfl) ?_
  refine lv_aload_n hC.1 hC.2.1 dL_law_401 rfl (lv_at hl 0 rfl) ?_
  refine lv_iload hC.1 hC.2.1 dL_law_402 (lv_at hl 4 rfl) ?_
  refine lv_iconst (v := 1) hC.1 hC.2.1 dL_law_404 (by decide) ?_
  refine lv_iadd hC.1 hC.2.1 dL_law_405 ?_
  refine va_sld hC.1 hC.2.1 hX hbl hbA hZ.2.1 hi1 dL_law_406 ?_
  refine lv_aload_n hC.1 hC.2.1 dL_law_407 rfl (lv_at hl 3 rfl) ?_
  have h := ho n np μ (xs (i + 1).toNatClampNeg) hI
  refine z_callW (As := [.ref (ad 30 0), .int (xs (i + 1).toNatClampNeg), .ref (ad 21 0)]) (rest := []) hC hZ zy_L_cut (c_L_cut l hst h) km_L_100 rfl ⟨rfl, rfl⟩ ⟨(Nat.le_of_ble_eq_true rfl), (Nat.le_of_ble_eq_true rfl)⟩ hl.1 rfl (Nat.le_of_ble_eq_true rfl) dL_law_408 ⟨by show _ ≤ 605506; omega, by show _ ≤ 7279587; omega⟩ (fun k n2 np2 ad2 u H locs h hag hZ => ?_)
  have hl : lv_has ls 7 (LL b ad2 i) := by
    have e1 := hag 30 0 (by decide)
    have e2 := hag 0 0 (by decide)
    have e3 := hag 21 0 (by decide)
    unfold LL
    rw [e1, e2, e3]
    exact hl
  refine lv_istore (lv' := [(5, .int k), (0, .ref b), (1, .ref (ad2 30 0)), (2, .ref (ad2 0 0)), (3, .ref (ad2 21 0)), (4, .int i)]) hC.1 hC.2.1 dL_law_411 hl (by decide) rfl (fun ls hl => ?_)
  refine lv_aload_n hC.1 hC.2.1 dL_law_413 rfl (lv_at hl 3 rfl) ?_
  refine lv_aload_n hC.1 hC.2.1 dL_law_414 rfl (lv_at hl 1 rfl) ?_
  refine lv_iload hC.1 hC.2.1 dL_law_415 (lv_at hl 5 rfl) ?_
  refine lv_iconst (v := 1) hC.1 hC.2.1 dL_law_417 (by decide) ?_
  refine lv_iadd hC.1 hC.2.1 dL_law_418 ?_
  refine va_sld hC.1 hC.2.1 hX hbl hbA hZ.2.1 hi1 dL_law_419 ?_
  refine z_cVi (As := [.int (xs (i + 1).toNatClampNeg)]) (rest := []) hC hZ (zF_0 _) rfl zy_X5_cut (c_X5_cut l h) km_L_103 rfl ⟨rfl, rfl⟩ ⟨(Nat.le_of_ble_eq_true rfl), (Nat.le_of_ble_eq_true rfl)⟩ hl.1 rfl (Nat.le_of_ble_eq_true rfl) dL_law_420 ⟨by show _ ≤ 605506; omega, by show _ ≤ 7279587; omega⟩ (fun b1 u2 H locs h hZ => ?_)
  refine lv_istore (lv' := [(6, .int b1), (5, .int k), (0, .ref b), (1, .ref (ad2 30 0)), (2, .ref (ad2 0 0)), (3, .ref (ad2 21 0)), (4, .int i)]) hC.1 hC.2.1 dL_law_423 hl (by decide) rfl (fun ls hl => ?_)
  refine lv_aload_n hC.1 hC.2.1 dL_law_425 rfl (lv_at hl 4 rfl) ?_
  refine z_cVi (As := []) (rest := []) hC hZ (zF_0 _) rfl zy_X5_thrown (c_X5_thrown l h) km_L_89 rfl ⟨rfl, rfl⟩ ⟨(Nat.le_of_ble_eq_true rfl), (Nat.le_of_ble_eq_true rfl)⟩ hl.1 rfl (Nat.le_of_ble_eq_true rfl) dL_law_426 ⟨by show _ ≤ 605506; omega, by show _ ≤ 7279587; omega⟩ (fun t u3 H locs h hZ => ?_)
  refine lv_iload hC.1 hC.2.1 dL_law_429 (lv_at hl 1 rfl) ?_
  refine lv_icmp_eq (tgt := 436) hC.1 hC.2.1 dL_law_431 (by decide) (fun c1 => ?_) (fun c1 => absurd h.1 c1)
  have hl1 : lv_has ls 7 (LL b ad2 i) := lv_sub hl [2, 3, 4, 5, 6] rfl
  refine lv_iload hC.1 hC.2.1 dL_law_436 (lv_at hl 1 rfl) ?_
  have fin : ∀ (H : Heap) (locs : List Loc), ZS D ca s.heap.size ad2 n2 np2 u3 s H locs → W p l e room_1 s m args below meth c H locs (cells + 2 + 0 + 0) (slots + 12 + 0 + 0) Q (F0 m 453 ls []) := by
    intro H locs hZ
    refine lv_goto (tgt := 1526) hC.1 hC.2.1 dL_law_453 (by decide) ?_
    refine W.widen (k := cells + 4) (n := slots + 24) (by omega) (by omega) ?_
    exact kk n2 np2 ad2 u3 _ _ _ h.2.2 hZ hl1
  refine lv_if_ne (tgt := 453) hC.1 hC.2.1 dL_law_438 (by decide) (fun c2 => fin _ _ hZ) (fun c2 => ?_)
  have h4 := h.2.1 c2
  refine lv_aload_n hC.1 hC.2.1 dL_law_441 rfl (lv_at hl 5 rfl) ?_
  refine lv_iconst (v := 0) hC.1 hC.2.1 dL_law_442 (by decide) ?_
  refine aL_21 hC hZ z01 dL_law_443 ?_
  refine lv_iload hC.1 hC.2.1 dL_law_444 (lv_at hl 0 rfl) ?_
  refine lv_i2l hC.1 hC.2.1 dL_law_446 rfl ?_
  refine W.lcmp hC.1 hC.2.1 dL_law_447 ?_
  refine lv_if_eq (tgt := 453) hC.1 hC.2.1 dL_law_448 (by decide) (fun c3 => fin _ _ hZ) (fun c3 => absurd (z_cmp0 (h4)) c3)
def ob_swap (Inv : Nat → Nat → Mem → Prop) : Prop := ∀ (n np : Nat) (μ : Mem) (a1 a2 : Int32), Inv n np μ → w_L_swap n np (fun (k : Int32) (n2 np2 : Nat) (u : Mem) => w_X5_swap (fun (b : Int32) (u2 : Mem) => w_X5_thrown (oT Inv n2 np2 k b) u2) a1 a2 u) a1 a2 μ
set_option maxRecDepth 100000 in
set_option maxHeartbeats 4000000 in
theorem law_456 (hst : l.stackTraces = false) (hC : ZC p m meth c s RL cL_law 7) (hX : va_X b L xs s s.heap) (hbl : b < s.heap.size) (ho : ob_swap Inv) (hI : Inv n np μ) (hZ : ZS D ca s.heap.size ad n np μ s H locs) (hl : lv_has ls 7 (LL b ad i)) (hi1 : vp_in (i + 1) L) (hi2 : vp_in (i + 2) L) (hi3 : vp_in (i + 3) L) (hi4 : vp_in (i + 4) L) (hc : cells + 4 ≤ 605506) (hs : slots + 24 ≤ 7279587) (kk : LK p l e s m args below meth c Inv D ca b i cells slots Q) : W p l e room_1 s m args below meth c H locs cells slots Q (F0 m 456 ls []) := by
  have hbA : ¬ zB s.heap.size b := Nat.not_le.mpr hbl
  refine lv_aload_n hC.1 hC.2.1 dL_law_456 rfl (lv_at hl 1 rfl) ?_
  refine lv_aload_n hC.1 hC.2.1 dL_law_457 rfl (lv_at hl 0 rfl) ?_
  refine lv_iload hC.1 hC.2.1 dL_law_458 (lv_at hl 4 rfl) ?_
  refine lv_iconst (v := 1) hC.1 hC.2.1 dL_law_460 (by decide) ?_
  refine lv_iadd hC.1 hC.2.1 dL_law_461 ?_
  refine va_sld hC.1 hC.2.1 hX hbl hbA hZ.2.1 hi1 dL_law_462 ?_
  refine lv_aload_n hC.1 hC.2.1 dL_law_463 rfl (lv_at hl 0 rfl) ?_
  refine lv_iload hC.1 hC.2.1 dL_law_464 (lv_at hl 4 rfl) ?_
  refine lv_iconst (v := 2) hC.1 hC.2.1 dL_law_466 (by decide) ?_
  refine lv_iadd hC.1 hC.2.1 dL_law_467 ?_
  refine va_sld hC.1 hC.2.1 hX hbl hbA hZ.2.1 hi2 dL_law_468 ?_
  refine lv_aload_n hC.1 hC.2.1 dL_law_469 rfl (lv_at hl 3 rfl) ?_
  have h := ho n np μ (xs (i + 1).toNatClampNeg) (xs (i + 2).toNatClampNeg) hI
  refine z_callW (As := [.ref (ad 30 0), .int (xs (i + 1).toNatClampNeg), .int (xs (i + 2).toNatClampNeg), .ref (ad 21 0)]) (rest := []) hC hZ zy_L_swap (c_L_swap l hst h) km_L_104 rfl ⟨rfl, rfl⟩ ⟨(Nat.le_of_ble_eq_true rfl), (Nat.le_of_ble_eq_true rfl)⟩ hl.1 rfl (Nat.le_of_ble_eq_true rfl) dL_law_470 ⟨by show _ ≤ 605506; omega, by show _ ≤ 7279587; omega⟩ (fun k n2 np2 ad2 u H locs h hag hZ => ?_)
  have hl : lv_has ls 7 (LL b ad2 i) := by
    have e1 := hag 30 0 (by decide)
    have e2 := hag 0 0 (by decide)
    have e3 := hag 21 0 (by decide)
    unfold LL
    rw [e1, e2, e3]
    exact hl
  refine lv_istore (lv' := [(5, .int k), (0, .ref b), (1, .ref (ad2 30 0)), (2, .ref (ad2 0 0)), (3, .ref (ad2 21 0)), (4, .int i)]) hC.1 hC.2.1 dL_law_473 hl (by decide) rfl (fun ls hl => ?_)
  refine lv_aload_n hC.1 hC.2.1 dL_law_475 rfl (lv_at hl 3 rfl) ?_
  refine lv_aload_n hC.1 hC.2.1 dL_law_476 rfl (lv_at hl 1 rfl) ?_
  refine lv_iload hC.1 hC.2.1 dL_law_477 (lv_at hl 5 rfl) ?_
  refine lv_iconst (v := 1) hC.1 hC.2.1 dL_law_479 (by decide) ?_
  refine lv_iadd hC.1 hC.2.1 dL_law_480 ?_
  refine va_sld hC.1 hC.2.1 hX hbl hbA hZ.2.1 hi1 dL_law_481 ?_
  refine lv_aload_n hC.1 hC.2.1 dL_law_482 rfl (lv_at hl 1 rfl) ?_
  refine lv_iload hC.1 hC.2.1 dL_law_483 (lv_at hl 5 rfl) ?_
  refine lv_iconst (v := 2) hC.1 hC.2.1 dL_law_485 (by decide) ?_
  refine lv_iadd hC.1 hC.2.1 dL_law_486 ?_
  refine va_sld hC.1 hC.2.1 hX hbl hbA hZ.2.1 hi2 dL_law_487 ?_
  refine z_cVi (As := [.int (xs (i + 1).toNatClampNeg), .int (xs (i + 2).toNatClampNeg)]) (rest := []) hC hZ (zF_0 _) rfl zy_X5_swap (c_X5_swap l h) km_L_106 rfl ⟨rfl, rfl⟩ ⟨(Nat.le_of_ble_eq_true rfl), (Nat.le_of_ble_eq_true rfl)⟩ hl.1 rfl (Nat.le_of_ble_eq_true rfl) dL_law_488 ⟨by show _ ≤ 605506; omega, by show _ ≤ 7279587; omega⟩ (fun b1 u2 H locs h hZ => ?_)
  refine lv_istore (lv' := [(6, .int b1), (5, .int k), (0, .ref b), (1, .ref (ad2 30 0)), (2, .ref (ad2 0 0)), (3, .ref (ad2 21 0)), (4, .int i)]) hC.1 hC.2.1 dL_law_491 hl (by decide) rfl (fun ls hl => ?_)
  refine lv_aload_n hC.1 hC.2.1 dL_law_493 rfl (lv_at hl 4 rfl) ?_
  refine z_cVi (As := []) (rest := []) hC hZ (zF_0 _) rfl zy_X5_thrown (c_X5_thrown l h) km_L_89 rfl ⟨rfl, rfl⟩ ⟨(Nat.le_of_ble_eq_true rfl), (Nat.le_of_ble_eq_true rfl)⟩ hl.1 rfl (Nat.le_of_ble_eq_true rfl) dL_law_494 ⟨by show _ ≤ 605506; omega, by show _ ≤ 7279587; omega⟩ (fun t u3 H locs h hZ => ?_)
  refine lv_iload hC.1 hC.2.1 dL_law_497 (lv_at hl 1 rfl) ?_
  refine lv_icmp_eq (tgt := 504) hC.1 hC.2.1 dL_law_499 (by decide) (fun c1 => ?_) (fun c1 => absurd h.1 c1)
  have hl1 : lv_has ls 7 (LL b ad2 i) := lv_sub hl [2, 3, 4, 5, 6] rfl
  refine lv_iload hC.1 hC.2.1 dL_law_504 (lv_at hl 1 rfl) ?_
  have fin : ∀ (H : Heap) (locs : List Loc), ZS D ca s.heap.size ad2 n2 np2 u3 s H locs → W p l e room_1 s m args below meth c H locs (cells + 1 + 0 + 0) (slots + 6 + 0 + 0) Q (F0 m 521 ls []) := by
    intro H locs hZ
    refine lv_goto (tgt := 1526) hC.1 hC.2.1 dL_law_521 (by decide) ?_
    refine W.widen (k := cells + 4) (n := slots + 24) (by omega) (by omega) ?_
    exact kk n2 np2 ad2 u3 _ _ _ h.2.2 hZ hl1
  refine lv_if_ne (tgt := 521) hC.1 hC.2.1 dL_law_506 (by decide) (fun c2 => fin _ _ hZ) (fun c2 => ?_)
  have h4 := h.2.1 c2
  refine lv_aload_n hC.1 hC.2.1 dL_law_509 rfl (lv_at hl 5 rfl) ?_
  refine lv_iconst (v := 0) hC.1 hC.2.1 dL_law_510 (by decide) ?_
  refine aL_21 hC hZ z01 dL_law_511 ?_
  refine lv_iload hC.1 hC.2.1 dL_law_512 (lv_at hl 0 rfl) ?_
  refine lv_i2l hC.1 hC.2.1 dL_law_514 rfl ?_
  refine W.lcmp hC.1 hC.2.1 dL_law_515 ?_
  refine lv_if_eq (tgt := 521) hC.1 hC.2.1 dL_law_516 (by decide) (fun c3 => fin _ _ hZ) (fun c3 => absurd (z_cmp0 (h4)) c3)
def ob_permit (Inv : Nat → Nat → Mem → Prop) : Prop := ∀ (n np : Nat) (μ : Mem) (a1 a2 a3 a4 : Int32), Inv n np μ → w_L_permit n np (fun (k : Int32) (n2 np2 : Nat) (u : Mem) => w_X5_permit (fun (b : Int32) (u2 : Mem) => w_X5_thrown (oT Inv n2 np2 k b) u2) a1 a2 a3 a4 u) a1 a2 a3 a4 μ
set_option maxRecDepth 100000 in
set_option maxHeartbeats 4000000 in
theorem law_524 (hst : l.stackTraces = false) (hC : ZC p m meth c s RL cL_law 7) (hX : va_X b L xs s s.heap) (hbl : b < s.heap.size) (ho : ob_permit Inv) (hI : Inv n np μ) (hZ : ZS D ca s.heap.size ad n np μ s H locs) (hl : lv_has ls 7 (LL b ad i)) (hi1 : vp_in (i + 1) L) (hi2 : vp_in (i + 2) L) (hi3 : vp_in (i + 3) L) (hi4 : vp_in (i + 4) L) (hc : cells + 4 ≤ 605506) (hs : slots + 24 ≤ 7279587) (kk : LK p l e s m args below meth c Inv D ca b i cells slots Q) : W p l e room_1 s m args below meth c H locs cells slots Q (F0 m 524 ls []) := by
  have hbA : ¬ zB s.heap.size b := Nat.not_le.mpr hbl
  refine lv_aload_n hC.1 hC.2.1 dL_law_524 rfl (lv_at hl 1 rfl) ?_
  refine lv_aload_n hC.1 hC.2.1 dL_law_525 rfl (lv_at hl 0 rfl) ?_
  refine lv_iload hC.1 hC.2.1 dL_law_526 (lv_at hl 4 rfl) ?_
  refine lv_iconst (v := 1) hC.1 hC.2.1 dL_law_528 (by decide) ?_
  refine lv_iadd hC.1 hC.2.1 dL_law_529 ?_
  refine va_sld hC.1 hC.2.1 hX hbl hbA hZ.2.1 hi1 dL_law_530 ?_
  refine lv_aload_n hC.1 hC.2.1 dL_law_531 rfl (lv_at hl 0 rfl) ?_
  refine lv_iload hC.1 hC.2.1 dL_law_532 (lv_at hl 4 rfl) ?_
  refine lv_iconst (v := 2) hC.1 hC.2.1 dL_law_534 (by decide) ?_
  refine lv_iadd hC.1 hC.2.1 dL_law_535 ?_
  refine va_sld hC.1 hC.2.1 hX hbl hbA hZ.2.1 hi2 dL_law_536 ?_
  refine lv_aload_n hC.1 hC.2.1 dL_law_537 rfl (lv_at hl 0 rfl) ?_
  refine lv_iload hC.1 hC.2.1 dL_law_538 (lv_at hl 4 rfl) ?_
  refine lv_iconst (v := 3) hC.1 hC.2.1 dL_law_540 (by decide) ?_
  refine lv_iadd hC.1 hC.2.1 dL_law_541 ?_
  refine va_sld hC.1 hC.2.1 hX hbl hbA hZ.2.1 hi3 dL_law_542 ?_
  refine lv_aload_n hC.1 hC.2.1 dL_law_543 rfl (lv_at hl 0 rfl) ?_
  refine lv_iload hC.1 hC.2.1 dL_law_544 (lv_at hl 4 rfl) ?_
  refine lv_iconst (v := 4) hC.1 hC.2.1 dL_law_546 (by decide) ?_
  refine lv_iadd hC.1 hC.2.1 dL_law_547 ?_
  refine va_sld hC.1 hC.2.1 hX hbl hbA hZ.2.1 hi4 dL_law_548 ?_
  refine lv_aload_n hC.1 hC.2.1 dL_law_549 rfl (lv_at hl 3 rfl) ?_
  have h := ho n np μ (xs (i + 1).toNatClampNeg) (xs (i + 2).toNatClampNeg) (xs (i + 3).toNatClampNeg) (xs (i + 4).toNatClampNeg) hI
  refine z_callW (As := [.ref (ad 30 0), .int (xs (i + 1).toNatClampNeg), .int (xs (i + 2).toNatClampNeg), .int (xs (i + 3).toNatClampNeg), .int (xs (i + 4).toNatClampNeg), .ref (ad 21 0)]) (rest := []) hC hZ zy_L_permit (c_L_permit l hst h) km_L_107 rfl ⟨rfl, rfl⟩ ⟨(Nat.le_of_ble_eq_true rfl), (Nat.le_of_ble_eq_true rfl)⟩ hl.1 rfl (Nat.le_of_ble_eq_true rfl) dL_law_550 ⟨by show _ ≤ 605506; omega, by show _ ≤ 7279587; omega⟩ (fun k n2 np2 ad2 u H locs h hag hZ => ?_)
  have hl : lv_has ls 7 (LL b ad2 i) := by
    have e1 := hag 30 0 (by decide)
    have e2 := hag 0 0 (by decide)
    have e3 := hag 21 0 (by decide)
    unfold LL
    rw [e1, e2, e3]
    exact hl
  refine lv_istore (lv' := [(5, .int k), (0, .ref b), (1, .ref (ad2 30 0)), (2, .ref (ad2 0 0)), (3, .ref (ad2 21 0)), (4, .int i)]) hC.1 hC.2.1 dL_law_553 hl (by decide) rfl (fun ls hl => ?_)
  refine lv_aload_n hC.1 hC.2.1 dL_law_555 rfl (lv_at hl 3 rfl) ?_
  refine lv_aload_n hC.1 hC.2.1 dL_law_556 rfl (lv_at hl 1 rfl) ?_
  refine lv_iload hC.1 hC.2.1 dL_law_557 (lv_at hl 5 rfl) ?_
  refine lv_iconst (v := 1) hC.1 hC.2.1 dL_law_559 (by decide) ?_
  refine lv_iadd hC.1 hC.2.1 dL_law_560 ?_
  refine va_sld hC.1 hC.2.1 hX hbl hbA hZ.2.1 hi1 dL_law_561 ?_
  refine lv_aload_n hC.1 hC.2.1 dL_law_562 rfl (lv_at hl 1 rfl) ?_
  refine lv_iload hC.1 hC.2.1 dL_law_563 (lv_at hl 5 rfl) ?_
  refine lv_iconst (v := 2) hC.1 hC.2.1 dL_law_565 (by decide) ?_
  refine lv_iadd hC.1 hC.2.1 dL_law_566 ?_
  refine va_sld hC.1 hC.2.1 hX hbl hbA hZ.2.1 hi2 dL_law_567 ?_
  refine lv_aload_n hC.1 hC.2.1 dL_law_568 rfl (lv_at hl 1 rfl) ?_
  refine lv_iload hC.1 hC.2.1 dL_law_569 (lv_at hl 5 rfl) ?_
  refine lv_iconst (v := 3) hC.1 hC.2.1 dL_law_571 (by decide) ?_
  refine lv_iadd hC.1 hC.2.1 dL_law_572 ?_
  refine va_sld hC.1 hC.2.1 hX hbl hbA hZ.2.1 hi3 dL_law_573 ?_
  refine lv_aload_n hC.1 hC.2.1 dL_law_574 rfl (lv_at hl 1 rfl) ?_
  refine lv_iload hC.1 hC.2.1 dL_law_575 (lv_at hl 5 rfl) ?_
  refine lv_iconst (v := 4) hC.1 hC.2.1 dL_law_577 (by decide) ?_
  refine lv_iadd hC.1 hC.2.1 dL_law_578 ?_
  refine va_sld hC.1 hC.2.1 hX hbl hbA hZ.2.1 hi4 dL_law_579 ?_
  refine z_cVi (As := [.int (xs (i + 1).toNatClampNeg), .int (xs (i + 2).toNatClampNeg), .int (xs (i + 3).toNatClampNeg), .int (xs (i + 4).toNatClampNeg)]) (rest := []) hC hZ (zF_0 _) rfl zy_X5_permit (c_X5_permit l h) km_L_109 rfl ⟨rfl, rfl⟩ ⟨(Nat.le_of_ble_eq_true rfl), (Nat.le_of_ble_eq_true rfl)⟩ hl.1 rfl (Nat.le_of_ble_eq_true rfl) dL_law_580 ⟨by show _ ≤ 605506; omega, by show _ ≤ 7279587; omega⟩ (fun b1 u2 H locs h hZ => ?_)
  refine lv_istore (lv' := [(6, .int b1), (5, .int k), (0, .ref b), (1, .ref (ad2 30 0)), (2, .ref (ad2 0 0)), (3, .ref (ad2 21 0)), (4, .int i)]) hC.1 hC.2.1 dL_law_583 hl (by decide) rfl (fun ls hl => ?_)
  refine lv_aload_n hC.1 hC.2.1 dL_law_585 rfl (lv_at hl 4 rfl) ?_
  refine z_cVi (As := []) (rest := []) hC hZ (zF_0 _) rfl zy_X5_thrown (c_X5_thrown l h) km_L_89 rfl ⟨rfl, rfl⟩ ⟨(Nat.le_of_ble_eq_true rfl), (Nat.le_of_ble_eq_true rfl)⟩ hl.1 rfl (Nat.le_of_ble_eq_true rfl) dL_law_586 ⟨by show _ ≤ 605506; omega, by show _ ≤ 7279587; omega⟩ (fun t u3 H locs h hZ => ?_)
  refine lv_iload hC.1 hC.2.1 dL_law_589 (lv_at hl 1 rfl) ?_
  refine lv_icmp_eq (tgt := 596) hC.1 hC.2.1 dL_law_591 (by decide) (fun c1 => ?_) (fun c1 => absurd h.1 c1)
  have hl1 : lv_has ls 7 (LL b ad2 i) := lv_sub hl [2, 3, 4, 5, 6] rfl
  refine lv_iload hC.1 hC.2.1 dL_law_596 (lv_at hl 1 rfl) ?_
  have fin : ∀ (H : Heap) (locs : List Loc), ZS D ca s.heap.size ad2 n2 np2 u3 s H locs → W p l e room_1 s m args below meth c H locs (cells + 1 + 0 + 0) (slots + 6 + 0 + 0) Q (F0 m 613 ls []) := by
    intro H locs hZ
    refine lv_goto (tgt := 1526) hC.1 hC.2.1 dL_law_613 (by decide) ?_
    refine W.widen (k := cells + 4) (n := slots + 24) (by omega) (by omega) ?_
    exact kk n2 np2 ad2 u3 _ _ _ h.2.2 hZ hl1
  refine lv_if_ne (tgt := 613) hC.1 hC.2.1 dL_law_598 (by decide) (fun c2 => fin _ _ hZ) (fun c2 => ?_)
  have h4 := h.2.1 c2
  refine lv_aload_n hC.1 hC.2.1 dL_law_601 rfl (lv_at hl 5 rfl) ?_
  refine lv_iconst (v := 0) hC.1 hC.2.1 dL_law_602 (by decide) ?_
  refine aL_21 hC hZ z01 dL_law_603 ?_
  refine lv_iload hC.1 hC.2.1 dL_law_604 (lv_at hl 0 rfl) ?_
  refine lv_i2l hC.1 hC.2.1 dL_law_606 rfl ?_
  refine W.lcmp hC.1 hC.2.1 dL_law_607 ?_
  refine lv_if_eq (tgt := 613) hC.1 hC.2.1 dL_law_608 (by decide) (fun c3 => fin _ _ hZ) (fun c3 => absurd (z_cmp0 (h4)) c3)
def ob_revoke (Inv : Nat → Nat → Mem → Prop) : Prop := ∀ (n np : Nat) (μ : Mem) (a1 : Int32), Inv n np μ → w_L_revoke n np (fun (k : Int32) (n2 np2 : Nat) (u : Mem) => w_X5_revoke (fun (b : Int32) (u2 : Mem) => w_X5_thrown (oT Inv n2 np2 k b) u2) a1 u) a1 μ
set_option maxRecDepth 100000 in
set_option maxHeartbeats 4000000 in
theorem law_616 (hst : l.stackTraces = false) (hC : ZC p m meth c s RL cL_law 7) (hX : va_X b L xs s s.heap) (hbl : b < s.heap.size) (ho : ob_revoke Inv) (hI : Inv n np μ) (hZ : ZS D ca s.heap.size ad n np μ s H locs) (hl : lv_has ls 7 (LL b ad i)) (hi1 : vp_in (i + 1) L) (hi2 : vp_in (i + 2) L) (hi3 : vp_in (i + 3) L) (hi4 : vp_in (i + 4) L) (hc : cells + 4 ≤ 605506) (hs : slots + 24 ≤ 7279587) (kk : LK p l e s m args below meth c Inv D ca b i cells slots Q) : W p l e room_1 s m args below meth c H locs cells slots Q (F0 m 616 ls []) := by
  have hbA : ¬ zB s.heap.size b := Nat.not_le.mpr hbl
  refine lv_aload_n hC.1 hC.2.1 dL_law_616 rfl (lv_at hl 1 rfl) ?_
  refine lv_aload_n hC.1 hC.2.1 dL_law_617 rfl (lv_at hl 0 rfl) ?_
  refine lv_iload hC.1 hC.2.1 dL_law_618 (lv_at hl 4 rfl) ?_
  refine lv_iconst (v := 1) hC.1 hC.2.1 dL_law_620 (by decide) ?_
  refine lv_iadd hC.1 hC.2.1 dL_law_621 ?_
  refine va_sld hC.1 hC.2.1 hX hbl hbA hZ.2.1 hi1 dL_law_622 ?_
  refine lv_aload_n hC.1 hC.2.1 dL_law_623 rfl (lv_at hl 3 rfl) ?_
  have h := ho n np μ (xs (i + 1).toNatClampNeg) hI
  refine z_callW (As := [.ref (ad 30 0), .int (xs (i + 1).toNatClampNeg), .ref (ad 21 0)]) (rest := []) hC hZ zy_L_revoke (c_L_revoke l hst h) km_L_110 rfl ⟨rfl, rfl⟩ ⟨(Nat.le_of_ble_eq_true rfl), (Nat.le_of_ble_eq_true rfl)⟩ hl.1 rfl (Nat.le_of_ble_eq_true rfl) dL_law_624 ⟨by show _ ≤ 605506; omega, by show _ ≤ 7279587; omega⟩ (fun k n2 np2 ad2 u H locs h hag hZ => ?_)
  have hl : lv_has ls 7 (LL b ad2 i) := by
    have e1 := hag 30 0 (by decide)
    have e2 := hag 0 0 (by decide)
    have e3 := hag 21 0 (by decide)
    unfold LL
    rw [e1, e2, e3]
    exact hl
  refine lv_istore (lv' := [(5, .int k), (0, .ref b), (1, .ref (ad2 30 0)), (2, .ref (ad2 0 0)), (3, .ref (ad2 21 0)), (4, .int i)]) hC.1 hC.2.1 dL_law_627 hl (by decide) rfl (fun ls hl => ?_)
  refine lv_aload_n hC.1 hC.2.1 dL_law_629 rfl (lv_at hl 3 rfl) ?_
  refine lv_aload_n hC.1 hC.2.1 dL_law_630 rfl (lv_at hl 1 rfl) ?_
  refine lv_iload hC.1 hC.2.1 dL_law_631 (lv_at hl 5 rfl) ?_
  refine lv_iconst (v := 1) hC.1 hC.2.1 dL_law_633 (by decide) ?_
  refine lv_iadd hC.1 hC.2.1 dL_law_634 ?_
  refine va_sld hC.1 hC.2.1 hX hbl hbA hZ.2.1 hi1 dL_law_635 ?_
  refine z_cVi (As := [.int (xs (i + 1).toNatClampNeg)]) (rest := []) hC hZ (zF_0 _) rfl zy_X5_revoke (c_X5_revoke l h) km_L_112 rfl ⟨rfl, rfl⟩ ⟨(Nat.le_of_ble_eq_true rfl), (Nat.le_of_ble_eq_true rfl)⟩ hl.1 rfl (Nat.le_of_ble_eq_true rfl) dL_law_636 ⟨by show _ ≤ 605506; omega, by show _ ≤ 7279587; omega⟩ (fun b1 u2 H locs h hZ => ?_)
  refine lv_istore (lv' := [(6, .int b1), (5, .int k), (0, .ref b), (1, .ref (ad2 30 0)), (2, .ref (ad2 0 0)), (3, .ref (ad2 21 0)), (4, .int i)]) hC.1 hC.2.1 dL_law_639 hl (by decide) rfl (fun ls hl => ?_)
  refine lv_aload_n hC.1 hC.2.1 dL_law_641 rfl (lv_at hl 4 rfl) ?_
  refine z_cVi (As := []) (rest := []) hC hZ (zF_0 _) rfl zy_X5_thrown (c_X5_thrown l h) km_L_89 rfl ⟨rfl, rfl⟩ ⟨(Nat.le_of_ble_eq_true rfl), (Nat.le_of_ble_eq_true rfl)⟩ hl.1 rfl (Nat.le_of_ble_eq_true rfl) dL_law_642 ⟨by show _ ≤ 605506; omega, by show _ ≤ 7279587; omega⟩ (fun t u3 H locs h hZ => ?_)
  refine lv_iload hC.1 hC.2.1 dL_law_645 (lv_at hl 1 rfl) ?_
  refine lv_icmp_eq (tgt := 652) hC.1 hC.2.1 dL_law_647 (by decide) (fun c1 => ?_) (fun c1 => absurd h.1 c1)
  have hl1 : lv_has ls 7 (LL b ad2 i) := lv_sub hl [2, 3, 4, 5, 6] rfl
  refine lv_iload hC.1 hC.2.1 dL_law_652 (lv_at hl 1 rfl) ?_
  have fin : ∀ (H : Heap) (locs : List Loc), ZS D ca s.heap.size ad2 n2 np2 u3 s H locs → W p l e room_1 s m args below meth c H locs (cells + 2 + 0 + 0) (slots + 12 + 0 + 0) Q (F0 m 669 ls []) := by
    intro H locs hZ
    refine lv_goto (tgt := 1526) hC.1 hC.2.1 dL_law_669 (by decide) ?_
    refine W.widen (k := cells + 4) (n := slots + 24) (by omega) (by omega) ?_
    exact kk n2 np2 ad2 u3 _ _ _ h.2.2 hZ hl1
  refine lv_if_ne (tgt := 669) hC.1 hC.2.1 dL_law_654 (by decide) (fun c2 => fin _ _ hZ) (fun c2 => ?_)
  have h4 := h.2.1 c2
  refine lv_aload_n hC.1 hC.2.1 dL_law_657 rfl (lv_at hl 5 rfl) ?_
  refine lv_iconst (v := 0) hC.1 hC.2.1 dL_law_658 (by decide) ?_
  refine aL_21 hC hZ z01 dL_law_659 ?_
  refine lv_iload hC.1 hC.2.1 dL_law_660 (lv_at hl 0 rfl) ?_
  refine lv_i2l hC.1 hC.2.1 dL_law_662 rfl ?_
  refine W.lcmp hC.1 hC.2.1 dL_law_663 ?_
  refine lv_if_eq (tgt := 669) hC.1 hC.2.1 dL_law_664 (by decide) (fun c3 => fin _ _ hZ) (fun c3 => absurd (z_cmp0 (h4)) c3)
def ob_away (Inv : Nat → Nat → Mem → Prop) : Prop := ∀ (n np : Nat) (μ : Mem) (a1 a2 a3 : Int32), Inv n np μ → (a3 = 0 ∨ a3 = 1) → w_L_away n np (fun (k : Int32) (n2 np2 : Nat) (u : Mem) => w_X5_away (fun (b : Int32) (u2 : Mem) => w_X5_thrown (oB Inv n2 np2 k b) u2) a1 a2 a3 u) a1 a2 a3 μ
set_option maxRecDepth 100000 in
set_option maxHeartbeats 4000000 in
theorem law_672 (hst : l.stackTraces = false) (hC : ZC p m meth c s RL cL_law 7) (hX : va_X b L xs s s.heap) (hbl : b < s.heap.size) (ho : ob_away Inv) (hI : Inv n np μ) (hZ : ZS D ca s.heap.size ad n np μ s H locs) (hl : lv_has ls 7 (LL b ad i)) (hi1 : vp_in (i + 1) L) (hi2 : vp_in (i + 2) L) (hi3 : vp_in (i + 3) L) (hi4 : vp_in (i + 4) L) (hc : cells + 4 ≤ 605506) (hs : slots + 24 ≤ 7279587) (kk : LK p l e s m args below meth c Inv D ca b i cells slots Q) : W p l e room_1 s m args below meth c H locs cells slots Q (F0 m 672 ls []) := by
  have hbA : ¬ zB s.heap.size b := Nat.not_le.mpr hbl
  refine lv_aload_n hC.1 hC.2.1 dL_law_672 rfl (lv_at hl 1 rfl) ?_
  refine lv_aload_n hC.1 hC.2.1 dL_law_673 rfl (lv_at hl 0 rfl) ?_
  refine lv_iload hC.1 hC.2.1 dL_law_674 (lv_at hl 4 rfl) ?_
  refine lv_iconst (v := 1) hC.1 hC.2.1 dL_law_676 (by decide) ?_
  refine lv_iadd hC.1 hC.2.1 dL_law_677 ?_
  refine va_sld hC.1 hC.2.1 hX hbl hbA hZ.2.1 hi1 dL_law_678 ?_
  refine lv_aload_n hC.1 hC.2.1 dL_law_679 rfl (lv_at hl 0 rfl) ?_
  refine lv_iload hC.1 hC.2.1 dL_law_680 (lv_at hl 4 rfl) ?_
  refine lv_iconst (v := 2) hC.1 hC.2.1 dL_law_682 (by decide) ?_
  refine lv_iadd hC.1 hC.2.1 dL_law_683 ?_
  refine va_sld hC.1 hC.2.1 hX hbl hbA hZ.2.1 hi2 dL_law_684 ?_
  refine lv_aload_n hC.1 hC.2.1 dL_law_685 rfl (lv_at hl 0 rfl) ?_
  refine lv_iload hC.1 hC.2.1 dL_law_686 (lv_at hl 4 rfl) ?_
  refine lv_iconst (v := 3) hC.1 hC.2.1 dL_law_688 (by decide) ?_
  refine lv_iadd hC.1 hC.2.1 dL_law_689 ?_
  refine va_sld hC.1 hC.2.1 hX hbl hbA hZ.2.1 hi3 dL_law_690 ?_
  refine z_toB (t := 698) hC dL_law_691 (by decide) dL_law_694 dL_law_695 (by decide) dL_law_698 rfl rfl (fun z3 hz3 => ?_)
  refine lv_aload_n hC.1 hC.2.1 dL_law_699 rfl (lv_at hl 3 rfl) ?_
  have h := ho n np μ (xs (i + 1).toNatClampNeg) (xs (i + 2).toNatClampNeg) z3 hI hz3.1
  refine z_callW (As := [.ref (ad 30 0), .int (xs (i + 1).toNatClampNeg), .int (xs (i + 2).toNatClampNeg), .int z3, .ref (ad 21 0)]) (rest := []) hC hZ zy_L_away (c_L_away l hst h) km_L_113 rfl ⟨rfl, rfl⟩ ⟨(Nat.le_of_ble_eq_true rfl), (Nat.le_of_ble_eq_true rfl)⟩ hl.1 rfl (Nat.le_of_ble_eq_true rfl) dL_law_700 ⟨by show _ ≤ 605506; omega, by show _ ≤ 7279587; omega⟩ (fun k n2 np2 ad2 u H locs h hag hZ => ?_)
  have hl : lv_has ls 7 (LL b ad2 i) := by
    have e1 := hag 30 0 (by decide)
    have e2 := hag 0 0 (by decide)
    have e3 := hag 21 0 (by decide)
    unfold LL
    rw [e1, e2, e3]
    exact hl
  refine lv_istore (lv' := [(5, .int k), (0, .ref b), (1, .ref (ad2 30 0)), (2, .ref (ad2 0 0)), (3, .ref (ad2 21 0)), (4, .int i)]) hC.1 hC.2.1 dL_law_703 hl (by decide) rfl (fun ls hl => ?_)
  refine lv_aload_n hC.1 hC.2.1 dL_law_705 rfl (lv_at hl 3 rfl) ?_
  refine lv_aload_n hC.1 hC.2.1 dL_law_706 rfl (lv_at hl 1 rfl) ?_
  refine lv_iload hC.1 hC.2.1 dL_law_707 (lv_at hl 5 rfl) ?_
  refine lv_iconst (v := 1) hC.1 hC.2.1 dL_law_709 (by decide) ?_
  refine lv_iadd hC.1 hC.2.1 dL_law_710 ?_
  refine va_sld hC.1 hC.2.1 hX hbl hbA hZ.2.1 hi1 dL_law_711 ?_
  refine lv_aload_n hC.1 hC.2.1 dL_law_712 rfl (lv_at hl 1 rfl) ?_
  refine lv_iload hC.1 hC.2.1 dL_law_713 (lv_at hl 5 rfl) ?_
  refine lv_iconst (v := 2) hC.1 hC.2.1 dL_law_715 (by decide) ?_
  refine lv_iadd hC.1 hC.2.1 dL_law_716 ?_
  refine va_sld hC.1 hC.2.1 hX hbl hbA hZ.2.1 hi2 dL_law_717 ?_
  refine lv_aload_n hC.1 hC.2.1 dL_law_718 rfl (lv_at hl 1 rfl) ?_
  refine lv_iload hC.1 hC.2.1 dL_law_719 (lv_at hl 5 rfl) ?_
  refine lv_iconst (v := 3) hC.1 hC.2.1 dL_law_721 (by decide) ?_
  refine lv_iadd hC.1 hC.2.1 dL_law_722 ?_
  refine va_sld hC.1 hC.2.1 hX hbl hbA hZ.2.1 hi3 dL_law_723 ?_
  refine z_toB (t := 731) hC dL_law_724 (by decide) dL_law_727 dL_law_728 (by decide) dL_law_731 rfl rfl (fun z4 hz4 => ?_)
  have e4 : z4 = z3 := hz4.eq hz3
  subst e4
  refine z_cVi (As := [.int (xs (i + 1).toNatClampNeg), .int (xs (i + 2).toNatClampNeg), .int z4]) (rest := []) hC hZ (zF_0 _) rfl zy_X5_away (c_X5_away l h) km_L_116 rfl ⟨rfl, rfl⟩ ⟨(Nat.le_of_ble_eq_true rfl), (Nat.le_of_ble_eq_true rfl)⟩ hl.1 rfl (Nat.le_of_ble_eq_true rfl) dL_law_732 ⟨by show _ ≤ 605506; omega, by show _ ≤ 7279587; omega⟩ (fun b1 u2 H locs h hZ => ?_)
  refine lv_istore (lv' := [(6, .int b1), (5, .int k), (0, .ref b), (1, .ref (ad2 30 0)), (2, .ref (ad2 0 0)), (3, .ref (ad2 21 0)), (4, .int i)]) hC.1 hC.2.1 dL_law_735 hl (by decide) rfl (fun ls hl => ?_)
  refine lv_aload_n hC.1 hC.2.1 dL_law_737 rfl (lv_at hl 4 rfl) ?_
  refine z_cVi (As := []) (rest := []) hC hZ (zF_0 _) rfl zy_X5_thrown (c_X5_thrown l h) km_L_89 rfl ⟨rfl, rfl⟩ ⟨(Nat.le_of_ble_eq_true rfl), (Nat.le_of_ble_eq_true rfl)⟩ hl.1 rfl (Nat.le_of_ble_eq_true rfl) dL_law_738 ⟨by show _ ≤ 605506; omega, by show _ ≤ 7279587; omega⟩ (fun t u3 H locs h hZ => ?_)
  refine lv_iload hC.1 hC.2.1 dL_law_741 (lv_at hl 1 rfl) ?_
  refine lv_icmp_eq (tgt := 748) hC.1 hC.2.1 dL_law_743 (by decide) (fun c1 => ?_) (fun c1 => absurd h.1 c1)
  have hl1 : lv_has ls 7 (LL b ad2 i) := lv_sub hl [2, 3, 4, 5, 6] rfl
  refine lv_iload hC.1 hC.2.1 dL_law_748 (lv_at hl 1 rfl) ?_
  have fin : ∀ (H : Heap) (locs : List Loc), ZS D ca s.heap.size ad2 n2 np2 u3 s H locs → W p l e room_1 s m args below meth c H locs (cells + 2 + 0 + 0) (slots + 12 + 0 + 0) Q (F0 m 772 ls []) := by
    intro H locs hZ
    refine lv_goto (tgt := 1526) hC.1 hC.2.1 dL_law_772 (by decide) ?_
    refine W.widen (k := cells + 4) (n := slots + 24) (by omega) (by omega) ?_
    exact kk n2 np2 ad2 u3 _ _ _ h.2.2 hZ hl1
  refine lv_if_ne (tgt := 772) hC.1 hC.2.1 dL_law_750 (by decide) (fun c2 => fin _ _ hZ) (fun c2 => ?_)
  have h4 := h.2.1 c2
  refine lv_aload_n hC.1 hC.2.1 dL_law_753 rfl (lv_at hl 5 rfl) ?_
  refine lv_iconst (v := 0) hC.1 hC.2.1 dL_law_754 (by decide) ?_
  refine aL_21 hC hZ z01 dL_law_755 ?_
  refine lv_iload hC.1 hC.2.1 dL_law_756 (lv_at hl 0 rfl) ?_
  refine lv_if_eq (tgt := 765) hC.1 hC.2.1 dL_law_758 (by decide) (fun c4 => ?_) (fun c4 => ?_)
  · refine lv_lconst (v := (0 : Int32).toInt64) hC.1 hC.2.1 dL_law_765 (by decide) ?_
    refine W.lcmp hC.1 hC.2.1 dL_law_766 ?_
    refine lv_if_eq (tgt := 772) hC.1 hC.2.1 dL_law_767 (by decide) (fun c3 => fin _ _ hZ) (fun c3 => absurd (z_cmp0 (h4.1 c4)) c3)
  · refine lv_lconst (v := (1 : Int32).toInt64) hC.1 hC.2.1 dL_law_761 (by decide) ?_
    refine lv_goto (tgt := 766) hC.1 hC.2.1 dL_law_762 (by decide) ?_
    refine W.lcmp hC.1 hC.2.1 dL_law_766 ?_
    refine lv_if_eq (tgt := 772) hC.1 hC.2.1 dL_law_767 (by decide) (fun c3 => fin _ _ hZ) (fun c3 => absurd (z_cmp0 (h4.2 c4)) c3)
def ob_buy (Inv : Nat → Nat → Mem → Prop) : Prop := ∀ (n np : Nat) (μ : Mem) (a1 : Int32), Inv n np μ → w_L_buy n np (fun (k : Int32) (n2 np2 : Nat) (u : Mem) => w_X5_buy (fun (b : Int32) (u2 : Mem) => w_X5_thrown (oT Inv n2 np2 k b) u2) a1 u) a1 μ
set_option maxRecDepth 100000 in
set_option maxHeartbeats 4000000 in
theorem law_775 (hst : l.stackTraces = false) (hC : ZC p m meth c s RL cL_law 7) (hX : va_X b L xs s s.heap) (hbl : b < s.heap.size) (ho : ob_buy Inv) (hI : Inv n np μ) (hZ : ZS D ca s.heap.size ad n np μ s H locs) (hl : lv_has ls 7 (LL b ad i)) (hi1 : vp_in (i + 1) L) (hi2 : vp_in (i + 2) L) (hi3 : vp_in (i + 3) L) (hi4 : vp_in (i + 4) L) (hc : cells + 4 ≤ 605506) (hs : slots + 24 ≤ 7279587) (kk : LK p l e s m args below meth c Inv D ca b i cells slots Q) : W p l e room_1 s m args below meth c H locs cells slots Q (F0 m 775 ls []) := by
  have hbA : ¬ zB s.heap.size b := Nat.not_le.mpr hbl
  refine lv_aload_n hC.1 hC.2.1 dL_law_775 rfl (lv_at hl 1 rfl) ?_
  refine lv_aload_n hC.1 hC.2.1 dL_law_776 rfl (lv_at hl 0 rfl) ?_
  refine lv_iload hC.1 hC.2.1 dL_law_777 (lv_at hl 4 rfl) ?_
  refine lv_iconst (v := 1) hC.1 hC.2.1 dL_law_779 (by decide) ?_
  refine lv_iadd hC.1 hC.2.1 dL_law_780 ?_
  refine va_sld hC.1 hC.2.1 hX hbl hbA hZ.2.1 hi1 dL_law_781 ?_
  refine lv_aload_n hC.1 hC.2.1 dL_law_782 rfl (lv_at hl 3 rfl) ?_
  have h := ho n np μ (xs (i + 1).toNatClampNeg) hI
  refine z_callW (As := [.ref (ad 30 0), .int (xs (i + 1).toNatClampNeg), .ref (ad 21 0)]) (rest := []) hC hZ zy_L_buy (c_L_buy l hst h) km_L_117 rfl ⟨rfl, rfl⟩ ⟨(Nat.le_of_ble_eq_true rfl), (Nat.le_of_ble_eq_true rfl)⟩ hl.1 rfl (Nat.le_of_ble_eq_true rfl) dL_law_783 ⟨by show _ ≤ 605506; omega, by show _ ≤ 7279587; omega⟩ (fun k n2 np2 ad2 u H locs h hag hZ => ?_)
  have hl : lv_has ls 7 (LL b ad2 i) := by
    have e1 := hag 30 0 (by decide)
    have e2 := hag 0 0 (by decide)
    have e3 := hag 21 0 (by decide)
    unfold LL
    rw [e1, e2, e3]
    exact hl
  refine lv_istore (lv' := [(5, .int k), (0, .ref b), (1, .ref (ad2 30 0)), (2, .ref (ad2 0 0)), (3, .ref (ad2 21 0)), (4, .int i)]) hC.1 hC.2.1 dL_law_786 hl (by decide) rfl (fun ls hl => ?_)
  refine lv_aload_n hC.1 hC.2.1 dL_law_788 rfl (lv_at hl 3 rfl) ?_
  refine lv_aload_n hC.1 hC.2.1 dL_law_789 rfl (lv_at hl 1 rfl) ?_
  refine lv_iload hC.1 hC.2.1 dL_law_790 (lv_at hl 5 rfl) ?_
  refine lv_iconst (v := 1) hC.1 hC.2.1 dL_law_792 (by decide) ?_
  refine lv_iadd hC.1 hC.2.1 dL_law_793 ?_
  refine va_sld hC.1 hC.2.1 hX hbl hbA hZ.2.1 hi1 dL_law_794 ?_
  refine z_cVi (As := [.int (xs (i + 1).toNatClampNeg)]) (rest := []) hC hZ (zF_0 _) rfl zy_X5_buy (c_X5_buy l h) km_L_119 rfl ⟨rfl, rfl⟩ ⟨(Nat.le_of_ble_eq_true rfl), (Nat.le_of_ble_eq_true rfl)⟩ hl.1 rfl (Nat.le_of_ble_eq_true rfl) dL_law_795 ⟨by show _ ≤ 605506; omega, by show _ ≤ 7279587; omega⟩ (fun b1 u2 H locs h hZ => ?_)
  refine lv_istore (lv' := [(6, .int b1), (5, .int k), (0, .ref b), (1, .ref (ad2 30 0)), (2, .ref (ad2 0 0)), (3, .ref (ad2 21 0)), (4, .int i)]) hC.1 hC.2.1 dL_law_798 hl (by decide) rfl (fun ls hl => ?_)
  refine lv_aload_n hC.1 hC.2.1 dL_law_800 rfl (lv_at hl 4 rfl) ?_
  refine z_cVi (As := []) (rest := []) hC hZ (zF_0 _) rfl zy_X5_thrown (c_X5_thrown l h) km_L_89 rfl ⟨rfl, rfl⟩ ⟨(Nat.le_of_ble_eq_true rfl), (Nat.le_of_ble_eq_true rfl)⟩ hl.1 rfl (Nat.le_of_ble_eq_true rfl) dL_law_801 ⟨by show _ ≤ 605506; omega, by show _ ≤ 7279587; omega⟩ (fun t u3 H locs h hZ => ?_)
  refine lv_iload hC.1 hC.2.1 dL_law_804 (lv_at hl 1 rfl) ?_
  refine lv_icmp_eq (tgt := 811) hC.1 hC.2.1 dL_law_806 (by decide) (fun c1 => ?_) (fun c1 => absurd h.1 c1)
  have hl1 : lv_has ls 7 (LL b ad2 i) := lv_sub hl [2, 3, 4, 5, 6] rfl
  refine lv_iload hC.1 hC.2.1 dL_law_811 (lv_at hl 1 rfl) ?_
  have fin : ∀ (H : Heap) (locs : List Loc), ZS D ca s.heap.size ad2 n2 np2 u3 s H locs → W p l e room_1 s m args below meth c H locs (cells + 2 + 0 + 0) (slots + 12 + 0 + 0) Q (F0 m 828 ls []) := by
    intro H locs hZ
    refine lv_goto (tgt := 1526) hC.1 hC.2.1 dL_law_828 (by decide) ?_
    refine W.widen (k := cells + 4) (n := slots + 24) (by omega) (by omega) ?_
    exact kk n2 np2 ad2 u3 _ _ _ h.2.2 hZ hl1
  refine lv_if_ne (tgt := 828) hC.1 hC.2.1 dL_law_813 (by decide) (fun c2 => fin _ _ hZ) (fun c2 => ?_)
  have h4 := h.2.1 c2
  refine lv_aload_n hC.1 hC.2.1 dL_law_816 rfl (lv_at hl 5 rfl) ?_
  refine lv_iconst (v := 0) hC.1 hC.2.1 dL_law_817 (by decide) ?_
  refine aL_21 hC hZ z01 dL_law_818 ?_
  refine lv_iload hC.1 hC.2.1 dL_law_819 (lv_at hl 0 rfl) ?_
  refine lv_i2l hC.1 hC.2.1 dL_law_821 rfl ?_
  refine W.lcmp hC.1 hC.2.1 dL_law_822 ?_
  refine lv_if_eq (tgt := 828) hC.1 hC.2.1 dL_law_823 (by decide) (fun c3 => fin _ _ hZ) (fun c3 => absurd (z_cmp0 (h4)) c3)
def ob_clear (Inv : Nat → Nat → Mem → Prop) : Prop := ∀ (n np : Nat) (μ : Mem), Inv n np μ → w_X4_clear n np (fun (r : Int32) (u : Mem) => w_X5_clear (fun (b : Int32) (u2 : Mem) => r = b ∧ Inv n np u2) u) μ
set_option maxRecDepth 100000 in
set_option maxHeartbeats 4000000 in
theorem law_831 (hst : l.stackTraces = false) (hC : ZC p m meth c s RL cL_law 7) (hX : va_X b L xs s s.heap) (hbl : b < s.heap.size) (ho : ob_clear Inv) (hI : Inv n np μ) (hZ : ZS D ca s.heap.size ad n np μ s H locs) (hl : lv_has ls 7 (LL b ad i)) (hi1 : vp_in (i + 1) L) (hi2 : vp_in (i + 2) L) (hi3 : vp_in (i + 3) L) (hi4 : vp_in (i + 4) L) (hc : cells + 4 ≤ 605506) (hs : slots + 24 ≤ 7279587) (kk : LK p l e s m args below meth c Inv D ca b i cells slots Q) : W p l e room_1 s m args below meth c H locs cells slots Q (F0 m 831 ls []) := by
  have hbA : ¬ zB s.heap.size b := Nat.not_le.mpr hbl
  have h := ho n np μ hI
  refine lv_aload_n hC.1 hC.2.1 dL_law_831 rfl (lv_at hl 1 rfl) ?_
  refine z_cVi (As := []) (rest := []) hC hZ (zF_30 _) rfl zy_X4_clear (c_X4_clear l h) km_L_120 rfl ⟨rfl, rfl⟩ ⟨(Nat.le_of_ble_eq_true rfl), (Nat.le_of_ble_eq_true rfl)⟩ hl.1 rfl (Nat.le_of_ble_eq_true rfl) dL_law_832 ⟨by show _ ≤ 605506; omega, by show _ ≤ 7279587; omega⟩ (fun r u H locs h hZ => ?_)
  refine lv_aload_n hC.1 hC.2.1 dL_law_835 rfl (lv_at hl 2 rfl) ?_
  refine z_cVi (As := []) (rest := [.int r]) hC hZ (zF_0 _) rfl zy_X5_clear (c_X5_clear l h) km_L_123 rfl ⟨rfl, rfl⟩ ⟨(Nat.le_of_ble_eq_true rfl), (Nat.le_of_ble_eq_true rfl)⟩ hl.1 rfl (Nat.le_of_ble_eq_true rfl) dL_law_836 ⟨by show _ ≤ 605506; omega, by show _ ≤ 7279587; omega⟩ (fun b1 u2 H locs h hZ => ?_)
  refine lv_icmp_eq (tgt := 1526) hC.1 hC.2.1 dL_law_839 (by decide) (fun c1 => ?_) (fun c1 => absurd h.1 c1)
  refine W.widen (k := cells + 4) (n := slots + 24) (by omega) (by omega) ?_
  exact kk n np ad u2 _ _ _ h.2 hZ hl
def ob_mishap (Inv : Nat → Nat → Mem → Prop) : Prop := ∀ (n np : Nat) (μ : Mem) (a1 a2 : Int32), Inv n np μ → w_L_mishap n np (fun (k : Int32) (n2 np2 : Nat) (u : Mem) => w_X5_mishap (fun (b : Int32) (u2 : Mem) => w_X5_thrown (oT Inv n2 np2 k b) u2) a1 a2 u) a1 a2 μ
set_option maxRecDepth 100000 in
set_option maxHeartbeats 4000000 in
theorem law_844 (hst : l.stackTraces = false) (hC : ZC p m meth c s RL cL_law 7) (hX : va_X b L xs s s.heap) (hbl : b < s.heap.size) (ho : ob_mishap Inv) (hI : Inv n np μ) (hZ : ZS D ca s.heap.size ad n np μ s H locs) (hl : lv_has ls 7 (LL b ad i)) (hi1 : vp_in (i + 1) L) (hi2 : vp_in (i + 2) L) (hi3 : vp_in (i + 3) L) (hi4 : vp_in (i + 4) L) (hc : cells + 4 ≤ 605506) (hs : slots + 24 ≤ 7279587) (kk : LK p l e s m args below meth c Inv D ca b i cells slots Q) : W p l e room_1 s m args below meth c H locs cells slots Q (F0 m 844 ls []) := by
  have hbA : ¬ zB s.heap.size b := Nat.not_le.mpr hbl
  refine lv_aload_n hC.1 hC.2.1 dL_law_844 rfl (lv_at hl 1 rfl) ?_
  refine lv_aload_n hC.1 hC.2.1 dL_law_845 rfl (lv_at hl 0 rfl) ?_
  refine lv_iload hC.1 hC.2.1 dL_law_846 (lv_at hl 4 rfl) ?_
  refine lv_iconst (v := 1) hC.1 hC.2.1 dL_law_848 (by decide) ?_
  refine lv_iadd hC.1 hC.2.1 dL_law_849 ?_
  refine va_sld hC.1 hC.2.1 hX hbl hbA hZ.2.1 hi1 dL_law_850 ?_
  refine lv_aload_n hC.1 hC.2.1 dL_law_851 rfl (lv_at hl 0 rfl) ?_
  refine lv_iload hC.1 hC.2.1 dL_law_852 (lv_at hl 4 rfl) ?_
  refine lv_iconst (v := 2) hC.1 hC.2.1 dL_law_854 (by decide) ?_
  refine lv_iadd hC.1 hC.2.1 dL_law_855 ?_
  refine va_sld hC.1 hC.2.1 hX hbl hbA hZ.2.1 hi2 dL_law_856 ?_
  refine lv_aload_n hC.1 hC.2.1 dL_law_857 rfl (lv_at hl 3 rfl) ?_
  have h := ho n np μ (xs (i + 1).toNatClampNeg) (xs (i + 2).toNatClampNeg) hI
  refine z_callW (As := [.ref (ad 30 0), .int (xs (i + 1).toNatClampNeg), .int (xs (i + 2).toNatClampNeg), .ref (ad 21 0)]) (rest := []) hC hZ zy_L_mishap (c_L_mishap l hst h) km_L_124 rfl ⟨rfl, rfl⟩ ⟨(Nat.le_of_ble_eq_true rfl), (Nat.le_of_ble_eq_true rfl)⟩ hl.1 rfl (Nat.le_of_ble_eq_true rfl) dL_law_858 ⟨by show _ ≤ 605506; omega, by show _ ≤ 7279587; omega⟩ (fun k n2 np2 ad2 u H locs h hag hZ => ?_)
  have hl : lv_has ls 7 (LL b ad2 i) := by
    have e1 := hag 30 0 (by decide)
    have e2 := hag 0 0 (by decide)
    have e3 := hag 21 0 (by decide)
    unfold LL
    rw [e1, e2, e3]
    exact hl
  refine lv_istore (lv' := [(5, .int k), (0, .ref b), (1, .ref (ad2 30 0)), (2, .ref (ad2 0 0)), (3, .ref (ad2 21 0)), (4, .int i)]) hC.1 hC.2.1 dL_law_861 hl (by decide) rfl (fun ls hl => ?_)
  refine lv_aload_n hC.1 hC.2.1 dL_law_863 rfl (lv_at hl 3 rfl) ?_
  refine lv_aload_n hC.1 hC.2.1 dL_law_864 rfl (lv_at hl 1 rfl) ?_
  refine lv_iload hC.1 hC.2.1 dL_law_865 (lv_at hl 5 rfl) ?_
  refine lv_iconst (v := 1) hC.1 hC.2.1 dL_law_867 (by decide) ?_
  refine lv_iadd hC.1 hC.2.1 dL_law_868 ?_
  refine va_sld hC.1 hC.2.1 hX hbl hbA hZ.2.1 hi1 dL_law_869 ?_
  refine lv_aload_n hC.1 hC.2.1 dL_law_870 rfl (lv_at hl 1 rfl) ?_
  refine lv_iload hC.1 hC.2.1 dL_law_871 (lv_at hl 5 rfl) ?_
  refine lv_iconst (v := 2) hC.1 hC.2.1 dL_law_873 (by decide) ?_
  refine lv_iadd hC.1 hC.2.1 dL_law_874 ?_
  refine va_sld hC.1 hC.2.1 hX hbl hbA hZ.2.1 hi2 dL_law_875 ?_
  refine z_cVi (As := [.int (xs (i + 1).toNatClampNeg), .int (xs (i + 2).toNatClampNeg)]) (rest := []) hC hZ (zF_0 _) rfl zy_X5_mishap (c_X5_mishap l h) km_L_126 rfl ⟨rfl, rfl⟩ ⟨(Nat.le_of_ble_eq_true rfl), (Nat.le_of_ble_eq_true rfl)⟩ hl.1 rfl (Nat.le_of_ble_eq_true rfl) dL_law_876 ⟨by show _ ≤ 605506; omega, by show _ ≤ 7279587; omega⟩ (fun b1 u2 H locs h hZ => ?_)
  refine lv_istore (lv' := [(6, .int b1), (5, .int k), (0, .ref b), (1, .ref (ad2 30 0)), (2, .ref (ad2 0 0)), (3, .ref (ad2 21 0)), (4, .int i)]) hC.1 hC.2.1 dL_law_879 hl (by decide) rfl (fun ls hl => ?_)
  refine lv_aload_n hC.1 hC.2.1 dL_law_881 rfl (lv_at hl 4 rfl) ?_
  refine z_cVi (As := []) (rest := []) hC hZ (zF_0 _) rfl zy_X5_thrown (c_X5_thrown l h) km_L_89 rfl ⟨rfl, rfl⟩ ⟨(Nat.le_of_ble_eq_true rfl), (Nat.le_of_ble_eq_true rfl)⟩ hl.1 rfl (Nat.le_of_ble_eq_true rfl) dL_law_882 ⟨by show _ ≤ 605506; omega, by show _ ≤ 7279587; omega⟩ (fun t u3 H locs h hZ => ?_)
  refine lv_iload hC.1 hC.2.1 dL_law_885 (lv_at hl 1 rfl) ?_
  refine lv_icmp_eq (tgt := 892) hC.1 hC.2.1 dL_law_887 (by decide) (fun c1 => ?_) (fun c1 => absurd h.1 c1)
  have hl1 : lv_has ls 7 (LL b ad2 i) := lv_sub hl [2, 3, 4, 5, 6] rfl
  refine lv_iload hC.1 hC.2.1 dL_law_892 (lv_at hl 1 rfl) ?_
  have fin : ∀ (H : Heap) (locs : List Loc), ZS D ca s.heap.size ad2 n2 np2 u3 s H locs → W p l e room_1 s m args below meth c H locs (cells + 2 + 0 + 0) (slots + 12 + 0 + 0) Q (F0 m 909 ls []) := by
    intro H locs hZ
    refine lv_goto (tgt := 1526) hC.1 hC.2.1 dL_law_909 (by decide) ?_
    refine W.widen (k := cells + 4) (n := slots + 24) (by omega) (by omega) ?_
    exact kk n2 np2 ad2 u3 _ _ _ h.2.2 hZ hl1
  refine lv_if_ne (tgt := 909) hC.1 hC.2.1 dL_law_894 (by decide) (fun c2 => fin _ _ hZ) (fun c2 => ?_)
  have h4 := h.2.1 c2
  refine lv_aload_n hC.1 hC.2.1 dL_law_897 rfl (lv_at hl 5 rfl) ?_
  refine lv_iconst (v := 0) hC.1 hC.2.1 dL_law_898 (by decide) ?_
  refine aL_21 hC hZ z01 dL_law_899 ?_
  refine lv_iload hC.1 hC.2.1 dL_law_900 (lv_at hl 0 rfl) ?_
  refine lv_i2l hC.1 hC.2.1 dL_law_902 rfl ?_
  refine W.lcmp hC.1 hC.2.1 dL_law_903 ?_
  refine lv_if_eq (tgt := 909) hC.1 hC.2.1 dL_law_904 (by decide) (fun c3 => fin _ _ hZ) (fun c3 => absurd (z_cmp0 (h4)) c3)
def ob_shoot (Inv : Nat → Nat → Mem → Prop) : Prop := ∀ (n np : Nat) (μ : Mem), Inv n np μ → w_L_shoot n np (fun (k : Int32) (n2 np2 : Nat) (u : Mem) => w_X5_shoot (fun (b : Int32) (u2 : Mem) => w_X5_thrown (oT Inv n2 np2 k b) u2) u) μ
set_option maxRecDepth 100000 in
set_option maxHeartbeats 4000000 in
theorem law_912 (hst : l.stackTraces = false) (hC : ZC p m meth c s RL cL_law 7) (hX : va_X b L xs s s.heap) (hbl : b < s.heap.size) (ho : ob_shoot Inv) (hI : Inv n np μ) (hZ : ZS D ca s.heap.size ad n np μ s H locs) (hl : lv_has ls 7 (LL b ad i)) (hi1 : vp_in (i + 1) L) (hi2 : vp_in (i + 2) L) (hi3 : vp_in (i + 3) L) (hi4 : vp_in (i + 4) L) (hc : cells + 4 ≤ 605506) (hs : slots + 24 ≤ 7279587) (kk : LK p l e s m args below meth c Inv D ca b i cells slots Q) : W p l e room_1 s m args below meth c H locs cells slots Q (F0 m 912 ls []) := by
  have hbA : ¬ zB s.heap.size b := Nat.not_le.mpr hbl
  refine lv_aload_n hC.1 hC.2.1 dL_law_912 rfl (lv_at hl 1 rfl) ?_
  refine lv_aload_n hC.1 hC.2.1 dL_law_913 rfl (lv_at hl 3 rfl) ?_
  have h := ho n np μ hI
  refine z_callW (As := [.ref (ad 30 0), .ref (ad 21 0)]) (rest := []) hC hZ zy_L_shoot (c_L_shoot l hst h) km_L_127 rfl ⟨rfl, rfl⟩ ⟨(Nat.le_of_ble_eq_true rfl), (Nat.le_of_ble_eq_true rfl)⟩ hl.1 rfl (Nat.le_of_ble_eq_true rfl) dL_law_914 ⟨by show _ ≤ 605506; omega, by show _ ≤ 7279587; omega⟩ (fun k n2 np2 ad2 u H locs h hag hZ => ?_)
  have hl : lv_has ls 7 (LL b ad2 i) := by
    have e1 := hag 30 0 (by decide)
    have e2 := hag 0 0 (by decide)
    have e3 := hag 21 0 (by decide)
    unfold LL
    rw [e1, e2, e3]
    exact hl
  refine lv_istore (lv' := [(5, .int k), (0, .ref b), (1, .ref (ad2 30 0)), (2, .ref (ad2 0 0)), (3, .ref (ad2 21 0)), (4, .int i)]) hC.1 hC.2.1 dL_law_917 hl (by decide) rfl (fun ls hl => ?_)
  refine lv_aload_n hC.1 hC.2.1 dL_law_919 rfl (lv_at hl 3 rfl) ?_
  refine z_cVi (As := []) (rest := []) hC hZ (zF_0 _) rfl zy_X5_shoot (c_X5_shoot l h) km_L_130 rfl ⟨rfl, rfl⟩ ⟨(Nat.le_of_ble_eq_true rfl), (Nat.le_of_ble_eq_true rfl)⟩ hl.1 rfl (Nat.le_of_ble_eq_true rfl) dL_law_920 ⟨by show _ ≤ 605506; omega, by show _ ≤ 7279587; omega⟩ (fun b1 u2 H locs h hZ => ?_)
  refine lv_istore (lv' := [(6, .int b1), (5, .int k), (0, .ref b), (1, .ref (ad2 30 0)), (2, .ref (ad2 0 0)), (3, .ref (ad2 21 0)), (4, .int i)]) hC.1 hC.2.1 dL_law_923 hl (by decide) rfl (fun ls hl => ?_)
  refine lv_aload_n hC.1 hC.2.1 dL_law_925 rfl (lv_at hl 4 rfl) ?_
  refine z_cVi (As := []) (rest := []) hC hZ (zF_0 _) rfl zy_X5_thrown (c_X5_thrown l h) km_L_89 rfl ⟨rfl, rfl⟩ ⟨(Nat.le_of_ble_eq_true rfl), (Nat.le_of_ble_eq_true rfl)⟩ hl.1 rfl (Nat.le_of_ble_eq_true rfl) dL_law_926 ⟨by show _ ≤ 605506; omega, by show _ ≤ 7279587; omega⟩ (fun t u3 H locs h hZ => ?_)
  refine lv_iload hC.1 hC.2.1 dL_law_929 (lv_at hl 1 rfl) ?_
  refine lv_icmp_eq (tgt := 936) hC.1 hC.2.1 dL_law_931 (by decide) (fun c1 => ?_) (fun c1 => absurd h.1 c1)
  have hl1 : lv_has ls 7 (LL b ad2 i) := lv_sub hl [2, 3, 4, 5, 6] rfl
  refine lv_iload hC.1 hC.2.1 dL_law_936 (lv_at hl 1 rfl) ?_
  have fin : ∀ (H : Heap) (locs : List Loc), ZS D ca s.heap.size ad2 n2 np2 u3 s H locs → W p l e room_1 s m args below meth c H locs (cells + 1 + 0 + 0) (slots + 6 + 0 + 0) Q (F0 m 953 ls []) := by
    intro H locs hZ
    refine lv_goto (tgt := 1526) hC.1 hC.2.1 dL_law_953 (by decide) ?_
    refine W.widen (k := cells + 4) (n := slots + 24) (by omega) (by omega) ?_
    exact kk n2 np2 ad2 u3 _ _ _ h.2.2 hZ hl1
  refine lv_if_ne (tgt := 953) hC.1 hC.2.1 dL_law_938 (by decide) (fun c2 => fin _ _ hZ) (fun c2 => ?_)
  have h4 := h.2.1 c2
  refine lv_aload_n hC.1 hC.2.1 dL_law_941 rfl (lv_at hl 5 rfl) ?_
  refine lv_iconst (v := 0) hC.1 hC.2.1 dL_law_942 (by decide) ?_
  refine aL_21 hC hZ z01 dL_law_943 ?_
  refine lv_iload hC.1 hC.2.1 dL_law_944 (lv_at hl 0 rfl) ?_
  refine lv_i2l hC.1 hC.2.1 dL_law_946 rfl ?_
  refine W.lcmp hC.1 hC.2.1 dL_law_947 ?_
  refine lv_if_eq (tgt := 953) hC.1 hC.2.1 dL_law_948 (by decide) (fun c3 => fin _ _ hZ) (fun c3 => absurd (z_cmp0 (h4)) c3)
def ob_mend (Inv : Nat → Nat → Mem → Prop) : Prop := ∀ (n np : Nat) (μ : Mem), Inv n np μ → w_X4_mend n np (fun (r : Int32) (u : Mem) => w_X5_mend (fun (b : Int32) (u2 : Mem) => r = b ∧ Inv n np u2) u) μ
set_option maxRecDepth 100000 in
set_option maxHeartbeats 4000000 in
theorem law_956 (hst : l.stackTraces = false) (hC : ZC p m meth c s RL cL_law 7) (hX : va_X b L xs s s.heap) (hbl : b < s.heap.size) (ho : ob_mend Inv) (hI : Inv n np μ) (hZ : ZS D ca s.heap.size ad n np μ s H locs) (hl : lv_has ls 7 (LL b ad i)) (hi1 : vp_in (i + 1) L) (hi2 : vp_in (i + 2) L) (hi3 : vp_in (i + 3) L) (hi4 : vp_in (i + 4) L) (hc : cells + 4 ≤ 605506) (hs : slots + 24 ≤ 7279587) (kk : LK p l e s m args below meth c Inv D ca b i cells slots Q) : W p l e room_1 s m args below meth c H locs cells slots Q (F0 m 956 ls []) := by
  have hbA : ¬ zB s.heap.size b := Nat.not_le.mpr hbl
  have h := ho n np μ hI
  refine lv_aload_n hC.1 hC.2.1 dL_law_956 rfl (lv_at hl 1 rfl) ?_
  refine z_cVi (As := []) (rest := []) hC hZ (zF_30 _) rfl zy_X4_mend (c_X4_mend l h) km_L_131 rfl ⟨rfl, rfl⟩ ⟨(Nat.le_of_ble_eq_true rfl), (Nat.le_of_ble_eq_true rfl)⟩ hl.1 rfl (Nat.le_of_ble_eq_true rfl) dL_law_957 ⟨by show _ ≤ 605506; omega, by show _ ≤ 7279587; omega⟩ (fun r u H locs h hZ => ?_)
  refine lv_aload_n hC.1 hC.2.1 dL_law_960 rfl (lv_at hl 2 rfl) ?_
  refine z_cVi (As := []) (rest := [.int r]) hC hZ (zF_0 _) rfl zy_X5_mend (c_X5_mend l h) km_L_134 rfl ⟨rfl, rfl⟩ ⟨(Nat.le_of_ble_eq_true rfl), (Nat.le_of_ble_eq_true rfl)⟩ hl.1 rfl (Nat.le_of_ble_eq_true rfl) dL_law_961 ⟨by show _ ≤ 605506; omega, by show _ ≤ 7279587; omega⟩ (fun b1 u2 H locs h hZ => ?_)
  refine lv_icmp_eq (tgt := 1526) hC.1 hC.2.1 dL_law_964 (by decide) (fun c1 => ?_) (fun c1 => absurd h.1 c1)
  refine W.widen (k := cells + 4) (n := slots + 24) (by omega) (by omega) ?_
  exact kk n np ad u2 _ _ _ h.2 hZ hl
def ob_better (Inv : Nat → Nat → Mem → Prop) : Prop := ∀ (n np : Nat) (μ : Mem), Inv n np μ → w_X4_better n np (fun (r : Int32) (u : Mem) => w_X5_better (fun (b : Int32) (u2 : Mem) => r = b ∧ Inv n np u2) u) μ
set_option maxRecDepth 100000 in
set_option maxHeartbeats 4000000 in
theorem law_969 (hst : l.stackTraces = false) (hC : ZC p m meth c s RL cL_law 7) (hX : va_X b L xs s s.heap) (hbl : b < s.heap.size) (ho : ob_better Inv) (hI : Inv n np μ) (hZ : ZS D ca s.heap.size ad n np μ s H locs) (hl : lv_has ls 7 (LL b ad i)) (hi1 : vp_in (i + 1) L) (hi2 : vp_in (i + 2) L) (hi3 : vp_in (i + 3) L) (hi4 : vp_in (i + 4) L) (hc : cells + 4 ≤ 605506) (hs : slots + 24 ≤ 7279587) (kk : LK p l e s m args below meth c Inv D ca b i cells slots Q) : W p l e room_1 s m args below meth c H locs cells slots Q (F0 m 969 ls []) := by
  have hbA : ¬ zB s.heap.size b := Nat.not_le.mpr hbl
  have h := ho n np μ hI
  refine lv_aload_n hC.1 hC.2.1 dL_law_969 rfl (lv_at hl 1 rfl) ?_
  refine z_cVi (As := []) (rest := []) hC hZ (zF_30 _) rfl zy_X4_better (c_X4_better l h) km_L_135 rfl ⟨rfl, rfl⟩ ⟨(Nat.le_of_ble_eq_true rfl), (Nat.le_of_ble_eq_true rfl)⟩ hl.1 rfl (Nat.le_of_ble_eq_true rfl) dL_law_970 ⟨by show _ ≤ 605506; omega, by show _ ≤ 7279587; omega⟩ (fun r u H locs h hZ => ?_)
  refine lv_aload_n hC.1 hC.2.1 dL_law_973 rfl (lv_at hl 2 rfl) ?_
  refine z_cVi (As := []) (rest := [.int r]) hC hZ (zF_0 _) rfl zy_X5_better (c_X5_better l h) km_L_138 rfl ⟨rfl, rfl⟩ ⟨(Nat.le_of_ble_eq_true rfl), (Nat.le_of_ble_eq_true rfl)⟩ hl.1 rfl (Nat.le_of_ble_eq_true rfl) dL_law_974 ⟨by show _ ≤ 605506; omega, by show _ ≤ 7279587; omega⟩ (fun b1 u2 H locs h hZ => ?_)
  refine lv_icmp_eq (tgt := 1526) hC.1 hC.2.1 dL_law_977 (by decide) (fun c1 => ?_) (fun c1 => absurd h.1 c1)
  refine W.widen (k := cells + 4) (n := slots + 24) (by omega) (by omega) ?_
  exact kk n np ad u2 _ _ _ h.2 hZ hl
def ob_least (Inv : Nat → Nat → Mem → Prop) : Prop := ∀ (n np : Nat) (μ : Mem), Inv n np μ → w_L_least n np (fun (k : Int32) (n2 np2 : Nat) (u : Mem) => w_X5_least (fun (b : Int32) (u2 : Mem) => w_X5_thrown (oT Inv n2 np2 k b) u2) u) μ
set_option maxRecDepth 100000 in
set_option maxHeartbeats 4000000 in
theorem law_982 (hst : l.stackTraces = false) (hC : ZC p m meth c s RL cL_law 7) (hX : va_X b L xs s s.heap) (hbl : b < s.heap.size) (ho : ob_least Inv) (hI : Inv n np μ) (hZ : ZS D ca s.heap.size ad n np μ s H locs) (hl : lv_has ls 7 (LL b ad i)) (hi1 : vp_in (i + 1) L) (hi2 : vp_in (i + 2) L) (hi3 : vp_in (i + 3) L) (hi4 : vp_in (i + 4) L) (hc : cells + 4 ≤ 605506) (hs : slots + 24 ≤ 7279587) (kk : LK p l e s m args below meth c Inv D ca b i cells slots Q) : W p l e room_1 s m args below meth c H locs cells slots Q (F0 m 982 ls []) := by
  have hbA : ¬ zB s.heap.size b := Nat.not_le.mpr hbl
  refine lv_aload_n hC.1 hC.2.1 dL_law_982 rfl (lv_at hl 1 rfl) ?_
  refine lv_aload_n hC.1 hC.2.1 dL_law_983 rfl (lv_at hl 3 rfl) ?_
  have h := ho n np μ hI
  refine z_callW (As := [.ref (ad 30 0), .ref (ad 21 0)]) (rest := []) hC hZ zy_L_least (c_L_least l hst h) km_L_139 rfl ⟨rfl, rfl⟩ ⟨(Nat.le_of_ble_eq_true rfl), (Nat.le_of_ble_eq_true rfl)⟩ hl.1 rfl (Nat.le_of_ble_eq_true rfl) dL_law_984 ⟨by show _ ≤ 605506; omega, by show _ ≤ 7279587; omega⟩ (fun k n2 np2 ad2 u H locs h hag hZ => ?_)
  have hl : lv_has ls 7 (LL b ad2 i) := by
    have e1 := hag 30 0 (by decide)
    have e2 := hag 0 0 (by decide)
    have e3 := hag 21 0 (by decide)
    unfold LL
    rw [e1, e2, e3]
    exact hl
  refine lv_istore (lv' := [(5, .int k), (0, .ref b), (1, .ref (ad2 30 0)), (2, .ref (ad2 0 0)), (3, .ref (ad2 21 0)), (4, .int i)]) hC.1 hC.2.1 dL_law_987 hl (by decide) rfl (fun ls hl => ?_)
  refine lv_aload_n hC.1 hC.2.1 dL_law_989 rfl (lv_at hl 3 rfl) ?_
  refine z_cVi (As := []) (rest := []) hC hZ (zF_0 _) rfl zy_X5_least (c_X5_least l h) km_L_141 rfl ⟨rfl, rfl⟩ ⟨(Nat.le_of_ble_eq_true rfl), (Nat.le_of_ble_eq_true rfl)⟩ hl.1 rfl (Nat.le_of_ble_eq_true rfl) dL_law_990 ⟨by show _ ≤ 605506; omega, by show _ ≤ 7279587; omega⟩ (fun b1 u2 H locs h hZ => ?_)
  refine lv_istore (lv' := [(6, .int b1), (5, .int k), (0, .ref b), (1, .ref (ad2 30 0)), (2, .ref (ad2 0 0)), (3, .ref (ad2 21 0)), (4, .int i)]) hC.1 hC.2.1 dL_law_993 hl (by decide) rfl (fun ls hl => ?_)
  refine lv_aload_n hC.1 hC.2.1 dL_law_995 rfl (lv_at hl 4 rfl) ?_
  refine z_cVi (As := []) (rest := []) hC hZ (zF_0 _) rfl zy_X5_thrown (c_X5_thrown l h) km_L_89 rfl ⟨rfl, rfl⟩ ⟨(Nat.le_of_ble_eq_true rfl), (Nat.le_of_ble_eq_true rfl)⟩ hl.1 rfl (Nat.le_of_ble_eq_true rfl) dL_law_996 ⟨by show _ ≤ 605506; omega, by show _ ≤ 7279587; omega⟩ (fun t u3 H locs h hZ => ?_)
  refine lv_iload hC.1 hC.2.1 dL_law_999 (lv_at hl 1 rfl) ?_
  refine lv_icmp_eq (tgt := 1006) hC.1 hC.2.1 dL_law_1001 (by decide) (fun c1 => ?_) (fun c1 => absurd h.1 c1)
  have hl1 : lv_has ls 7 (LL b ad2 i) := lv_sub hl [2, 3, 4, 5, 6] rfl
  refine lv_iload hC.1 hC.2.1 dL_law_1006 (lv_at hl 1 rfl) ?_
  have fin : ∀ (H : Heap) (locs : List Loc), ZS D ca s.heap.size ad2 n2 np2 u3 s H locs → W p l e room_1 s m args below meth c H locs (cells + 1 + 0 + 0) (slots + 6 + 0 + 0) Q (F0 m 1023 ls []) := by
    intro H locs hZ
    refine lv_goto (tgt := 1526) hC.1 hC.2.1 dL_law_1023 (by decide) ?_
    refine W.widen (k := cells + 4) (n := slots + 24) (by omega) (by omega) ?_
    exact kk n2 np2 ad2 u3 _ _ _ h.2.2 hZ hl1
  refine lv_if_ne (tgt := 1023) hC.1 hC.2.1 dL_law_1008 (by decide) (fun c2 => fin _ _ hZ) (fun c2 => ?_)
  have h4 := h.2.1 c2
  refine lv_aload_n hC.1 hC.2.1 dL_law_1011 rfl (lv_at hl 5 rfl) ?_
  refine lv_iconst (v := 0) hC.1 hC.2.1 dL_law_1012 (by decide) ?_
  refine aL_21 hC hZ z01 dL_law_1013 ?_
  refine lv_iload hC.1 hC.2.1 dL_law_1014 (lv_at hl 0 rfl) ?_
  refine lv_i2l hC.1 hC.2.1 dL_law_1016 rfl ?_
  refine W.lcmp hC.1 hC.2.1 dL_law_1017 ?_
  refine lv_if_eq (tgt := 1023) hC.1 hC.2.1 dL_law_1018 (by decide) (fun c3 => fin _ _ hZ) (fun c3 => absurd (z_cmp0 (h4)) c3)
def ob_today (Inv : Nat → Nat → Mem → Prop) : Prop := ∀ (n np : Nat) (μ : Mem), Inv n np μ → w_X4_today n np (fun (r : Int32) (u : Mem) => w_X5_today (fun (b : Int32) (u2 : Mem) => r = b ∧ Inv n np u2) u) μ
set_option maxRecDepth 100000 in
set_option maxHeartbeats 4000000 in
theorem law_1026 (hst : l.stackTraces = false) (hC : ZC p m meth c s RL cL_law 7) (hX : va_X b L xs s s.heap) (hbl : b < s.heap.size) (ho : ob_today Inv) (hI : Inv n np μ) (hZ : ZS D ca s.heap.size ad n np μ s H locs) (hl : lv_has ls 7 (LL b ad i)) (hi1 : vp_in (i + 1) L) (hi2 : vp_in (i + 2) L) (hi3 : vp_in (i + 3) L) (hi4 : vp_in (i + 4) L) (hc : cells + 4 ≤ 605506) (hs : slots + 24 ≤ 7279587) (kk : LK p l e s m args below meth c Inv D ca b i cells slots Q) : W p l e room_1 s m args below meth c H locs cells slots Q (F0 m 1026 ls []) := by
  have hbA : ¬ zB s.heap.size b := Nat.not_le.mpr hbl
  have h := ho n np μ hI
  refine lv_aload_n hC.1 hC.2.1 dL_law_1026 rfl (lv_at hl 1 rfl) ?_
  refine z_cVi (As := []) (rest := []) hC hZ (zF_30 _) rfl zy_X4_today (c_X4_today l h) km_L_142 rfl ⟨rfl, rfl⟩ ⟨(Nat.le_of_ble_eq_true rfl), (Nat.le_of_ble_eq_true rfl)⟩ hl.1 rfl (Nat.le_of_ble_eq_true rfl) dL_law_1027 ⟨by show _ ≤ 605506; omega, by show _ ≤ 7279587; omega⟩ (fun r u H locs h hZ => ?_)
  refine lv_aload_n hC.1 hC.2.1 dL_law_1030 rfl (lv_at hl 2 rfl) ?_
  refine z_cVi (As := []) (rest := [.int r]) hC hZ (zF_0 _) rfl zy_X5_today (c_X5_today l h) km_L_145 rfl ⟨rfl, rfl⟩ ⟨(Nat.le_of_ble_eq_true rfl), (Nat.le_of_ble_eq_true rfl)⟩ hl.1 rfl (Nat.le_of_ble_eq_true rfl) dL_law_1031 ⟨by show _ ≤ 605506; omega, by show _ ≤ 7279587; omega⟩ (fun b1 u2 H locs h hZ => ?_)
  refine lv_icmp_eq (tgt := 1526) hC.1 hC.2.1 dL_law_1034 (by decide) (fun c1 => ?_) (fun c1 => absurd h.1 c1)
  refine W.widen (k := cells + 4) (n := slots + 24) (by omega) (by omega) ?_
  exact kk n np ad u2 _ _ _ h.2 hZ hl
def ob_spent (Inv : Nat → Nat → Mem → Prop) : Prop := ∀ (n np : Nat) (μ : Mem), Inv n np μ → w_X4_spent n np (fun (r : Int32) (u : Mem) => w_X5_spent (fun (b : Int32) (u2 : Mem) => r = b ∧ Inv n np u2) u) μ
set_option maxRecDepth 100000 in
set_option maxHeartbeats 4000000 in
theorem law_1039 (hst : l.stackTraces = false) (hC : ZC p m meth c s RL cL_law 7) (hX : va_X b L xs s s.heap) (hbl : b < s.heap.size) (ho : ob_spent Inv) (hI : Inv n np μ) (hZ : ZS D ca s.heap.size ad n np μ s H locs) (hl : lv_has ls 7 (LL b ad i)) (hi1 : vp_in (i + 1) L) (hi2 : vp_in (i + 2) L) (hi3 : vp_in (i + 3) L) (hi4 : vp_in (i + 4) L) (hc : cells + 4 ≤ 605506) (hs : slots + 24 ≤ 7279587) (kk : LK p l e s m args below meth c Inv D ca b i cells slots Q) : W p l e room_1 s m args below meth c H locs cells slots Q (F0 m 1039 ls []) := by
  have hbA : ¬ zB s.heap.size b := Nat.not_le.mpr hbl
  have h := ho n np μ hI
  refine lv_aload_n hC.1 hC.2.1 dL_law_1039 rfl (lv_at hl 1 rfl) ?_
  refine z_cVi (As := []) (rest := []) hC hZ (zF_30 _) rfl zy_X4_spent (c_X4_spent l h) km_L_146 rfl ⟨rfl, rfl⟩ ⟨(Nat.le_of_ble_eq_true rfl), (Nat.le_of_ble_eq_true rfl)⟩ hl.1 rfl (Nat.le_of_ble_eq_true rfl) dL_law_1040 ⟨by show _ ≤ 605506; omega, by show _ ≤ 7279587; omega⟩ (fun r u H locs h hZ => ?_)
  refine lv_aload_n hC.1 hC.2.1 dL_law_1043 rfl (lv_at hl 2 rfl) ?_
  refine z_cVi (As := []) (rest := [.int r]) hC hZ (zF_0 _) rfl zy_X5_spent (c_X5_spent l h) km_L_149 rfl ⟨rfl, rfl⟩ ⟨(Nat.le_of_ble_eq_true rfl), (Nat.le_of_ble_eq_true rfl)⟩ hl.1 rfl (Nat.le_of_ble_eq_true rfl) dL_law_1044 ⟨by show _ ≤ 605506; omega, by show _ ≤ 7279587; omega⟩ (fun b1 u2 H locs h hZ => ?_)
  refine lv_icmp_eq (tgt := 1526) hC.1 hC.2.1 dL_law_1047 (by decide) (fun c1 => ?_) (fun c1 => absurd h.1 c1)
  refine W.widen (k := cells + 4) (n := slots + 24) (by omega) (by omega) ?_
  exact kk n np ad u2 _ _ _ h.2 hZ hl
def ob_cost (Inv : Nat → Nat → Mem → Prop) : Prop := ∀ (n np : Nat) (μ : Mem), Inv n np μ → w_X4_cost n np (fun (r : Int32) (u : Mem) => w_X5_cost (fun (b : Int32) (u2 : Mem) => r = b ∧ Inv n np u2) u) μ
set_option maxRecDepth 100000 in
set_option maxHeartbeats 4000000 in
theorem law_1052 (hst : l.stackTraces = false) (hC : ZC p m meth c s RL cL_law 7) (hX : va_X b L xs s s.heap) (hbl : b < s.heap.size) (ho : ob_cost Inv) (hI : Inv n np μ) (hZ : ZS D ca s.heap.size ad n np μ s H locs) (hl : lv_has ls 7 (LL b ad i)) (hi1 : vp_in (i + 1) L) (hi2 : vp_in (i + 2) L) (hi3 : vp_in (i + 3) L) (hi4 : vp_in (i + 4) L) (hc : cells + 4 ≤ 605506) (hs : slots + 24 ≤ 7279587) (kk : LK p l e s m args below meth c Inv D ca b i cells slots Q) : W p l e room_1 s m args below meth c H locs cells slots Q (F0 m 1052 ls []) := by
  have hbA : ¬ zB s.heap.size b := Nat.not_le.mpr hbl
  have h := ho n np μ hI
  refine lv_aload_n hC.1 hC.2.1 dL_law_1052 rfl (lv_at hl 1 rfl) ?_
  refine z_cVi (As := []) (rest := []) hC hZ (zF_30 _) rfl zy_X4_cost (c_X4_cost l h) km_L_150 rfl ⟨rfl, rfl⟩ ⟨(Nat.le_of_ble_eq_true rfl), (Nat.le_of_ble_eq_true rfl)⟩ hl.1 rfl (Nat.le_of_ble_eq_true rfl) dL_law_1053 ⟨by show _ ≤ 605506; omega, by show _ ≤ 7279587; omega⟩ (fun r u H locs h hZ => ?_)
  refine lv_aload_n hC.1 hC.2.1 dL_law_1056 rfl (lv_at hl 2 rfl) ?_
  refine z_cVi (As := []) (rest := [.int r]) hC hZ (zF_0 _) rfl zy_X5_cost (c_X5_cost l h) km_L_153 rfl ⟨rfl, rfl⟩ ⟨(Nat.le_of_ble_eq_true rfl), (Nat.le_of_ble_eq_true rfl)⟩ hl.1 rfl (Nat.le_of_ble_eq_true rfl) dL_law_1057 ⟨by show _ ≤ 605506; omega, by show _ ≤ 7279587; omega⟩ (fun b1 u2 H locs h hZ => ?_)
  refine lv_icmp_eq (tgt := 1526) hC.1 hC.2.1 dL_law_1060 (by decide) (fun c1 => ?_) (fun c1 => absurd h.1 c1)
  refine W.widen (k := cells + 4) (n := slots + 24) (by omega) (by omega) ?_
  exact kk n np ad u2 _ _ _ h.2 hZ hl
def ob_scenes (Inv : Nat → Nat → Mem → Prop) : Prop := ∀ (n np : Nat) (μ : Mem), Inv n np μ → w_X4_scenes n np (fun (r : Int32) (u : Mem) => w_X5_scenes (fun (b : Int32) (u2 : Mem) => r = b ∧ Inv n np u2) u) μ
set_option maxRecDepth 100000 in
set_option maxHeartbeats 4000000 in
theorem law_1065 (hst : l.stackTraces = false) (hC : ZC p m meth c s RL cL_law 7) (hX : va_X b L xs s s.heap) (hbl : b < s.heap.size) (ho : ob_scenes Inv) (hI : Inv n np μ) (hZ : ZS D ca s.heap.size ad n np μ s H locs) (hl : lv_has ls 7 (LL b ad i)) (hi1 : vp_in (i + 1) L) (hi2 : vp_in (i + 2) L) (hi3 : vp_in (i + 3) L) (hi4 : vp_in (i + 4) L) (hc : cells + 4 ≤ 605506) (hs : slots + 24 ≤ 7279587) (kk : LK p l e s m args below meth c Inv D ca b i cells slots Q) : W p l e room_1 s m args below meth c H locs cells slots Q (F0 m 1065 ls []) := by
  have hbA : ¬ zB s.heap.size b := Nat.not_le.mpr hbl
  have h := ho n np μ hI
  refine lv_aload_n hC.1 hC.2.1 dL_law_1065 rfl (lv_at hl 1 rfl) ?_
  refine z_cVi (As := []) (rest := []) hC hZ (zF_30 _) rfl zy_X4_scenes (c_X4_scenes l h) km_L_154 rfl ⟨rfl, rfl⟩ ⟨(Nat.le_of_ble_eq_true rfl), (Nat.le_of_ble_eq_true rfl)⟩ hl.1 rfl (Nat.le_of_ble_eq_true rfl) dL_law_1066 ⟨by show _ ≤ 605506; omega, by show _ ≤ 7279587; omega⟩ (fun r u H locs h hZ => ?_)
  refine lv_aload_n hC.1 hC.2.1 dL_law_1069 rfl (lv_at hl 2 rfl) ?_
  refine z_cVi (As := []) (rest := [.int r]) hC hZ (zF_0 _) rfl zy_X5_scenes (c_X5_scenes l h) km_L_157 rfl ⟨rfl, rfl⟩ ⟨(Nat.le_of_ble_eq_true rfl), (Nat.le_of_ble_eq_true rfl)⟩ hl.1 rfl (Nat.le_of_ble_eq_true rfl) dL_law_1070 ⟨by show _ ≤ 605506; omega, by show _ ≤ 7279587; omega⟩ (fun b1 u2 H locs h hZ => ?_)
  refine lv_icmp_eq (tgt := 1526) hC.1 hC.2.1 dL_law_1073 (by decide) (fun c1 => ?_) (fun c1 => absurd h.1 c1)
  refine W.widen (k := cells + 4) (n := slots + 24) (by omega) (by omega) ?_
  exact kk n np ad u2 _ _ _ h.2 hZ hl
def ob_stateOf (Inv : Nat → Nat → Mem → Prop) : Prop := ∀ (n np : Nat) (μ : Mem) (a1 : Int32), Inv n np μ → w_L_stateOf n np (fun (k : Int32) (n2 np2 : Nat) (u : Mem) => w_X5_stateOf (fun (b : Int32) (u2 : Mem) => w_X5_thrown (oT Inv n2 np2 k b) u2) a1 u) a1 μ
set_option maxRecDepth 100000 in
set_option maxHeartbeats 4000000 in
theorem law_1078 (hst : l.stackTraces = false) (hC : ZC p m meth c s RL cL_law 7) (hX : va_X b L xs s s.heap) (hbl : b < s.heap.size) (ho : ob_stateOf Inv) (hI : Inv n np μ) (hZ : ZS D ca s.heap.size ad n np μ s H locs) (hl : lv_has ls 7 (LL b ad i)) (hi1 : vp_in (i + 1) L) (hi2 : vp_in (i + 2) L) (hi3 : vp_in (i + 3) L) (hi4 : vp_in (i + 4) L) (hc : cells + 4 ≤ 605506) (hs : slots + 24 ≤ 7279587) (kk : LK p l e s m args below meth c Inv D ca b i cells slots Q) : W p l e room_1 s m args below meth c H locs cells slots Q (F0 m 1078 ls []) := by
  have hbA : ¬ zB s.heap.size b := Nat.not_le.mpr hbl
  refine lv_aload_n hC.1 hC.2.1 dL_law_1078 rfl (lv_at hl 1 rfl) ?_
  refine lv_aload_n hC.1 hC.2.1 dL_law_1079 rfl (lv_at hl 0 rfl) ?_
  refine lv_iload hC.1 hC.2.1 dL_law_1080 (lv_at hl 4 rfl) ?_
  refine lv_iconst (v := 1) hC.1 hC.2.1 dL_law_1082 (by decide) ?_
  refine lv_iadd hC.1 hC.2.1 dL_law_1083 ?_
  refine va_sld hC.1 hC.2.1 hX hbl hbA hZ.2.1 hi1 dL_law_1084 ?_
  refine lv_aload_n hC.1 hC.2.1 dL_law_1085 rfl (lv_at hl 3 rfl) ?_
  have h := ho n np μ (xs (i + 1).toNatClampNeg) hI
  refine z_callW (As := [.ref (ad 30 0), .int (xs (i + 1).toNatClampNeg), .ref (ad 21 0)]) (rest := []) hC hZ zy_L_stateOf (c_L_stateOf l hst h) km_L_158 rfl ⟨rfl, rfl⟩ ⟨(Nat.le_of_ble_eq_true rfl), (Nat.le_of_ble_eq_true rfl)⟩ hl.1 rfl (Nat.le_of_ble_eq_true rfl) dL_law_1086 ⟨by show _ ≤ 605506; omega, by show _ ≤ 7279587; omega⟩ (fun k n2 np2 ad2 u H locs h hag hZ => ?_)
  have hl : lv_has ls 7 (LL b ad2 i) := by
    have e1 := hag 30 0 (by decide)
    have e2 := hag 0 0 (by decide)
    have e3 := hag 21 0 (by decide)
    unfold LL
    rw [e1, e2, e3]
    exact hl
  refine lv_istore (lv' := [(5, .int k), (0, .ref b), (1, .ref (ad2 30 0)), (2, .ref (ad2 0 0)), (3, .ref (ad2 21 0)), (4, .int i)]) hC.1 hC.2.1 dL_law_1089 hl (by decide) rfl (fun ls hl => ?_)
  refine lv_aload_n hC.1 hC.2.1 dL_law_1091 rfl (lv_at hl 3 rfl) ?_
  refine lv_aload_n hC.1 hC.2.1 dL_law_1092 rfl (lv_at hl 1 rfl) ?_
  refine lv_iload hC.1 hC.2.1 dL_law_1093 (lv_at hl 5 rfl) ?_
  refine lv_iconst (v := 1) hC.1 hC.2.1 dL_law_1095 (by decide) ?_
  refine lv_iadd hC.1 hC.2.1 dL_law_1096 ?_
  refine va_sld hC.1 hC.2.1 hX hbl hbA hZ.2.1 hi1 dL_law_1097 ?_
  refine z_cVi (As := [.int (xs (i + 1).toNatClampNeg)]) (rest := []) hC hZ (zF_0 _) rfl zy_X5_stateOf (c_X5_stateOf l h) km_L_160 rfl ⟨rfl, rfl⟩ ⟨(Nat.le_of_ble_eq_true rfl), (Nat.le_of_ble_eq_true rfl)⟩ hl.1 rfl (Nat.le_of_ble_eq_true rfl) dL_law_1098 ⟨by show _ ≤ 605506; omega, by show _ ≤ 7279587; omega⟩ (fun b1 u2 H locs h hZ => ?_)
  refine lv_istore (lv' := [(6, .int b1), (5, .int k), (0, .ref b), (1, .ref (ad2 30 0)), (2, .ref (ad2 0 0)), (3, .ref (ad2 21 0)), (4, .int i)]) hC.1 hC.2.1 dL_law_1101 hl (by decide) rfl (fun ls hl => ?_)
  refine lv_aload_n hC.1 hC.2.1 dL_law_1103 rfl (lv_at hl 4 rfl) ?_
  refine z_cVi (As := []) (rest := []) hC hZ (zF_0 _) rfl zy_X5_thrown (c_X5_thrown l h) km_L_89 rfl ⟨rfl, rfl⟩ ⟨(Nat.le_of_ble_eq_true rfl), (Nat.le_of_ble_eq_true rfl)⟩ hl.1 rfl (Nat.le_of_ble_eq_true rfl) dL_law_1104 ⟨by show _ ≤ 605506; omega, by show _ ≤ 7279587; omega⟩ (fun t u3 H locs h hZ => ?_)
  refine lv_iload hC.1 hC.2.1 dL_law_1107 (lv_at hl 1 rfl) ?_
  refine lv_icmp_eq (tgt := 1114) hC.1 hC.2.1 dL_law_1109 (by decide) (fun c1 => ?_) (fun c1 => absurd h.1 c1)
  have hl1 : lv_has ls 7 (LL b ad2 i) := lv_sub hl [2, 3, 4, 5, 6] rfl
  refine lv_iload hC.1 hC.2.1 dL_law_1114 (lv_at hl 1 rfl) ?_
  have fin : ∀ (H : Heap) (locs : List Loc), ZS D ca s.heap.size ad2 n2 np2 u3 s H locs → W p l e room_1 s m args below meth c H locs (cells + 1 + 0 + 0) (slots + 6 + 0 + 0) Q (F0 m 1131 ls []) := by
    intro H locs hZ
    refine lv_goto (tgt := 1526) hC.1 hC.2.1 dL_law_1131 (by decide) ?_
    refine W.widen (k := cells + 4) (n := slots + 24) (by omega) (by omega) ?_
    exact kk n2 np2 ad2 u3 _ _ _ h.2.2 hZ hl1
  refine lv_if_ne (tgt := 1131) hC.1 hC.2.1 dL_law_1116 (by decide) (fun c2 => fin _ _ hZ) (fun c2 => ?_)
  have h4 := h.2.1 c2
  refine lv_aload_n hC.1 hC.2.1 dL_law_1119 rfl (lv_at hl 5 rfl) ?_
  refine lv_iconst (v := 0) hC.1 hC.2.1 dL_law_1120 (by decide) ?_
  refine aL_21 hC hZ z01 dL_law_1121 ?_
  refine lv_iload hC.1 hC.2.1 dL_law_1122 (lv_at hl 0 rfl) ?_
  refine lv_i2l hC.1 hC.2.1 dL_law_1124 rfl ?_
  refine W.lcmp hC.1 hC.2.1 dL_law_1125 ?_
  refine lv_if_eq (tgt := 1131) hC.1 hC.2.1 dL_law_1126 (by decide) (fun c3 => fin _ _ hZ) (fun c3 => absurd (z_cmp0 (h4)) c3)
def ob_dayOf (Inv : Nat → Nat → Mem → Prop) : Prop := ∀ (n np : Nat) (μ : Mem) (a1 : Int32), Inv n np μ → w_L_dayOf n np (fun (k : Int32) (n2 np2 : Nat) (u : Mem) => w_X5_dayOf (fun (b : Int32) (u2 : Mem) => w_X5_thrown (oT Inv n2 np2 k b) u2) a1 u) a1 μ
set_option maxRecDepth 100000 in
set_option maxHeartbeats 4000000 in
theorem law_1134 (hst : l.stackTraces = false) (hC : ZC p m meth c s RL cL_law 7) (hX : va_X b L xs s s.heap) (hbl : b < s.heap.size) (ho : ob_dayOf Inv) (hI : Inv n np μ) (hZ : ZS D ca s.heap.size ad n np μ s H locs) (hl : lv_has ls 7 (LL b ad i)) (hi1 : vp_in (i + 1) L) (hi2 : vp_in (i + 2) L) (hi3 : vp_in (i + 3) L) (hi4 : vp_in (i + 4) L) (hc : cells + 4 ≤ 605506) (hs : slots + 24 ≤ 7279587) (kk : LK p l e s m args below meth c Inv D ca b i cells slots Q) : W p l e room_1 s m args below meth c H locs cells slots Q (F0 m 1134 ls []) := by
  have hbA : ¬ zB s.heap.size b := Nat.not_le.mpr hbl
  refine lv_aload_n hC.1 hC.2.1 dL_law_1134 rfl (lv_at hl 1 rfl) ?_
  refine lv_aload_n hC.1 hC.2.1 dL_law_1135 rfl (lv_at hl 0 rfl) ?_
  refine lv_iload hC.1 hC.2.1 dL_law_1136 (lv_at hl 4 rfl) ?_
  refine lv_iconst (v := 1) hC.1 hC.2.1 dL_law_1138 (by decide) ?_
  refine lv_iadd hC.1 hC.2.1 dL_law_1139 ?_
  refine va_sld hC.1 hC.2.1 hX hbl hbA hZ.2.1 hi1 dL_law_1140 ?_
  refine lv_aload_n hC.1 hC.2.1 dL_law_1141 rfl (lv_at hl 3 rfl) ?_
  have h := ho n np μ (xs (i + 1).toNatClampNeg) hI
  refine z_callW (As := [.ref (ad 30 0), .int (xs (i + 1).toNatClampNeg), .ref (ad 21 0)]) (rest := []) hC hZ zy_L_dayOf (c_L_dayOf l hst h) km_L_161 rfl ⟨rfl, rfl⟩ ⟨(Nat.le_of_ble_eq_true rfl), (Nat.le_of_ble_eq_true rfl)⟩ hl.1 rfl (Nat.le_of_ble_eq_true rfl) dL_law_1142 ⟨by show _ ≤ 605506; omega, by show _ ≤ 7279587; omega⟩ (fun k n2 np2 ad2 u H locs h hag hZ => ?_)
  have hl : lv_has ls 7 (LL b ad2 i) := by
    have e1 := hag 30 0 (by decide)
    have e2 := hag 0 0 (by decide)
    have e3 := hag 21 0 (by decide)
    unfold LL
    rw [e1, e2, e3]
    exact hl
  refine lv_istore (lv' := [(5, .int k), (0, .ref b), (1, .ref (ad2 30 0)), (2, .ref (ad2 0 0)), (3, .ref (ad2 21 0)), (4, .int i)]) hC.1 hC.2.1 dL_law_1145 hl (by decide) rfl (fun ls hl => ?_)
  refine lv_aload_n hC.1 hC.2.1 dL_law_1147 rfl (lv_at hl 3 rfl) ?_
  refine lv_aload_n hC.1 hC.2.1 dL_law_1148 rfl (lv_at hl 1 rfl) ?_
  refine lv_iload hC.1 hC.2.1 dL_law_1149 (lv_at hl 5 rfl) ?_
  refine lv_iconst (v := 1) hC.1 hC.2.1 dL_law_1151 (by decide) ?_
  refine lv_iadd hC.1 hC.2.1 dL_law_1152 ?_
  refine va_sld hC.1 hC.2.1 hX hbl hbA hZ.2.1 hi1 dL_law_1153 ?_
  refine z_cVi (As := [.int (xs (i + 1).toNatClampNeg)]) (rest := []) hC hZ (zF_0 _) rfl zy_X5_dayOf (c_X5_dayOf l h) km_L_163 rfl ⟨rfl, rfl⟩ ⟨(Nat.le_of_ble_eq_true rfl), (Nat.le_of_ble_eq_true rfl)⟩ hl.1 rfl (Nat.le_of_ble_eq_true rfl) dL_law_1154 ⟨by show _ ≤ 605506; omega, by show _ ≤ 7279587; omega⟩ (fun b1 u2 H locs h hZ => ?_)
  refine lv_istore (lv' := [(6, .int b1), (5, .int k), (0, .ref b), (1, .ref (ad2 30 0)), (2, .ref (ad2 0 0)), (3, .ref (ad2 21 0)), (4, .int i)]) hC.1 hC.2.1 dL_law_1157 hl (by decide) rfl (fun ls hl => ?_)
  refine lv_aload_n hC.1 hC.2.1 dL_law_1159 rfl (lv_at hl 4 rfl) ?_
  refine z_cVi (As := []) (rest := []) hC hZ (zF_0 _) rfl zy_X5_thrown (c_X5_thrown l h) km_L_89 rfl ⟨rfl, rfl⟩ ⟨(Nat.le_of_ble_eq_true rfl), (Nat.le_of_ble_eq_true rfl)⟩ hl.1 rfl (Nat.le_of_ble_eq_true rfl) dL_law_1160 ⟨by show _ ≤ 605506; omega, by show _ ≤ 7279587; omega⟩ (fun t u3 H locs h hZ => ?_)
  refine lv_iload hC.1 hC.2.1 dL_law_1163 (lv_at hl 1 rfl) ?_
  refine lv_icmp_eq (tgt := 1170) hC.1 hC.2.1 dL_law_1165 (by decide) (fun c1 => ?_) (fun c1 => absurd h.1 c1)
  have hl1 : lv_has ls 7 (LL b ad2 i) := lv_sub hl [2, 3, 4, 5, 6] rfl
  refine lv_iload hC.1 hC.2.1 dL_law_1170 (lv_at hl 1 rfl) ?_
  have fin : ∀ (H : Heap) (locs : List Loc), ZS D ca s.heap.size ad2 n2 np2 u3 s H locs → W p l e room_1 s m args below meth c H locs (cells + 1 + 0 + 0) (slots + 6 + 0 + 0) Q (F0 m 1187 ls []) := by
    intro H locs hZ
    refine lv_goto (tgt := 1526) hC.1 hC.2.1 dL_law_1187 (by decide) ?_
    refine W.widen (k := cells + 4) (n := slots + 24) (by omega) (by omega) ?_
    exact kk n2 np2 ad2 u3 _ _ _ h.2.2 hZ hl1
  refine lv_if_ne (tgt := 1187) hC.1 hC.2.1 dL_law_1172 (by decide) (fun c2 => fin _ _ hZ) (fun c2 => ?_)
  have h4 := h.2.1 c2
  refine lv_aload_n hC.1 hC.2.1 dL_law_1175 rfl (lv_at hl 5 rfl) ?_
  refine lv_iconst (v := 0) hC.1 hC.2.1 dL_law_1176 (by decide) ?_
  refine aL_21 hC hZ z01 dL_law_1177 ?_
  refine lv_iload hC.1 hC.2.1 dL_law_1178 (lv_at hl 0 rfl) ?_
  refine lv_i2l hC.1 hC.2.1 dL_law_1180 rfl ?_
  refine W.lcmp hC.1 hC.2.1 dL_law_1181 ?_
  refine lv_if_eq (tgt := 1187) hC.1 hC.2.1 dL_law_1182 (by decide) (fun c3 => fin _ _ hZ) (fun c3 => absurd (z_cmp0 (h4)) c3)
def ob_sceneOn (Inv : Nat → Nat → Mem → Prop) : Prop := ∀ (n np : Nat) (μ : Mem) (a1 : Int32), Inv n np μ → w_L_sceneOn n np (fun (k : Int32) (n2 np2 : Nat) (u : Mem) => w_X5_sceneOn (fun (b : Int32) (u2 : Mem) => w_X5_thrown (oT Inv n2 np2 k b) u2) a1 u) a1 μ
set_option maxRecDepth 100000 in
set_option maxHeartbeats 4000000 in
theorem law_1190 (hst : l.stackTraces = false) (hC : ZC p m meth c s RL cL_law 7) (hX : va_X b L xs s s.heap) (hbl : b < s.heap.size) (ho : ob_sceneOn Inv) (hI : Inv n np μ) (hZ : ZS D ca s.heap.size ad n np μ s H locs) (hl : lv_has ls 7 (LL b ad i)) (hi1 : vp_in (i + 1) L) (hi2 : vp_in (i + 2) L) (hi3 : vp_in (i + 3) L) (hi4 : vp_in (i + 4) L) (hc : cells + 4 ≤ 605506) (hs : slots + 24 ≤ 7279587) (kk : LK p l e s m args below meth c Inv D ca b i cells slots Q) : W p l e room_1 s m args below meth c H locs cells slots Q (F0 m 1190 ls []) := by
  have hbA : ¬ zB s.heap.size b := Nat.not_le.mpr hbl
  refine lv_aload_n hC.1 hC.2.1 dL_law_1190 rfl (lv_at hl 1 rfl) ?_
  refine lv_aload_n hC.1 hC.2.1 dL_law_1191 rfl (lv_at hl 0 rfl) ?_
  refine lv_iload hC.1 hC.2.1 dL_law_1192 (lv_at hl 4 rfl) ?_
  refine lv_iconst (v := 1) hC.1 hC.2.1 dL_law_1194 (by decide) ?_
  refine lv_iadd hC.1 hC.2.1 dL_law_1195 ?_
  refine va_sld hC.1 hC.2.1 hX hbl hbA hZ.2.1 hi1 dL_law_1196 ?_
  refine lv_aload_n hC.1 hC.2.1 dL_law_1197 rfl (lv_at hl 3 rfl) ?_
  have h := ho n np μ (xs (i + 1).toNatClampNeg) hI
  refine z_callW (As := [.ref (ad 30 0), .int (xs (i + 1).toNatClampNeg), .ref (ad 21 0)]) (rest := []) hC hZ zy_L_sceneOn (c_L_sceneOn l hst h) km_L_164 rfl ⟨rfl, rfl⟩ ⟨(Nat.le_of_ble_eq_true rfl), (Nat.le_of_ble_eq_true rfl)⟩ hl.1 rfl (Nat.le_of_ble_eq_true rfl) dL_law_1198 ⟨by show _ ≤ 605506; omega, by show _ ≤ 7279587; omega⟩ (fun k n2 np2 ad2 u H locs h hag hZ => ?_)
  have hl : lv_has ls 7 (LL b ad2 i) := by
    have e1 := hag 30 0 (by decide)
    have e2 := hag 0 0 (by decide)
    have e3 := hag 21 0 (by decide)
    unfold LL
    rw [e1, e2, e3]
    exact hl
  refine lv_istore (lv' := [(5, .int k), (0, .ref b), (1, .ref (ad2 30 0)), (2, .ref (ad2 0 0)), (3, .ref (ad2 21 0)), (4, .int i)]) hC.1 hC.2.1 dL_law_1201 hl (by decide) rfl (fun ls hl => ?_)
  refine lv_aload_n hC.1 hC.2.1 dL_law_1203 rfl (lv_at hl 3 rfl) ?_
  refine lv_aload_n hC.1 hC.2.1 dL_law_1204 rfl (lv_at hl 1 rfl) ?_
  refine lv_iload hC.1 hC.2.1 dL_law_1205 (lv_at hl 5 rfl) ?_
  refine lv_iconst (v := 1) hC.1 hC.2.1 dL_law_1207 (by decide) ?_
  refine lv_iadd hC.1 hC.2.1 dL_law_1208 ?_
  refine va_sld hC.1 hC.2.1 hX hbl hbA hZ.2.1 hi1 dL_law_1209 ?_
  refine z_cVi (As := [.int (xs (i + 1).toNatClampNeg)]) (rest := []) hC hZ (zF_0 _) rfl zy_X5_sceneOn (c_X5_sceneOn l h) km_L_166 rfl ⟨rfl, rfl⟩ ⟨(Nat.le_of_ble_eq_true rfl), (Nat.le_of_ble_eq_true rfl)⟩ hl.1 rfl (Nat.le_of_ble_eq_true rfl) dL_law_1210 ⟨by show _ ≤ 605506; omega, by show _ ≤ 7279587; omega⟩ (fun b1 u2 H locs h hZ => ?_)
  refine lv_istore (lv' := [(6, .int b1), (5, .int k), (0, .ref b), (1, .ref (ad2 30 0)), (2, .ref (ad2 0 0)), (3, .ref (ad2 21 0)), (4, .int i)]) hC.1 hC.2.1 dL_law_1213 hl (by decide) rfl (fun ls hl => ?_)
  refine lv_aload_n hC.1 hC.2.1 dL_law_1215 rfl (lv_at hl 4 rfl) ?_
  refine z_cVi (As := []) (rest := []) hC hZ (zF_0 _) rfl zy_X5_thrown (c_X5_thrown l h) km_L_89 rfl ⟨rfl, rfl⟩ ⟨(Nat.le_of_ble_eq_true rfl), (Nat.le_of_ble_eq_true rfl)⟩ hl.1 rfl (Nat.le_of_ble_eq_true rfl) dL_law_1216 ⟨by show _ ≤ 605506; omega, by show _ ≤ 7279587; omega⟩ (fun t u3 H locs h hZ => ?_)
  refine lv_iload hC.1 hC.2.1 dL_law_1219 (lv_at hl 1 rfl) ?_
  refine lv_icmp_eq (tgt := 1226) hC.1 hC.2.1 dL_law_1221 (by decide) (fun c1 => ?_) (fun c1 => absurd h.1 c1)
  have hl1 : lv_has ls 7 (LL b ad2 i) := lv_sub hl [2, 3, 4, 5, 6] rfl
  refine lv_iload hC.1 hC.2.1 dL_law_1226 (lv_at hl 1 rfl) ?_
  have fin : ∀ (H : Heap) (locs : List Loc), ZS D ca s.heap.size ad2 n2 np2 u3 s H locs → W p l e room_1 s m args below meth c H locs (cells + 1 + 0 + 0) (slots + 6 + 0 + 0) Q (F0 m 1243 ls []) := by
    intro H locs hZ
    refine lv_goto (tgt := 1526) hC.1 hC.2.1 dL_law_1243 (by decide) ?_
    refine W.widen (k := cells + 4) (n := slots + 24) (by omega) (by omega) ?_
    exact kk n2 np2 ad2 u3 _ _ _ h.2.2 hZ hl1
  refine lv_if_ne (tgt := 1243) hC.1 hC.2.1 dL_law_1228 (by decide) (fun c2 => fin _ _ hZ) (fun c2 => ?_)
  have h4 := h.2.1 c2
  refine lv_aload_n hC.1 hC.2.1 dL_law_1231 rfl (lv_at hl 5 rfl) ?_
  refine lv_iconst (v := 0) hC.1 hC.2.1 dL_law_1232 (by decide) ?_
  refine aL_21 hC hZ z01 dL_law_1233 ?_
  refine lv_iload hC.1 hC.2.1 dL_law_1234 (lv_at hl 0 rfl) ?_
  refine lv_i2l hC.1 hC.2.1 dL_law_1236 rfl ?_
  refine W.lcmp hC.1 hC.2.1 dL_law_1237 ?_
  refine lv_if_eq (tgt := 1243) hC.1 hC.2.1 dL_law_1238 (by decide) (fun c3 => fin _ _ hZ) (fun c3 => absurd (z_cmp0 (h4)) c3)
def ob_refused (Inv : Nat → Nat → Mem → Prop) : Prop := ∀ (n np : Nat) (μ : Mem), Inv n np μ → w_X4_refused n np (fun (r : Int32) (u : Mem) => w_X5_refused (fun (b : Int32) (u2 : Mem) => r = b ∧ Inv n np u2) u) μ
set_option maxRecDepth 100000 in
set_option maxHeartbeats 4000000 in
theorem law_1246 (hst : l.stackTraces = false) (hC : ZC p m meth c s RL cL_law 7) (hX : va_X b L xs s s.heap) (hbl : b < s.heap.size) (ho : ob_refused Inv) (hI : Inv n np μ) (hZ : ZS D ca s.heap.size ad n np μ s H locs) (hl : lv_has ls 7 (LL b ad i)) (hi1 : vp_in (i + 1) L) (hi2 : vp_in (i + 2) L) (hi3 : vp_in (i + 3) L) (hi4 : vp_in (i + 4) L) (hc : cells + 4 ≤ 605506) (hs : slots + 24 ≤ 7279587) (kk : LK p l e s m args below meth c Inv D ca b i cells slots Q) : W p l e room_1 s m args below meth c H locs cells slots Q (F0 m 1246 ls []) := by
  have hbA : ¬ zB s.heap.size b := Nat.not_le.mpr hbl
  have h := ho n np μ hI
  refine lv_aload_n hC.1 hC.2.1 dL_law_1246 rfl (lv_at hl 1 rfl) ?_
  refine z_cVi (As := []) (rest := []) hC hZ (zF_30 _) rfl zy_X4_refused (c_X4_refused l h) km_L_167 rfl ⟨rfl, rfl⟩ ⟨(Nat.le_of_ble_eq_true rfl), (Nat.le_of_ble_eq_true rfl)⟩ hl.1 rfl (Nat.le_of_ble_eq_true rfl) dL_law_1247 ⟨by show _ ≤ 605506; omega, by show _ ≤ 7279587; omega⟩ (fun r u H locs h hZ => ?_)
  refine lv_aload_n hC.1 hC.2.1 dL_law_1250 rfl (lv_at hl 2 rfl) ?_
  refine z_cVi (As := []) (rest := [.int r]) hC hZ (zF_0 _) rfl zy_X5_refused (c_X5_refused l h) km_L_170 rfl ⟨rfl, rfl⟩ ⟨(Nat.le_of_ble_eq_true rfl), (Nat.le_of_ble_eq_true rfl)⟩ hl.1 rfl (Nat.le_of_ble_eq_true rfl) dL_law_1251 ⟨by show _ ≤ 605506; omega, by show _ ≤ 7279587; omega⟩ (fun b1 u2 H locs h hZ => ?_)
  refine lv_icmp_eq (tgt := 1526) hC.1 hC.2.1 dL_law_1254 (by decide) (fun c1 => ?_) (fun c1 => absurd h.1 c1)
  refine W.widen (k := cells + 4) (n := slots + 24) (by omega) (by omega) ?_
  exact kk n np ad u2 _ _ _ h.2 hZ hl
def ob_isAllowed (Inv : Nat → Nat → Mem → Prop) : Prop := ∀ (n np : Nat) (μ : Mem) (a1 a2 : Int32), Inv n np μ → w_L_isAllowed n np (fun (k : Int32) (n2 np2 : Nat) (u : Mem) => w_X5_isAllowed (fun (b : Int32) (u2 : Mem) => w_X5_thrown (oB Inv n2 np2 k b) u2) a1 a2 u) a1 a2 μ
set_option maxRecDepth 100000 in
set_option maxHeartbeats 4000000 in
theorem law_1259 (hst : l.stackTraces = false) (hC : ZC p m meth c s RL cL_law 7) (hX : va_X b L xs s s.heap) (hbl : b < s.heap.size) (ho : ob_isAllowed Inv) (hI : Inv n np μ) (hZ : ZS D ca s.heap.size ad n np μ s H locs) (hl : lv_has ls 7 (LL b ad i)) (hi1 : vp_in (i + 1) L) (hi2 : vp_in (i + 2) L) (hi3 : vp_in (i + 3) L) (hi4 : vp_in (i + 4) L) (hc : cells + 4 ≤ 605506) (hs : slots + 24 ≤ 7279587) (kk : LK p l e s m args below meth c Inv D ca b i cells slots Q) : W p l e room_1 s m args below meth c H locs cells slots Q (F0 m 1259 ls []) := by
  have hbA : ¬ zB s.heap.size b := Nat.not_le.mpr hbl
  refine lv_aload_n hC.1 hC.2.1 dL_law_1259 rfl (lv_at hl 1 rfl) ?_
  refine lv_aload_n hC.1 hC.2.1 dL_law_1260 rfl (lv_at hl 0 rfl) ?_
  refine lv_iload hC.1 hC.2.1 dL_law_1261 (lv_at hl 4 rfl) ?_
  refine lv_iconst (v := 1) hC.1 hC.2.1 dL_law_1263 (by decide) ?_
  refine lv_iadd hC.1 hC.2.1 dL_law_1264 ?_
  refine va_sld hC.1 hC.2.1 hX hbl hbA hZ.2.1 hi1 dL_law_1265 ?_
  refine lv_aload_n hC.1 hC.2.1 dL_law_1266 rfl (lv_at hl 0 rfl) ?_
  refine lv_iload hC.1 hC.2.1 dL_law_1267 (lv_at hl 4 rfl) ?_
  refine lv_iconst (v := 2) hC.1 hC.2.1 dL_law_1269 (by decide) ?_
  refine lv_iadd hC.1 hC.2.1 dL_law_1270 ?_
  refine va_sld hC.1 hC.2.1 hX hbl hbA hZ.2.1 hi2 dL_law_1271 ?_
  refine lv_aload_n hC.1 hC.2.1 dL_law_1272 rfl (lv_at hl 3 rfl) ?_
  have h := ho n np μ (xs (i + 1).toNatClampNeg) (xs (i + 2).toNatClampNeg) hI
  refine z_callW (As := [.ref (ad 30 0), .int (xs (i + 1).toNatClampNeg), .int (xs (i + 2).toNatClampNeg), .ref (ad 21 0)]) (rest := []) hC hZ zy_L_isAllowed (c_L_isAllowed l hst h) km_L_171 rfl ⟨rfl, rfl⟩ ⟨(Nat.le_of_ble_eq_true rfl), (Nat.le_of_ble_eq_true rfl)⟩ hl.1 rfl (Nat.le_of_ble_eq_true rfl) dL_law_1273 ⟨by show _ ≤ 605506; omega, by show _ ≤ 7279587; omega⟩ (fun k n2 np2 ad2 u H locs h hag hZ => ?_)
  have hl : lv_has ls 7 (LL b ad2 i) := by
    have e1 := hag 30 0 (by decide)
    have e2 := hag 0 0 (by decide)
    have e3 := hag 21 0 (by decide)
    unfold LL
    rw [e1, e2, e3]
    exact hl
  refine lv_istore (lv' := [(5, .int k), (0, .ref b), (1, .ref (ad2 30 0)), (2, .ref (ad2 0 0)), (3, .ref (ad2 21 0)), (4, .int i)]) hC.1 hC.2.1 dL_law_1276 hl (by decide) rfl (fun ls hl => ?_)
  refine lv_aload_n hC.1 hC.2.1 dL_law_1278 rfl (lv_at hl 3 rfl) ?_
  refine lv_aload_n hC.1 hC.2.1 dL_law_1279 rfl (lv_at hl 1 rfl) ?_
  refine lv_iload hC.1 hC.2.1 dL_law_1280 (lv_at hl 5 rfl) ?_
  refine lv_iconst (v := 1) hC.1 hC.2.1 dL_law_1282 (by decide) ?_
  refine lv_iadd hC.1 hC.2.1 dL_law_1283 ?_
  refine va_sld hC.1 hC.2.1 hX hbl hbA hZ.2.1 hi1 dL_law_1284 ?_
  refine lv_aload_n hC.1 hC.2.1 dL_law_1285 rfl (lv_at hl 1 rfl) ?_
  refine lv_iload hC.1 hC.2.1 dL_law_1286 (lv_at hl 5 rfl) ?_
  refine lv_iconst (v := 2) hC.1 hC.2.1 dL_law_1288 (by decide) ?_
  refine lv_iadd hC.1 hC.2.1 dL_law_1289 ?_
  refine va_sld hC.1 hC.2.1 hX hbl hbA hZ.2.1 hi2 dL_law_1290 ?_
  refine z_cVi (As := [.int (xs (i + 1).toNatClampNeg), .int (xs (i + 2).toNatClampNeg)]) (rest := []) hC hZ (zF_0 _) rfl zy_X5_isAllowed (c_X5_isAllowed l h) km_L_173 rfl ⟨rfl, rfl⟩ ⟨(Nat.le_of_ble_eq_true rfl), (Nat.le_of_ble_eq_true rfl)⟩ hl.1 rfl (Nat.le_of_ble_eq_true rfl) dL_law_1291 ⟨by show _ ≤ 605506; omega, by show _ ≤ 7279587; omega⟩ (fun b1 u2 H locs h hZ => ?_)
  refine lv_istore (lv' := [(6, .int b1), (5, .int k), (0, .ref b), (1, .ref (ad2 30 0)), (2, .ref (ad2 0 0)), (3, .ref (ad2 21 0)), (4, .int i)]) hC.1 hC.2.1 dL_law_1294 hl (by decide) rfl (fun ls hl => ?_)
  refine lv_aload_n hC.1 hC.2.1 dL_law_1296 rfl (lv_at hl 4 rfl) ?_
  refine z_cVi (As := []) (rest := []) hC hZ (zF_0 _) rfl zy_X5_thrown (c_X5_thrown l h) km_L_89 rfl ⟨rfl, rfl⟩ ⟨(Nat.le_of_ble_eq_true rfl), (Nat.le_of_ble_eq_true rfl)⟩ hl.1 rfl (Nat.le_of_ble_eq_true rfl) dL_law_1297 ⟨by show _ ≤ 605506; omega, by show _ ≤ 7279587; omega⟩ (fun t u3 H locs h hZ => ?_)
  refine lv_iload hC.1 hC.2.1 dL_law_1300 (lv_at hl 1 rfl) ?_
  refine lv_icmp_eq (tgt := 1307) hC.1 hC.2.1 dL_law_1302 (by decide) (fun c1 => ?_) (fun c1 => absurd h.1 c1)
  have hl1 : lv_has ls 7 (LL b ad2 i) := lv_sub hl [2, 3, 4, 5, 6] rfl
  refine lv_iload hC.1 hC.2.1 dL_law_1307 (lv_at hl 1 rfl) ?_
  have fin : ∀ (H : Heap) (locs : List Loc), ZS D ca s.heap.size ad2 n2 np2 u3 s H locs → W p l e room_1 s m args below meth c H locs (cells + 2 + 0 + 0) (slots + 12 + 0 + 0) Q (F0 m 1331 ls []) := by
    intro H locs hZ
    refine lv_goto (tgt := 1526) hC.1 hC.2.1 dL_law_1331 (by decide) ?_
    refine W.widen (k := cells + 4) (n := slots + 24) (by omega) (by omega) ?_
    exact kk n2 np2 ad2 u3 _ _ _ h.2.2 hZ hl1
  refine lv_if_ne (tgt := 1331) hC.1 hC.2.1 dL_law_1309 (by decide) (fun c2 => fin _ _ hZ) (fun c2 => ?_)
  have h4 := h.2.1 c2
  refine lv_aload_n hC.1 hC.2.1 dL_law_1312 rfl (lv_at hl 5 rfl) ?_
  refine lv_iconst (v := 0) hC.1 hC.2.1 dL_law_1313 (by decide) ?_
  refine aL_21 hC hZ z01 dL_law_1314 ?_
  refine lv_iload hC.1 hC.2.1 dL_law_1315 (lv_at hl 0 rfl) ?_
  refine lv_if_eq (tgt := 1324) hC.1 hC.2.1 dL_law_1317 (by decide) (fun c4 => ?_) (fun c4 => ?_)
  · refine lv_lconst (v := (0 : Int32).toInt64) hC.1 hC.2.1 dL_law_1324 (by decide) ?_
    refine W.lcmp hC.1 hC.2.1 dL_law_1325 ?_
    refine lv_if_eq (tgt := 1331) hC.1 hC.2.1 dL_law_1326 (by decide) (fun c3 => fin _ _ hZ) (fun c3 => absurd (z_cmp0 (h4.1 c4)) c3)
  · refine lv_lconst (v := (1 : Int32).toInt64) hC.1 hC.2.1 dL_law_1320 (by decide) ?_
    refine lv_goto (tgt := 1325) hC.1 hC.2.1 dL_law_1321 (by decide) ?_
    refine W.lcmp hC.1 hC.2.1 dL_law_1325 ?_
    refine lv_if_eq (tgt := 1331) hC.1 hC.2.1 dL_law_1326 (by decide) (fun c3 => fin _ _ hZ) (fun c3 => absurd (z_cmp0 (h4.2 c4)) c3)
def ob_ahead (Inv : Nat → Nat → Mem → Prop) : Prop := ∀ (n np : Nat) (μ : Mem) (a1 a2 : Int32), Inv n np μ → w_L_ahead n np (fun (k : Int32) (n2 np2 : Nat) (u : Mem) => w_X5_ahead (fun (b : Int32) (u2 : Mem) => w_X5_thrown (oT Inv n2 np2 k b) u2) a1 a2 u) a1 a2 μ
set_option maxRecDepth 100000 in
set_option maxHeartbeats 4000000 in
theorem law_1334 (hst : l.stackTraces = false) (hC : ZC p m meth c s RL cL_law 7) (hX : va_X b L xs s s.heap) (hbl : b < s.heap.size) (ho : ob_ahead Inv) (hI : Inv n np μ) (hZ : ZS D ca s.heap.size ad n np μ s H locs) (hl : lv_has ls 7 (LL b ad i)) (hi1 : vp_in (i + 1) L) (hi2 : vp_in (i + 2) L) (hi3 : vp_in (i + 3) L) (hi4 : vp_in (i + 4) L) (hc : cells + 4 ≤ 605506) (hs : slots + 24 ≤ 7279587) (kk : LK p l e s m args below meth c Inv D ca b i cells slots Q) : W p l e room_1 s m args below meth c H locs cells slots Q (F0 m 1334 ls []) := by
  have hbA : ¬ zB s.heap.size b := Nat.not_le.mpr hbl
  refine lv_aload_n hC.1 hC.2.1 dL_law_1334 rfl (lv_at hl 1 rfl) ?_
  refine lv_aload_n hC.1 hC.2.1 dL_law_1335 rfl (lv_at hl 0 rfl) ?_
  refine lv_iload hC.1 hC.2.1 dL_law_1336 (lv_at hl 4 rfl) ?_
  refine lv_iconst (v := 1) hC.1 hC.2.1 dL_law_1338 (by decide) ?_
  refine lv_iadd hC.1 hC.2.1 dL_law_1339 ?_
  refine va_sld hC.1 hC.2.1 hX hbl hbA hZ.2.1 hi1 dL_law_1340 ?_
  refine lv_aload_n hC.1 hC.2.1 dL_law_1341 rfl (lv_at hl 0 rfl) ?_
  refine lv_iload hC.1 hC.2.1 dL_law_1342 (lv_at hl 4 rfl) ?_
  refine lv_iconst (v := 2) hC.1 hC.2.1 dL_law_1344 (by decide) ?_
  refine lv_iadd hC.1 hC.2.1 dL_law_1345 ?_
  refine va_sld hC.1 hC.2.1 hX hbl hbA hZ.2.1 hi2 dL_law_1346 ?_
  refine lv_aload_n hC.1 hC.2.1 dL_law_1347 rfl (lv_at hl 3 rfl) ?_
  have h := ho n np μ (xs (i + 1).toNatClampNeg) (xs (i + 2).toNatClampNeg) hI
  refine z_callW (As := [.ref (ad 30 0), .int (xs (i + 1).toNatClampNeg), .int (xs (i + 2).toNatClampNeg), .ref (ad 21 0)]) (rest := []) hC hZ zy_L_ahead (c_L_ahead l hst h) km_L_174 rfl ⟨rfl, rfl⟩ ⟨(Nat.le_of_ble_eq_true rfl), (Nat.le_of_ble_eq_true rfl)⟩ hl.1 rfl (Nat.le_of_ble_eq_true rfl) dL_law_1348 ⟨by show _ ≤ 605506; omega, by show _ ≤ 7279587; omega⟩ (fun k n2 np2 ad2 u H locs h hag hZ => ?_)
  have hl : lv_has ls 7 (LL b ad2 i) := by
    have e1 := hag 30 0 (by decide)
    have e2 := hag 0 0 (by decide)
    have e3 := hag 21 0 (by decide)
    unfold LL
    rw [e1, e2, e3]
    exact hl
  refine lv_istore (lv' := [(5, .int k), (0, .ref b), (1, .ref (ad2 30 0)), (2, .ref (ad2 0 0)), (3, .ref (ad2 21 0)), (4, .int i)]) hC.1 hC.2.1 dL_law_1351 hl (by decide) rfl (fun ls hl => ?_)
  refine lv_aload_n hC.1 hC.2.1 dL_law_1353 rfl (lv_at hl 3 rfl) ?_
  refine lv_aload_n hC.1 hC.2.1 dL_law_1354 rfl (lv_at hl 1 rfl) ?_
  refine lv_iload hC.1 hC.2.1 dL_law_1355 (lv_at hl 5 rfl) ?_
  refine lv_iconst (v := 1) hC.1 hC.2.1 dL_law_1357 (by decide) ?_
  refine lv_iadd hC.1 hC.2.1 dL_law_1358 ?_
  refine va_sld hC.1 hC.2.1 hX hbl hbA hZ.2.1 hi1 dL_law_1359 ?_
  refine lv_aload_n hC.1 hC.2.1 dL_law_1360 rfl (lv_at hl 1 rfl) ?_
  refine lv_iload hC.1 hC.2.1 dL_law_1361 (lv_at hl 5 rfl) ?_
  refine lv_iconst (v := 2) hC.1 hC.2.1 dL_law_1363 (by decide) ?_
  refine lv_iadd hC.1 hC.2.1 dL_law_1364 ?_
  refine va_sld hC.1 hC.2.1 hX hbl hbA hZ.2.1 hi2 dL_law_1365 ?_
  refine z_cVi (As := [.int (xs (i + 1).toNatClampNeg), .int (xs (i + 2).toNatClampNeg)]) (rest := []) hC hZ (zF_0 _) rfl zy_X5_ahead (c_X5_ahead l h) km_L_176 rfl ⟨rfl, rfl⟩ ⟨(Nat.le_of_ble_eq_true rfl), (Nat.le_of_ble_eq_true rfl)⟩ hl.1 rfl (Nat.le_of_ble_eq_true rfl) dL_law_1366 ⟨by show _ ≤ 605506; omega, by show _ ≤ 7279587; omega⟩ (fun b1 u2 H locs h hZ => ?_)
  refine lv_istore (lv' := [(6, .int b1), (5, .int k), (0, .ref b), (1, .ref (ad2 30 0)), (2, .ref (ad2 0 0)), (3, .ref (ad2 21 0)), (4, .int i)]) hC.1 hC.2.1 dL_law_1369 hl (by decide) rfl (fun ls hl => ?_)
  refine lv_aload_n hC.1 hC.2.1 dL_law_1371 rfl (lv_at hl 4 rfl) ?_
  refine z_cVi (As := []) (rest := []) hC hZ (zF_0 _) rfl zy_X5_thrown (c_X5_thrown l h) km_L_89 rfl ⟨rfl, rfl⟩ ⟨(Nat.le_of_ble_eq_true rfl), (Nat.le_of_ble_eq_true rfl)⟩ hl.1 rfl (Nat.le_of_ble_eq_true rfl) dL_law_1372 ⟨by show _ ≤ 605506; omega, by show _ ≤ 7279587; omega⟩ (fun t u3 H locs h hZ => ?_)
  refine lv_iload hC.1 hC.2.1 dL_law_1375 (lv_at hl 1 rfl) ?_
  refine lv_icmp_eq (tgt := 1382) hC.1 hC.2.1 dL_law_1377 (by decide) (fun c1 => ?_) (fun c1 => absurd h.1 c1)
  have hl1 : lv_has ls 7 (LL b ad2 i) := lv_sub hl [2, 3, 4, 5, 6] rfl
  refine lv_iload hC.1 hC.2.1 dL_law_1382 (lv_at hl 1 rfl) ?_
  have fin : ∀ (H : Heap) (locs : List Loc), ZS D ca s.heap.size ad2 n2 np2 u3 s H locs → W p l e room_1 s m args below meth c H locs (cells + 2 + 0 + 0) (slots + 12 + 0 + 0) Q (F0 m 1399 ls []) := by
    intro H locs hZ
    refine lv_goto (tgt := 1526) hC.1 hC.2.1 dL_law_1399 (by decide) ?_
    refine W.widen (k := cells + 4) (n := slots + 24) (by omega) (by omega) ?_
    exact kk n2 np2 ad2 u3 _ _ _ h.2.2 hZ hl1
  refine lv_if_ne (tgt := 1399) hC.1 hC.2.1 dL_law_1384 (by decide) (fun c2 => fin _ _ hZ) (fun c2 => ?_)
  have h4 := h.2.1 c2
  refine lv_aload_n hC.1 hC.2.1 dL_law_1387 rfl (lv_at hl 5 rfl) ?_
  refine lv_iconst (v := 0) hC.1 hC.2.1 dL_law_1388 (by decide) ?_
  refine aL_21 hC hZ z01 dL_law_1389 ?_
  refine lv_iload hC.1 hC.2.1 dL_law_1390 (lv_at hl 0 rfl) ?_
  refine lv_i2l hC.1 hC.2.1 dL_law_1392 rfl ?_
  refine W.lcmp hC.1 hC.2.1 dL_law_1393 ?_
  refine lv_if_eq (tgt := 1399) hC.1 hC.2.1 dL_law_1394 (by decide) (fun c3 => fin _ _ hZ) (fun c3 => absurd (z_cmp0 (h4)) c3)
def ob_copies (Inv : Nat → Nat → Mem → Prop) : Prop := ∀ (n np : Nat) (μ : Mem) (a1 a2 : Int32), Inv n np μ → w_L_copies n np (fun (k : Int32) (n2 np2 : Nat) (u : Mem) => w_X5_copies (fun (b : Int32) (u2 : Mem) => w_X5_thrown (oT Inv n2 np2 k b) u2) a1 a2 u) a1 a2 μ
set_option maxRecDepth 100000 in
set_option maxHeartbeats 4000000 in
theorem law_1402 (hst : l.stackTraces = false) (hC : ZC p m meth c s RL cL_law 7) (hX : va_X b L xs s s.heap) (hbl : b < s.heap.size) (ho : ob_copies Inv) (hI : Inv n np μ) (hZ : ZS D ca s.heap.size ad n np μ s H locs) (hl : lv_has ls 7 (LL b ad i)) (hi1 : vp_in (i + 1) L) (hi2 : vp_in (i + 2) L) (hi3 : vp_in (i + 3) L) (hi4 : vp_in (i + 4) L) (hc : cells + 4 ≤ 605506) (hs : slots + 24 ≤ 7279587) (kk : LK p l e s m args below meth c Inv D ca b i cells slots Q) : W p l e room_1 s m args below meth c H locs cells slots Q (F0 m 1402 ls []) := by
  have hbA : ¬ zB s.heap.size b := Nat.not_le.mpr hbl
  refine lv_aload_n hC.1 hC.2.1 dL_law_1402 rfl (lv_at hl 1 rfl) ?_
  refine lv_aload_n hC.1 hC.2.1 dL_law_1403 rfl (lv_at hl 0 rfl) ?_
  refine lv_iload hC.1 hC.2.1 dL_law_1404 (lv_at hl 4 rfl) ?_
  refine lv_iconst (v := 1) hC.1 hC.2.1 dL_law_1406 (by decide) ?_
  refine lv_iadd hC.1 hC.2.1 dL_law_1407 ?_
  refine va_sld hC.1 hC.2.1 hX hbl hbA hZ.2.1 hi1 dL_law_1408 ?_
  refine lv_aload_n hC.1 hC.2.1 dL_law_1409 rfl (lv_at hl 0 rfl) ?_
  refine lv_iload hC.1 hC.2.1 dL_law_1410 (lv_at hl 4 rfl) ?_
  refine lv_iconst (v := 2) hC.1 hC.2.1 dL_law_1412 (by decide) ?_
  refine lv_iadd hC.1 hC.2.1 dL_law_1413 ?_
  refine va_sld hC.1 hC.2.1 hX hbl hbA hZ.2.1 hi2 dL_law_1414 ?_
  refine lv_aload_n hC.1 hC.2.1 dL_law_1415 rfl (lv_at hl 3 rfl) ?_
  have h := ho n np μ (xs (i + 1).toNatClampNeg) (xs (i + 2).toNatClampNeg) hI
  refine z_callW (As := [.ref (ad 30 0), .int (xs (i + 1).toNatClampNeg), .int (xs (i + 2).toNatClampNeg), .ref (ad 21 0)]) (rest := []) hC hZ zy_L_copies (c_L_copies l hst h) km_L_177 rfl ⟨rfl, rfl⟩ ⟨(Nat.le_of_ble_eq_true rfl), (Nat.le_of_ble_eq_true rfl)⟩ hl.1 rfl (Nat.le_of_ble_eq_true rfl) dL_law_1416 ⟨by show _ ≤ 605506; omega, by show _ ≤ 7279587; omega⟩ (fun k n2 np2 ad2 u H locs h hag hZ => ?_)
  have hl : lv_has ls 7 (LL b ad2 i) := by
    have e1 := hag 30 0 (by decide)
    have e2 := hag 0 0 (by decide)
    have e3 := hag 21 0 (by decide)
    unfold LL
    rw [e1, e2, e3]
    exact hl
  refine lv_istore (lv' := [(5, .int k), (0, .ref b), (1, .ref (ad2 30 0)), (2, .ref (ad2 0 0)), (3, .ref (ad2 21 0)), (4, .int i)]) hC.1 hC.2.1 dL_law_1419 hl (by decide) rfl (fun ls hl => ?_)
  refine lv_aload_n hC.1 hC.2.1 dL_law_1421 rfl (lv_at hl 3 rfl) ?_
  refine lv_aload_n hC.1 hC.2.1 dL_law_1422 rfl (lv_at hl 1 rfl) ?_
  refine lv_iload hC.1 hC.2.1 dL_law_1423 (lv_at hl 5 rfl) ?_
  refine lv_iconst (v := 1) hC.1 hC.2.1 dL_law_1425 (by decide) ?_
  refine lv_iadd hC.1 hC.2.1 dL_law_1426 ?_
  refine va_sld hC.1 hC.2.1 hX hbl hbA hZ.2.1 hi1 dL_law_1427 ?_
  refine lv_aload_n hC.1 hC.2.1 dL_law_1428 rfl (lv_at hl 1 rfl) ?_
  refine lv_iload hC.1 hC.2.1 dL_law_1429 (lv_at hl 5 rfl) ?_
  refine lv_iconst (v := 2) hC.1 hC.2.1 dL_law_1431 (by decide) ?_
  refine lv_iadd hC.1 hC.2.1 dL_law_1432 ?_
  refine va_sld hC.1 hC.2.1 hX hbl hbA hZ.2.1 hi2 dL_law_1433 ?_
  refine z_cVi (As := [.int (xs (i + 1).toNatClampNeg), .int (xs (i + 2).toNatClampNeg)]) (rest := []) hC hZ (zF_0 _) rfl zy_X5_copies (c_X5_copies l h) km_L_179 rfl ⟨rfl, rfl⟩ ⟨(Nat.le_of_ble_eq_true rfl), (Nat.le_of_ble_eq_true rfl)⟩ hl.1 rfl (Nat.le_of_ble_eq_true rfl) dL_law_1434 ⟨by show _ ≤ 605506; omega, by show _ ≤ 7279587; omega⟩ (fun b1 u2 H locs h hZ => ?_)
  refine lv_istore (lv' := [(6, .int b1), (5, .int k), (0, .ref b), (1, .ref (ad2 30 0)), (2, .ref (ad2 0 0)), (3, .ref (ad2 21 0)), (4, .int i)]) hC.1 hC.2.1 dL_law_1437 hl (by decide) rfl (fun ls hl => ?_)
  refine lv_aload_n hC.1 hC.2.1 dL_law_1439 rfl (lv_at hl 4 rfl) ?_
  refine z_cVi (As := []) (rest := []) hC hZ (zF_0 _) rfl zy_X5_thrown (c_X5_thrown l h) km_L_89 rfl ⟨rfl, rfl⟩ ⟨(Nat.le_of_ble_eq_true rfl), (Nat.le_of_ble_eq_true rfl)⟩ hl.1 rfl (Nat.le_of_ble_eq_true rfl) dL_law_1440 ⟨by show _ ≤ 605506; omega, by show _ ≤ 7279587; omega⟩ (fun t u3 H locs h hZ => ?_)
  refine lv_iload hC.1 hC.2.1 dL_law_1443 (lv_at hl 1 rfl) ?_
  refine lv_icmp_eq (tgt := 1450) hC.1 hC.2.1 dL_law_1445 (by decide) (fun c1 => ?_) (fun c1 => absurd h.1 c1)
  have hl1 : lv_has ls 7 (LL b ad2 i) := lv_sub hl [2, 3, 4, 5, 6] rfl
  refine lv_iload hC.1 hC.2.1 dL_law_1450 (lv_at hl 1 rfl) ?_
  have fin : ∀ (H : Heap) (locs : List Loc), ZS D ca s.heap.size ad2 n2 np2 u3 s H locs → W p l e room_1 s m args below meth c H locs (cells + 2 + 0 + 0) (slots + 12 + 0 + 0) Q (F0 m 1467 ls []) := by
    intro H locs hZ
    refine lv_goto (tgt := 1526) hC.1 hC.2.1 dL_law_1467 (by decide) ?_
    refine W.widen (k := cells + 4) (n := slots + 24) (by omega) (by omega) ?_
    exact kk n2 np2 ad2 u3 _ _ _ h.2.2 hZ hl1
  refine lv_if_ne (tgt := 1467) hC.1 hC.2.1 dL_law_1452 (by decide) (fun c2 => fin _ _ hZ) (fun c2 => ?_)
  have h4 := h.2.1 c2
  refine lv_aload_n hC.1 hC.2.1 dL_law_1455 rfl (lv_at hl 5 rfl) ?_
  refine lv_iconst (v := 0) hC.1 hC.2.1 dL_law_1456 (by decide) ?_
  refine aL_21 hC hZ z01 dL_law_1457 ?_
  refine lv_iload hC.1 hC.2.1 dL_law_1458 (lv_at hl 0 rfl) ?_
  refine lv_i2l hC.1 hC.2.1 dL_law_1460 rfl ?_
  refine W.lcmp hC.1 hC.2.1 dL_law_1461 ?_
  refine lv_if_eq (tgt := 1467) hC.1 hC.2.1 dL_law_1462 (by decide) (fun c3 => fin _ _ hZ) (fun c3 => absurd (z_cmp0 (h4)) c3)
def ob_growth (Inv : Nat → Nat → Mem → Prop) : Prop := ∀ (n np : Nat) (μ : Mem) (a1 : Int32), Inv n np μ → w_L_growth n np (fun (k : Int32) (n2 np2 : Nat) (u : Mem) => w_X5_growth (fun (b : Int32) (u2 : Mem) => w_X5_thrown (oT Inv n2 np2 k b) u2) a1 u) a1 μ
set_option maxRecDepth 100000 in
set_option maxHeartbeats 4000000 in
theorem law_1470 (hst : l.stackTraces = false) (hC : ZC p m meth c s RL cL_law 7) (hX : va_X b L xs s s.heap) (hbl : b < s.heap.size) (ho : ob_growth Inv) (hI : Inv n np μ) (hZ : ZS D ca s.heap.size ad n np μ s H locs) (hl : lv_has ls 7 (LL b ad i)) (hi1 : vp_in (i + 1) L) (hi2 : vp_in (i + 2) L) (hi3 : vp_in (i + 3) L) (hi4 : vp_in (i + 4) L) (hc : cells + 4 ≤ 605506) (hs : slots + 24 ≤ 7279587) (kk : LK p l e s m args below meth c Inv D ca b i cells slots Q) : W p l e room_1 s m args below meth c H locs cells slots Q (F0 m 1470 ls []) := by
  have hbA : ¬ zB s.heap.size b := Nat.not_le.mpr hbl
  refine lv_aload_n hC.1 hC.2.1 dL_law_1470 rfl (lv_at hl 1 rfl) ?_
  refine lv_aload_n hC.1 hC.2.1 dL_law_1471 rfl (lv_at hl 0 rfl) ?_
  refine lv_iload hC.1 hC.2.1 dL_law_1472 (lv_at hl 4 rfl) ?_
  refine lv_iconst (v := 1) hC.1 hC.2.1 dL_law_1474 (by decide) ?_
  refine lv_iadd hC.1 hC.2.1 dL_law_1475 ?_
  refine va_sld hC.1 hC.2.1 hX hbl hbA hZ.2.1 hi1 dL_law_1476 ?_
  refine lv_aload_n hC.1 hC.2.1 dL_law_1477 rfl (lv_at hl 3 rfl) ?_
  have h := ho n np μ (xs (i + 1).toNatClampNeg) hI
  refine z_callW (As := [.ref (ad 30 0), .int (xs (i + 1).toNatClampNeg), .ref (ad 21 0)]) (rest := []) hC hZ zy_L_growth (c_L_growth l hst h) km_L_180 rfl ⟨rfl, rfl⟩ ⟨(Nat.le_of_ble_eq_true rfl), (Nat.le_of_ble_eq_true rfl)⟩ hl.1 rfl (Nat.le_of_ble_eq_true rfl) dL_law_1478 ⟨by show _ ≤ 605506; omega, by show _ ≤ 7279587; omega⟩ (fun k n2 np2 ad2 u H locs h hag hZ => ?_)
  have hl : lv_has ls 7 (LL b ad2 i) := by
    have e1 := hag 30 0 (by decide)
    have e2 := hag 0 0 (by decide)
    have e3 := hag 21 0 (by decide)
    unfold LL
    rw [e1, e2, e3]
    exact hl
  refine lv_istore (lv' := [(5, .int k), (0, .ref b), (1, .ref (ad2 30 0)), (2, .ref (ad2 0 0)), (3, .ref (ad2 21 0)), (4, .int i)]) hC.1 hC.2.1 dL_law_1481 hl (by decide) rfl (fun ls hl => ?_)
  refine lv_aload_n hC.1 hC.2.1 dL_law_1483 rfl (lv_at hl 3 rfl) ?_
  refine lv_aload_n hC.1 hC.2.1 dL_law_1484 rfl (lv_at hl 1 rfl) ?_
  refine lv_iload hC.1 hC.2.1 dL_law_1485 (lv_at hl 5 rfl) ?_
  refine lv_iconst (v := 1) hC.1 hC.2.1 dL_law_1487 (by decide) ?_
  refine lv_iadd hC.1 hC.2.1 dL_law_1488 ?_
  refine va_sld hC.1 hC.2.1 hX hbl hbA hZ.2.1 hi1 dL_law_1489 ?_
  refine z_cVi (As := [.int (xs (i + 1).toNatClampNeg)]) (rest := []) hC hZ (zF_0 _) rfl zy_X5_growth (c_X5_growth l h) km_L_182 rfl ⟨rfl, rfl⟩ ⟨(Nat.le_of_ble_eq_true rfl), (Nat.le_of_ble_eq_true rfl)⟩ hl.1 rfl (Nat.le_of_ble_eq_true rfl) dL_law_1490 ⟨by show _ ≤ 605506; omega, by show _ ≤ 7279587; omega⟩ (fun b1 u2 H locs h hZ => ?_)
  refine lv_istore (lv' := [(6, .int b1), (5, .int k), (0, .ref b), (1, .ref (ad2 30 0)), (2, .ref (ad2 0 0)), (3, .ref (ad2 21 0)), (4, .int i)]) hC.1 hC.2.1 dL_law_1493 hl (by decide) rfl (fun ls hl => ?_)
  refine lv_aload_n hC.1 hC.2.1 dL_law_1495 rfl (lv_at hl 4 rfl) ?_
  refine z_cVi (As := []) (rest := []) hC hZ (zF_0 _) rfl zy_X5_thrown (c_X5_thrown l h) km_L_89 rfl ⟨rfl, rfl⟩ ⟨(Nat.le_of_ble_eq_true rfl), (Nat.le_of_ble_eq_true rfl)⟩ hl.1 rfl (Nat.le_of_ble_eq_true rfl) dL_law_1496 ⟨by show _ ≤ 605506; omega, by show _ ≤ 7279587; omega⟩ (fun t u3 H locs h hZ => ?_)
  refine lv_iload hC.1 hC.2.1 dL_law_1499 (lv_at hl 1 rfl) ?_
  refine lv_icmp_eq (tgt := 1506) hC.1 hC.2.1 dL_law_1501 (by decide) (fun c1 => ?_) (fun c1 => absurd h.1 c1)
  have hl1 : lv_has ls 7 (LL b ad2 i) := lv_sub hl [2, 3, 4, 5, 6] rfl
  refine lv_iload hC.1 hC.2.1 dL_law_1506 (lv_at hl 1 rfl) ?_
  have fin : ∀ (H : Heap) (locs : List Loc), ZS D ca s.heap.size ad2 n2 np2 u3 s H locs → W p l e room_1 s m args below meth c H locs (cells + 1 + 0 + 0) (slots + 6 + 0 + 0) Q (F0 m 1523 ls []) := by
    intro H locs hZ
    refine lv_goto (tgt := 1526) hC.1 hC.2.1 dL_law_1523 (by decide) ?_
    refine W.widen (k := cells + 4) (n := slots + 24) (by omega) (by omega) ?_
    exact kk n2 np2 ad2 u3 _ _ _ h.2.2 hZ hl1
  refine lv_if_ne (tgt := 1523) hC.1 hC.2.1 dL_law_1508 (by decide) (fun c2 => fin _ _ hZ) (fun c2 => ?_)
  have h4 := h.2.1 c2
  refine lv_aload_n hC.1 hC.2.1 dL_law_1511 rfl (lv_at hl 5 rfl) ?_
  refine lv_iconst (v := 0) hC.1 hC.2.1 dL_law_1512 (by decide) ?_
  refine aL_21 hC hZ z01 dL_law_1513 ?_
  refine lv_iload hC.1 hC.2.1 dL_law_1514 (lv_at hl 0 rfl) ?_
  refine lv_i2l hC.1 hC.2.1 dL_law_1516 rfl ?_
  refine W.lcmp hC.1 hC.2.1 dL_law_1517 ?_
  refine lv_if_eq (tgt := 1523) hC.1 hC.2.1 dL_law_1518 (by decide) (fun c3 => fin _ _ hZ) (fun c3 => absurd (z_cmp0 (h4)) c3)
end LAW
