/-! Math.min, System.arraycopy, throws -/
def zmin (x y : Int32) : Int32 := if y < x then y else x
theorem kst_min : Cond.static Lib.Math.min.name ∈ lw_tbl := tin1 _ (List.mem_of_getElem? (i := 171) (by decide +kernel))
theorem kco_min : Cond.code Lib.Math.min.name Lib.Math.min.code 2 (some .int) ∈ lw_tbl := tin1 _ (List.mem_of_getElem? (i := 172) (by decide +kernel))
theorem kst_acopy : Cond.static arraycopyName ∈ lw_tbl := tin1 _ (List.mem_of_getElem? (i := 164) (by decide +kernel))
theorem kna_acopy : Cond.native arraycopyName ∈ lw_tbl := tin1 _ (List.mem_of_getElem? (i := 165) (by decide +kernel))
set_option maxRecDepth 20000 in
theorem zat_iae : ∀ w ∈ vx_atS RX4 62 "java/lang/IllegalArgumentException" ["java/lang/RuntimeException", "java/lang/Exception"], w ∈ lw_tbl := by decide +kernel
set_option maxRecDepth 20000 in
theorem zat_ise : ∀ w ∈ vx_atS RX4 73 "java/lang/IllegalStateException" ["java/lang/RuntimeException", "java/lang/Exception"], w ∈ lw_tbl := by decide +kernel
set_option maxRecDepth 20000 in
theorem zat_ioo : ∀ w ∈ vx_atS RX4 246 "java/lang/IndexOutOfBoundsException" ["java/lang/RuntimeException", "java/lang/Exception"], w ∈ lw_tbl := by decide +kernel
theorem zag_iae : (Cond.classLink RX4 58 "java/lang/IllegalArgumentException" :: Cond.initialized "java/lang/IllegalArgumentException" :: vx_atS RX4 62 "java/lang/IllegalArgumentException" ["java/lang/RuntimeException", "java/lang/Exception"]).all (fun w => zgood w && vx_ot w) = true := by decide +kernel
theorem zag_ise : (Cond.classLink RX4 69 "java/lang/IllegalStateException" :: Cond.initialized "java/lang/IllegalStateException" :: vx_atS RX4 73 "java/lang/IllegalStateException" ["java/lang/RuntimeException", "java/lang/Exception"]).all (fun w => zgood w && vx_ot w) = true := by decide +kernel
theorem zag_ioo : (Cond.classLink RX4 242 "java/lang/IndexOutOfBoundsException" :: Cond.initialized "java/lang/IndexOutOfBoundsException" :: vx_atS RX4 246 "java/lang/IndexOutOfBoundsException" ["java/lang/RuntimeException", "java/lang/Exception"]).all (fun w => zgood w && vx_ot w) = true := by decide +kernel
theorem zfit_iae : Bundle.fit "java/lang/IllegalArgumentException" = true ∧ Bundle.fit "java/lang/IllegalStateException" = true ∧ Bundle.fit "java/lang/IndexOutOfBoundsException" = true := by decide +kernel
theorem zfit_n : ∀ n ∈ ["java/lang/RuntimeException", "java/lang/Exception"], Bundle.fit n = true := by decide +kernel
/-- a word of the tables, whatever the arguments -/
theorem zW.useA {s : State} (h : zW s) {w : Cond} (args : Array Value) (hw : w ∈ lw_tbl) (hg : zgood w = true) : w.before args s = true := by
  cases hgw : goodWord w with
  | true => exact h.use args hw hgw
  | false => exact va_Nw.use (zgood_tab hg hgw) (h w hw hg)
section ZROWS2
variable {p : Program} {l : Launch} {e : Env} {R : Room} {s : State} {m : MethodId} {args : Array Value} {below : List Frame} {meth : Method} {c : Code} {H : Heap} {locs : List Loc} {cells slots : Nat} {Q : State → Prop}
variable {cc : ByteArray} {pc : Nat} {ls : Array Slot} {rest st0 : List Value} {own : String} {nL : Nat}
variable {D : va_G} {ca : Nat → ClassId} {base : Nat} {ad : Nat → Nat → Nat} {n np : Nat} {μ : Mem}
theorem z_min (hC : ZC p m meth c s own cc nL) (hZ : ZS D ca base ad n np μ s H locs) (hsz : ls.size = nL) {index : Nat} (hlink : Cond.methodLink own index Lib.Math.min.name ∈ lw_tbl) (hf : 1 ≤ R.frames) (hlo : (rest.map fun v => v.category).sum + 13 ≤ R.locals) (hc : cells ≤ R.cells) (hs : slots ≤ R.slots) {x y : Int32} (hdg : decode cc pc = .ok (.invokestatic index, 3))
    (kk : W p l e R s m args below meth c H locs cells slots Q (F0 m (pc + 3) ls (.int (zmin x y) :: rest))) : W p l e R s m args below meth c H locs cells slots Q (F0 m pc ls (.int y :: .int x :: rest)) :=
  va_mmin hC.1 hC.2.1 (by rw [hC.2.2.1, hsz]) hC.2.2.2.1 (hZ.1.2.1.use args hlink rfl) (hZ.1.2.1.use args kst_min rfl) (hZ.1.2.1.use args kini_Math rfl) (hZ.1.2.1.use args kco_min rfl) hf hlo hc hs hdg kk
theorem z_copyG (hC : ZC p m meth c s own cc nL) (hZ : ZS D ca base ad n np μ s H locs) {f i j N : Nat} (he : ∀ r, zF ad ca n np f i r = some (.inl (ca 0, N, .inl r))) (he2 : ∀ r, zF ad ca n np f j r = some (.inl (ca 0, N, .inl r))) (hne : ¬ i = j) (hsz : ls.size = nL) {index : Nat} (hlink : Cond.methodLink own index arraycopyName ∈ lw_tbl) {k : Int32} {K : Nat} (hk : ¬ k < 0) (hkN : k.toNatClampNeg = K) (hKN : K ≤ N) (hf : 1 ≤ R.frames) (hlo : (rest.map fun v => v.category).sum + 18 ≤ R.locals) (hdg : decode cc pc = .ok (.invokestatic index, 3))
    (kk : ∀ (μ1 : Mem) (H1 : Heap) (locs1 : List Loc), μ1 = zcp μ f j (va_cpy (μ f i) (μ f j) 0 0 K) → ZS D ca base ad n np μ1 s H1 locs1 → W p l e R s m args below meth c H1 locs1 cells slots Q (F0 m (pc + 3) ls rest)) : W p l e R s m args below meth c H locs cells slots Q (F0 m pc ls (.int k :: .int 0 :: .ref (ad f j) :: .int 0 :: .ref (ad f i) :: rest)) := by
  have hW := hZ.1.2.1
  subst hkN
  intro T hT X
  have hc0 : H[ad f i]? = some (vp_cell (ca 0) (N, .inl (μ f i))) := hZ.2.2.1 f i _ (he _)
  have hc1 : H[ad f j]? = some (vp_cell (ca 0) (N, .inl (μ f j))) := hZ.2.2.1 f j _ (he2 _)
  obtain ⟨-, k0, hk0, cm0, hkk0⟩ := (hZ.1.1.2 0 _ rfl).1 N (fun z => .int (μ f i z))
  obtain ⟨-, k1, hk1, cm1, hkk1⟩ := (hZ.1.1.2 0 _ rfl).1 N (fun z => .int (μ f j z))
  have hk0' : (0 : Int) ≤ k.toInt := by
    have := Int32.not_lt.mp hk
    simpa using Int32.le_iff_toInt_le.mp this
  have hkI : k.toInt = (k.toNatClampNeg : Int) := by
    show k.toInt = ((k.toInt.toNat : Nat) : Int)
    omega
  obtain ⟨vm', X', step⟩ := X.arraycopy hC.1 hC.2.2.2.1 (hW.use args hlink rfl) (hW.use args kna_acopy rfl) (hW.use args kst_acopy rfl) (hW.use args kini_System rfl) (src := ad f i) (dst := ad f j) (cs := vp_cell (ca 0) (N, .inl (μ f i))) (cd := vp_cell (ca 0) (N, .inl (μ f j))) (srcPos := 0) (destPos := 0) (n := k) (by rw [hT]; exact hc0) (by rw [hT]; exact hc1)
    (fun _ h => by cases h) (fun _ h => by cases h) (fun h => by cases h) (fun h => by cases h) hk0 hk1 hkk0 hkk1 (by show (refKind FieldType.int != refKind FieldType.int || !refKind FieldType.int && FieldType.int != FieldType.int) = false; decide) (by decide) (by decide) hk
    (by rw [hkI]; show ¬ _ > ((arrV (ca 0) N (fun z => .int (μ f i z))).slots.size : Int); rw [arrV_size, show (0 : Int32).toInt = 0 from rfl]; omega)
    (by rw [hkI]; show ¬ _ > ((arrV (ca 0) N (fun z => .int (μ f j z))).slots.size : Int); rw [arrV_size, show (0 : Int32).toInt = 0 from rfl]; omega)
    (fun vm₁ _ i2 hi2 => by
      have e : (vp_cell (ca 0) (N, .inl (μ f i))).slots.getD ((0 : Int32).toNatClampNeg + i2) .null = .int (μ f i ((0 : Int32).toNatClampNeg + i2)) := by
        show (arrV (ca 0) N (fun z => .int (μ f i z))).slots.getD _ _ = _
        rw [Array.getD_eq_getD_getElem?, arrV_read _ _ (by rw [show (0 : Int32).toNatClampNeg = 0 from rfl]; omega)]
        rfl
      refine ⟨?_, ?_⟩
      · rw [e]
        rfl
      · rw [e]
        exact trivial)
    (g := F0 m pc ls (.int k :: .int 0 :: .ref (ad f j) :: .int 0 :: .ref (ad f i) :: rest)) rfl (by rw [hC.2.2.1]; exact hsz) (rest := rest) rfl (by rw [hC.2.1]; exact hdg) hf (by show 2 * 0 + _ + _ ≤ _; rw [show nativeFrameWords "java/lang/System" "arraycopy" 5 + 11 = 18 by decide +kernel]; omega)
  have e1 : copied (vp_cell (ca 0) (N, .inl (μ f i))) (vp_cell (ca 0) (N, .inl (μ f j))) 0 0 k = vp_cell (ca 0) (N, .inl (va_cpy (μ f i) (μ f j) 0 0 k.toNatClampNeg)) := va_copied (fun z => .int z) (ca 0) (ca 0) (μ f i) (μ f j) (by rw [show (0 : Int32).toNatClampNeg = 0 from rfl]; omega)
  rw [e1] at X' step
  have hl : ad f j < H.size := (Array.getElem?_eq_some_iff.mp hc1).1
  have hheap : ((T.setVm vm').setCell (ad f j) (vp_cell (ca 0) (N, .inl (va_cpy (μ f i) (μ f j) 0 0 k.toNatClampNeg)))).heap = H.setIfInBounds (ad f j) (vp_cell (ca 0) (N, .inl (va_cpy (μ f i) (μ f j) 0 0 k.toNatClampNeg))) := by rw [← hT]; rfl
  have oq : ∀ q : Nat, q ≠ ad f j → (H.setIfInBounds (ad f j) (vp_cell (ca 0) (N, .inl (va_cpy (μ f i) (μ f j) 0 0 k.toNatClampNeg))))[q]? = H[q]? := fun q hq => by simp [Array.getElem?_setIfInBounds, Ne.symm hq]
  obtain ⟨hK, hS, hwd⟩ := hZ
  have hbj : base ≤ ad f j := hwd.2.2 _ _ _ (he2 (μ f j))
  obtain ⟨t, a1, b1⟩ := kk _ _ _ rfl ⟨hK, ⟨by simp; exact hS.1, fun q g1 g2 => by
      rw [oq q (fun e => g2 (by rw [e]; exact hbj))]
      exact hS.2.1 q g1 g2, fun q hq => by
      rcases List.mem_append.mp hq with h | h
      · exact hS.2.2 q h
      · obtain ⟨z, -, hz⟩ := List.mem_map.mp h
        rw [← hz]
        exact hbj⟩, hwd.put (he2 _) (he2 _) (show (H.setIfInBounds (ad f j) _)[ad f j]? = some _ by simp [Array.getElem?_setIfInBounds, hl]) oq⟩ _ hheap X'
  exact ⟨t, step t a1, b1⟩
theorem z_copy_42 (hC : ZC p m meth c s own cc nL) (hZ : ZS D ca base ad n np μ s H locs) {i j : Nat} (hi : i < 2) (hj : j < 2) (hne : ¬ i = j) (hsz : ls.size = nL) {index : Nat} (hlink : Cond.methodLink own index arraycopyName ∈ lw_tbl) (hf : 1 ≤ R.frames) (hlo : (rest.map fun v => v.category).sum + 18 ≤ R.locals) (hdg : decode cc pc = .ok (.invokestatic index, 3))
    (kk : ∀ (μ1 : Mem) (H1 : Heap) (locs1 : List Loc), μ1 = zcp μ 42 j (va_cpy (μ 42 i) (μ 42 j) 0 0 5) → ZS D ca base ad n np μ1 s H1 locs1 → W p l e R s m args below meth c H1 locs1 cells slots Q (F0 m (pc + 3) ls rest)) : W p l e R s m args below meth c H locs cells slots Q (F0 m pc ls (.int 5 :: .int 0 :: .ref (ad 42 j) :: .int 0 :: .ref (ad 42 i) :: rest)) :=
  z_copyG hC hZ (fun r => zF_42 hi r) (fun r => zF_42 hj r) hne hsz hlink (by decide) rfl (by decide) hf hlo hdg kk
theorem z_copy_43 (hC : ZC p m meth c s own cc nL) (hZ : ZS D ca base ad n np μ s H locs) {i j : Nat} (hi : i < 10) (hj : j < 10) (hne : ¬ i = j) (hsz : ls.size = nL) {index : Nat} (hlink : Cond.methodLink own index arraycopyName ∈ lw_tbl) (hf : 1 ≤ R.frames) (hlo : (rest.map fun v => v.category).sum + 18 ≤ R.locals) (hdg : decode cc pc = .ok (.invokestatic index, 3))
    (kk : ∀ (μ1 : Mem) (H1 : Heap) (locs1 : List Loc), μ1 = zcp μ 43 j (va_cpy (μ 43 i) (μ 43 j) 0 0 4) → ZS D ca base ad n np μ1 s H1 locs1 → W p l e R s m args below meth c H1 locs1 cells slots Q (F0 m (pc + 3) ls rest)) : W p l e R s m args below meth c H locs cells slots Q (F0 m pc ls (.int 4 :: .int 0 :: .ref (ad 43 j) :: .int 0 :: .ref (ad 43 i) :: rest)) :=
  z_copyG hC hZ (fun r => zF_43 hi r) (fun r => zF_43 hj r) hne hsz hlink (by decide) rfl (by decide) hf hlo hdg kk
theorem z_throw {cls text : String} {ik is ic mc ms : Nat} {xp : String → Mem → Prop} {Qc : Array Value → State → Outcome → State → Prop} (hC : ZC p m meth c s RX4 cc nL) (hnx : ∀ x ∈ c.exceptionTable.toList, False) (hst : l.stackTraces = false) (hZ : ZS D ca base ad n np μ s H locs) (hsz : ls.size = nL) (hs : ((is, text) : Nat × String) ∈ zStrs)
    (hfit : Bundle.fit cls = true) (hat : ∀ w ∈ vx_atS RX4 ic cls ["java/lang/RuntimeException", "java/lang/Exception"], w ∈ lw_tbl) (hag : (Cond.classLink RX4 ik cls :: Cond.initialized cls :: vx_atS RX4 ic cls ["java/lang/RuntimeException", "java/lang/Exception"]).all (fun w => zgood w && vx_ot w) = true) (hik : Cond.classLink RX4 ik cls ∈ lw_tbl) (hii : Cond.initialized cls ∈ lw_tbl)
    (d0 : decode cc pc = .ok (.new ik, 3)) (d3 : decode cc (pc + 3) = .ok (.dup, 1)) (d4 : decode cc (pc + 4) = .ok (.ldc is, 2)) (d6 : decode cc (pc + 6) = .ok (.invokespecial ic, 3)) (d9 : decode cc (pc + 9) = .ok (.athrow, 1))
    (hRl : (rest.map fun v => v.category).sum + 82 ≤ R.locals) (hRf : 6 ≤ R.frames) (hRc : cells + 1 ≤ R.cells) (hRs : slots + 6 ≤ R.slots) (hc : cells + 1 ≤ mc) (hs6 : slots + 6 ≤ ms) (hx : xp cls μ) :
    W p l e R s m args below meth c H locs cells slots (vx_MQ below Qc (ZX D ca base ad n np xp) args s mc ms (zB base)) (F0 m pc ls rest) := by
  obtain ⟨sa, hsa⟩ := hZ.1.2.2.2.2.2.1 _ hs
  have hW := hZ.1.2.1
  have hga := List.all_eq_true.mp hag
  refine vx_throwS (A := zB base) (names := ["java/lang/RuntimeException", "java/lang/Exception"]) hC.1 hC.2.1 hst hC.2.2.2.1 hfit zfit_n (hW.use args hik rfl) (hW.use args hii rfl) hsa (fun w hw => ?_) (fun w hw => ?_) hZ.1.2.2.2.1 hZ.1.2.2.2.2.1 hZ.2.1 (by rw [hC.2.2.1]; exact hsz) d0 d3 d4 d6 d9 (fun x h => (hnx x h).elim) hRf hRl hRc hRs hC.2.2.2.2 (fun t hA h1 h2 => ?_) hZ.2.1.2.2 hc hs6
  · have h3 := hga w (List.mem_cons_of_mem _ (List.mem_cons_of_mem _ hw))
    simp only [Bool.and_eq_true] at h3
    exact hW.useA args (hat w hw) h3.1
  · have h3 := hga w hw
    simp only [Bool.and_eq_true] at h3
    exact h3.2
  · exact ⟨⟨μ, hx, hZ.2.2.kept h2⟩, Nat.le_trans hZ.2.1.1 h1, fun q g1 g2 => by rw [h2 q (Nat.lt_of_lt_of_le g1 hZ.2.1.1)]; exact hZ.2.1.2.1 q g1 g2⟩
theorem z_throw_iae {text : String} {is mc ms : Nat} {xp : String → Mem → Prop} {Qc : Array Value → State → Outcome → State → Prop} (hC : ZC p m meth c s RX4 cc nL) (hnx : ∀ x ∈ c.exceptionTable.toList, False) (hst : l.stackTraces = false) (hZ : ZS D ca base ad n np μ s H locs) (hsz : ls.size = nL) (hs : ((is, text) : Nat × String) ∈ zStrs)
    (d0 : decode cc pc = .ok (.new 58, 3)) (d3 : decode cc (pc + 3) = .ok (.dup, 1)) (d4 : decode cc (pc + 4) = .ok (.ldc is, 2)) (d6 : decode cc (pc + 6) = .ok (.invokespecial 62, 3)) (d9 : decode cc (pc + 9) = .ok (.athrow, 1))
    (hRl : (rest.map fun v => v.category).sum + 82 ≤ R.locals) (hRf : 6 ≤ R.frames) (hRc : cells + 1 ≤ R.cells) (hRs : slots + 6 ≤ R.slots) (hc : cells + 1 ≤ mc) (hs6 : slots + 6 ≤ ms) (hx : xp "java/lang/IllegalArgumentException" μ) :
    W p l e R s m args below meth c H locs cells slots (vx_MQ below Qc (ZX D ca base ad n np xp) args s mc ms (zB base)) (F0 m pc ls rest) :=
  z_throw hC hnx hst hZ hsz hs zfit_iae.1 zat_iae zag_iae kc_X4_58 kini_IllegalArgumentException d0 d3 d4 d6 d9 hRl hRf hRc hRs hc hs6 hx
theorem z_throw_ise {text : String} {is mc ms : Nat} {xp : String → Mem → Prop} {Qc : Array Value → State → Outcome → State → Prop} (hC : ZC p m meth c s RX4 cc nL) (hnx : ∀ x ∈ c.exceptionTable.toList, False) (hst : l.stackTraces = false) (hZ : ZS D ca base ad n np μ s H locs) (hsz : ls.size = nL) (hs : ((is, text) : Nat × String) ∈ zStrs)
    (d0 : decode cc pc = .ok (.new 69, 3)) (d3 : decode cc (pc + 3) = .ok (.dup, 1)) (d4 : decode cc (pc + 4) = .ok (.ldc is, 2)) (d6 : decode cc (pc + 6) = .ok (.invokespecial 73, 3)) (d9 : decode cc (pc + 9) = .ok (.athrow, 1))
    (hRl : (rest.map fun v => v.category).sum + 82 ≤ R.locals) (hRf : 6 ≤ R.frames) (hRc : cells + 1 ≤ R.cells) (hRs : slots + 6 ≤ R.slots) (hc : cells + 1 ≤ mc) (hs6 : slots + 6 ≤ ms) (hx : xp "java/lang/IllegalStateException" μ) :
    W p l e R s m args below meth c H locs cells slots (vx_MQ below Qc (ZX D ca base ad n np xp) args s mc ms (zB base)) (F0 m pc ls rest) :=
  z_throw hC hnx hst hZ hsz hs zfit_iae.2.1 zat_ise zag_ise kc_X4_69 kini_IllegalStateException d0 d3 d4 d6 d9 hRl hRf hRc hRs hc hs6 hx
theorem z_throw_ioo {text : String} {is mc ms : Nat} {xp : String → Mem → Prop} {Qc : Array Value → State → Outcome → State → Prop} (hC : ZC p m meth c s RX4 cc nL) (hnx : ∀ x ∈ c.exceptionTable.toList, False) (hst : l.stackTraces = false) (hZ : ZS D ca base ad n np μ s H locs) (hsz : ls.size = nL) (hs : ((is, text) : Nat × String) ∈ zStrs)
    (d0 : decode cc pc = .ok (.new 242, 3)) (d3 : decode cc (pc + 3) = .ok (.dup, 1)) (d4 : decode cc (pc + 4) = .ok (.ldc is, 2)) (d6 : decode cc (pc + 6) = .ok (.invokespecial 246, 3)) (d9 : decode cc (pc + 9) = .ok (.athrow, 1))
    (hRl : (rest.map fun v => v.category).sum + 82 ≤ R.locals) (hRf : 6 ≤ R.frames) (hRc : cells + 1 ≤ R.cells) (hRs : slots + 6 ≤ R.slots) (hc : cells + 1 ≤ mc) (hs6 : slots + 6 ≤ ms) (hx : xp "java/lang/IndexOutOfBoundsException" μ) :
    W p l e R s m args below meth c H locs cells slots (vx_MQ below Qc (ZX D ca base ad n np xp) args s mc ms (zB base)) (F0 m pc ls rest) :=
  z_throw hC hnx hst hZ hsz hs zfit_iae.2.2 zat_ioo zag_ioo kc_X4_242 kini_IndexOutOfBoundsException d0 d3 d4 d6 d9 hRl hRf hRc hRs hc hs6 hx
end ZROWS2
