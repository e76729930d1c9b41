def b_L_swaps_225 (n np : Nat) (post : Int32 → Mem → Prop) (a3 : Int32) (a4 : Int32) (μ : Mem) : Prop := (w_L_swap n np (fun (r26 : Int32) (μ25 : Mem) => ((¬ r26 = (-1000002) → post 0 μ25) ∧ (r26 = (-1000002) → (w_L_swap n np (fun (r29 : Int32) (μ28 : Mem) => ((¬ r29 = (-1000002) → post 0 μ28) ∧ (r29 = (-1000002) → post 1 μ28))) (μ25 22 0 (2 : Int32).toNatClampNeg) (30 : Int32) μ25)))) ((μ 22 0 (2 : Int32).toNatClampNeg) - 1) (μ 22 0 (2 : Int32).toNatClampNeg) μ)
set_option maxRecDepth 100000 in
set_option maxHeartbeats 4000000 in
theorem t_L_swaps_225 {p : Program} {l : Launch} {e : Env} {s : State} {m : MethodId} {args : Array Value} {below : List Frame} {meth : Method} {c : Code} {D : va_G} {ca : Nat → ClassId} {base : Nat} {ad : Nat → Nat → Nat} {n np : Nat} {post : Int32 → Mem → Prop} (hst : l.stackTraces = false) (hC : ZC p m meth c s RL cL_swaps 11) (hr : meth.sig.returnType = (some FieldType.boolean)) (a3 : Int32) (a4 : Int32) (cx dx : Nat) (μ : Mem) (H : Heap) (locs : List Loc) (ls : Array Slot) (hBc : cx + (2) ≤ 8) (hBs : dx + (12) ≤ 48) (h : b_L_swaps_225 n np post a3 a4 μ) (hZ : ZS D ca base ad n np μ s H locs) (hl : lv_has ls 11 [(0, .ref (ad 30 0)), (1, .ref (ad 22 0))]) : W p l e ({ frames := 9, cells := 8, slots := 48, locals := 146 } : Room) s m args below meth c H locs cx dx (MQ below (ZQ D ca base ad n np (zpi post)) args s 8 48 (zB base)) (F0 m 225 ls []) := by
  unfold b_L_swaps_225 at h
  refine lv_aload_n hC.1 hC.2.1 dL_swaps_225 rfl (lv_at hl 0 rfl) ?_
  refine lv_aload_n hC.1 hC.2.1 dL_swaps_226 rfl (lv_at hl 1 rfl) ?_
  refine lv_iconst (v := 2) hC.1 hC.2.1 dL_swaps_227 (by decide) ?_
  refine aL_22 hC hZ (by unfold vp_in; decide) dL_swaps_228 ?_
  refine lv_iconst (v := 1) hC.1 hC.2.1 dL_swaps_229 (by decide) ?_
  refine lv_isub hC.1 hC.2.1 dL_swaps_230 ?_
  refine lv_aload_n hC.1 hC.2.1 dL_swaps_231 rfl (lv_at hl 1 rfl) ?_
  refine lv_iconst (v := 2) hC.1 hC.2.1 dL_swaps_232 (by decide) ?_
  refine aL_22 hC hZ (by unfold vp_in; decide) dL_swaps_233 ?_
  refine z_cWi (As := [.ref (ad 30 0), .int ((μ 22 0 (2 : Int32).toNatClampNeg) - 1), .int (μ 22 0 (2 : Int32).toNatClampNeg)]) hC hZ zy_L_swap (c_L_swap l hst h) km_L_135 rfl ⟨rfl, rfl⟩ ⟨Nat.le_of_ble_eq_true rfl, Nat.le_of_ble_eq_true rfl⟩ hl.1 rfl (Nat.le_of_ble_eq_true rfl) dL_swaps_234 ⟨by show _ ≤ (8 : Nat); omega, by show _ ≤ (48 : Nat); omega⟩ (fun r26 μ25 H locs h hZ => ?_)
  refine lv_ldc (v := (-1000002)) hC.1 hC.2.1 hC.2.2.2.1 (hZ.1.2.1.use _ kk_L_18 rfl) dL_swaps_237 ?_
  refine lv_icmp_ne (tgt := 260) hC.1 hC.2.1 dL_swaps_239 (by decide) (fun c27 => ?_) (fun c27 => ?_)
  · have h := h.1 c27
    refine lv_iconst (v := 0) hC.1 hC.2.1 dL_swaps_260 (by decide) ?_
    exact z_bret hC hr hZ (by decide) h dL_swaps_261 (by show _ ≤ (8 : Nat); omega) (by show _ ≤ (48 : Nat); omega)
  · have h := h.2 c27
    refine lv_aload_n hC.1 hC.2.1 dL_swaps_242 rfl (lv_at hl 0 rfl) ?_
    refine lv_aload_n hC.1 hC.2.1 dL_swaps_243 rfl (lv_at hl 1 rfl) ?_
    refine lv_iconst (v := 2) hC.1 hC.2.1 dL_swaps_244 (by decide) ?_
    refine aL_22 hC hZ (by unfold vp_in; decide) dL_swaps_245 ?_
    refine lv_bipush (v := 30) hC.1 hC.2.1 dL_swaps_246 (by decide) ?_
    refine z_cWi (As := [.ref (ad 30 0), .int (μ25 22 0 (2 : Int32).toNatClampNeg), .int 30]) hC hZ zy_L_swap (c_L_swap l hst h) km_L_135 rfl ⟨rfl, rfl⟩ ⟨Nat.le_of_ble_eq_true rfl, Nat.le_of_ble_eq_true rfl⟩ hl.1 rfl (Nat.le_of_ble_eq_true rfl) dL_swaps_248 ⟨by show _ ≤ (8 : Nat); omega, by show _ ≤ (48 : Nat); omega⟩ (fun r29 μ28 H locs h hZ => ?_)
    refine lv_ldc (v := (-1000002)) hC.1 hC.2.1 hC.2.2.2.1 (hZ.1.2.1.use _ kk_L_18 rfl) dL_swaps_251 ?_
    refine lv_icmp_ne (tgt := 260) hC.1 hC.2.1 dL_swaps_253 (by decide) (fun c30 => ?_) (fun c30 => ?_)
    · have h := h.1 c30
      refine lv_iconst (v := 0) hC.1 hC.2.1 dL_swaps_260 (by decide) ?_
      exact z_bret hC hr hZ (by decide) h dL_swaps_261 (by show _ ≤ (8 : Nat); omega) (by show _ ≤ (48 : Nat); omega)
    · have h := h.2 c30
      refine lv_iconst (v := 1) hC.1 hC.2.1 dL_swaps_256 (by decide) ?_
      refine lv_goto (tgt := 261) hC.1 hC.2.1 dL_swaps_257 (by decide) ?_
      exact z_bret hC hr hZ (by decide) h dL_swaps_261 (by show _ ≤ (8 : Nat); omega) (by show _ ≤ (48 : Nat); omega)
def b_L_swaps_195 (n np : Nat) (post : Int32 → Mem → Prop) (a3 : Int32) (a4 : Int32) (v4 : Int32) (v5 : Int32) (v6 : Int32) (s0 : Int32) (μ : Mem) : Prop := ((s0 = 0 → post 0 μ) ∧ (¬ s0 = 0 → (w_L_low n np (fun (r23 : Int32) (μ22 : Mem) => ((r23 = 0 → b_L_swaps_225 n np post a3 a4 μ22) ∧ (¬ r23 = 0 → (w_L_swap n np (fun (r32 : Int32) (μ31 : Mem) => ((¬ r32 = v6 → post 0 μ31) ∧ (r32 = v6 → b_L_swaps_225 n np post a3 a4 μ31))) v5 v4 μ22)))) (a4 >>> (2 &&& 31)) (2 : Int32) μ)))
set_option maxRecDepth 100000 in
set_option maxHeartbeats 4000000 in
theorem t_L_swaps_195 {p : Program} {l : Launch} {e : Env} {s : State} {m : MethodId} {args : Array Value} {below : List Frame} {meth : Method} {c : Code} {D : va_G} {ca : Nat → ClassId} {base : Nat} {ad : Nat → Nat → Nat} {n np : Nat} {post : Int32 → Mem → Prop} (hst : l.stackTraces = false) (hC : ZC p m meth c s RL cL_swaps 11) (hr : meth.sig.returnType = (some FieldType.boolean)) (a3 : Int32) (a4 : Int32) (v4 : Int32) (v5 : Int32) (v6 : Int32) (s0 : Int32) (cx dx : Nat) (μ : Mem) (H : Heap) (locs : List Loc) (ls : Array Slot) (hBc : cx + (3) ≤ 8) (hBs : dx + (18) ≤ 48) (h : b_L_swaps_195 n np post a3 a4 v4 v5 v6 s0 μ) (hZ : ZS D ca base ad n np μ s H locs) (hl : lv_has ls 11 [(0, .ref (ad 30 0)), (1, .ref (ad 22 0)), (3, .int a4), (4, .int v4), (5, .int v5), (6, .int v6)]) : W p l e ({ frames := 9, cells := 8, slots := 48, locals := 146 } : Room) s m args below meth c H locs cx dx (MQ below (ZQ D ca base ad n np (zpi post)) args s 8 48 (zB base)) (F0 m 195 ls [.int s0]) := by
  unfold b_L_swaps_195 at h
  refine lv_istore (lv' := [(10, .int s0), (0, .ref (ad 30 0)), (1, .ref (ad 22 0)), (3, .int a4), (4, .int v4), (5, .int v5), (6, .int v6)]) hC.1 hC.2.1 dL_swaps_195 hl (by decide) rfl (fun ls hl => ?_)
  refine lv_iload hC.1 hC.2.1 dL_swaps_197 (lv_at hl 0 rfl) ?_
  refine lv_if_eq (tgt := 260) hC.1 hC.2.1 dL_swaps_199 (by decide) (fun c21 => ?_) (fun c21 => ?_)
  · have h := h.1 c21
    refine lv_iconst (v := 0) hC.1 hC.2.1 dL_swaps_260 (by decide) ?_
    exact z_bret hC hr hZ (by decide) h dL_swaps_261 (by show _ ≤ (8 : Nat); omega) (by show _ ≤ (48 : Nat); omega)
  · have h := h.2 c21
    refine lv_iload_n hC.1 hC.2.1 dL_swaps_202 rfl (lv_at hl 3 rfl) ?_
    refine lv_iconst (v := 2) hC.1 hC.2.1 dL_swaps_203 (by decide) ?_
    refine lv_ishr hC.1 hC.2.1 dL_swaps_204 ?_
    refine lv_iconst (v := 2) hC.1 hC.2.1 dL_swaps_205 (by decide) ?_
    refine z_cSi (As := [.int (a4 >>> (2 &&& 31)), .int 2]) hC hZ zy_L_low (c_L_low l h) km_L_118 rfl ⟨rfl, rfl⟩ ⟨Nat.le_of_ble_eq_true rfl, Nat.le_of_ble_eq_true rfl⟩ hl.1 rfl (Nat.le_of_ble_eq_true rfl) dL_swaps_206 ⟨by show _ ≤ (8 : Nat); omega, by show _ ≤ (48 : Nat); omega⟩ (fun r23 μ22 H locs h hZ => ?_)
    refine lv_if_eq (tgt := 225) hC.1 hC.2.1 dL_swaps_209 (by decide) (fun c24 => ?_) (fun c24 => ?_)
    · have h := h.1 c24
      exact t_L_swaps_225 (l := l) hst hC hr _ _  _ _ _ _ _ _ (by show _ ≤ (8 : Nat); omega) (by show _ ≤ (48 : Nat); omega) h hZ (lv_sub hl [1, 2] rfl)
    · have h := h.2 c24
      refine lv_aload_n hC.1 hC.2.1 dL_swaps_212 rfl (lv_at hl 1 rfl) ?_
      refine lv_iload hC.1 hC.2.1 dL_swaps_213 (lv_at hl 5 rfl) ?_
      refine lv_iload hC.1 hC.2.1 dL_swaps_215 (lv_at hl 4 rfl) ?_
      refine z_cWi (As := [.ref (ad 30 0), .int v5, .int v4]) hC hZ zy_L_swap (c_L_swap l hst h) km_L_135 rfl ⟨rfl, rfl⟩ ⟨Nat.le_of_ble_eq_true rfl, Nat.le_of_ble_eq_true rfl⟩ hl.1 rfl (Nat.le_of_ble_eq_true rfl) dL_swaps_217 ⟨by show _ ≤ (8 : Nat); omega, by show _ ≤ (48 : Nat); omega⟩ (fun r32 μ31 H locs h hZ => ?_)
      refine lv_iload hC.1 hC.2.1 dL_swaps_220 (lv_at hl 6 rfl) ?_
      refine lv_icmp_ne (tgt := 260) hC.1 hC.2.1 dL_swaps_222 (by decide) (fun c33 => ?_) (fun c33 => ?_)
      · have h := h.1 c33
        refine lv_iconst (v := 0) hC.1 hC.2.1 dL_swaps_260 (by decide) ?_
        exact z_bret hC hr hZ (by decide) h dL_swaps_261 (by show _ ≤ (8 : Nat); omega) (by show _ ≤ (48 : Nat); omega)
      · have h := h.2 c33
        exact t_L_swaps_225 (l := l) hst hC hr _ _  _ _ _ _ _ _ (by show _ ≤ (8 : Nat); omega) (by show _ ≤ (48 : Nat); omega) h hZ (lv_sub hl [1, 2] rfl)
def b_L_swaps_194 (n np : Nat) (post : Int32 → Mem → Prop) (a3 : Int32) (a4 : Int32) (v4 : Int32) (v5 : Int32) (v6 : Int32) (μ : Mem) : Prop := b_L_swaps_195 n np post a3 a4 v4 v5 v6 (0 : Int32) μ
set_option maxRecDepth 100000 in
set_option maxHeartbeats 4000000 in
theorem t_L_swaps_194 {p : Program} {l : Launch} {e : Env} {s : State} {m : MethodId} {args : Array Value} {below : List Frame} {meth : Method} {c : Code} {D : va_G} {ca : Nat → ClassId} {base : Nat} {ad : Nat → Nat → Nat} {n np : Nat} {post : Int32 → Mem → Prop} (hst : l.stackTraces = false) (hC : ZC p m meth c s RL cL_swaps 11) (hr : meth.sig.returnType = (some FieldType.boolean)) (a3 : Int32) (a4 : Int32) (v4 : Int32) (v5 : Int32) (v6 : Int32) (cx dx : Nat) (μ : Mem) (H : Heap) (locs : List Loc) (ls : Array Slot) (hBc : cx + (3) ≤ 8) (hBs : dx + (18) ≤ 48) (h : b_L_swaps_194 n np post a3 a4 v4 v5 v6 μ) (hZ : ZS D ca base ad n np μ s H locs) (hl : lv_has ls 11 [(0, .ref (ad 30 0)), (1, .ref (ad 22 0)), (3, .int a4), (4, .int v4), (5, .int v5), (6, .int v6)]) : W p l e ({ frames := 9, cells := 8, slots := 48, locals := 146 } : Room) s m args below meth c H locs cx dx (MQ below (ZQ D ca base ad n np (zpi post)) args s 8 48 (zB base)) (F0 m 194 ls []) := by
  unfold b_L_swaps_194 at h
  refine lv_iconst (v := 0) hC.1 hC.2.1 dL_swaps_194 (by decide) ?_
  exact t_L_swaps_195 (l := l) hst hC hr _ _ _ _ _ _ _ _ _ _ _ _ (by show _ ≤ (8 : Nat); omega) (by show _ ≤ (48 : Nat); omega) h hZ (lv_sub hl [0, 1, 2, 3, 4, 5] rfl)
def b_L_swaps_190 (n np : Nat) (post : Int32 → Mem → Prop) (a3 : Int32) (a4 : Int32) (v4 : Int32) (v5 : Int32) (v6 : Int32) (μ : Mem) : Prop := b_L_swaps_195 n np post a3 a4 v4 v5 v6 (1 : Int32) μ
set_option maxRecDepth 100000 in
set_option maxHeartbeats 4000000 in
theorem t_L_swaps_190 {p : Program} {l : Launch} {e : Env} {s : State} {m : MethodId} {args : Array Value} {below : List Frame} {meth : Method} {c : Code} {D : va_G} {ca : Nat → ClassId} {base : Nat} {ad : Nat → Nat → Nat} {n np : Nat} {post : Int32 → Mem → Prop} (hst : l.stackTraces = false) (hC : ZC p m meth c s RL cL_swaps 11) (hr : meth.sig.returnType = (some FieldType.boolean)) (a3 : Int32) (a4 : Int32) (v4 : Int32) (v5 : Int32) (v6 : Int32) (cx dx : Nat) (μ : Mem) (H : Heap) (locs : List Loc) (ls : Array Slot) (hBc : cx + (3) ≤ 8) (hBs : dx + (18) ≤ 48) (h : b_L_swaps_190 n np post a3 a4 v4 v5 v6 μ) (hZ : ZS D ca base ad n np μ s H locs) (hl : lv_has ls 11 [(0, .ref (ad 30 0)), (1, .ref (ad 22 0)), (3, .int a4), (4, .int v4), (5, .int v5), (6, .int v6)]) : W p l e ({ frames := 9, cells := 8, slots := 48, locals := 146 } : Room) s m args below meth c H locs cx dx (MQ below (ZQ D ca base ad n np (zpi post)) args s 8 48 (zB base)) (F0 m 190 ls []) := by
  unfold b_L_swaps_190 at h
  refine lv_iconst (v := 1) hC.1 hC.2.1 dL_swaps_190 (by decide) ?_
  refine lv_goto (tgt := 195) hC.1 hC.2.1 dL_swaps_191 (by decide) ?_
  exact t_L_swaps_195 (l := l) hst hC hr _ _ _ _ _ _ _ _ _ _ _ _ (by show _ ≤ (8 : Nat); omega) (by show _ ≤ (48 : Nat); omega) h hZ (lv_sub hl [0, 1, 2, 3, 4, 5] rfl)
def b_L_swaps_111 (n np : Nat) (post : Int32 → Mem → Prop) (a3 : Int32) (a4 : Int32) (v4 : Int32) (s0 : Int32) (μ : Mem) : Prop := (w_X4_cost n np (fun (r11 : Int32) (μ10 : Mem) => (∃ μ10g : Mem, gs μ10 μ10g ∧ (w_L_sceneOn n np (fun (r13 : Int32) (μ12 : Mem) => (w_L_sceneOn n np (fun (r15 : Int32) (μ14 : Mem) => (w_L_swap n np (fun (r17 : Int32) (μ16 : Mem) => (w_X4_cost n np (fun (r19 : Int32) (μ18 : Mem) => (∃ μ18g : Mem, gs μ18 μ18g ∧ ((¬ r17 = r19 → b_L_swaps_194 n np post a3 a4 v4 s0 r11 μ18g) ∧ (r17 = r19 → (w_L_sceneOn n np (fun (r35 : Int32) (μ34 : Mem) => ((¬ r35 = r15 → b_L_swaps_194 n np post a3 a4 v4 s0 r11 μ34) ∧ (r35 = r15 → (w_L_sceneOn n np (fun (r38 : Int32) (μ37 : Mem) => ((¬ r38 = r13 → b_L_swaps_194 n np post a3 a4 v4 s0 r11 μ37) ∧ (r38 = r13 → ((¬ v4 = s0 → b_L_swaps_190 n np post a3 a4 v4 s0 r11 μ37) ∧ (v4 = s0 → ((¬ r17 = r11 → b_L_swaps_194 n np post a3 a4 v4 s0 r11 μ37) ∧ (r17 = r11 → b_L_swaps_190 n np post a3 a4 v4 s0 r11 μ37))))))) s0 μ34)))) v4 μ18g))))) μ16)) v4 s0 μ14)) s0 μ12)) v4 μ10g))) μ)
set_option maxRecDepth 100000 in
set_option maxHeartbeats 4000000 in
theorem t_L_swaps_111 {p : Program} {l : Launch} {e : Env} {s : State} {m : MethodId} {args : Array Value} {below : List Frame} {meth : Method} {c : Code} {D : va_G} {ca : Nat → ClassId} {base : Nat} {ad : Nat → Nat → Nat} {n np : Nat} {post : Int32 → Mem → Prop} (hst : l.stackTraces = false) (hC : ZC p m meth c s RL cL_swaps 11) (hr : meth.sig.returnType = (some FieldType.boolean)) (a3 : Int32) (a4 : Int32) (v4 : Int32) (s0 : Int32) (cx dx : Nat) (μ : Mem) (H : Heap) (locs : List Loc) (ls : Array Slot) (hBc : cx + (8) ≤ 8) (hBs : dx + (48) ≤ 48) (h : b_L_swaps_111 n np post a3 a4 v4 s0 μ) (hZ : ZS D ca base ad n np μ s H locs) (hl : lv_has ls 11 [(0, .ref (ad 30 0)), (1, .ref (ad 22 0)), (3, .int a4), (4, .int v4)]) : W p l e ({ frames := 9, cells := 8, slots := 48, locals := 146 } : Room) s m args below meth c H locs cx dx (MQ below (ZQ D ca base ad n np (zpi post)) args s 8 48 (zB base)) (F0 m 111 ls [.int s0]) := by
  unfold b_L_swaps_111 at h
  refine lv_istore (lv' := [(5, .int s0), (0, .ref (ad 30 0)), (1, .ref (ad 22 0)), (3, .int a4), (4, .int v4)]) hC.1 hC.2.1 dL_swaps_111 hl (by decide) rfl (fun ls hl => ?_)
  refine lv_aload_n hC.1 hC.2.1 dL_swaps_113 rfl (lv_at hl 1 rfl) ?_
  refine z_cVi (As := []) hC hZ (zF_30 _) rfl zy_X4_cost (c_X4_cost l h) km_L_111 rfl ⟨rfl, rfl⟩ ⟨Nat.le_of_ble_eq_true rfl, Nat.le_of_ble_eq_true rfl⟩ hl.1 rfl (Nat.le_of_ble_eq_true rfl) dL_swaps_114 ⟨by show _ ≤ (8 : Nat); omega, by show _ ≤ (48 : Nat); omega⟩ (fun r11 μ10 H locs h hZ => ?_)
  obtain ⟨μ10g, hgs, h⟩ := h
  have hZ := hZ.gs hgs
  refine lv_istore (lv' := [(6, .int r11), (5, .int s0), (0, .ref (ad 30 0)), (1, .ref (ad 22 0)), (3, .int a4), (4, .int v4)]) hC.1 hC.2.1 dL_swaps_117 hl (by decide) rfl (fun ls hl => ?_)
  refine lv_aload_n hC.1 hC.2.1 dL_swaps_119 rfl (lv_at hl 2 rfl) ?_
  refine lv_iload hC.1 hC.2.1 dL_swaps_120 (lv_at hl 5 rfl) ?_
  refine z_cWi (As := [.ref (ad 30 0), .int v4]) hC hZ zy_L_sceneOn (c_L_sceneOn l hst h) km_L_85 rfl ⟨rfl, rfl⟩ ⟨Nat.le_of_ble_eq_true rfl, Nat.le_of_ble_eq_true rfl⟩ hl.1 rfl (Nat.le_of_ble_eq_true rfl) dL_swaps_122 ⟨by show _ ≤ (8 : Nat); omega, by show _ ≤ (48 : Nat); omega⟩ (fun r13 μ12 H locs h hZ => ?_)
  refine lv_istore (lv' := [(7, .int r13), (6, .int r11), (5, .int s0), (0, .ref (ad 30 0)), (1, .ref (ad 22 0)), (3, .int a4), (4, .int v4)]) hC.1 hC.2.1 dL_swaps_125 hl (by decide) rfl (fun ls hl => ?_)
  refine lv_aload_n hC.1 hC.2.1 dL_swaps_127 rfl (lv_at hl 3 rfl) ?_
  refine lv_iload hC.1 hC.2.1 dL_swaps_128 (lv_at hl 2 rfl) ?_
  refine z_cWi (As := [.ref (ad 30 0), .int s0]) hC hZ zy_L_sceneOn (c_L_sceneOn l hst h) km_L_85 rfl ⟨rfl, rfl⟩ ⟨Nat.le_of_ble_eq_true rfl, Nat.le_of_ble_eq_true rfl⟩ hl.1 rfl (Nat.le_of_ble_eq_true rfl) dL_swaps_130 ⟨by show _ ≤ (8 : Nat); omega, by show _ ≤ (48 : Nat); omega⟩ (fun r15 μ14 H locs h hZ => ?_)
  refine lv_istore (lv' := [(8, .int r15), (7, .int r13), (6, .int r11), (5, .int s0), (0, .ref (ad 30 0)), (1, .ref (ad 22 0)), (3, .int a4), (4, .int v4)]) hC.1 hC.2.1 dL_swaps_133 hl (by decide) rfl (fun ls hl => ?_)
  refine lv_aload_n hC.1 hC.2.1 dL_swaps_135 rfl (lv_at hl 4 rfl) ?_
  refine lv_iload hC.1 hC.2.1 dL_swaps_136 (lv_at hl 7 rfl) ?_
  refine lv_iload hC.1 hC.2.1 dL_swaps_138 (lv_at hl 3 rfl) ?_
  refine z_cWi (As := [.ref (ad 30 0), .int v4, .int s0]) hC hZ zy_L_swap (c_L_swap l hst h) km_L_135 rfl ⟨rfl, rfl⟩ ⟨Nat.le_of_ble_eq_true rfl, Nat.le_of_ble_eq_true rfl⟩ hl.1 rfl (Nat.le_of_ble_eq_true rfl) dL_swaps_140 ⟨by show _ ≤ (8 : Nat); omega, by show _ ≤ (48 : Nat); omega⟩ (fun r17 μ16 H locs h hZ => ?_)
  refine lv_istore (lv' := [(9, .int r17), (8, .int r15), (7, .int r13), (6, .int r11), (5, .int s0), (0, .ref (ad 30 0)), (1, .ref (ad 22 0)), (3, .int a4), (4, .int v4)]) hC.1 hC.2.1 dL_swaps_143 hl (by decide) rfl (fun ls hl => ?_)
  refine lv_iload hC.1 hC.2.1 dL_swaps_145 (lv_at hl 0 rfl) ?_
  refine lv_aload_n hC.1 hC.2.1 dL_swaps_147 rfl (lv_at hl 5 rfl) ?_
  refine z_cVi (As := []) hC hZ (zF_30 _) rfl zy_X4_cost (c_X4_cost l h) km_L_111 rfl ⟨rfl, rfl⟩ ⟨Nat.le_of_ble_eq_true rfl, Nat.le_of_ble_eq_true rfl⟩ hl.1 rfl (Nat.le_of_ble_eq_true rfl) dL_swaps_148 ⟨by show _ ≤ (8 : Nat); omega, by show _ ≤ (48 : Nat); omega⟩ (fun r19 μ18 H locs h hZ => ?_)
  obtain ⟨μ18g, hgs, h⟩ := h
  have hZ := hZ.gs hgs
  refine lv_icmp_ne (tgt := 194) hC.1 hC.2.1 dL_swaps_151 (by decide) (fun c20 => ?_) (fun c20 => ?_)
  · have h := h.1 c20
    exact t_L_swaps_194 (l := l) hst hC hr _ _ _ _ _ _ _ _ _ _ _ (by show _ ≤ (8 : Nat); omega) (by show _ ≤ (48 : Nat); omega) h hZ (lv_sub hl [5, 6, 7, 8, 4, 3] rfl)
  · have h := h.2 c20
    refine lv_aload_n hC.1 hC.2.1 dL_swaps_154 rfl (lv_at hl 5 rfl) ?_
    refine lv_iload hC.1 hC.2.1 dL_swaps_155 (lv_at hl 8 rfl) ?_
    refine z_cWi (As := [.ref (ad 30 0), .int v4]) hC hZ zy_L_sceneOn (c_L_sceneOn l hst h) km_L_85 rfl ⟨rfl, rfl⟩ ⟨Nat.le_of_ble_eq_true rfl, Nat.le_of_ble_eq_true rfl⟩ hl.1 rfl (Nat.le_of_ble_eq_true rfl) dL_swaps_157 ⟨by show _ ≤ (8 : Nat); omega, by show _ ≤ (48 : Nat); omega⟩ (fun r35 μ34 H locs h hZ => ?_)
    refine lv_iload hC.1 hC.2.1 dL_swaps_160 (lv_at hl 1 rfl) ?_
    refine lv_icmp_ne (tgt := 194) hC.1 hC.2.1 dL_swaps_162 (by decide) (fun c36 => ?_) (fun c36 => ?_)
    · have h := h.1 c36
      exact t_L_swaps_194 (l := l) hst hC hr _ _ _ _ _ _ _ _ _ _ _ (by show _ ≤ (8 : Nat); omega) (by show _ ≤ (48 : Nat); omega) h hZ (lv_sub hl [5, 6, 7, 8, 4, 3] rfl)
    · have h := h.2 c36
      refine lv_aload_n hC.1 hC.2.1 dL_swaps_165 rfl (lv_at hl 5 rfl) ?_
      refine lv_iload hC.1 hC.2.1 dL_swaps_166 (lv_at hl 4 rfl) ?_
      refine z_cWi (As := [.ref (ad 30 0), .int s0]) hC hZ zy_L_sceneOn (c_L_sceneOn l hst h) km_L_85 rfl ⟨rfl, rfl⟩ ⟨Nat.le_of_ble_eq_true rfl, Nat.le_of_ble_eq_true rfl⟩ hl.1 rfl (Nat.le_of_ble_eq_true rfl) dL_swaps_168 ⟨by show _ ≤ (8 : Nat); omega, by show _ ≤ (48 : Nat); omega⟩ (fun r38 μ37 H locs h hZ => ?_)
      refine lv_iload hC.1 hC.2.1 dL_swaps_171 (lv_at hl 2 rfl) ?_
      refine lv_icmp_ne (tgt := 194) hC.1 hC.2.1 dL_swaps_173 (by decide) (fun c39 => ?_) (fun c39 => ?_)
      · have h := h.1 c39
        exact t_L_swaps_194 (l := l) hst hC hr _ _ _ _ _ _ _ _ _ _ _ (by show _ ≤ (8 : Nat); omega) (by show _ ≤ (48 : Nat); omega) h hZ (lv_sub hl [5, 6, 7, 8, 4, 3] rfl)
      · have h := h.2 c39
        refine lv_iload hC.1 hC.2.1 dL_swaps_176 (lv_at hl 8 rfl) ?_
        refine lv_iload hC.1 hC.2.1 dL_swaps_178 (lv_at hl 4 rfl) ?_
        refine lv_icmp_ne (tgt := 190) hC.1 hC.2.1 dL_swaps_180 (by decide) (fun c40 => ?_) (fun c40 => ?_)
        · have h := h.1 c40
          exact t_L_swaps_190 (l := l) hst hC hr _ _ _ _ _ _ _ _ _ _ _ (by show _ ≤ (8 : Nat); omega) (by show _ ≤ (48 : Nat); omega) h hZ (lv_sub hl [5, 6, 7, 8, 4, 3] rfl)
        · have h := h.2 c40
          refine lv_iload hC.1 hC.2.1 dL_swaps_183 (lv_at hl 0 rfl) ?_
          refine lv_iload hC.1 hC.2.1 dL_swaps_185 (lv_at hl 3 rfl) ?_
          refine lv_icmp_ne (tgt := 194) hC.1 hC.2.1 dL_swaps_187 (by decide) (fun c41 => ?_) (fun c41 => ?_)
          · have h := h.1 c41
            exact t_L_swaps_194 (l := l) hst hC hr _ _ _ _ _ _ _ _ _ _ _ (by show _ ≤ (8 : Nat); omega) (by show _ ≤ (48 : Nat); omega) h hZ (lv_sub hl [5, 6, 7, 8, 4, 3] rfl)
          · have h := h.2 c41
            exact t_L_swaps_190 (l := l) hst hC hr _ _ _ _ _ _ _ _ _ _ _ (by show _ ≤ (8 : Nat); omega) (by show _ ≤ (48 : Nat); omega) h hZ (lv_sub hl [5, 6, 7, 8, 4, 3] rfl)
def b_L_swaps_107 (n np : Nat) (post : Int32 → Mem → Prop) (a3 : Int32) (a4 : Int32) (v4 : Int32) (s0 : Int32) (s1 : Int32) (s2 : Int32) (μ : Mem) : Prop := (w_L_low n np (fun (r9 : Int32) (μ8 : Mem) => b_L_swaps_111 n np post a3 a4 v4 (s0 + r9) μ8) s1 s2 μ)
set_option maxRecDepth 100000 in
set_option maxHeartbeats 4000000 in
theorem t_L_swaps_107 {p : Program} {l : Launch} {e : Env} {s : State} {m : MethodId} {args : Array Value} {below : List Frame} {meth : Method} {c : Code} {D : va_G} {ca : Nat → ClassId} {base : Nat} {ad : Nat → Nat → Nat} {n np : Nat} {post : Int32 → Mem → Prop} (hst : l.stackTraces = false) (hC : ZC p m meth c s RL cL_swaps 11) (hr : meth.sig.returnType = (some FieldType.boolean)) (a3 : Int32) (a4 : Int32) (v4 : Int32) (s0 : Int32) (s1 : Int32) (s2 : Int32) (cx dx : Nat) (μ : Mem) (H : Heap) (locs : List Loc) (ls : Array Slot) (hBc : cx + (8) ≤ 8) (hBs : dx + (48) ≤ 48) (h : b_L_swaps_107 n np post a3 a4 v4 s0 s1 s2 μ) (hZ : ZS D ca base ad n np μ s H locs) (hl : lv_has ls 11 [(0, .ref (ad 30 0)), (1, .ref (ad 22 0)), (3, .int a4), (4, .int v4)]) : W p l e ({ frames := 9, cells := 8, slots := 48, locals := 146 } : Room) s m args below meth c H locs cx dx (MQ below (ZQ D ca base ad n np (zpi post)) args s 8 48 (zB base)) (F0 m 107 ls [.int s2, .int s1, .int s0]) := by
  unfold b_L_swaps_107 at h
  refine z_cSi (As := [.int s1, .int s2]) hC hZ zy_L_low (c_L_low l h) km_L_118 rfl ⟨rfl, rfl⟩ ⟨Nat.le_of_ble_eq_true rfl, Nat.le_of_ble_eq_true rfl⟩ hl.1 rfl (Nat.le_of_ble_eq_true rfl) dL_swaps_107 ⟨by show _ ≤ (8 : Nat); omega, by show _ ≤ (48 : Nat); omega⟩ (fun r9 μ8 H locs h hZ => ?_)
  refine lv_iadd hC.1 hC.2.1 dL_swaps_110 ?_
  exact t_L_swaps_111 (l := l) hst hC hr _ _ _ _ _ _ _ _ _ _ (by show _ ≤ (8 : Nat); omega) (by show _ ≤ (48 : Nat); omega) h hZ (lv_sub hl [0, 1, 2, 3] rfl)
def w_L_swaps (n np : Nat) (post : Int32 → Mem → Prop) (a3 : Int32) (a4 : Int32) (μ : Mem) : Prop := ((¬ (μ 22 0 (2 : Int32).toNatClampNeg) = 30 → (w_L_low n np (fun (r3 : Int32) (μ2 : Mem) => (w_L_low n np (fun (r5 : Int32) (μ4 : Mem) => ((¬ r5 = 0 → ((8 ≤ (30 - (μ4 22 0 (2 : Int32).toNatClampNeg)) → b_L_swaps_107 n np post a3 a4 ((μ 22 0 (2 : Int32).toNatClampNeg) + r3) (μ4 22 0 (2 : Int32).toNatClampNeg) (a3 >>> (5 &&& 31)) (8 : Int32) μ4) ∧ (¬ 8 ≤ (30 - (μ4 22 0 (2 : Int32).toNatClampNeg)) → b_L_swaps_107 n np post a3 a4 ((μ 22 0 (2 : Int32).toNatClampNeg) + r3) (μ4 22 0 (2 : Int32).toNatClampNeg) (a3 >>> (5 &&& 31)) (30 - (μ4 22 0 (2 : Int32).toNatClampNeg)) μ4))) ∧ (r5 = 0 → (w_L_low n np (fun (r43 : Int32) (μ42 : Mem) => b_L_swaps_111 n np post a3 a4 ((μ 22 0 (2 : Int32).toNatClampNeg) + r3) ((μ4 22 0 (2 : Int32).toNatClampNeg) + r43) μ42) (a3 >>> (5 &&& 31)) (30 - (μ4 22 0 (2 : Int32).toNatClampNeg)) μ4)))) a4 (3 : Int32) μ2)) a3 (30 - (μ 22 0 (2 : Int32).toNatClampNeg)) μ)) ∧ ((μ 22 0 (2 : Int32).toNatClampNeg) = 30 → (w_L_swap n np (fun (r45 : Int32) (μ44 : Mem) => ((¬ r45 = (-1000002) → post 0 μ44) ∧ (r45 = (-1000002) → (w_L_shoot n np (fun (r48 : Int32) (μ47 : Mem) => ((¬ r48 = (-1000003) → post 0 μ47) ∧ (r48 = (-1000003) → post 1 μ47))) μ44)))) (29 : Int32) (29 : Int32) μ)))
set_option maxRecDepth 100000 in
set_option maxHeartbeats 4000000 in
theorem c_L_swaps (l : Launch) (hst : l.stackTraces = false) {D : va_G} {ca : Nat → ClassId} {base : Nat} {ad : Nat → Nat → Nat} {n np : Nat} {μ : Mem} {post : Int32 → Mem → Prop} {a3 : Int32} {a4 : Int32} (h : w_L_swaps n np post a3 a4 μ) : ZMet l yL_swaps cL_swaps 11 (some FieldType.boolean) ({ frames := 9, cells := 8, slots := 48, locals := 146 } : Room) 8 48 D ca base ad n np [.ref (ad 30 0), .ref (ad 22 0), .int a3, .int a4] μ (zpi post) := by
  unfold ZMet
  refine Met.ofW (cc := cL_swaps) (maxL := 11) (ret := (some FieldType.boolean)) (by decide) rfl ?_
  intro p e s m args below meth c s₁ B hml hv
  obtain ⟨rfl, hU⟩ := hv
  have hZ := hU.toS
  have hC : ZC p m meth c s RL cL_swaps 11 := ⟨B.exec, B.bytes, hml, findClass_of_methodNamed B.named, B.notSynchronized⟩
  have hr := B.returns
  have key : W p l e ({ frames := 9, cells := 8, slots := 48, locals := 146 } : Room) s m (([.ref (ad 30 0), .ref (ad 22 0), .int a3, .int a4] : List Value).toArray) below meth c s.heap [] 0 0 (MQ below (ZQ D ca base ad n np (zpi post)) (([.ref (ad 30 0), .ref (ad 22 0), .int a3, .int a4] : List Value).toArray) s 8 48 (zB base)) (entryFrame m (([.ref (ad 30 0), .ref (ad 22 0), .int a3, .int a4] : List Value).toArray) 11) := by
    have hl := lv_entry ([.ref (ad 30 0), .ref (ad 22 0), .int a3, .int a4]) (n := 11) (Nat.le_of_ble_eq_true rfl)
    rw [lg_entry_eq]
    generalize (lg_sl ([.ref (ad 30 0), .ref (ad 22 0), .int a3, .int a4]) ++ List.replicate (11 - (lg_sl ([.ref (ad 30 0), .ref (ad 22 0), .int a3, .int a4])).length) Slot.unset).toArray = ls at hl ⊢
    have hl : lv_has ls 11 [(0, .ref (ad 30 0)), (1, .ref (ad 22 0)), (2, .int a3), (3, .int a4)] := hl
    unfold w_L_swaps at h
    refine lv_aload_n hC.1 hC.2.1 dL_swaps_0 rfl (lv_at hl 1 rfl) ?_
    refine lv_iconst (v := 2) hC.1 hC.2.1 dL_swaps_1 (by decide) ?_
    refine aL_22 hC hZ (by unfold vp_in; decide) dL_swaps_2 ?_
    refine lv_bipush (v := 30) hC.1 hC.2.1 dL_swaps_3 (by decide) ?_
    refine lv_icmp_ne (tgt := 36) hC.1 hC.2.1 dL_swaps_5 (by decide) (fun c1 => ?_) (fun c1 => ?_)
    · have h := h.1 c1
      refine lv_aload_n hC.1 hC.2.1 dL_swaps_36 rfl (lv_at hl 1 rfl) ?_
      refine lv_iconst (v := 2) hC.1 hC.2.1 dL_swaps_37 (by decide) ?_
      refine aL_22 hC hZ (by unfold vp_in; decide) dL_swaps_38 ?_
      refine lv_iload_n hC.1 hC.2.1 dL_swaps_39 rfl (lv_at hl 2 rfl) ?_
      refine lv_bipush (v := 30) hC.1 hC.2.1 dL_swaps_40 (by decide) ?_
      refine lv_aload_n hC.1 hC.2.1 dL_swaps_42 rfl (lv_at hl 1 rfl) ?_
      refine lv_iconst (v := 2) hC.1 hC.2.1 dL_swaps_43 (by decide) ?_
      refine aL_22 hC hZ (by unfold vp_in; decide) dL_swaps_44 ?_
      refine lv_isub hC.1 hC.2.1 dL_swaps_45 ?_
      refine z_cSi (As := [.int a3, .int (30 - (μ 22 0 (2 : Int32).toNatClampNeg))]) hC hZ zy_L_low (c_L_low l h) km_L_118 rfl ⟨rfl, rfl⟩ ⟨Nat.le_of_ble_eq_true rfl, Nat.le_of_ble_eq_true rfl⟩ hl.1 rfl (Nat.le_of_ble_eq_true rfl) dL_swaps_46 ⟨by show _ ≤ (8 : Nat); omega, by show _ ≤ (48 : Nat); omega⟩ (fun r3 μ2 H locs h hZ => ?_)
      refine lv_iadd hC.1 hC.2.1 dL_swaps_49 ?_
      refine lv_istore (lv' := [(4, .int ((μ 22 0 (2 : Int32).toNatClampNeg) + r3)), (0, .ref (ad 30 0)), (1, .ref (ad 22 0)), (2, .int a3), (3, .int a4)]) hC.1 hC.2.1 dL_swaps_50 hl (by decide) rfl (fun ls hl => ?_)
      refine lv_iload_n hC.1 hC.2.1 dL_swaps_52 rfl (lv_at hl 4 rfl) ?_
      refine lv_iconst (v := 3) hC.1 hC.2.1 dL_swaps_53 (by decide) ?_
      refine z_cSi (As := [.int a4, .int 3]) hC hZ zy_L_low (c_L_low l h) km_L_118 rfl ⟨rfl, rfl⟩ ⟨Nat.le_of_ble_eq_true rfl, Nat.le_of_ble_eq_true rfl⟩ hl.1 rfl (Nat.le_of_ble_eq_true rfl) dL_swaps_54 ⟨by show _ ≤ (8 : Nat); omega, by show _ ≤ (48 : Nat); omega⟩ (fun r5 μ4 H locs h hZ => ?_)
      refine lv_if_ne (tgt := 79) hC.1 hC.2.1 dL_swaps_57 (by decide) (fun c6 => ?_) (fun c6 => ?_)
      · have h := h.1 c6
        refine lv_aload_n hC.1 hC.2.1 dL_swaps_79 rfl (lv_at hl 2 rfl) ?_
        refine lv_iconst (v := 2) hC.1 hC.2.1 dL_swaps_80 (by decide) ?_
        refine aL_22 hC hZ (by unfold vp_in; decide) dL_swaps_81 ?_
        refine lv_iload_n hC.1 hC.2.1 dL_swaps_82 rfl (lv_at hl 3 rfl) ?_
        refine lv_iconst (v := 5) hC.1 hC.2.1 dL_swaps_83 (by decide) ?_
        refine lv_ishr hC.1 hC.2.1 dL_swaps_84 ?_
        refine lv_bipush (v := 30) hC.1 hC.2.1 dL_swaps_85 (by decide) ?_
        refine lv_aload_n hC.1 hC.2.1 dL_swaps_87 rfl (lv_at hl 2 rfl) ?_
        refine lv_iconst (v := 2) hC.1 hC.2.1 dL_swaps_88 (by decide) ?_
        refine aL_22 hC hZ (by unfold vp_in; decide) dL_swaps_89 ?_
        refine lv_isub hC.1 hC.2.1 dL_swaps_90 ?_
        refine lv_bipush (v := 8) hC.1 hC.2.1 dL_swaps_91 (by decide) ?_
        refine lv_icmp_ge (tgt := 105) hC.1 hC.2.1 dL_swaps_93 (by decide) (fun c7 => ?_) (fun c7 => ?_)
        · have h := h.1 c7
          refine lv_bipush (v := 8) hC.1 hC.2.1 dL_swaps_105 (by decide) ?_
          exact t_L_swaps_107 (l := l) hst hC hr _ _ _ _ _ _ _ _ _ _ _ _ (by show _ ≤ (8 : Nat); omega) (by show _ ≤ (48 : Nat); omega) h hZ (lv_sub hl [1, 2, 4, 0] rfl)
        · have h := h.2 c7
          refine lv_bipush (v := 30) hC.1 hC.2.1 dL_swaps_96 (by decide) ?_
          refine lv_aload_n hC.1 hC.2.1 dL_swaps_98 rfl (lv_at hl 2 rfl) ?_
          refine lv_iconst (v := 2) hC.1 hC.2.1 dL_swaps_99 (by decide) ?_
          refine aL_22 hC hZ (by unfold vp_in; decide) dL_swaps_100 ?_
          refine lv_isub hC.1 hC.2.1 dL_swaps_101 ?_
          refine lv_goto (tgt := 107) hC.1 hC.2.1 dL_swaps_102 (by decide) ?_
          exact t_L_swaps_107 (l := l) hst hC hr _ _ _ _ _ _ _ _ _ _ _ _ (by show _ ≤ (8 : Nat); omega) (by show _ ≤ (48 : Nat); omega) h hZ (lv_sub hl [1, 2, 4, 0] rfl)
      · have h := h.2 c6
        refine lv_aload_n hC.1 hC.2.1 dL_swaps_60 rfl (lv_at hl 2 rfl) ?_
        refine lv_iconst (v := 2) hC.1 hC.2.1 dL_swaps_61 (by decide) ?_
        refine aL_22 hC hZ (by unfold vp_in; decide) dL_swaps_62 ?_
        refine lv_iload_n hC.1 hC.2.1 dL_swaps_63 rfl (lv_at hl 3 rfl) ?_
        refine lv_iconst (v := 5) hC.1 hC.2.1 dL_swaps_64 (by decide) ?_
        refine lv_ishr hC.1 hC.2.1 dL_swaps_65 ?_
        refine lv_bipush (v := 30) hC.1 hC.2.1 dL_swaps_66 (by decide) ?_
        refine lv_aload_n hC.1 hC.2.1 dL_swaps_68 rfl (lv_at hl 2 rfl) ?_
        refine lv_iconst (v := 2) hC.1 hC.2.1 dL_swaps_69 (by decide) ?_
        refine aL_22 hC hZ (by unfold vp_in; decide) dL_swaps_70 ?_
        refine lv_isub hC.1 hC.2.1 dL_swaps_71 ?_
        refine z_cSi (As := [.int (a3 >>> (5 &&& 31)), .int (30 - (μ4 22 0 (2 : Int32).toNatClampNeg))]) hC hZ zy_L_low (c_L_low l h) km_L_118 rfl ⟨rfl, rfl⟩ ⟨Nat.le_of_ble_eq_true rfl, Nat.le_of_ble_eq_true rfl⟩ hl.1 rfl (Nat.le_of_ble_eq_true rfl) dL_swaps_72 ⟨by show _ ≤ (8 : Nat); omega, by show _ ≤ (48 : Nat); omega⟩ (fun r43 μ42 H locs h hZ => ?_)
        refine lv_iadd hC.1 hC.2.1 dL_swaps_75 ?_
        refine lv_goto (tgt := 111) hC.1 hC.2.1 dL_swaps_76 (by decide) ?_
        exact t_L_swaps_111 (l := l) hst hC hr _ _ _ _ _ _ _ _ _ _ (by show _ ≤ (8 : Nat); omega) (by show _ ≤ (48 : Nat); omega) h hZ (lv_sub hl [1, 2, 4, 0] rfl)
    · have h := h.2 c1
      refine lv_aload_n hC.1 hC.2.1 dL_swaps_8 rfl (lv_at hl 0 rfl) ?_
      refine lv_bipush (v := 29) hC.1 hC.2.1 dL_swaps_9 (by decide) ?_
      refine lv_bipush (v := 29) hC.1 hC.2.1 dL_swaps_11 (by decide) ?_
      refine z_cWi (As := [.ref (ad 30 0), .int 29, .int 29]) hC hZ zy_L_swap (c_L_swap l hst h) km_L_135 rfl ⟨rfl, rfl⟩ ⟨Nat.le_of_ble_eq_true rfl, Nat.le_of_ble_eq_true rfl⟩ hl.1 rfl (Nat.le_of_ble_eq_true rfl) dL_swaps_13 ⟨by show _ ≤ (8 : Nat); omega, by show _ ≤ (48 : Nat); omega⟩ (fun r45 μ44 H locs h hZ => ?_)
      refine lv_ldc (v := (-1000002)) hC.1 hC.2.1 hC.2.2.2.1 (hZ.1.2.1.use _ kk_L_18 rfl) dL_swaps_16 ?_
      refine lv_icmp_ne (tgt := 34) hC.1 hC.2.1 dL_swaps_18 (by decide) (fun c46 => ?_) (fun c46 => ?_)
      · have h := h.1 c46
        refine lv_iconst (v := 0) hC.1 hC.2.1 dL_swaps_34 (by decide) ?_
        exact z_bret hC hr hZ (by decide) h dL_swaps_35 (by show _ ≤ (8 : Nat); omega) (by show _ ≤ (48 : Nat); omega)
      · have h := h.2 c46
        refine lv_aload_n hC.1 hC.2.1 dL_swaps_21 rfl (lv_at hl 0 rfl) ?_
        refine z_cWi (As := [.ref (ad 30 0)]) hC hZ zy_L_shoot (c_L_shoot l hst h) km_L_137 rfl ⟨rfl, rfl⟩ ⟨Nat.le_of_ble_eq_true rfl, Nat.le_of_ble_eq_true rfl⟩ hl.1 rfl (Nat.le_of_ble_eq_true rfl) dL_swaps_22 ⟨by show _ ≤ (8 : Nat); omega, by show _ ≤ (48 : Nat); omega⟩ (fun r48 μ47 H locs h hZ => ?_)
        refine lv_ldc (v := (-1000003)) hC.1 hC.2.1 hC.2.2.2.1 (hZ.1.2.1.use _ kk_L_21 rfl) dL_swaps_25 ?_
        refine lv_icmp_ne (tgt := 34) hC.1 hC.2.1 dL_swaps_27 (by decide) (fun c49 => ?_) (fun c49 => ?_)
        · have h := h.1 c49
          refine lv_iconst (v := 0) hC.1 hC.2.1 dL_swaps_34 (by decide) ?_
          exact z_bret hC hr hZ (by decide) h dL_swaps_35 (by show _ ≤ (8 : Nat); omega) (by show _ ≤ (48 : Nat); omega)
        · have h := h.2 c49
          refine lv_iconst (v := 1) hC.1 hC.2.1 dL_swaps_30 (by decide) ?_
          refine lv_goto (tgt := 35) hC.1 hC.2.1 dL_swaps_31 (by decide) ?_
          exact z_bret hC hr hZ (by decide) h dL_swaps_35 (by show _ ≤ (8 : Nat); omega) (by show _ ≤ (48 : Nat); omega)
  exact key
def b_L_betters_323 (n np : Nat) (post : Int32 → Mem → Prop) (k234 : Int32 → Int32 → Int32 → Mem → Prop) (a3 : Int32) (a4 : Int32) (v9 : Int32) (v11 : Int32) (s0 : Int32) (μ : Mem) : Prop := k234 v9 s0 (v11 + 1) μ
set_option maxRecDepth 100000 in
set_option maxHeartbeats 4000000 in
theorem t_L_betters_323 {p : Program} {l : Launch} {e : Env} {s : State} {m : MethodId} {args : Array Value} {below : List Frame} {meth : Method} {c : Code} {D : va_G} {ca : Nat → ClassId} {base : Nat} {ad : Nat → Nat → Nat} {n np : Nat} {post : Int32 → Mem → Prop} {k234 : Int32 → Int32 → Int32 → Mem → Prop} {Kc234 Ks234 : Nat} (hst : l.stackTraces = false) (hC : ZC p m meth c s RL cL_betters 14) (hr : meth.sig.returnType = (some FieldType.boolean)) (a3 : Int32) (a4 : Int32) (hk234 : ∀ (v9 : Int32) (v10 : Int32) (v11 : Int32) (cx dx : Nat) (μ : Mem) (H : Heap) (locs : List Loc) (ls : Array Slot), cx + Kc234 ≤ 26 → dx + Ks234 ≤ 156 → k234 v9 v10 v11 μ → ZS D ca base ad n np μ s H locs → lv_has ls 14 [(0, .ref (ad 30 0)), (1, .ref (ad 22 0)), (2, .int a3), (3, .int a4), (9, .int v9), (10, .int v10), (11, .int v11)] → W p l e ({ frames := 9, cells := 26, slots := 156, locals := 165 } : Room) s m args below meth c H locs cx dx (MQ below (ZQ D ca base ad n np (zpi post)) args s 26 156 (zB base)) (F0 m 234 ls [])) (v9 : Int32) (v11 : Int32) (s0 : Int32) (cx dx : Nat) (μ : Mem) (H : Heap) (locs : List Loc) (ls : Array Slot) (hBc : cx + (0 + Kc234) ≤ 26) (hBs : dx + (0 + Ks234) ≤ 156) (h : b_L_betters_323 n np post k234 a3 a4 v9 v11 s0 μ) (hZ : ZS D ca base ad n np μ s H locs) (hl : lv_has ls 14 [(0, .ref (ad 30 0)), (1, .ref (ad 22 0)), (2, .int a3), (3, .int a4), (9, .int v9), (11, .int v11)]) : W p l e ({ frames := 9, cells := 26, slots := 156, locals := 165 } : Room) s m args below meth c H locs cx dx (MQ below (ZQ D ca base ad n np (zpi post)) args s 26 156 (zB base)) (F0 m 323 ls [.int s0]) := by
  unfold b_L_betters_323 at h
  refine lv_istore (lv' := [(10, .int s0), (0, .ref (ad 30 0)), (1, .ref (ad 22 0)), (2, .int a3), (3, .int a4), (9, .int v9), (11, .int v11)]) hC.1 hC.2.1 dL_betters_323 hl (by decide) rfl (fun ls hl => ?_)
  refine lv_iinc (v := v11 + 1) (lv' := [(11, .int (v11 + 1)), (10, .int s0), (0, .ref (ad 30 0)), (1, .ref (ad 22 0)), (2, .int a3), (3, .int a4), (9, .int v9)]) hC.1 hC.2.1 dL_betters_325 hl (k := 6) rfl rfl (by decide) rfl (fun ls hl => ?_)
  refine lv_goto (tgt := 234) hC.1 hC.2.1 dL_betters_328 (by decide) ?_
  exact hk234 _ _ _ _ _ _ _ _ _ (by show _ ≤ (26 : Nat); omega) (by show _ ≤ (156 : Nat); omega) h hZ (lv_sub hl [2, 3, 4, 5, 6, 1, 0] rfl)
def b_L_betters_322 (n np : Nat) (post : Int32 → Mem → Prop) (k234 : Int32 → Int32 → Int32 → Mem → Prop) (a3 : Int32) (a4 : Int32) (v9 : Int32) (v11 : Int32) (μ : Mem) : Prop := b_L_betters_323 n np post k234 a3 a4 v9 v11 (0 : Int32) μ
set_option maxRecDepth 100000 in
set_option maxHeartbeats 4000000 in
theorem t_L_betters_322 {p : Program} {l : Launch} {e : Env} {s : State} {m : MethodId} {args : Array Value} {below : List Frame} {meth : Method} {c : Code} {D : va_G} {ca : Nat → ClassId} {base : Nat} {ad : Nat → Nat → Nat} {n np : Nat} {post : Int32 → Mem → Prop} {k234 : Int32 → Int32 → Int32 → Mem → Prop} {Kc234 Ks234 : Nat} (hst : l.stackTraces = false) (hC : ZC p m meth c s RL cL_betters 14) (hr : meth.sig.returnType = (some FieldType.boolean)) (a3 : Int32) (a4 : Int32) (hk234 : ∀ (v9 : Int32) (v10 : Int32) (v11 : Int32) (cx dx : Nat) (μ : Mem) (H : Heap) (locs : List Loc) (ls : Array Slot), cx + Kc234 ≤ 26 → dx + Ks234 ≤ 156 → k234 v9 v10 v11 μ → ZS D ca base ad n np μ s H locs → lv_has ls 14 [(0, .ref (ad 30 0)), (1, .ref (ad 22 0)), (2, .int a3), (3, .int a4), (9, .int v9), (10, .int v10), (11, .int v11)] → W p l e ({ frames := 9, cells := 26, slots := 156, locals := 165 } : Room) s m args below meth c H locs cx dx (MQ below (ZQ D ca base ad n np (zpi post)) args s 26 156 (zB base)) (F0 m 234 ls [])) (v9 : Int32) (v11 : Int32) (cx dx : Nat) (μ : Mem) (H : Heap) (locs : List Loc) (ls : Array Slot) (hBc : cx + (0 + Kc234) ≤ 26) (hBs : dx + (0 + Ks234) ≤ 156) (h : b_L_betters_322 n np post k234 a3 a4 v9 v11 μ) (hZ : ZS D ca base ad n np μ s H locs) (hl : lv_has ls 14 [(0, .ref (ad 30 0)), (1, .ref (ad 22 0)), (2, .int a3), (3, .int a4), (9, .int v9), (11, .int v11)]) : W p l e ({ frames := 9, cells := 26, slots := 156, locals := 165 } : Room) s m args below meth c H locs cx dx (MQ below (ZQ D ca base ad n np (zpi post)) args s 26 156 (zB base)) (F0 m 322 ls []) := by
  unfold b_L_betters_322 at h
  refine lv_iconst (v := 0) hC.1 hC.2.1 dL_betters_322 (by decide) ?_
  exact t_L_betters_323 (l := l) hst hC hr _ _ hk234 _ _ _ _ _ _ _ _ _ (by show _ ≤ (26 : Nat); omega) (by show _ ≤ (156 : Nat); omega) h hZ (lv_sub hl [0, 1, 2, 3, 4, 5] rfl)
def lb_L_betters_234 (n np : Nat) (post : Int32 → Mem → Prop) (k234 : Int32 → Int32 → Int32 → Mem → Prop) (a3 : Int32) (a4 : Int32) (v9 : Int32) (v10 : Int32) (v11 : Int32) (μ : Mem) : Prop := ((6 ≤ v11 → ((v10 = 0 ∨ v10 = 1) ∧ post v10 μ)) ∧ (¬ 6 ≤ v11 → ((v10 = 0 → ((v10 = 0 ∨ v10 = 1) ∧ post v10 μ)) ∧ (¬ v10 = 0 → ((30 ≤ (μ 22 0 (2 : Int32).toNatClampNeg) → ((v10 = 0 ∨ v10 = 1) ∧ post v10 μ)) ∧ (¬ 30 ≤ (μ 22 0 (2 : Int32).toNatClampNeg) → (w_L_low n np (fun (r29 : Int32) (μ28 : Mem) => (w_L_low n np (fun (r31 : Int32) (μ30 : Mem) => (w_L_swap n np (fun (r33 : Int32) (μ32 : Mem) => ((r33 < v9 → b_L_betters_322 n np post k234 a3 a4 v9 v11 μ32) ∧ (¬ r33 < v9 → (w_L_swap n np (fun (r36 : Int32) (μ35 : Mem) => ((¬ r36 = v9 → b_L_betters_322 n np post k234 a3 a4 v9 v11 μ35) ∧ (r36 = v9 → b_L_betters_323 n np post k234 a3 a4 v9 v11 (1 : Int32) μ35))) ((μ 22 0 (2 : Int32).toNatClampNeg) + r29) ((μ28 22 0 (2 : Int32).toNatClampNeg) + r31) μ32)))) ((μ 22 0 (2 : Int32).toNatClampNeg) + r29) ((μ28 22 0 (2 : Int32).toNatClampNeg) + r31) μ30)) (a3 >>> (v11 &&& 31)) (30 - (μ28 22 0 (2 : Int32).toNatClampNeg)) μ28)) (a4 >>> (v11 &&& 31)) (30 - (μ 22 0 (2 : Int32).toNatClampNeg)) μ)))))))
def l_L_betters_234 (n np : Nat) (post : Int32 → Mem → Prop) (a3 : Int32) (a4 : Int32) : Nat → Int32 → Int32 → Int32 → Mem → Prop
  | 0 => fun _ _ _ _ => False
  | fuel + 1 => lb_L_betters_234 n np post (l_L_betters_234 n np post a3 a4 fuel) a3 a4 
set_option maxRecDepth 100000 in
set_option maxHeartbeats 4000000 in
theorem t_L_betters_234 {p : Program} {l : Launch} {e : Env} {s : State} {m : MethodId} {args : Array Value} {below : List Frame} {meth : Method} {c : Code} {D : va_G} {ca : Nat → ClassId} {base : Nat} {ad : Nat → Nat → Nat} {n np : Nat} {post : Int32 → Mem → Prop} (hst : l.stackTraces = false) (hC : ZC p m meth c s RL cL_betters 14) (hr : meth.sig.returnType = (some FieldType.boolean)) (a3 : Int32) (a4 : Int32) : ∀ (fuel : Nat) (v9 : Int32) (v10 : Int32) (v11 : Int32) (cx dx : Nat) (μ : Mem) (H : Heap) (locs : List Loc) (ls : Array Slot), cx + (fuel * 2 + (0)) ≤ 26 → dx + (fuel * 12 + (0)) ≤ 156 → l_L_betters_234 n np post a3 a4 fuel v9 v10 v11 μ → ZS D ca base ad n np μ s H locs → lv_has ls 14 [(0, .ref (ad 30 0)), (1, .ref (ad 22 0)), (2, .int a3), (3, .int a4), (9, .int v9), (10, .int v10), (11, .int v11)] → W p l e ({ frames := 9, cells := 26, slots := 156, locals := 165 } : Room) s m args below meth c H locs cx dx (MQ below (ZQ D ca base ad n np (zpi post)) args s 26 156 (zB base)) (F0 m 234 ls []) := by
  intro fuel
  induction fuel with
  | zero => exact fun _ _ _ _ _ _ _ _ _ _ _ h => h.elim
  | succ fuel hk234 =>
    intro v9 v10 v11 cx dx μ H locs ls hBc hBs h hZ hl
    have h : lb_L_betters_234 n np post (l_L_betters_234 n np post a3 a4 fuel) a3 a4 v9 v10 v11 μ := h
    unfold lb_L_betters_234 at h
    refine lv_iload hC.1 hC.2.1 dL_betters_234 (lv_at hl 6 rfl) ?_
    refine lv_bipush (v := 6) hC.1 hC.2.1 dL_betters_236 (by decide) ?_
    refine lv_icmp_ge (tgt := 331) hC.1 hC.2.1 dL_betters_238 (by decide) (fun c22 => ?_) (fun c22 => ?_)
    · have h := h.1 c22
      refine lv_iload hC.1 hC.2.1 dL_betters_331 (lv_at hl 5 rfl) ?_
      obtain ⟨q23, h⟩ := h
      exact z_bret hC hr hZ q23 h dL_betters_333 (by show _ ≤ (26 : Nat); omega) (by show _ ≤ (156 : Nat); omega)
    · have h := h.2 c22
      refine lv_iload hC.1 hC.2.1 dL_betters_241 (lv_at hl 5 rfl) ?_
      refine lv_if_eq (tgt := 331) hC.1 hC.2.1 dL_betters_243 (by decide) (fun c24 => ?_) (fun c24 => ?_)
      · have h := h.1 c24
        refine lv_iload hC.1 hC.2.1 dL_betters_331 (lv_at hl 5 rfl) ?_
        obtain ⟨q25, h⟩ := h
        exact z_bret hC hr hZ q25 h dL_betters_333 (by show _ ≤ (26 : Nat); omega) (by show _ ≤ (156 : Nat); omega)
      · have h := h.2 c24
        refine lv_aload_n hC.1 hC.2.1 dL_betters_246 rfl (lv_at hl 1 rfl) ?_
        refine lv_iconst (v := 2) hC.1 hC.2.1 dL_betters_247 (by decide) ?_
        refine aL_22 hC hZ (by unfold vp_in; decide) dL_betters_248 ?_
        refine lv_bipush (v := 30) hC.1 hC.2.1 dL_betters_249 (by decide) ?_
        refine lv_icmp_ge (tgt := 331) hC.1 hC.2.1 dL_betters_251 (by decide) (fun c26 => ?_) (fun c26 => ?_)
        · have h := h.1 c26
          refine lv_iload hC.1 hC.2.1 dL_betters_331 (lv_at hl 5 rfl) ?_
          obtain ⟨q27, h⟩ := h
          exact z_bret hC hr hZ q27 h dL_betters_333 (by show _ ≤ (26 : Nat); omega) (by show _ ≤ (156 : Nat); omega)
        · have h := h.2 c26
          refine lv_aload_n hC.1 hC.2.1 dL_betters_254 rfl (lv_at hl 1 rfl) ?_
          refine lv_iconst (v := 2) hC.1 hC.2.1 dL_betters_255 (by decide) ?_
          refine aL_22 hC hZ (by unfold vp_in; decide) dL_betters_256 ?_
          refine lv_iload_n hC.1 hC.2.1 dL_betters_257 rfl (lv_at hl 3 rfl) ?_
          refine lv_iload hC.1 hC.2.1 dL_betters_258 (lv_at hl 6 rfl) ?_
          refine lv_ishr hC.1 hC.2.1 dL_betters_260 ?_
          refine lv_bipush (v := 30) hC.1 hC.2.1 dL_betters_261 (by decide) ?_
          refine lv_aload_n hC.1 hC.2.1 dL_betters_263 rfl (lv_at hl 1 rfl) ?_
          refine lv_iconst (v := 2) hC.1 hC.2.1 dL_betters_264 (by decide) ?_
          refine aL_22 hC hZ (by unfold vp_in; decide) dL_betters_265 ?_
          refine lv_isub hC.1 hC.2.1 dL_betters_266 ?_
          refine z_cSi (As := [.int (a4 >>> (v11 &&& 31)), .int (30 - (μ 22 0 (2 : Int32).toNatClampNeg))]) hC hZ zy_L_low (c_L_low l h) km_L_118 rfl ⟨rfl, rfl⟩ ⟨Nat.le_of_ble_eq_true rfl, Nat.le_of_ble_eq_true rfl⟩ hl.1 rfl (Nat.le_of_ble_eq_true rfl) dL_betters_267 ⟨by show _ ≤ (26 : Nat); omega, by show _ ≤ (156 : Nat); omega⟩ (fun r29 μ28 H locs h hZ => ?_)
          refine lv_iadd hC.1 hC.2.1 dL_betters_270 ?_
          refine lv_istore (lv' := [(12, .int ((μ 22 0 (2 : Int32).toNatClampNeg) + r29)), (0, .ref (ad 30 0)), (1, .ref (ad 22 0)), (2, .int a3), (3, .int a4), (9, .int v9), (10, .int v10), (11, .int v11)]) hC.1 hC.2.1 dL_betters_271 hl (by decide) rfl (fun ls hl => ?_)
          refine lv_aload_n hC.1 hC.2.1 dL_betters_273 rfl (lv_at hl 2 rfl) ?_
          refine lv_iconst (v := 2) hC.1 hC.2.1 dL_betters_274 (by decide) ?_
          refine aL_22 hC hZ (by unfold vp_in; decide) dL_betters_275 ?_
          refine lv_iload_n hC.1 hC.2.1 dL_betters_276 rfl (lv_at hl 3 rfl) ?_
          refine lv_iload hC.1 hC.2.1 dL_betters_277 (lv_at hl 7 rfl) ?_
          refine lv_ishr hC.1 hC.2.1 dL_betters_279 ?_
          refine lv_bipush (v := 30) hC.1 hC.2.1 dL_betters_280 (by decide) ?_
          refine lv_aload_n hC.1 hC.2.1 dL_betters_282 rfl (lv_at hl 2 rfl) ?_
          refine lv_iconst (v := 2) hC.1 hC.2.1 dL_betters_283 (by decide) ?_
          refine aL_22 hC hZ (by unfold vp_in; decide) dL_betters_284 ?_
          refine lv_isub hC.1 hC.2.1 dL_betters_285 ?_
          refine z_cSi (As := [.int (a3 >>> (v11 &&& 31)), .int (30 - (μ28 22 0 (2 : Int32).toNatClampNeg))]) hC hZ zy_L_low (c_L_low l h) km_L_118 rfl ⟨rfl, rfl⟩ ⟨Nat.le_of_ble_eq_true rfl, Nat.le_of_ble_eq_true rfl⟩ hl.1 rfl (Nat.le_of_ble_eq_true rfl) dL_betters_286 ⟨by show _ ≤ (26 : Nat); omega, by show _ ≤ (156 : Nat); omega⟩ (fun r31 μ30 H locs h hZ => ?_)
          refine lv_iadd hC.1 hC.2.1 dL_betters_289 ?_
          refine lv_istore (lv' := [(13, .int ((μ28 22 0 (2 : Int32).toNatClampNeg) + r31)), (12, .int ((μ 22 0 (2 : Int32).toNatClampNeg) + r29)), (0, .ref (ad 30 0)), (1, .ref (ad 22 0)), (2, .int a3), (3, .int a4), (9, .int v9), (10, .int v10), (11, .int v11)]) hC.1 hC.2.1 dL_betters_290 hl (by decide) rfl (fun ls hl => ?_)
          refine lv_aload_n hC.1 hC.2.1 dL_betters_292 rfl (lv_at hl 2 rfl) ?_
          refine lv_iload hC.1 hC.2.1 dL_betters_293 (lv_at hl 1 rfl) ?_
          refine lv_iload hC.1 hC.2.1 dL_betters_295 (lv_at hl 0 rfl) ?_
          refine z_cWi (As := [.ref (ad 30 0), .int ((μ 22 0 (2 : Int32).toNatClampNeg) + r29), .int ((μ28 22 0 (2 : Int32).toNatClampNeg) + r31)]) hC hZ zy_L_swap (c_L_swap l hst h) km_L_135 rfl ⟨rfl, rfl⟩ ⟨Nat.le_of_ble_eq_true rfl, Nat.le_of_ble_eq_true rfl⟩ hl.1 rfl (Nat.le_of_ble_eq_true rfl) dL_betters_297 ⟨by show _ ≤ (26 : Nat); omega, by show _ ≤ (156 : Nat); omega⟩ (fun r33 μ32 H locs h hZ => ?_)
          refine lv_iload hC.1 hC.2.1 dL_betters_300 (lv_at hl 6 rfl) ?_
          refine lv_icmp_lt (tgt := 322) hC.1 hC.2.1 dL_betters_302 (by decide) (fun c34 => ?_) (fun c34 => ?_)
          · have h := h.1 c34
            exact t_L_betters_322 (l := l) hst hC hr _ _ hk234 _ _ _ _ _ _ _ _ (by show _ ≤ (26 : Nat); omega) (by show _ ≤ (156 : Nat); omega) h hZ (lv_sub hl [2, 3, 4, 5, 6, 8] rfl)
          · have h := h.2 c34
            refine lv_aload_n hC.1 hC.2.1 dL_betters_305 rfl (lv_at hl 2 rfl) ?_
            refine lv_iload hC.1 hC.2.1 dL_betters_306 (lv_at hl 1 rfl) ?_
            refine lv_iload hC.1 hC.2.1 dL_betters_308 (lv_at hl 0 rfl) ?_
            refine z_cWi (As := [.ref (ad 30 0), .int ((μ 22 0 (2 : Int32).toNatClampNeg) + r29), .int ((μ28 22 0 (2 : Int32).toNatClampNeg) + r31)]) hC hZ zy_L_swap (c_L_swap l hst h) km_L_135 rfl ⟨rfl, rfl⟩ ⟨Nat.le_of_ble_eq_true rfl, Nat.le_of_ble_eq_true rfl⟩ hl.1 rfl (Nat.le_of_ble_eq_true rfl) dL_betters_310 ⟨by show _ ≤ (26 : Nat); omega, by show _ ≤ (156 : Nat); omega⟩ (fun r36 μ35 H locs h hZ => ?_)
            refine lv_iload hC.1 hC.2.1 dL_betters_313 (lv_at hl 6 rfl) ?_
            refine lv_icmp_ne (tgt := 322) hC.1 hC.2.1 dL_betters_315 (by decide) (fun c37 => ?_) (fun c37 => ?_)
            · have h := h.1 c37
              exact t_L_betters_322 (l := l) hst hC hr _ _ hk234 _ _ _ _ _ _ _ _ (by show _ ≤ (26 : Nat); omega) (by show _ ≤ (156 : Nat); omega) h hZ (lv_sub hl [2, 3, 4, 5, 6, 8] rfl)
            · have h := h.2 c37
              refine lv_iconst (v := 1) hC.1 hC.2.1 dL_betters_318 (by decide) ?_
              refine lv_goto (tgt := 323) hC.1 hC.2.1 dL_betters_319 (by decide) ?_
              exact t_L_betters_323 (l := l) hst hC hr _ _ hk234 _ _ _ _ _ _ _ _ _ (by show _ ≤ (26 : Nat); omega) (by show _ ≤ (156 : Nat); omega) h hZ (lv_sub hl [2, 3, 4, 5, 6, 8] rfl)
def b_L_betters_229 (n np : Nat) (post : Int32 → Mem → Prop) (a3 : Int32) (a4 : Int32) (v9 : Int32) (s0 : Int32) (μ : Mem) : Prop := (∃ fuel : Nat, fuel ≤ 7 ∧ l_L_betters_234 n np post a3 a4 fuel v9 s0 (0 : Int32) μ)
set_option maxRecDepth 100000 in
set_option maxHeartbeats 4000000 in
theorem t_L_betters_229 {p : Program} {l : Launch} {e : Env} {s : State} {m : MethodId} {args : Array Value} {below : List Frame} {meth : Method} {c : Code} {D : va_G} {ca : Nat → ClassId} {base : Nat} {ad : Nat → Nat → Nat} {n np : Nat} {post : Int32 → Mem → Prop} (hst : l.stackTraces = false) (hC : ZC p m meth c s RL cL_betters 14) (hr : meth.sig.returnType = (some FieldType.boolean)) (a3 : Int32) (a4 : Int32) (v9 : Int32) (s0 : Int32) (cx dx : Nat) (μ : Mem) (H : Heap) (locs : List Loc) (ls : Array Slot) (hBc : cx + (14) ≤ 26) (hBs : dx + (84) ≤ 156) (h : b_L_betters_229 n np post a3 a4 v9 s0 μ) (hZ : ZS D ca base ad n np μ s H locs) (hl : lv_has ls 14 [(0, .ref (ad 30 0)), (1, .ref (ad 22 0)), (2, .int a3), (3, .int a4), (9, .int v9)]) : W p l e ({ frames := 9, cells := 26, slots := 156, locals := 165 } : Room) s m args below meth c H locs cx dx (MQ below (ZQ D ca base ad n np (zpi post)) args s 26 156 (zB base)) (F0 m 229 ls [.int s0]) := by
  unfold b_L_betters_229 at h
  refine lv_istore (lv' := [(10, .int s0), (0, .ref (ad 30 0)), (1, .ref (ad 22 0)), (2, .int a3), (3, .int a4), (9, .int v9)]) hC.1 hC.2.1 dL_betters_229 hl (by decide) rfl (fun ls hl => ?_)
  refine lv_iconst (v := 0) hC.1 hC.2.1 dL_betters_231 (by decide) ?_
  refine lv_istore (lv' := [(11, .int 0), (10, .int s0), (0, .ref (ad 30 0)), (1, .ref (ad 22 0)), (2, .int a3), (3, .int a4), (9, .int v9)]) hC.1 hC.2.1 dL_betters_232 hl (by decide) rfl (fun ls hl => ?_)
  obtain ⟨fuel, hfu, h⟩ := h
  exact t_L_betters_234 (l := l) hst hC hr _ _ _ _ _ _ _ _ _ _ _ _ (by show _ ≤ (26 : Nat); omega) (by show _ ≤ (156 : Nat); omega) h hZ (lv_sub hl [2, 3, 4, 5, 6, 1, 0] rfl)
def b_L_betters_228 (n np : Nat) (post : Int32 → Mem → Prop) (a3 : Int32) (a4 : Int32) (v9 : Int32) (μ : Mem) : Prop := b_L_betters_229 n np post a3 a4 v9 (0 : Int32) μ
set_option maxRecDepth 100000 in
set_option maxHeartbeats 4000000 in
theorem t_L_betters_228 {p : Program} {l : Launch} {e : Env} {s : State} {m : MethodId} {args : Array Value} {below : List Frame} {meth : Method} {c : Code} {D : va_G} {ca : Nat → ClassId} {base : Nat} {ad : Nat → Nat → Nat} {n np : Nat} {post : Int32 → Mem → Prop} (hst : l.stackTraces = false) (hC : ZC p m meth c s RL cL_betters 14) (hr : meth.sig.returnType = (some FieldType.boolean)) (a3 : Int32) (a4 : Int32) (v9 : Int32) (cx dx : Nat) (μ : Mem) (H : Heap) (locs : List Loc) (ls : Array Slot) (hBc : cx + (14) ≤ 26) (hBs : dx + (84) ≤ 156) (h : b_L_betters_228 n np post a3 a4 v9 μ) (hZ : ZS D ca base ad n np μ s H locs) (hl : lv_has ls 14 [(0, .ref (ad 30 0)), (1, .ref (ad 22 0)), (2, .int a3), (3, .int a4), (9, .int v9)]) : W p l e ({ frames := 9, cells := 26, slots := 156, locals := 165 } : Room) s m args below meth c H locs cx dx (MQ below (ZQ D ca base ad n np (zpi post)) args s 26 156 (zB base)) (F0 m 228 ls []) := by
  unfold b_L_betters_228 at h
  refine lv_iconst (v := 0) hC.1 hC.2.1 dL_betters_228 (by decide) ?_
  exact t_L_betters_229 (l := l) hst hC hr _ _ _ _ _ _ _ _ _ _ (by show _ ≤ (26 : Nat); omega) (by show _ ≤ (156 : Nat); omega) h hZ (lv_sub hl [0, 1, 2, 3, 4] rfl)
def b_L_betters_208 (n np : Nat) (post : Int32 → Mem → Prop) (a3 : Int32) (a4 : Int32) (v9 : Int32) (μ : Mem) : Prop := (w_X4_better n np (fun (r41 : Int32) (μ40 : Mem) => (∃ μ40g : Mem, gs μ40 μ40g ∧ ((¬ r41 = 0 → b_L_betters_228 n np post a3 a4 v9 μ40g) ∧ (r41 = 0 → (w_X4_cost n np (fun (r44 : Int32) (μ43 : Mem) => (∃ μ43g : Mem, gs μ43 μ43g ∧ ((¬ r44 = v9 → b_L_betters_228 n np post a3 a4 v9 μ43g) ∧ (r44 = v9 → b_L_betters_229 n np post a3 a4 v9 (1 : Int32) μ43g)))) μ40g))))) μ)
set_option maxRecDepth 100000 in
set_option maxHeartbeats 4000000 in
theorem t_L_betters_208 {p : Program} {l : Launch} {e : Env} {s : State} {m : MethodId} {args : Array Value} {below : List Frame} {meth : Method} {c : Code} {D : va_G} {ca : Nat → ClassId} {base : Nat} {ad : Nat → Nat → Nat} {n np : Nat} {post : Int32 → Mem → Prop} (hst : l.stackTraces = false) (hC : ZC p m meth c s RL cL_betters 14) (hr : meth.sig.returnType = (some FieldType.boolean)) (a3 : Int32) (a4 : Int32) (v9 : Int32) (cx dx : Nat) (μ : Mem) (H : Heap) (locs : List Loc) (ls : Array Slot) (hBc : cx + (14) ≤ 26) (hBs : dx + (84) ≤ 156) (h : b_L_betters_208 n np post a3 a4 v9 μ) (hZ : ZS D ca base ad n np μ s H locs) (hl : lv_has ls 14 [(0, .ref (ad 30 0)), (1, .ref (ad 22 0)), (2, .int a3), (3, .int a4), (9, .int v9)]) : W p l e ({ frames := 9, cells := 26, slots := 156, locals := 165 } : Room) s m args below meth c H locs cx dx (MQ below (ZQ D ca base ad n np (zpi post)) args s 26 156 (zB base)) (F0 m 208 ls []) := by
  unfold b_L_betters_208 at h
  refine lv_aload_n hC.1 hC.2.1 dL_betters_208 rfl (lv_at hl 0 rfl) ?_
  refine z_cVi (As := []) hC hZ (zF_30 _) rfl zy_X4_better (c_X4_better l h) km_L_145 rfl ⟨rfl, rfl⟩ ⟨Nat.le_of_ble_eq_true rfl, Nat.le_of_ble_eq_true rfl⟩ hl.1 rfl (Nat.le_of_ble_eq_true rfl) dL_betters_209 ⟨by show _ ≤ (26 : Nat); omega, by show _ ≤ (156 : Nat); omega⟩ (fun r41 μ40 H locs h hZ => ?_)
  obtain ⟨μ40g, hgs, h⟩ := h
  have hZ := hZ.gs hgs
  refine lv_if_ne (tgt := 228) hC.1 hC.2.1 dL_betters_212 (by decide) (fun c42 => ?_) (fun c42 => ?_)
  · have h := h.1 c42
    exact t_L_betters_228 (l := l) hst hC hr _ _ _ _ _ _ _ _ _ (by show _ ≤ (26 : Nat); omega) (by show _ ≤ (156 : Nat); omega) h hZ (lv_sub hl [0, 1, 2, 3, 4] rfl)
  · have h := h.2 c42
    refine lv_aload_n hC.1 hC.2.1 dL_betters_215 rfl (lv_at hl 0 rfl) ?_
    refine z_cVi (As := []) hC hZ (zF_30 _) rfl zy_X4_cost (c_X4_cost l h) km_L_111 rfl ⟨rfl, rfl⟩ ⟨Nat.le_of_ble_eq_true rfl, Nat.le_of_ble_eq_true rfl⟩ hl.1 rfl (Nat.le_of_ble_eq_true rfl) dL_betters_216 ⟨by show _ ≤ (26 : Nat); omega, by show _ ≤ (156 : Nat); omega⟩ (fun r44 μ43 H locs h hZ => ?_)
    obtain ⟨μ43g, hgs, h⟩ := h
    have hZ := hZ.gs hgs
    refine lv_iload hC.1 hC.2.1 dL_betters_219 (lv_at hl 4 rfl) ?_
    refine lv_icmp_ne (tgt := 228) hC.1 hC.2.1 dL_betters_221 (by decide) (fun c45 => ?_) (fun c45 => ?_)
    · have h := h.1 c45
      exact t_L_betters_228 (l := l) hst hC hr _ _ _ _ _ _ _ _ _ (by show _ ≤ (26 : Nat); omega) (by show _ ≤ (156 : Nat); omega) h hZ (lv_sub hl [0, 1, 2, 3, 4] rfl)
    · have h := h.2 c45
      refine lv_iconst (v := 1) hC.1 hC.2.1 dL_betters_224 (by decide) ?_
      refine lv_goto (tgt := 229) hC.1 hC.2.1 dL_betters_225 (by decide) ?_
      exact t_L_betters_229 (l := l) hst hC hr _ _ _ _ _ _ _ _ _ _ (by show _ ≤ (26 : Nat); omega) (by show _ ≤ (156 : Nat); omega) h hZ (lv_sub hl [0, 1, 2, 3, 4] rfl)
def b_L_betters_145 (n np : Nat) (post : Int32 → Mem → Prop) (a3 : Int32) (a4 : Int32) (v4 : Int32) (μ : Mem) : Prop := (w_L_low n np (fun (r15 : Int32) (μ14 : Mem) => ((¬ r15 = 1 → (w_X4_better n np (fun (r18 : Int32) (μ17 : Mem) => (∃ μ17g : Mem, gs μ17 μ17g ∧ (w_X4_cost n np (fun (r20 : Int32) (μ19 : Mem) => (∃ μ19g : Mem, gs μ19 μ19g ∧ ((r18 < 0 → b_L_betters_228 n np post a3 a4 r20 μ19g) ∧ (¬ r18 < 0 → ((¬ r18 = 0 → ((v4 ≤ r20 → b_L_betters_228 n np post a3 a4 r20 μ19g) ∧ (¬ v4 ≤ r20 → b_L_betters_208 n np post a3 a4 r20 μ19g))) ∧ (r18 = 0 → ((¬ r20 = v4 → b_L_betters_228 n np post a3 a4 r20 μ19g) ∧ (r20 = v4 → b_L_betters_208 n np post a3 a4 r20 μ19g)))))))) μ17g))) μ14)) ∧ (r15 = 1 → (w_X4_cost n np (fun (r48 : Int32) (μ47 : Mem) => (∃ μ47g : Mem, gs μ47 μ47g ∧ ((¬ r48 = v4 → post 0 μ47g) ∧ (r48 = v4 → post 1 μ47g)))) μ14)))) a3 (3 : Int32) μ)
set_option maxRecDepth 100000 in
set_option maxHeartbeats 4000000 in
theorem t_L_betters_145 {p : Program} {l : Launch} {e : Env} {s : State} {m : MethodId} {args : Array Value} {below : List Frame} {meth : Method} {c : Code} {D : va_G} {ca : Nat → ClassId} {base : Nat} {ad : Nat → Nat → Nat} {n np : Nat} {post : Int32 → Mem → Prop} (hst : l.stackTraces = false) (hC : ZC p m meth c s RL cL_betters 14) (hr : meth.sig.returnType = (some FieldType.boolean)) (a3 : Int32) (a4 : Int32) (v4 : Int32) (cx dx : Nat) (μ : Mem) (H : Heap) (locs : List Loc) (ls : Array Slot) (hBc : cx + (14) ≤ 26) (hBs : dx + (84) ≤ 156) (h : b_L_betters_145 n np post a3 a4 v4 μ) (hZ : ZS D ca base ad n np μ s H locs) (hl : lv_has ls 14 [(0, .ref (ad 30 0)), (1, .ref (ad 22 0)), (2, .int a3), (3, .int a4), (4, .int v4)]) : W p l e ({ frames := 9, cells := 26, slots := 156, locals := 165 } : Room) s m args below meth c H locs cx dx (MQ below (ZQ D ca base ad n np (zpi post)) args s 26 156 (zB base)) (F0 m 145 ls []) := by
  unfold b_L_betters_145 at h
  refine lv_iload_n hC.1 hC.2.1 dL_betters_145 rfl (lv_at hl 2 rfl) ?_
  refine lv_iconst (v := 3) hC.1 hC.2.1 dL_betters_146 (by decide) ?_
  refine z_cSi (As := [.int a3, .int 3]) hC hZ zy_L_low (c_L_low l h) km_L_118 rfl ⟨rfl, rfl⟩ ⟨Nat.le_of_ble_eq_true rfl, Nat.le_of_ble_eq_true rfl⟩ hl.1 rfl (Nat.le_of_ble_eq_true rfl) dL_betters_147 ⟨by show _ ≤ (26 : Nat); omega, by show _ ≤ (156 : Nat); omega⟩ (fun r15 μ14 H locs h hZ => ?_)
  refine lv_iconst (v := 1) hC.1 hC.2.1 dL_betters_150 (by decide) ?_
  refine lv_icmp_ne (tgt := 169) hC.1 hC.2.1 dL_betters_151 (by decide) (fun c16 => ?_) (fun c16 => ?_)
  · have h := h.1 c16
    refine lv_aload_n hC.1 hC.2.1 dL_betters_169 rfl (lv_at hl 0 rfl) ?_
    refine z_cVi (As := []) hC hZ (zF_30 _) rfl zy_X4_better (c_X4_better l h) km_L_145 rfl ⟨rfl, rfl⟩ ⟨Nat.le_of_ble_eq_true rfl, Nat.le_of_ble_eq_true rfl⟩ hl.1 rfl (Nat.le_of_ble_eq_true rfl) dL_betters_170 ⟨by show _ ≤ (26 : Nat); omega, by show _ ≤ (156 : Nat); omega⟩ (fun r18 μ17 H locs h hZ => ?_)
    obtain ⟨μ17g, hgs, h⟩ := h
    have hZ := hZ.gs hgs
    refine lv_istore (lv' := [(8, .int r18), (0, .ref (ad 30 0)), (1, .ref (ad 22 0)), (2, .int a3), (3, .int a4), (4, .int v4)]) hC.1 hC.2.1 dL_betters_173 hl (by decide) rfl (fun ls hl => ?_)
    refine lv_aload_n hC.1 hC.2.1 dL_betters_175 rfl (lv_at hl 1 rfl) ?_
    refine z_cVi (As := []) hC hZ (zF_30 _) rfl zy_X4_cost (c_X4_cost l h) km_L_111 rfl ⟨rfl, rfl⟩ ⟨Nat.le_of_ble_eq_true rfl, Nat.le_of_ble_eq_true rfl⟩ hl.1 rfl (Nat.le_of_ble_eq_true rfl) dL_betters_176 ⟨by show _ ≤ (26 : Nat); omega, by show _ ≤ (156 : Nat); omega⟩ (fun r20 μ19 H locs h hZ => ?_)
    obtain ⟨μ19g, hgs, h⟩ := h
    have hZ := hZ.gs hgs
    refine lv_istore (lv' := [(9, .int r20), (8, .int r18), (0, .ref (ad 30 0)), (1, .ref (ad 22 0)), (2, .int a3), (3, .int a4), (4, .int v4)]) hC.1 hC.2.1 dL_betters_179 hl (by decide) rfl (fun ls hl => ?_)
    refine lv_iload hC.1 hC.2.1 dL_betters_181 (lv_at hl 1 rfl) ?_
    refine lv_if_lt (tgt := 228) hC.1 hC.2.1 dL_betters_183 (by decide) (fun c21 => ?_) (fun c21 => ?_)
    · have h := h.1 c21
      exact t_L_betters_228 (l := l) hst hC hr _ _ _ _ _ _ _ _ _ (by show _ ≤ (26 : Nat); omega) (by show _ ≤ (156 : Nat); omega) h hZ (lv_sub hl [2, 3, 4, 5, 0] rfl)
    · have h := h.2 c21
      refine lv_iload hC.1 hC.2.1 dL_betters_186 (lv_at hl 1 rfl) ?_
      refine lv_if_ne (tgt := 201) hC.1 hC.2.1 dL_betters_188 (by decide) (fun c38 => ?_) (fun c38 => ?_)
      · have h := h.1 c38
        refine lv_iload hC.1 hC.2.1 dL_betters_201 (lv_at hl 0 rfl) ?_
        refine lv_iload hC.1 hC.2.1 dL_betters_203 (lv_at hl 6 rfl) ?_
        refine lv_icmp_ge (tgt := 228) hC.1 hC.2.1 dL_betters_205 (by decide) (fun c39 => ?_) (fun c39 => ?_)
        · have h := h.1 c39
          exact t_L_betters_228 (l := l) hst hC hr _ _ _ _ _ _ _ _ _ (by show _ ≤ (26 : Nat); omega) (by show _ ≤ (156 : Nat); omega) h hZ (lv_sub hl [2, 3, 4, 5, 0] rfl)
        · have h := h.2 c39
          exact t_L_betters_208 (l := l) hst hC hr _ _ _ _ _ _ _ _ _ (by show _ ≤ (26 : Nat); omega) (by show _ ≤ (156 : Nat); omega) h hZ (lv_sub hl [2, 3, 4, 5, 0] rfl)
      · have h := h.2 c38
        refine lv_iload hC.1 hC.2.1 dL_betters_191 (lv_at hl 0 rfl) ?_
        refine lv_iload hC.1 hC.2.1 dL_betters_193 (lv_at hl 6 rfl) ?_
        refine lv_icmp_ne (tgt := 228) hC.1 hC.2.1 dL_betters_195 (by decide) (fun c46 => ?_) (fun c46 => ?_)
        · have h := h.1 c46
          exact t_L_betters_228 (l := l) hst hC hr _ _ _ _ _ _ _ _ _ (by show _ ≤ (26 : Nat); omega) (by show _ ≤ (156 : Nat); omega) h hZ (lv_sub hl [2, 3, 4, 5, 0] rfl)
        · have h := h.2 c46
          refine lv_goto (tgt := 208) hC.1 hC.2.1 dL_betters_198 (by decide) ?_
          exact t_L_betters_208 (l := l) hst hC hr _ _ _ _ _ _ _ _ _ (by show _ ≤ (26 : Nat); omega) (by show _ ≤ (156 : Nat); omega) h hZ (lv_sub hl [2, 3, 4, 5, 0] rfl)
  · have h := h.2 c16
    refine lv_aload_n hC.1 hC.2.1 dL_betters_154 rfl (lv_at hl 0 rfl) ?_
    refine z_cVi (As := []) hC hZ (zF_30 _) rfl zy_X4_cost (c_X4_cost l h) km_L_111 rfl ⟨rfl, rfl⟩ ⟨Nat.le_of_ble_eq_true rfl, Nat.le_of_ble_eq_true rfl⟩ hl.1 rfl (Nat.le_of_ble_eq_true rfl) dL_betters_155 ⟨by show _ ≤ (26 : Nat); omega, by show _ ≤ (156 : Nat); omega⟩ (fun r48 μ47 H locs h hZ => ?_)
    obtain ⟨μ47g, hgs, h⟩ := h
    have hZ := hZ.gs hgs
    refine lv_iload hC.1 hC.2.1 dL_betters_158 (lv_at hl 4 rfl) ?_
    refine lv_icmp_ne (tgt := 167) hC.1 hC.2.1 dL_betters_160 (by decide) (fun c49 => ?_) (fun c49 => ?_)
    · have h := h.1 c49
      refine lv_iconst (v := 0) hC.1 hC.2.1 dL_betters_167 (by decide) ?_
      exact z_bret hC hr hZ (by decide) h dL_betters_168 (by show _ ≤ (26 : Nat); omega) (by show _ ≤ (156 : Nat); omega)
    · have h := h.2 c49
      refine lv_iconst (v := 1) hC.1 hC.2.1 dL_betters_163 (by decide) ?_
      refine lv_goto (tgt := 168) hC.1 hC.2.1 dL_betters_164 (by decide) ?_
      exact z_bret hC hr hZ (by decide) h dL_betters_168 (by show _ ≤ (26 : Nat); omega) (by show _ ≤ (156 : Nat); omega)
def b_L_betters_100 (n np : Nat) (post : Int32 → Mem → Prop) (k76 : Int32 → Int32 → Int32 → Mem → Prop) (a3 : Int32) (a4 : Int32) (v4 : Int32) (v7 : Int32) (s0 : Int32) (s1 : Int32) (μ : Mem) : Prop := k76 v4 (s0 + s1) (v7 + 1) μ
set_option maxRecDepth 100000 in
set_option maxHeartbeats 4000000 in
theorem t_L_betters_100 {p : Program} {l : Launch} {e : Env} {s : State} {m : MethodId} {args : Array Value} {below : List Frame} {meth : Method} {c : Code} {D : va_G} {ca : Nat → ClassId} {base : Nat} {ad : Nat → Nat → Nat} {n np : Nat} {post : Int32 → Mem → Prop} {k76 : Int32 → Int32 → Int32 → Mem → Prop} {Kc76 Ks76 : Nat} (hst : l.stackTraces = false) (hC : ZC p m meth c s RL cL_betters 14) (hr : meth.sig.returnType = (some FieldType.boolean)) (a3 : Int32) (a4 : Int32) (hk76 : ∀ (v4 : Int32) (v6 : Int32) (v7 : Int32) (cx dx : Nat) (μ : Mem) (H : Heap) (locs : List Loc) (ls : Array Slot), cx + Kc76 ≤ 26 → dx + Ks76 ≤ 156 → k76 v4 v6 v7 μ → ZS D ca base ad n np μ s H locs → lv_has ls 14 [(0, .ref (ad 30 0)), (1, .ref (ad 22 0)), (2, .int a3), (3, .int a4), (4, .int v4), (6, .int v6), (7, .int v7)] → W p l e ({ frames := 9, cells := 26, slots := 156, locals := 165 } : Room) s m args below meth c H locs cx dx (MQ below (ZQ D ca base ad n np (zpi post)) args s 26 156 (zB base)) (F0 m 76 ls [])) (v4 : Int32) (v7 : Int32) (s0 : Int32) (s1 : Int32) (cx dx : Nat) (μ : Mem) (H : Heap) (locs : List Loc) (ls : Array Slot) (hBc : cx + (0 + Kc76) ≤ 26) (hBs : dx + (0 + Ks76) ≤ 156) (h : b_L_betters_100 n np post k76 a3 a4 v4 v7 s0 s1 μ) (hZ : ZS D ca base ad n np μ s H locs) (hl : lv_has ls 14 [(0, .ref (ad 30 0)), (1, .ref (ad 22 0)), (2, .int a3), (3, .int a4), (4, .int v4), (7, .int v7)]) : W p l e ({ frames := 9, cells := 26, slots := 156, locals := 165 } : Room) s m args below meth c H locs cx dx (MQ below (ZQ D ca base ad n np (zpi post)) args s 26 156 (zB base)) (F0 m 100 ls [.int s1, .int s0]) := by
  unfold b_L_betters_100 at h
  refine lv_iadd hC.1 hC.2.1 dL_betters_100 ?_
  refine lv_istore (lv' := [(6, .int (s0 + s1)), (0, .ref (ad 30 0)), (1, .ref (ad 22 0)), (2, .int a3), (3, .int a4), (4, .int v4), (7, .int v7)]) hC.1 hC.2.1 dL_betters_101 hl (by decide) rfl (fun ls hl => ?_)
  refine lv_iinc (v := v7 + 1) (lv' := [(7, .int (v7 + 1)), (6, .int (s0 + s1)), (0, .ref (ad 30 0)), (1, .ref (ad 22 0)), (2, .int a3), (3, .int a4), (4, .int v4)]) hC.1 hC.2.1 dL_betters_103 hl (k := 6) rfl rfl (by decide) rfl (fun ls hl => ?_)
  refine lv_goto (tgt := 76) hC.1 hC.2.1 dL_betters_106 (by decide) ?_
  exact hk76 _ _ _ _ _ _ _ _ _ (by show _ ≤ (26 : Nat); omega) (by show _ ≤ (156 : Nat); omega) h hZ (lv_sub hl [2, 3, 4, 5, 6, 1, 0] rfl)
def lb_L_betters_76 (n np : Nat) (post : Int32 → Mem → Prop) (k76 : Int32 → Int32 → Int32 → Mem → Prop) (a3 : Int32) (a4 : Int32) (v4 : Int32) (v6 : Int32) (v7 : Int32) (μ : Mem) : Prop := (((μ 22 0 (0 : Int32).toNatClampNeg) ≤ v7 → (w_L_least n np (fun (r10 : Int32) (μ9 : Mem) => ((v6 ≤ 5 → ((r10 < 0 → post 0 μ9) ∧ (¬ r10 < 0 → ((r10 ≤ v4 → b_L_betters_145 n np post a3 a4 v4 μ9) ∧ (¬ r10 ≤ v4 → post 0 μ9))))) ∧ (¬ v6 ≤ 5 → ((r10 = (-1000003) → b_L_betters_145 n np post a3 a4 v4 μ9) ∧ (¬ r10 = (-1000003) → post 0 μ9))))) μ)) ∧ (¬ (μ 22 0 (0 : Int32).toNatClampNeg) ≤ v7 → (w_L_stateOf n np (fun (r52 : Int32) (μ51 : Mem) => ((¬ r52 = 0 → b_L_betters_100 n np post k76 a3 a4 v4 v7 v6 (0 : Int32) μ51) ∧ (r52 = 0 → b_L_betters_100 n np post k76 a3 a4 v4 v7 v6 (1 : Int32) μ51))) v7 μ)))
def l_L_betters_76 (n np : Nat) (post : Int32 → Mem → Prop) (a3 : Int32) (a4 : Int32) : Nat → Int32 → Int32 → Int32 → Mem → Prop
  | 0 => fun _ _ _ _ => False
  | fuel + 1 => lb_L_betters_76 n np post (l_L_betters_76 n np post a3 a4 fuel) a3 a4 
set_option maxRecDepth 100000 in
set_option maxHeartbeats 4000000 in
theorem t_L_betters_76 {p : Program} {l : Launch} {e : Env} {s : State} {m : MethodId} {args : Array Value} {below : List Frame} {meth : Method} {c : Code} {D : va_G} {ca : Nat → ClassId} {base : Nat} {ad : Nat → Nat → Nat} {n np : Nat} {post : Int32 → Mem → Prop} (hst : l.stackTraces = false) (hC : ZC p m meth c s RL cL_betters 14) (hr : meth.sig.returnType = (some FieldType.boolean)) (a3 : Int32) (a4 : Int32) : ∀ (fuel : Nat) (v4 : Int32) (v6 : Int32) (v7 : Int32) (cx dx : Nat) (μ : Mem) (H : Heap) (locs : List Loc) (ls : Array Slot), cx + (fuel * 1 + (15)) ≤ 26 → dx + (fuel * 6 + (90)) ≤ 156 → l_L_betters_76 n np post a3 a4 fuel v4 v6 v7 μ → ZS D ca base ad n np μ s H locs → lv_has ls 14 [(0, .ref (ad 30 0)), (1, .ref (ad 22 0)), (2, .int a3), (3, .int a4), (4, .int v4), (6, .int v6), (7, .int v7)] → W p l e ({ frames := 9, cells := 26, slots := 156, locals := 165 } : Room) s m args below meth c H locs cx dx (MQ below (ZQ D ca base ad n np (zpi post)) args s 26 156 (zB base)) (F0 m 76 ls []) := by
  intro fuel
  induction fuel with
  | zero => exact fun _ _ _ _ _ _ _ _ _ _ _ h => h.elim
  | succ fuel hk76 =>
    intro v4 v6 v7 cx dx μ H locs ls hBc hBs h hZ hl
    have h : lb_L_betters_76 n np post (l_L_betters_76 n np post a3 a4 fuel) a3 a4 v4 v6 v7 μ := h
    unfold lb_L_betters_76 at h
    refine lv_iload hC.1 hC.2.1 dL_betters_76 (lv_at hl 6 rfl) ?_
    refine lv_aload_n hC.1 hC.2.1 dL_betters_78 rfl (lv_at hl 1 rfl) ?_
    refine lv_iconst (v := 0) hC.1 hC.2.1 dL_betters_79 (by decide) ?_
    refine aL_22 hC hZ (by unfold vp_in; decide) dL_betters_80 ?_
    refine lv_icmp_ge (tgt := 109) hC.1 hC.2.1 dL_betters_81 (by decide) (fun c8 => ?_) (fun c8 => ?_)
    · have h := h.1 c8
      refine lv_aload_n hC.1 hC.2.1 dL_betters_109 rfl (lv_at hl 0 rfl) ?_
      refine z_cWi (As := [.ref (ad 30 0)]) hC hZ zy_L_least (c_L_least l hst h) km_L_143 rfl ⟨rfl, rfl⟩ ⟨Nat.le_of_ble_eq_true rfl, Nat.le_of_ble_eq_true rfl⟩ hl.1 rfl (Nat.le_of_ble_eq_true rfl) dL_betters_110 ⟨by show _ ≤ (26 : Nat); omega, by show _ ≤ (156 : Nat); omega⟩ (fun r10 μ9 H locs h hZ => ?_)
      refine lv_istore (lv' := [(7, .int r10), (0, .ref (ad 30 0)), (1, .ref (ad 22 0)), (2, .int a3), (3, .int a4), (4, .int v4), (6, .int v6)]) hC.1 hC.2.1 dL_betters_113 hl (by decide) rfl (fun ls hl => ?_)
      refine lv_iload hC.1 hC.2.1 dL_betters_115 (lv_at hl 6 rfl) ?_
      refine lv_iconst (v := 5) hC.1 hC.2.1 dL_betters_117 (by decide) ?_
      refine lv_icmp_le (tgt := 131) hC.1 hC.2.1 dL_betters_118 (by decide) (fun c11 => ?_) (fun c11 => ?_)
      · have h := h.1 c11
        refine lv_iload hC.1 hC.2.1 dL_betters_131 (lv_at hl 0 rfl) ?_
        refine lv_if_lt (tgt := 143) hC.1 hC.2.1 dL_betters_133 (by decide) (fun c12 => ?_) (fun c12 => ?_)
        · have h := h.1 c12
          refine lv_iconst (v := 0) hC.1 hC.2.1 dL_betters_143 (by decide) ?_
          exact z_bret hC hr hZ (by decide) h dL_betters_144 (by show _ ≤ (26 : Nat); omega) (by show _ ≤ (156 : Nat); omega)
        · have h := h.2 c12
          refine lv_iload hC.1 hC.2.1 dL_betters_136 (lv_at hl 0 rfl) ?_
          refine lv_iload hC.1 hC.2.1 dL_betters_138 (lv_at hl 5 rfl) ?_
          refine lv_icmp_le (tgt := 145) hC.1 hC.2.1 dL_betters_140 (by decide) (fun c13 => ?_) (fun c13 => ?_)
          · have h := h.1 c13
            exact t_L_betters_145 (l := l) hst hC hr _ _ _ _ _ _ _ _ _ (by show _ ≤ (26 : Nat); omega) (by show _ ≤ (156 : Nat); omega) h hZ (lv_sub hl [1, 2, 3, 4, 5] rfl)
          · have h := h.2 c13
            refine lv_iconst (v := 0) hC.1 hC.2.1 dL_betters_143 (by decide) ?_
            exact z_bret hC hr hZ (by decide) h dL_betters_144 (by show _ ≤ (26 : Nat); omega) (by show _ ≤ (156 : Nat); omega)
      · have h := h.2 c11
        refine lv_iload hC.1 hC.2.1 dL_betters_121 (lv_at hl 0 rfl) ?_
        refine lv_ldc (v := (-1000003)) hC.1 hC.2.1 hC.2.2.2.1 (hZ.1.2.1.use _ kk_L_21 rfl) dL_betters_123 ?_
        refine lv_icmp_eq (tgt := 145) hC.1 hC.2.1 dL_betters_125 (by decide) (fun c50 => ?_) (fun c50 => ?_)
        · have h := h.1 c50
          exact t_L_betters_145 (l := l) hst hC hr _ _ _ _ _ _ _ _ _ (by show _ ≤ (26 : Nat); omega) (by show _ ≤ (156 : Nat); omega) h hZ (lv_sub hl [1, 2, 3, 4, 5] rfl)
        · have h := h.2 c50
          refine lv_goto (tgt := 143) hC.1 hC.2.1 dL_betters_128 (by decide) ?_
          refine lv_iconst (v := 0) hC.1 hC.2.1 dL_betters_143 (by decide) ?_
          exact z_bret hC hr hZ (by decide) h dL_betters_144 (by show _ ≤ (26 : Nat); omega) (by show _ ≤ (156 : Nat); omega)
    · have h := h.2 c8
      refine lv_iload hC.1 hC.2.1 dL_betters_84 (lv_at hl 5 rfl) ?_
      refine lv_aload_n hC.1 hC.2.1 dL_betters_86 rfl (lv_at hl 0 rfl) ?_
      refine lv_iload hC.1 hC.2.1 dL_betters_87 (lv_at hl 6 rfl) ?_
      refine z_cWi (As := [.ref (ad 30 0), .int v7]) hC hZ zy_L_stateOf (c_L_stateOf l hst h) km_L_90 rfl ⟨rfl, rfl⟩ ⟨Nat.le_of_ble_eq_true rfl, Nat.le_of_ble_eq_true rfl⟩ hl.1 rfl (Nat.le_of_ble_eq_true rfl) dL_betters_89 ⟨by show _ ≤ (26 : Nat); omega, by show _ ≤ (156 : Nat); omega⟩ (fun r52 μ51 H locs h hZ => ?_)
      refine lv_if_ne (tgt := 99) hC.1 hC.2.1 dL_betters_92 (by decide) (fun c53 => ?_) (fun c53 => ?_)
      · have h := h.1 c53
        refine lv_iconst (v := 0) hC.1 hC.2.1 dL_betters_99 (by decide) ?_
        exact t_L_betters_100 (l := l) hst hC hr _ _ hk76 _ _ _ _ _ _ _ _ _ _ (by show _ ≤ (26 : Nat); omega) (by show _ ≤ (156 : Nat); omega) h hZ (lv_sub hl [0, 1, 2, 3, 4, 6] rfl)
      · have h := h.2 c53
        refine lv_iconst (v := 1) hC.1 hC.2.1 dL_betters_95 (by decide) ?_
        refine lv_goto (tgt := 100) hC.1 hC.2.1 dL_betters_96 (by decide) ?_
        exact t_L_betters_100 (l := l) hst hC hr _ _ hk76 _ _ _ _ _ _ _ _ _ _ (by show _ ≤ (26 : Nat); omega) (by show _ ≤ (156 : Nat); omega) h hZ (lv_sub hl [0, 1, 2, 3, 4, 6] rfl)
def b_L_betters_41 (n np : Nat) (post : Int32 → Mem → Prop) (a3 : Int32) (a4 : Int32) (v4 : Int32) (v5 : Int32) (v6 : Int32) (μ : Mem) : Prop := (w_X4_refused n np (fun (r59 : Int32) (μ58 : Mem) => (∃ μ58g : Mem, gs μ58 μ58g ∧ ((v5 < r59 → post 0 μ58g) ∧ (¬ v5 < r59 → ((0 < v6 → post 1 μ58g) ∧ (¬ 0 < v6 → (w_X4_cost n np (fun (r63 : Int32) (μ62 : Mem) => (∃ μ62g : Mem, gs μ62 μ62g ∧ ((¬ r63 = v4 → post 0 μ62g) ∧ (r63 = v4 → post 1 μ62g)))) μ58g))))))) μ)
set_option maxRecDepth 100000 in
set_option maxHeartbeats 4000000 in
theorem t_L_betters_41 {p : Program} {l : Launch} {e : Env} {s : State} {m : MethodId} {args : Array Value} {below : List Frame} {meth : Method} {c : Code} {D : va_G} {ca : Nat → ClassId} {base : Nat} {ad : Nat → Nat → Nat} {n np : Nat} {post : Int32 → Mem → Prop} (hst : l.stackTraces = false) (hC : ZC p m meth c s RL cL_betters 14) (hr : meth.sig.returnType = (some FieldType.boolean)) (a3 : Int32) (a4 : Int32) (v4 : Int32) (v5 : Int32) (v6 : Int32) (cx dx : Nat) (μ : Mem) (H : Heap) (locs : List Loc) (ls : Array Slot) (hBc : cx + (0) ≤ 26) (hBs : dx + (0) ≤ 156) (h : b_L_betters_41 n np post a3 a4 v4 v5 v6 μ) (hZ : ZS D ca base ad n np μ s H locs) (hl : lv_has ls 14 [(0, .ref (ad 30 0)), (4, .int v4), (5, .int v5), (6, .int v6)]) : W p l e ({ frames := 9, cells := 26, slots := 156, locals := 165 } : Room) s m args below meth c H locs cx dx (MQ below (ZQ D ca base ad n np (zpi post)) args s 26 156 (zB base)) (F0 m 41 ls []) := by
  unfold b_L_betters_41 at h
  refine lv_aload_n hC.1 hC.2.1 dL_betters_41 rfl (lv_at hl 0 rfl) ?_
  refine z_cVi (As := []) hC hZ (zF_30 _) rfl zy_X4_refused (c_X4_refused l h) km_L_99 rfl ⟨rfl, rfl⟩ ⟨Nat.le_of_ble_eq_true rfl, Nat.le_of_ble_eq_true rfl⟩ hl.1 rfl (Nat.le_of_ble_eq_true rfl) dL_betters_42 ⟨by show _ ≤ (26 : Nat); omega, by show _ ≤ (156 : Nat); omega⟩ (fun r59 μ58 H locs h hZ => ?_)
  obtain ⟨μ58g, hgs, h⟩ := h
  have hZ := hZ.gs hgs
  refine lv_iload hC.1 hC.2.1 dL_betters_45 (lv_at hl 2 rfl) ?_
  refine lv_icmp_gt (tgt := 68) hC.1 hC.2.1 dL_betters_47 (by decide) (fun c60 => ?_) (fun c60 => ?_)
  · have h := h.1 c60
    refine lv_iconst (v := 0) hC.1 hC.2.1 dL_betters_68 (by decide) ?_
    exact z_bret hC hr hZ (by decide) h dL_betters_69 (by show _ ≤ (26 : Nat); omega) (by show _ ≤ (156 : Nat); omega)
  · have h := h.2 c60
    refine lv_iload hC.1 hC.2.1 dL_betters_50 (lv_at hl 3 rfl) ?_
    refine lv_if_gt (tgt := 64) hC.1 hC.2.1 dL_betters_52 (by decide) (fun c61 => ?_) (fun c61 => ?_)
    · have h := h.1 c61
      refine lv_iconst (v := 1) hC.1 hC.2.1 dL_betters_64 (by decide) ?_
      refine lv_goto (tgt := 69) hC.1 hC.2.1 dL_betters_65 (by decide) ?_
      exact z_bret hC hr hZ (by decide) h dL_betters_69 (by show _ ≤ (26 : Nat); omega) (by show _ ≤ (156 : Nat); omega)
    · have h := h.2 c61
      refine lv_aload_n hC.1 hC.2.1 dL_betters_55 rfl (lv_at hl 0 rfl) ?_
      refine z_cVi (As := []) hC hZ (zF_30 _) rfl zy_X4_cost (c_X4_cost l h) km_L_111 rfl ⟨rfl, rfl⟩ ⟨Nat.le_of_ble_eq_true rfl, Nat.le_of_ble_eq_true rfl⟩ hl.1 rfl (Nat.le_of_ble_eq_true rfl) dL_betters_56 ⟨by show _ ≤ (26 : Nat); omega, by show _ ≤ (156 : Nat); omega⟩ (fun r63 μ62 H locs h hZ => ?_)
      obtain ⟨μ62g, hgs, h⟩ := h
      have hZ := hZ.gs hgs
      refine lv_iload hC.1 hC.2.1 dL_betters_59 (lv_at hl 1 rfl) ?_
      refine lv_icmp_ne (tgt := 68) hC.1 hC.2.1 dL_betters_61 (by decide) (fun c64 => ?_) (fun c64 => ?_)
      · have h := h.1 c64
        refine lv_iconst (v := 0) hC.1 hC.2.1 dL_betters_68 (by decide) ?_
        exact z_bret hC hr hZ (by decide) h dL_betters_69 (by show _ ≤ (26 : Nat); omega) (by show _ ≤ (156 : Nat); omega)
      · have h := h.2 c64
        refine lv_iconst (v := 1) hC.1 hC.2.1 dL_betters_64 (by decide) ?_
        refine lv_goto (tgt := 69) hC.1 hC.2.1 dL_betters_65 (by decide) ?_
        exact z_bret hC hr hZ (by decide) h dL_betters_69 (by show _ ≤ (26 : Nat); omega) (by show _ ≤ (156 : Nat); omega)
def w_L_betters (n np : Nat) (post : Int32 → Mem → Prop) (a3 : Int32) (a4 : Int32) (μ : Mem) : Prop := (w_X4_cost n np (fun (r2 : Int32) (μ1 : Mem) => (∃ μ1g : Mem, gs μ1 μ1g ∧ (w_X4_refused n np (fun (r4 : Int32) (μ3 : Mem) => (∃ μ3g : Mem, gs μ3 μ3g ∧ (w_L_low n np (fun (r6 : Int32) (μ5 : Mem) => ((¬ r6 = 0 → (∃ fuel : Nat, fuel ≤ 11 ∧ l_L_betters_76 n np post a3 a4 fuel r2 (0 : Int32) (0 : Int32) μ5)) ∧ (r6 = 0 → (w_X4_mend n np (fun (r55 : Int32) (μ54 : Mem) => (∃ μ54g : Mem, gs μ54 μ54g ∧ ((r55 < 0 → post 0 μ54g) ∧ (¬ r55 < 0 → ((0 < r4 → b_L_betters_41 n np post a3 a4 r2 r4 r55 μ54g) ∧ (¬ 0 < r4 → ((¬ r55 = 0 → post 0 μ54g) ∧ (r55 = 0 → b_L_betters_41 n np post a3 a4 r2 r4 r55 μ54g)))))))) μ5)))) a3 (3 : Int32) μ3g))) μ1g))) μ)
set_option maxRecDepth 100000 in
set_option maxHeartbeats 4000000 in
theorem c_L_betters (l : Launch) (hst : l.stackTraces = false) {D : va_G} {ca : Nat → ClassId} {base : Nat} {ad : Nat → Nat → Nat} {n np : Nat} {μ : Mem} {post : Int32 → Mem → Prop} {a3 : Int32} {a4 : Int32} (h : w_L_betters n np post a3 a4 μ) : ZMet l yL_betters cL_betters 14 (some FieldType.boolean) ({ frames := 9, cells := 26, slots := 156, locals := 165 } : Room) 26 156 D ca base ad n np [.ref (ad 30 0), .ref (ad 22 0), .int a3, .int a4] μ (zpi post) := by
  unfold ZMet
  refine Met.ofW (cc := cL_betters) (maxL := 14) (ret := (some FieldType.boolean)) (by decide) rfl ?_
  intro p e s m args below meth c s₁ B hml hv
  obtain ⟨rfl, hU⟩ := hv
  have hZ := hU.toS
  have hC : ZC p m meth c s RL cL_betters 14 := ⟨B.exec, B.bytes, hml, findClass_of_methodNamed B.named, B.notSynchronized⟩
  have hr := B.returns
  have key : W p l e ({ frames := 9, cells := 26, slots := 156, locals := 165 } : Room) s m (([.ref (ad 30 0), .ref (ad 22 0), .int a3, .int a4] : List Value).toArray) below meth c s.heap [] 0 0 (MQ below (ZQ D ca base ad n np (zpi post)) (([.ref (ad 30 0), .ref (ad 22 0), .int a3, .int a4] : List Value).toArray) s 26 156 (zB base)) (entryFrame m (([.ref (ad 30 0), .ref (ad 22 0), .int a3, .int a4] : List Value).toArray) 14) := by
    have hl := lv_entry ([.ref (ad 30 0), .ref (ad 22 0), .int a3, .int a4]) (n := 14) (Nat.le_of_ble_eq_true rfl)
    rw [lg_entry_eq]
    generalize (lg_sl ([.ref (ad 30 0), .ref (ad 22 0), .int a3, .int a4]) ++ List.replicate (14 - (lg_sl ([.ref (ad 30 0), .ref (ad 22 0), .int a3, .int a4])).length) Slot.unset).toArray = ls at hl ⊢
    have hl : lv_has ls 14 [(0, .ref (ad 30 0)), (1, .ref (ad 22 0)), (2, .int a3), (3, .int a4)] := hl
    unfold w_L_betters at h
    refine lv_aload_n hC.1 hC.2.1 dL_betters_0 rfl (lv_at hl 0 rfl) ?_
    refine z_cVi (As := []) hC hZ (zF_30 _) rfl zy_X4_cost (c_X4_cost l h) km_L_111 rfl ⟨rfl, rfl⟩ ⟨Nat.le_of_ble_eq_true rfl, Nat.le_of_ble_eq_true rfl⟩ hl.1 rfl (Nat.le_of_ble_eq_true rfl) dL_betters_1 ⟨by show _ ≤ (26 : Nat); omega, by show _ ≤ (156 : Nat); omega⟩ (fun r2 μ1 H locs h hZ => ?_)
    obtain ⟨μ1g, hgs, h⟩ := h
    have hZ := hZ.gs hgs
    refine lv_istore (lv' := [(4, .int r2), (0, .ref (ad 30 0)), (1, .ref (ad 22 0)), (2, .int a3), (3, .int a4)]) hC.1 hC.2.1 dL_betters_4 hl (by decide) rfl (fun ls hl => ?_)
    refine lv_aload_n hC.1 hC.2.1 dL_betters_6 rfl (lv_at hl 1 rfl) ?_
    refine z_cVi (As := []) hC hZ (zF_30 _) rfl zy_X4_refused (c_X4_refused l h) km_L_99 rfl ⟨rfl, rfl⟩ ⟨Nat.le_of_ble_eq_true rfl, Nat.le_of_ble_eq_true rfl⟩ hl.1 rfl (Nat.le_of_ble_eq_true rfl) dL_betters_7 ⟨by show _ ≤ (26 : Nat); omega, by show _ ≤ (156 : Nat); omega⟩ (fun r4 μ3 H locs h hZ => ?_)
    obtain ⟨μ3g, hgs, h⟩ := h
    have hZ := hZ.gs hgs
    refine lv_istore (lv' := [(5, .int r4), (4, .int r2), (0, .ref (ad 30 0)), (1, .ref (ad 22 0)), (2, .int a3), (3, .int a4)]) hC.1 hC.2.1 dL_betters_10 hl (by decide) rfl (fun ls hl => ?_)
    refine lv_iload_n hC.1 hC.2.1 dL_betters_12 rfl (lv_at hl 4 rfl) ?_
    refine lv_iconst (v := 3) hC.1 hC.2.1 dL_betters_13 (by decide) ?_
    refine z_cSi (As := [.int a3, .int 3]) hC hZ zy_L_low (c_L_low l h) km_L_118 rfl ⟨rfl, rfl⟩ ⟨Nat.le_of_ble_eq_true rfl, Nat.le_of_ble_eq_true rfl⟩ hl.1 rfl (Nat.le_of_ble_eq_true rfl) dL_betters_14 ⟨by show _ ≤ (26 : Nat); omega, by show _ ≤ (156 : Nat); omega⟩ (fun r6 μ5 H locs h hZ => ?_)
    refine lv_if_ne (tgt := 70) hC.1 hC.2.1 dL_betters_17 (by decide) (fun c7 => ?_) (fun c7 => ?_)
    · have h := h.1 c7
      refine lv_iconst (v := 0) hC.1 hC.2.1 dL_betters_70 (by decide) ?_
      refine lv_istore (lv' := [(6, .int 0), (5, .int r4), (4, .int r2), (0, .ref (ad 30 0)), (1, .ref (ad 22 0)), (2, .int a3), (3, .int a4)]) hC.1 hC.2.1 dL_betters_71 hl (by decide) rfl (fun ls hl => ?_)
      refine lv_iconst (v := 0) hC.1 hC.2.1 dL_betters_73 (by decide) ?_
      refine lv_istore (lv' := [(7, .int 0), (6, .int 0), (5, .int r4), (4, .int r2), (0, .ref (ad 30 0)), (1, .ref (ad 22 0)), (2, .int a3), (3, .int a4)]) hC.1 hC.2.1 dL_betters_74 hl (by decide) rfl (fun ls hl => ?_)
      obtain ⟨fuel, hfu, h⟩ := h
      exact t_L_betters_76 (l := l) hst hC hr _ _ _ _ _ _ _ _ _ _ _ _ (by show _ ≤ (26 : Nat); omega) (by show _ ≤ (156 : Nat); omega) h hZ (lv_sub hl [4, 5, 6, 7, 3, 1, 0] rfl)
    · have h := h.2 c7
      refine lv_aload_n hC.1 hC.2.1 dL_betters_20 rfl (lv_at hl 2 rfl) ?_
      refine z_cVi (As := []) hC hZ (zF_30 _) rfl zy_X4_mend (c_X4_mend l h) km_L_140 rfl ⟨rfl, rfl⟩ ⟨Nat.le_of_ble_eq_true rfl, Nat.le_of_ble_eq_true rfl⟩ hl.1 rfl (Nat.le_of_ble_eq_true rfl) dL_betters_21 ⟨by show _ ≤ (26 : Nat); omega, by show _ ≤ (156 : Nat); omega⟩ (fun r55 μ54 H locs h hZ => ?_)
      obtain ⟨μ54g, hgs, h⟩ := h
      have hZ := hZ.gs hgs
      refine lv_istore (lv' := [(6, .int r55), (5, .int r4), (4, .int r2), (0, .ref (ad 30 0)), (1, .ref (ad 22 0)), (2, .int a3), (3, .int a4)]) hC.1 hC.2.1 dL_betters_24 hl (by decide) rfl (fun ls hl => ?_)
      refine lv_iload hC.1 hC.2.1 dL_betters_26 (lv_at hl 0 rfl) ?_
      refine lv_if_lt (tgt := 68) hC.1 hC.2.1 dL_betters_28 (by decide) (fun c56 => ?_) (fun c56 => ?_)
      · have h := h.1 c56
        refine lv_iconst (v := 0) hC.1 hC.2.1 dL_betters_68 (by decide) ?_
        exact z_bret hC hr hZ (by decide) h dL_betters_69 (by show _ ≤ (26 : Nat); omega) (by show _ ≤ (156 : Nat); omega)
      · have h := h.2 c56
        refine lv_iload hC.1 hC.2.1 dL_betters_31 (lv_at hl 1 rfl) ?_
        refine lv_if_gt (tgt := 41) hC.1 hC.2.1 dL_betters_33 (by decide) (fun c57 => ?_) (fun c57 => ?_)
        · have h := h.1 c57
          exact t_L_betters_41 (l := l) hst hC hr _ _ _ _ _ _ _ _ _ _ _ (by show _ ≤ (26 : Nat); omega) (by show _ ≤ (156 : Nat); omega) h hZ (lv_sub hl [3, 2, 1, 0] rfl)
        · have h := h.2 c57
          refine lv_iload hC.1 hC.2.1 dL_betters_36 (lv_at hl 0 rfl) ?_
          refine lv_if_ne (tgt := 68) hC.1 hC.2.1 dL_betters_38 (by decide) (fun c65 => ?_) (fun c65 => ?_)
          · have h := h.1 c65
            refine lv_iconst (v := 0) hC.1 hC.2.1 dL_betters_68 (by decide) ?_
            exact z_bret hC hr hZ (by decide) h dL_betters_69 (by show _ ≤ (26 : Nat); omega) (by show _ ≤ (156 : Nat); omega)
          · have h := h.2 c65
            exact t_L_betters_41 (l := l) hst hC hr _ _ _ _ _ _ _ _ _ _ _ (by show _ ≤ (26 : Nat); omega) (by show _ ≤ (156 : Nat); omega) h hZ (lv_sub hl [3, 2, 1, 0] rfl)
  exact key
def b_L_ends_173 (n np : Nat) (post : Int32 → Mem → Prop) (v2 : Int32) (v3 : Int32) (v4 : Int32) (v5 : Int32) (v7 : Int32) (s0 : Int32) (μ : Mem) : Prop := ((v4 = 0 → (w_X4_spent n np (fun (r17 : Int32) (μ16 : Mem) => (∃ μ16g : Mem, gs μ16 μ16g ∧ (∀ μ18 : Mem, μ18 = zst μ16g 22 0 ((3 : Int32).toNatClampNeg) r17 → ((s0 = 0 → post 0 μ18) ∧ (¬ s0 = 0 → (w_X4_cost n np (fun (r21 : Int32) (μ20 : Mem) => (∃ μ20g : Mem, gs μ20 μ20g ∧ ((¬ ((μ18 22 0 (3 : Int32).toNatClampNeg) + r21) = ((μ 22 0 (3 : Int32).toNatClampNeg) + v2) → post 0 μ20g) ∧ (((μ18 22 0 (3 : Int32).toNatClampNeg) + r21) = ((μ 22 0 (3 : Int32).toNatClampNeg) + v2) → ((v7 < 0 → post 1 μ20g) ∧ (¬ v7 < 0 → (w_L_stateOf n np (fun (r25 : Int32) (μ24 : Mem) => ((¬ r25 = 1 → post 0 μ24) ∧ (r25 = 1 → (w_L_dayOf n np (fun (r28 : Int32) (μ27 : Mem) => ((¬ r28 = ((μ27 22 0 (2 : Int32).toNatClampNeg) - 1) → post 0 μ27) ∧ (r28 = ((μ27 22 0 (2 : Int32).toNatClampNeg) - 1) → post 1 μ27))) v7 μ24)))) v7 μ20g))))))) μ18)))))) μ)) ∧ (¬ v4 = 0 → ((s0 = 0 → post 0 μ) ∧ (¬ s0 = 0 → (w_X4_spent n np (fun (r32 : Int32) (μ31 : Mem) => (∃ μ31g : Mem, gs μ31 μ31g ∧ ((¬ r32 = (μ31g 22 0 (3 : Int32).toNatClampNeg) → post 0 μ31g) ∧ (r32 = (μ31g 22 0 (3 : Int32).toNatClampNeg) → ((30 ≤ v5 → (w_L_stateOf n np (fun (r36 : Int32) (μ35 : Mem) => ((¬ r36 = 2 → post 0 μ35) ∧ (r36 = 2 → post 1 μ35))) v3 μ31g)) ∧ (¬ 30 ≤ v5 → (w_L_dayOf n np (fun (r39 : Int32) (μ38 : Mem) => ((¬ r39 = v5 → post 0 μ38) ∧ (r39 = v5 → (w_L_sceneOn n np (fun (r42 : Int32) (μ41 : Mem) => ((¬ r42 = v3 → post 0 μ41) ∧ (r42 = v3 → post 1 μ41))) v5 μ38)))) v3 μ31g))))))) μ)))))
set_option maxRecDepth 100000 in
set_option maxHeartbeats 4000000 in
theorem t_L_ends_173 {p : Program} {l : Launch} {e : Env} {s : State} {m : MethodId} {args : Array Value} {below : List Frame} {meth : Method} {c : Code} {D : va_G} {ca : Nat → ClassId} {base : Nat} {ad : Nat → Nat → Nat} {n np : Nat} {post : Int32 → Mem → Prop} (hst : l.stackTraces = false) (hC : ZC p m meth c s RL cL_ends 10) (hr : meth.sig.returnType = (some FieldType.boolean)) (v2 : Int32) (v3 : Int32) (v4 : Int32) (v5 : Int32) (v7 : Int32) (s0 : Int32) (cx dx : Nat) (μ : Mem) (H : Heap) (locs : List Loc) (ls : Array Slot) (hBc : cx + (2) ≤ 40) (hBs : dx + (12) ≤ 240) (h : b_L_ends_173 n np post v2 v3 v4 v5 v7 s0 μ) (hZ : ZS D ca base ad n np μ s H locs) (hl : lv_has ls 10 [(0, .ref (ad 30 0)), (1, .ref (ad 22 0)), (2, .int v2), (3, .int v3), (4, .int v4), (5, .int v5), (7, .int v7)]) : W p l e ({ frames := 9, cells := 40, slots := 240, locals := 149 } : Room) s m args below meth c H locs cx dx (MQ below (ZQ D ca base ad n np (zpi post)) args s 40 240 (zB base)) (F0 m 173 ls [.int s0]) := by
  unfold b_L_ends_173 at h
  refine lv_istore (lv' := [(8, .int s0), (0, .ref (ad 30 0)), (1, .ref (ad 22 0)), (2, .int v2), (3, .int v3), (4, .int v4), (5, .int v5), (7, .int v7)]) hC.1 hC.2.1 dL_ends_173 hl (by decide) rfl (fun ls hl => ?_)
  refine lv_iload hC.1 hC.2.1 dL_ends_175 (lv_at hl 5 rfl) ?_
  refine lv_if_eq (tgt := 240) hC.1 hC.2.1 dL_ends_177 (by decide) (fun c15 => ?_) (fun c15 => ?_)
  · have h := h.1 c15
    refine lv_aload_n hC.1 hC.2.1 dL_ends_240 rfl (lv_at hl 2 rfl) ?_
    refine lv_iconst (v := 3) hC.1 hC.2.1 dL_ends_241 (by decide) ?_
    refine aL_22 hC hZ (by unfold vp_in; decide) dL_ends_242 ?_
    refine lv_iload_n hC.1 hC.2.1 dL_ends_243 rfl (lv_at hl 3 rfl) ?_
    refine lv_iadd hC.1 hC.2.1 dL_ends_244 ?_
    refine lv_istore (lv' := [(9, .int ((μ 22 0 (3 : Int32).toNatClampNeg) + v2)), (8, .int s0), (0, .ref (ad 30 0)), (1, .ref (ad 22 0)), (2, .int v2), (3, .int v3), (4, .int v4), (5, .int v5), (7, .int v7)]) hC.1 hC.2.1 dL_ends_245 hl (by decide) rfl (fun ls hl => ?_)
    refine lv_aload_n hC.1 hC.2.1 dL_ends_247 rfl (lv_at hl 3 rfl) ?_
    refine lv_iconst (v := 3) hC.1 hC.2.1 dL_ends_248 (by decide) ?_
    refine lv_aload_n hC.1 hC.2.1 dL_ends_249 rfl (lv_at hl 2 rfl) ?_
    refine z_cVi (As := []) hC hZ (zF_30 _) rfl zy_X4_spent (c_X4_spent l h) km_L_105 rfl ⟨rfl, rfl⟩ ⟨Nat.le_of_ble_eq_true rfl, Nat.le_of_ble_eq_true rfl⟩ hl.1 rfl (Nat.le_of_ble_eq_true rfl) dL_ends_250 ⟨by show _ ≤ (40 : Nat); omega, by show _ ≤ (240 : Nat); omega⟩ (fun r17 μ16 H locs h hZ => ?_)
    obtain ⟨μ16g, hgs, h⟩ := h
    have hZ := hZ.gs hgs
    refine aS_22 hC hZ (by unfold vp_in; decide) dL_ends_253 (fun μ18 H locs eμ18 hZ => ?_)
    have h := h μ18 eμ18
    refine lv_iload hC.1 hC.2.1 dL_ends_254 (lv_at hl 1 rfl) ?_
    refine lv_if_eq (tgt := 305) hC.1 hC.2.1 dL_ends_256 (by decide) (fun c19 => ?_) (fun c19 => ?_)
    · have h := h.1 c19
      refine lv_iconst (v := 0) hC.1 hC.2.1 dL_ends_305 (by decide) ?_
      exact z_bret hC hr hZ (by decide) h dL_ends_306 (by show _ ≤ (40 : Nat); omega) (by show _ ≤ (240 : Nat); omega)
    · have h := h.2 c19
      refine lv_aload_n hC.1 hC.2.1 dL_ends_259 rfl (lv_at hl 3 rfl) ?_
      refine lv_iconst (v := 3) hC.1 hC.2.1 dL_ends_260 (by decide) ?_
      refine aL_22 hC hZ (by unfold vp_in; decide) dL_ends_261 ?_
      refine lv_aload_n hC.1 hC.2.1 dL_ends_262 rfl (lv_at hl 2 rfl) ?_
      refine z_cVi (As := []) hC hZ (zF_30 _) rfl zy_X4_cost (c_X4_cost l h) km_L_111 rfl ⟨rfl, rfl⟩ ⟨Nat.le_of_ble_eq_true rfl, Nat.le_of_ble_eq_true rfl⟩ hl.1 rfl (Nat.le_of_ble_eq_true rfl) dL_ends_263 ⟨by show _ ≤ (40 : Nat); omega, by show _ ≤ (240 : Nat); omega⟩ (fun r21 μ20 H locs h hZ => ?_)
      obtain ⟨μ20g, hgs, h⟩ := h
      have hZ := hZ.gs hgs
      refine lv_iadd hC.1 hC.2.1 dL_ends_266 ?_
      refine lv_iload hC.1 hC.2.1 dL_ends_267 (lv_at hl 0 rfl) ?_
      refine lv_icmp_ne (tgt := 305) hC.1 hC.2.1 dL_ends_269 (by decide) (fun c22 => ?_) (fun c22 => ?_)
      · have h := h.1 c22
        refine lv_iconst (v := 0) hC.1 hC.2.1 dL_ends_305 (by decide) ?_
        exact z_bret hC hr hZ (by decide) h dL_ends_306 (by show _ ≤ (40 : Nat); omega) (by show _ ≤ (240 : Nat); omega)
      · have h := h.2 c22
        refine lv_iload hC.1 hC.2.1 dL_ends_272 (lv_at hl 8 rfl) ?_
        refine lv_if_lt (tgt := 301) hC.1 hC.2.1 dL_ends_274 (by decide) (fun c23 => ?_) (fun c23 => ?_)
        · have h := h.1 c23
          refine lv_iconst (v := 1) hC.1 hC.2.1 dL_ends_301 (by decide) ?_
          refine lv_goto (tgt := 306) hC.1 hC.2.1 dL_ends_302 (by decide) ?_
          exact z_bret hC hr hZ (by decide) h dL_ends_306 (by show _ ≤ (40 : Nat); omega) (by show _ ≤ (240 : Nat); omega)
        · have h := h.2 c23
          refine lv_aload_n hC.1 hC.2.1 dL_ends_277 rfl (lv_at hl 2 rfl) ?_
          refine lv_iload hC.1 hC.2.1 dL_ends_278 (lv_at hl 8 rfl) ?_
          refine z_cWi (As := [.ref (ad 30 0), .int v7]) hC hZ zy_L_stateOf (c_L_stateOf l hst h) km_L_90 rfl ⟨rfl, rfl⟩ ⟨Nat.le_of_ble_eq_true rfl, Nat.le_of_ble_eq_true rfl⟩ hl.1 rfl (Nat.le_of_ble_eq_true rfl) dL_ends_280 ⟨by show _ ≤ (40 : Nat); omega, by show _ ≤ (240 : Nat); omega⟩ (fun r25 μ24 H locs h hZ => ?_)
          refine lv_iconst (v := 1) hC.1 hC.2.1 dL_ends_283 (by decide) ?_
          refine lv_icmp_ne (tgt := 305) hC.1 hC.2.1 dL_ends_284 (by decide) (fun c26 => ?_) (fun c26 => ?_)
          · have h := h.1 c26
            refine lv_iconst (v := 0) hC.1 hC.2.1 dL_ends_305 (by decide) ?_
            exact z_bret hC hr hZ (by decide) h dL_ends_306 (by show _ ≤ (40 : Nat); omega) (by show _ ≤ (240 : Nat); omega)
          · have h := h.2 c26
            refine lv_aload_n hC.1 hC.2.1 dL_ends_287 rfl (lv_at hl 2 rfl) ?_
            refine lv_iload hC.1 hC.2.1 dL_ends_288 (lv_at hl 8 rfl) ?_
            refine z_cWi (As := [.ref (ad 30 0), .int v7]) hC hZ zy_L_dayOf (c_L_dayOf l hst h) km_L_92 rfl ⟨rfl, rfl⟩ ⟨Nat.le_of_ble_eq_true rfl, Nat.le_of_ble_eq_true rfl⟩ hl.1 rfl (Nat.le_of_ble_eq_true rfl) dL_ends_290 ⟨by show _ ≤ (40 : Nat); omega, by show _ ≤ (240 : Nat); omega⟩ (fun r28 μ27 H locs h hZ => ?_)
            refine lv_aload_n hC.1 hC.2.1 dL_ends_293 rfl (lv_at hl 3 rfl) ?_
            refine lv_iconst (v := 2) hC.1 hC.2.1 dL_ends_294 (by decide) ?_
            refine aL_22 hC hZ (by unfold vp_in; decide) dL_ends_295 ?_
            refine lv_iconst (v := 1) hC.1 hC.2.1 dL_ends_296 (by decide) ?_
            refine lv_isub hC.1 hC.2.1 dL_ends_297 ?_
            refine lv_icmp_ne (tgt := 305) hC.1 hC.2.1 dL_ends_298 (by decide) (fun c29 => ?_) (fun c29 => ?_)
            · have h := h.1 c29
              refine lv_iconst (v := 0) hC.1 hC.2.1 dL_ends_305 (by decide) ?_
              exact z_bret hC hr hZ (by decide) h dL_ends_306 (by show _ ≤ (40 : Nat); omega) (by show _ ≤ (240 : Nat); omega)
            · have h := h.2 c29
              refine lv_iconst (v := 1) hC.1 hC.2.1 dL_ends_301 (by decide) ?_
              refine lv_goto (tgt := 306) hC.1 hC.2.1 dL_ends_302 (by decide) ?_
              exact z_bret hC hr hZ (by decide) h dL_ends_306 (by show _ ≤ (40 : Nat); omega) (by show _ ≤ (240 : Nat); omega)
  · have h := h.2 c15
    refine lv_iload hC.1 hC.2.1 dL_ends_180 (lv_at hl 0 rfl) ?_
    refine lv_if_eq (tgt := 238) hC.1 hC.2.1 dL_ends_182 (by decide) (fun c30 => ?_) (fun c30 => ?_)
    · have h := h.1 c30
      refine lv_iconst (v := 0) hC.1 hC.2.1 dL_ends_238 (by decide) ?_
      exact z_bret hC hr hZ (by decide) h dL_ends_239 (by show _ ≤ (40 : Nat); omega) (by show _ ≤ (240 : Nat); omega)
    · have h := h.2 c30
      refine lv_aload_n hC.1 hC.2.1 dL_ends_185 rfl (lv_at hl 1 rfl) ?_
      refine z_cVi (As := []) hC hZ (zF_30 _) rfl zy_X4_spent (c_X4_spent l h) km_L_105 rfl ⟨rfl, rfl⟩ ⟨Nat.le_of_ble_eq_true rfl, Nat.le_of_ble_eq_true rfl⟩ hl.1 rfl (Nat.le_of_ble_eq_true rfl) dL_ends_186 ⟨by show _ ≤ (40 : Nat); omega, by show _ ≤ (240 : Nat); omega⟩ (fun r32 μ31 H locs h hZ => ?_)
      obtain ⟨μ31g, hgs, h⟩ := h
      have hZ := hZ.gs hgs
      refine lv_aload_n hC.1 hC.2.1 dL_ends_189 rfl (lv_at hl 2 rfl) ?_
      refine lv_iconst (v := 3) hC.1 hC.2.1 dL_ends_190 (by decide) ?_
      refine aL_22 hC hZ (by unfold vp_in; decide) dL_ends_191 ?_
      refine lv_icmp_ne (tgt := 238) hC.1 hC.2.1 dL_ends_192 (by decide) (fun c33 => ?_) (fun c33 => ?_)
      · have h := h.1 c33
        refine lv_iconst (v := 0) hC.1 hC.2.1 dL_ends_238 (by decide) ?_
        exact z_bret hC hr hZ (by decide) h dL_ends_239 (by show _ ≤ (40 : Nat); omega) (by show _ ≤ (240 : Nat); omega)
      · have h := h.2 c33
        refine lv_iload hC.1 hC.2.1 dL_ends_195 (lv_at hl 6 rfl) ?_
        refine lv_bipush (v := 30) hC.1 hC.2.1 dL_ends_197 (by decide) ?_
        refine lv_icmp_ge (tgt := 225) hC.1 hC.2.1 dL_ends_199 (by decide) (fun c34 => ?_) (fun c34 => ?_)
        · have h := h.1 c34
          refine lv_aload_n hC.1 hC.2.1 dL_ends_225 rfl (lv_at hl 1 rfl) ?_
          refine lv_iload_n hC.1 hC.2.1 dL_ends_226 rfl (lv_at hl 4 rfl) ?_
          refine z_cWi (As := [.ref (ad 30 0), .int v3]) hC hZ zy_L_stateOf (c_L_stateOf l hst h) km_L_90 rfl ⟨rfl, rfl⟩ ⟨Nat.le_of_ble_eq_true rfl, Nat.le_of_ble_eq_true rfl⟩ hl.1 rfl (Nat.le_of_ble_eq_true rfl) dL_ends_227 ⟨by show _ ≤ (40 : Nat); omega, by show _ ≤ (240 : Nat); omega⟩ (fun r36 μ35 H locs h hZ => ?_)
          refine lv_iconst (v := 2) hC.1 hC.2.1 dL_ends_230 (by decide) ?_
          refine lv_icmp_ne (tgt := 238) hC.1 hC.2.1 dL_ends_231 (by decide) (fun c37 => ?_) (fun c37 => ?_)
          · have h := h.1 c37
            refine lv_iconst (v := 0) hC.1 hC.2.1 dL_ends_238 (by decide) ?_
            exact z_bret hC hr hZ (by decide) h dL_ends_239 (by show _ ≤ (40 : Nat); omega) (by show _ ≤ (240 : Nat); omega)
          · have h := h.2 c37
            refine lv_iconst (v := 1) hC.1 hC.2.1 dL_ends_234 (by decide) ?_
            refine lv_goto (tgt := 239) hC.1 hC.2.1 dL_ends_235 (by decide) ?_
            exact z_bret hC hr hZ (by decide) h dL_ends_239 (by show _ ≤ (40 : Nat); omega) (by show _ ≤ (240 : Nat); omega)
        · have h := h.2 c34
          refine lv_aload_n hC.1 hC.2.1 dL_ends_202 rfl (lv_at hl 1 rfl) ?_
          refine lv_iload_n hC.1 hC.2.1 dL_ends_203 rfl (lv_at hl 4 rfl) ?_
          refine z_cWi (As := [.ref (ad 30 0), .int v3]) hC hZ zy_L_dayOf (c_L_dayOf l hst h) km_L_92 rfl ⟨rfl, rfl⟩ ⟨Nat.le_of_ble_eq_true rfl, Nat.le_of_ble_eq_true rfl⟩ hl.1 rfl (Nat.le_of_ble_eq_true rfl) dL_ends_204 ⟨by show _ ≤ (40 : Nat); omega, by show _ ≤ (240 : Nat); omega⟩ (fun r39 μ38 H locs h hZ => ?_)
          refine lv_iload hC.1 hC.2.1 dL_ends_207 (lv_at hl 6 rfl) ?_
          refine lv_icmp_ne (tgt := 238) hC.1 hC.2.1 dL_ends_209 (by decide) (fun c40 => ?_) (fun c40 => ?_)
          · have h := h.1 c40
            refine lv_iconst (v := 0) hC.1 hC.2.1 dL_ends_238 (by decide) ?_
            exact z_bret hC hr hZ (by decide) h dL_ends_239 (by show _ ≤ (40 : Nat); omega) (by show _ ≤ (240 : Nat); omega)
          · have h := h.2 c40
            refine lv_aload_n hC.1 hC.2.1 dL_ends_212 rfl (lv_at hl 1 rfl) ?_
            refine lv_iload hC.1 hC.2.1 dL_ends_213 (lv_at hl 6 rfl) ?_
            refine z_cWi (As := [.ref (ad 30 0), .int v5]) hC hZ zy_L_sceneOn (c_L_sceneOn l hst h) km_L_85 rfl ⟨rfl, rfl⟩ ⟨Nat.le_of_ble_eq_true rfl, Nat.le_of_ble_eq_true rfl⟩ hl.1 rfl (Nat.le_of_ble_eq_true rfl) dL_ends_215 ⟨by show _ ≤ (40 : Nat); omega, by show _ ≤ (240 : Nat); omega⟩ (fun r42 μ41 H locs h hZ => ?_)
            refine lv_iload_n hC.1 hC.2.1 dL_ends_218 rfl (lv_at hl 4 rfl) ?_
            refine lv_icmp_ne (tgt := 238) hC.1 hC.2.1 dL_ends_219 (by decide) (fun c43 => ?_) (fun c43 => ?_)
            · have h := h.1 c43
              refine lv_iconst (v := 0) hC.1 hC.2.1 dL_ends_238 (by decide) ?_
              exact z_bret hC hr hZ (by decide) h dL_ends_239 (by show _ ≤ (40 : Nat); omega) (by show _ ≤ (240 : Nat); omega)
            · have h := h.2 c43
              refine lv_goto (tgt := 234) hC.1 hC.2.1 dL_ends_222 (by decide) ?_
              refine lv_iconst (v := 1) hC.1 hC.2.1 dL_ends_234 (by decide) ?_
              refine lv_goto (tgt := 239) hC.1 hC.2.1 dL_ends_235 (by decide) ?_
              exact z_bret hC hr hZ (by decide) h dL_ends_239 (by show _ ≤ (40 : Nat); omega) (by show _ ≤ (240 : Nat); omega)
def b_L_ends_172 (n np : Nat) (post : Int32 → Mem → Prop) (v2 : Int32) (v3 : Int32) (v4 : Int32) (v5 : Int32) (v7 : Int32) (μ : Mem) : Prop := b_L_ends_173 n np post v2 v3 v4 v5 v7 (0 : Int32) μ
set_option maxRecDepth 100000 in
set_option maxHeartbeats 4000000 in
theorem t_L_ends_172 {p : Program} {l : Launch} {e : Env} {s : State} {m : MethodId} {args : Array Value} {below : List Frame} {meth : Method} {c : Code} {D : va_G} {ca : Nat → ClassId} {base : Nat} {ad : Nat → Nat → Nat} {n np : Nat} {post : Int32 → Mem → Prop} (hst : l.stackTraces = false) (hC : ZC p m meth c s RL cL_ends 10) (hr : meth.sig.returnType = (some FieldType.boolean)) (v2 : Int32) (v3 : Int32) (v4 : Int32) (v5 : Int32) (v7 : Int32) (cx dx : Nat) (μ : Mem) (H : Heap) (locs : List Loc) (ls : Array Slot) (hBc : cx + (2) ≤ 40) (hBs : dx + (12) ≤ 240) (h : b_L_ends_172 n np post v2 v3 v4 v5 v7 μ) (hZ : ZS D ca base ad n np μ s H locs) (hl : lv_has ls 10 [(0, .ref (ad 30 0)), (1, .ref (ad 22 0)), (2, .int v2), (3, .int v3), (4, .int v4), (5, .int v5), (7, .int v7)]) : W p l e ({ frames := 9, cells := 40, slots := 240, locals := 149 } : Room) s m args below meth c H locs cx dx (MQ below (ZQ D ca base ad n np (zpi post)) args s 40 240 (zB base)) (F0 m 172 ls []) := by
  unfold b_L_ends_172 at h
  refine lv_iconst (v := 0) hC.1 hC.2.1 dL_ends_172 (by decide) ?_
  exact t_L_ends_173 (l := l) hst hC hr _ _ _ _ _ _ _ _ _ _ _ _ (by show _ ≤ (40 : Nat); omega) (by show _ ≤ (240 : Nat); omega) h hZ (lv_sub hl [0, 1, 2, 3, 4, 5, 6] rfl)
def b_L_ends_168 (n np : Nat) (post : Int32 → Mem → Prop) (v2 : Int32) (v3 : Int32) (v4 : Int32) (v5 : Int32) (v7 : Int32) (μ : Mem) : Prop := b_L_ends_173 n np post v2 v3 v4 v5 v7 (1 : Int32) μ
set_option maxRecDepth 100000 in
set_option maxHeartbeats 4000000 in
theorem t_L_ends_168 {p : Program} {l : Launch} {e : Env} {s : State} {m : MethodId} {args : Array Value} {below : List Frame} {meth : Method} {c : Code} {D : va_G} {ca : Nat → ClassId} {base : Nat} {ad : Nat → Nat → Nat} {n np : Nat} {post : Int32 → Mem → Prop} (hst : l.stackTraces = false) (hC : ZC p m meth c s RL cL_ends 10) (hr : meth.sig.returnType = (some FieldType.boolean)) (v2 : Int32) (v3 : Int32) (v4 : Int32) (v5 : Int32) (v7 : Int32) (cx dx : Nat) (μ : Mem) (H : Heap) (locs : List Loc) (ls : Array Slot) (hBc : cx + (2) ≤ 40) (hBs : dx + (12) ≤ 240) (h : b_L_ends_168 n np post v2 v3 v4 v5 v7 μ) (hZ : ZS D ca base ad n np μ s H locs) (hl : lv_has ls 10 [(0, .ref (ad 30 0)), (1, .ref (ad 22 0)), (2, .int v2), (3, .int v3), (4, .int v4), (5, .int v5), (7, .int v7)]) : W p l e ({ frames := 9, cells := 40, slots := 240, locals := 149 } : Room) s m args below meth c H locs cx dx (MQ below (ZQ D ca base ad n np (zpi post)) args s 40 240 (zB base)) (F0 m 168 ls []) := by
  unfold b_L_ends_168 at h
  refine lv_iconst (v := 1) hC.1 hC.2.1 dL_ends_168 (by decide) ?_
  refine lv_goto (tgt := 173) hC.1 hC.2.1 dL_ends_169 (by decide) ?_
  exact t_L_ends_173 (l := l) hst hC hr _ _ _ _ _ _ _ _ _ _ _ _ (by show _ ≤ (40 : Nat); omega) (by show _ ≤ (240 : Nat); omega) h hZ (lv_sub hl [0, 1, 2, 3, 4, 5, 6] rfl)
def b_L_ends_165 (n np : Nat) (post : Int32 → Mem → Prop) (v2 : Int32) (v3 : Int32) (v4 : Int32) (v5 : Int32) (v7 : Int32) (s0 : Int32) (s1 : Int32) (μ : Mem) : Prop := ((¬ s0 = s1 → b_L_ends_172 n np post v2 v3 v4 v5 v7 μ) ∧ (s0 = s1 → b_L_ends_168 n np post v2 v3 v4 v5 v7 μ))
set_option maxRecDepth 100000 in
set_option maxHeartbeats 4000000 in
theorem t_L_ends_165 {p : Program} {l : Launch} {e : Env} {s : State} {m : MethodId} {args : Array Value} {below : List Frame} {meth : Method} {c : Code} {D : va_G} {ca : Nat → ClassId} {base : Nat} {ad : Nat → Nat → Nat} {n np : Nat} {post : Int32 → Mem → Prop} (hst : l.stackTraces = false) (hC : ZC p m meth c s RL cL_ends 10) (hr : meth.sig.returnType = (some FieldType.boolean)) (v2 : Int32) (v3 : Int32) (v4 : Int32) (v5 : Int32) (v7 : Int32) (s0 : Int32) (s1 : Int32) (cx dx : Nat) (μ : Mem) (H : Heap) (locs : List Loc) (ls : Array Slot) (hBc : cx + (2) ≤ 40) (hBs : dx + (12) ≤ 240) (h : b_L_ends_165 n np post v2 v3 v4 v5 v7 s0 s1 μ) (hZ : ZS D ca base ad n np μ s H locs) (hl : lv_has ls 10 [(0, .ref (ad 30 0)), (1, .ref (ad 22 0)), (2, .int v2), (3, .int v3), (4, .int v4), (5, .int v5), (7, .int v7)]) : W p l e ({ frames := 9, cells := 40, slots := 240, locals := 149 } : Room) s m args below meth c H locs cx dx (MQ below (ZQ D ca base ad n np (zpi post)) args s 40 240 (zB base)) (F0 m 165 ls [.int s1, .int s0]) := by
  unfold b_L_ends_165 at h
  refine lv_icmp_ne (tgt := 172) hC.1 hC.2.1 dL_ends_165 (by decide) (fun c51 => ?_) (fun c51 => ?_)
  · have h := h.1 c51
    exact t_L_ends_172 (l := l) hst hC hr _ _ _ _ _ _ _ _ _ _ _ (by show _ ≤ (40 : Nat); omega) (by show _ ≤ (240 : Nat); omega) h hZ (lv_sub hl [0, 1, 2, 3, 4, 5, 6] rfl)
  · have h := h.2 c51
    exact t_L_ends_168 (l := l) hst hC hr _ _ _ _ _ _ _ _ _ _ _ (by show _ ≤ (40 : Nat); omega) (by show _ ≤ (240 : Nat); omega) h hZ (lv_sub hl [0, 1, 2, 3, 4, 5, 6] rfl)
def b_L_ends_126 (n np : Nat) (post : Int32 → Mem → Prop) (v2 : Int32) (v3 : Int32) (v4 : Int32) (v5 : Int32) (v6 : Int32) (v7 : Int32) (s0 : Int32) (s1 : Int32) (μ : Mem) : Prop := ((¬ s0 = s1 → b_L_ends_172 n np post v2 v3 v4 v5 v7 μ) ∧ (s0 = s1 → (w_X4_today n np (fun (r45 : Int32) (μ44 : Mem) => (∃ μ44g : Mem, gs μ44 μ44g ∧ ((¬ r45 = (μ44g 22 0 (2 : Int32).toNatClampNeg) → b_L_ends_172 n np post v2 v3 v4 v5 v7 μ44g) ∧ (r45 = (μ44g 22 0 (2 : Int32).toNatClampNeg) → ((0 ≤ v7 → b_L_ends_168 n np post v2 v3 v4 v5 v7 μ44g) ∧ (¬ 0 ≤ v7 → (w_L_growth n np (fun (r49 : Int32) (μ48 : Mem) => ((20 ≤ v6 → b_L_ends_165 n np post v2 v3 v4 v5 v7 r49 (20 : Int32) μ48) ∧ (¬ 20 ≤ v6 → b_L_ends_165 n np post v2 v3 v4 v5 v7 r49 (v6 + 1) μ48))) (0 : Int32) μ44g))))))) μ)))
set_option maxRecDepth 100000 in
set_option maxHeartbeats 4000000 in
theorem t_L_ends_126 {p : Program} {l : Launch} {e : Env} {s : State} {m : MethodId} {args : Array Value} {below : List Frame} {meth : Method} {c : Code} {D : va_G} {ca : Nat → ClassId} {base : Nat} {ad : Nat → Nat → Nat} {n np : Nat} {post : Int32 → Mem → Prop} (hst : l.stackTraces = false) (hC : ZC p m meth c s RL cL_ends 10) (hr : meth.sig.returnType = (some FieldType.boolean)) (v2 : Int32) (v3 : Int32) (v4 : Int32) (v5 : Int32) (v6 : Int32) (v7 : Int32) (s0 : Int32) (s1 : Int32) (cx dx : Nat) (μ : Mem) (H : Heap) (locs : List Loc) (ls : Array Slot) (hBc : cx + (3) ≤ 40) (hBs : dx + (18) ≤ 240) (h : b_L_ends_126 n np post v2 v3 v4 v5 v6 v7 s0 s1 μ) (hZ : ZS D ca base ad n np μ s H locs) (hl : lv_has ls 10 [(0, .ref (ad 30 0)), (1, .ref (ad 22 0)), (2, .int v2), (3, .int v3), (4, .int v4), (5, .int v5), (6, .int v6), (7, .int v7)]) : W p l e ({ frames := 9, cells := 40, slots := 240, locals := 149 } : Room) s m args below meth c H locs cx dx (MQ below (ZQ D ca base ad n np (zpi post)) args s 40 240 (zB base)) (F0 m 126 ls [.int s1, .int s0]) := by
  unfold b_L_ends_126 at h
  refine lv_icmp_ne (tgt := 172) hC.1 hC.2.1 dL_ends_126 (by decide) (fun c14 => ?_) (fun c14 => ?_)
  · have h := h.1 c14
    exact t_L_ends_172 (l := l) hst hC hr _ _ _ _ _ _ _ _ _ _ _ (by show _ ≤ (40 : Nat); omega) (by show _ ≤ (240 : Nat); omega) h hZ (lv_sub hl [0, 1, 2, 3, 4, 5, 7] rfl)
  · have h := h.2 c14
    refine lv_aload_n hC.1 hC.2.1 dL_ends_129 rfl (lv_at hl 0 rfl) ?_
    refine z_cVi (As := []) hC hZ (zF_30 _) rfl zy_X4_today (c_X4_today l h) km_L_102 rfl ⟨rfl, rfl⟩ ⟨Nat.le_of_ble_eq_true rfl, Nat.le_of_ble_eq_true rfl⟩ hl.1 rfl (Nat.le_of_ble_eq_true rfl) dL_ends_130 ⟨by show _ ≤ (40 : Nat); omega, by show _ ≤ (240 : Nat); omega⟩ (fun r45 μ44 H locs h hZ => ?_)
    obtain ⟨μ44g, hgs, h⟩ := h
    have hZ := hZ.gs hgs
    refine lv_aload_n hC.1 hC.2.1 dL_ends_133 rfl (lv_at hl 1 rfl) ?_
    refine lv_iconst (v := 2) hC.1 hC.2.1 dL_ends_134 (by decide) ?_
    refine aL_22 hC hZ (by unfold vp_in; decide) dL_ends_135 ?_
    refine lv_icmp_ne (tgt := 172) hC.1 hC.2.1 dL_ends_136 (by decide) (fun c46 => ?_) (fun c46 => ?_)
    · have h := h.1 c46
      exact t_L_ends_172 (l := l) hst hC hr _ _ _ _ _ _ _ _ _ _ _ (by show _ ≤ (40 : Nat); omega) (by show _ ≤ (240 : Nat); omega) h hZ (lv_sub hl [0, 1, 2, 3, 4, 5, 7] rfl)
    · have h := h.2 c46
      refine lv_iload hC.1 hC.2.1 dL_ends_139 (lv_at hl 7 rfl) ?_
      refine lv_if_ge (tgt := 168) hC.1 hC.2.1 dL_ends_141 (by decide) (fun c47 => ?_) (fun c47 => ?_)
      · have h := h.1 c47
        exact t_L_ends_168 (l := l) hst hC hr _ _ _ _ _ _ _ _ _ _ _ (by show _ ≤ (40 : Nat); omega) (by show _ ≤ (240 : Nat); omega) h hZ (lv_sub hl [0, 1, 2, 3, 4, 5, 7] rfl)
      · have h := h.2 c47
        refine lv_aload_n hC.1 hC.2.1 dL_ends_144 rfl (lv_at hl 0 rfl) ?_
        refine lv_iconst (v := 0) hC.1 hC.2.1 dL_ends_145 (by decide) ?_
        refine z_cWi (As := [.ref (ad 30 0), .int 0]) hC hZ zy_L_growth (c_L_growth l hst h) km_L_114 rfl ⟨rfl, rfl⟩ ⟨Nat.le_of_ble_eq_true rfl, Nat.le_of_ble_eq_true rfl⟩ hl.1 rfl (Nat.le_of_ble_eq_true rfl) dL_ends_146 ⟨by show _ ≤ (40 : Nat); omega, by show _ ≤ (240 : Nat); omega⟩ (fun r49 μ48 H locs h hZ => ?_)
        refine lv_iload hC.1 hC.2.1 dL_ends_149 (lv_at hl 6 rfl) ?_
        refine lv_bipush (v := 20) hC.1 hC.2.1 dL_ends_151 (by decide) ?_
        refine lv_icmp_ge (tgt := 163) hC.1 hC.2.1 dL_ends_153 (by decide) (fun c50 => ?_) (fun c50 => ?_)
        · have h := h.1 c50
          refine lv_bipush (v := 20) hC.1 hC.2.1 dL_ends_163 (by decide) ?_
          exact t_L_ends_165 (l := l) hst hC hr _ _ _ _ _ _ _ _ _ _ _ _ _ (by show _ ≤ (40 : Nat); omega) (by show _ ≤ (240 : Nat); omega) h hZ (lv_sub hl [0, 1, 2, 3, 4, 5, 7] rfl)
        · have h := h.2 c50
          refine lv_iload hC.1 hC.2.1 dL_ends_156 (lv_at hl 6 rfl) ?_
          refine lv_iconst (v := 1) hC.1 hC.2.1 dL_ends_158 (by decide) ?_
          refine lv_iadd hC.1 hC.2.1 dL_ends_159 ?_
          refine lv_goto (tgt := 165) hC.1 hC.2.1 dL_ends_160 (by decide) ?_
          exact t_L_ends_165 (l := l) hst hC hr _ _ _ _ _ _ _ _ _ _ _ _ _ (by show _ ≤ (40 : Nat); omega) (by show _ ≤ (240 : Nat); omega) h hZ (lv_sub hl [0, 1, 2, 3, 4, 5, 7] rfl)
def b_L_ends_94 (n np : Nat) (post : Int32 → Mem → Prop) (v2 : Int32) (v3 : Int32) (v4 : Int32) (v5 : Int32) (μ : Mem) : Prop := (w_L_growth n np (fun (r9 : Int32) (μ8 : Mem) => (w_L_shoot n np (fun (r11 : Int32) (μ10 : Mem) => (∀ μ12 : Mem, μ12 = zst μ10 22 0 ((2 : Int32).toNatClampNeg) ((μ10 22 0 (2 : Int32).toNatClampNeg) + 1) → ((v4 = 0 → b_L_ends_126 n np post v2 v3 v4 v5 r9 r11 r11 v3 μ12) ∧ (¬ v4 = 0 → b_L_ends_126 n np post v2 v3 v4 v5 r9 r11 r11 (-1 : Int32) μ12)))) μ8)) (0 : Int32) μ)
set_option maxRecDepth 100000 in
set_option maxHeartbeats 4000000 in
theorem t_L_ends_94 {p : Program} {l : Launch} {e : Env} {s : State} {m : MethodId} {args : Array Value} {below : List Frame} {meth : Method} {c : Code} {D : va_G} {ca : Nat → ClassId} {base : Nat} {ad : Nat → Nat → Nat} {n np : Nat} {post : Int32 → Mem → Prop} (hst : l.stackTraces = false) (hC : ZC p m meth c s RL cL_ends 10) (hr : meth.sig.returnType = (some FieldType.boolean)) (v2 : Int32) (v3 : Int32) (v4 : Int32) (v5 : Int32) (cx dx : Nat) (μ : Mem) (H : Heap) (locs : List Loc) (ls : Array Slot) (hBc : cx + (5) ≤ 40) (hBs : dx + (30) ≤ 240) (h : b_L_ends_94 n np post v2 v3 v4 v5 μ) (hZ : ZS D ca base ad n np μ s H locs) (hl : lv_has ls 10 [(0, .ref (ad 30 0)), (1, .ref (ad 22 0)), (2, .int v2), (3, .int v3), (4, .int v4), (5, .int v5)]) : W p l e ({ frames := 9, cells := 40, slots := 240, locals := 149 } : Room) s m args below meth c H locs cx dx (MQ below (ZQ D ca base ad n np (zpi post)) args s 40 240 (zB base)) (F0 m 94 ls []) := by
  unfold b_L_ends_94 at h
  refine lv_aload_n hC.1 hC.2.1 dL_ends_94 rfl (lv_at hl 0 rfl) ?_
  refine lv_iconst (v := 0) hC.1 hC.2.1 dL_ends_95 (by decide) ?_
  refine z_cWi (As := [.ref (ad 30 0), .int 0]) hC hZ zy_L_growth (c_L_growth l hst h) km_L_114 rfl ⟨rfl, rfl⟩ ⟨Nat.le_of_ble_eq_true rfl, Nat.le_of_ble_eq_true rfl⟩ hl.1 rfl (Nat.le_of_ble_eq_true rfl) dL_ends_96 ⟨by show _ ≤ (40 : Nat); omega, by show _ ≤ (240 : Nat); omega⟩ (fun r9 μ8 H locs h hZ => ?_)
  refine lv_istore (lv' := [(6, .int r9), (0, .ref (ad 30 0)), (1, .ref (ad 22 0)), (2, .int v2), (3, .int v3), (4, .int v4), (5, .int v5)]) hC.1 hC.2.1 dL_ends_99 hl (by decide) rfl (fun ls hl => ?_)
  refine lv_aload_n hC.1 hC.2.1 dL_ends_101 rfl (lv_at hl 1 rfl) ?_
  refine z_cWi (As := [.ref (ad 30 0)]) hC hZ zy_L_shoot (c_L_shoot l hst h) km_L_137 rfl ⟨rfl, rfl⟩ ⟨Nat.le_of_ble_eq_true rfl, Nat.le_of_ble_eq_true rfl⟩ hl.1 rfl (Nat.le_of_ble_eq_true rfl) dL_ends_102 ⟨by show _ ≤ (40 : Nat); omega, by show _ ≤ (240 : Nat); omega⟩ (fun r11 μ10 H locs h hZ => ?_)
  refine lv_istore (lv' := [(7, .int r11), (6, .int r9), (0, .ref (ad 30 0)), (1, .ref (ad 22 0)), (2, .int v2), (3, .int v3), (4, .int v4), (5, .int v5)]) hC.1 hC.2.1 dL_ends_105 hl (by decide) rfl (fun ls hl => ?_)
  refine lv_aload_n hC.1 hC.2.1 dL_ends_107 rfl (lv_at hl 3 rfl) ?_
  refine lv_iconst (v := 2) hC.1 hC.2.1 dL_ends_108 (by decide) ?_
  refine lv_dup2_11 hC.1 hC.2.1 dL_ends_109 rfl rfl ?_
  refine aL_22 hC hZ (by unfold vp_in; decide) dL_ends_110 ?_
  refine lv_iconst (v := 1) hC.1 hC.2.1 dL_ends_111 (by decide) ?_
  refine lv_iadd hC.1 hC.2.1 dL_ends_112 ?_
  refine aS_22 hC hZ (by unfold vp_in; decide) dL_ends_113 (fun μ12 H locs eμ12 hZ => ?_)
  have h := h μ12 eμ12
  refine lv_iload hC.1 hC.2.1 dL_ends_114 (lv_at hl 0 rfl) ?_
  refine lv_iload hC.1 hC.2.1 dL_ends_116 (lv_at hl 6 rfl) ?_
  refine lv_if_eq (tgt := 125) hC.1 hC.2.1 dL_ends_118 (by decide) (fun c13 => ?_) (fun c13 => ?_)
  · have h := h.1 c13
    refine lv_iload_n hC.1 hC.2.1 dL_ends_125 rfl (lv_at hl 5 rfl) ?_
    exact t_L_ends_126 (l := l) hst hC hr _ _ _ _ _ _ _ _ _ _ _ _ _ _ (by show _ ≤ (40 : Nat); omega) (by show _ ≤ (240 : Nat); omega) h hZ (lv_sub hl [2, 3, 4, 5, 6, 7, 1, 0] rfl)
  · have h := h.2 c13
    refine lv_iconst (v := (-1)) hC.1 hC.2.1 dL_ends_121 (by decide) ?_
    refine lv_goto (tgt := 126) hC.1 hC.2.1 dL_ends_122 (by decide) ?_
    exact t_L_ends_126 (l := l) hst hC hr _ _ _ _ _ _ _ _ _ _ _ _ _ _ (by show _ ≤ (40 : Nat); omega) (by show _ ≤ (240 : Nat); omega) h hZ (lv_sub hl [2, 3, 4, 5, 6, 7, 1, 0] rfl)
def lb_L_ends_72 (n np : Nat) (post : Int32 → Mem → Prop) (k72 : Int32 → Int32 → Int32 → Int32 → Mem → Prop) (v2 : Int32) (v3 : Int32) (v4 : Int32) (v5 : Int32) (μ : Mem) : Prop := ((30 ≤ v5 → b_L_ends_94 n np post v2 v3 v4 v5 μ) ∧ (¬ 30 ≤ v5 → (w_L_sceneOn n np (fun (r53 : Int32) (μ52 : Mem) => ((r53 < 0 → b_L_ends_94 n np post v2 v3 v4 v5 μ52) ∧ (¬ r53 < 0 → k72 v2 v3 v4 (v5 + 1) μ52))) v5 μ)))
def l_L_ends_72 (n np : Nat) (post : Int32 → Mem → Prop) : Nat → Int32 → Int32 → Int32 → Int32 → Mem → Prop
  | 0 => fun _ _ _ _ _ => False
  | fuel + 1 => lb_L_ends_72 n np post (l_L_ends_72 n np post fuel) 
set_option maxRecDepth 100000 in
set_option maxHeartbeats 4000000 in
theorem t_L_ends_72 {p : Program} {l : Launch} {e : Env} {s : State} {m : MethodId} {args : Array Value} {below : List Frame} {meth : Method} {c : Code} {D : va_G} {ca : Nat → ClassId} {base : Nat} {ad : Nat → Nat → Nat} {n np : Nat} {post : Int32 → Mem → Prop} (hst : l.stackTraces = false) (hC : ZC p m meth c s RL cL_ends 10) (hr : meth.sig.returnType = (some FieldType.boolean)) : ∀ (fuel : Nat) (v2 : Int32) (v3 : Int32) (v4 : Int32) (v5 : Int32) (cx dx : Nat) (μ : Mem) (H : Heap) (locs : List Loc) (ls : Array Slot), cx + (fuel * 1 + (6)) ≤ 40 → dx + (fuel * 6 + (36)) ≤ 240 → l_L_ends_72 n np post fuel v2 v3 v4 v5 μ → ZS D ca base ad n np μ s H locs → lv_has ls 10 [(0, .ref (ad 30 0)), (1, .ref (ad 22 0)), (2, .int v2), (3, .int v3), (4, .int v4), (5, .int v5)] → W p l e ({ frames := 9, cells := 40, slots := 240, locals := 149 } : Room) s m args below meth c H locs cx dx (MQ below (ZQ D ca base ad n np (zpi post)) args s 40 240 (zB base)) (F0 m 72 ls []) := by
  intro fuel
  induction fuel with
  | zero => exact fun _ _ _ _ _ _ _ _ _ _ _ _ h => h.elim
  | succ fuel hk72 =>
    intro v2 v3 v4 v5 cx dx μ H locs ls hBc hBs h hZ hl
    have h : lb_L_ends_72 n np post (l_L_ends_72 n np post fuel) v2 v3 v4 v5 μ := h
    unfold lb_L_ends_72 at h
    refine lv_iload hC.1 hC.2.1 dL_ends_72 (lv_at hl 5 rfl) ?_
    refine lv_bipush (v := 30) hC.1 hC.2.1 dL_ends_74 (by decide) ?_
    refine lv_icmp_ge (tgt := 94) hC.1 hC.2.1 dL_ends_76 (by decide) (fun c7 => ?_) (fun c7 => ?_)
    · have h := h.1 c7
      exact t_L_ends_94 (l := l) hst hC hr _ _ _ _ _ _ _ _ _ _ (by show _ ≤ (40 : Nat); omega) (by show _ ≤ (240 : Nat); omega) h hZ (lv_sub hl [0, 1, 2, 3, 4, 5] rfl)
    · have h := h.2 c7
      refine lv_aload_n hC.1 hC.2.1 dL_ends_79 rfl (lv_at hl 0 rfl) ?_
      refine lv_iload hC.1 hC.2.1 dL_ends_80 (lv_at hl 5 rfl) ?_
      refine z_cWi (As := [.ref (ad 30 0), .int v5]) hC hZ zy_L_sceneOn (c_L_sceneOn l hst h) km_L_85 rfl ⟨rfl, rfl⟩ ⟨Nat.le_of_ble_eq_true rfl, Nat.le_of_ble_eq_true rfl⟩ hl.1 rfl (Nat.le_of_ble_eq_true rfl) dL_ends_82 ⟨by show _ ≤ (40 : Nat); omega, by show _ ≤ (240 : Nat); omega⟩ (fun r53 μ52 H locs h hZ => ?_)
      refine lv_if_lt (tgt := 94) hC.1 hC.2.1 dL_ends_85 (by decide) (fun c54 => ?_) (fun c54 => ?_)
      · have h := h.1 c54
        exact t_L_ends_94 (l := l) hst hC hr _ _ _ _ _ _ _ _ _ _ (by show _ ≤ (40 : Nat); omega) (by show _ ≤ (240 : Nat); omega) h hZ (lv_sub hl [0, 1, 2, 3, 4, 5] rfl)
      · have h := h.2 c54
        refine lv_iinc (v := v5 + 1) (lv' := [(5, .int (v5 + 1)), (0, .ref (ad 30 0)), (1, .ref (ad 22 0)), (2, .int v2), (3, .int v3), (4, .int v4)]) hC.1 hC.2.1 dL_ends_88 hl (k := 5) rfl rfl (by decide) rfl (fun ls hl => ?_)
        refine lv_goto (tgt := 72) hC.1 hC.2.1 dL_ends_91 (by decide) ?_
        exact hk72 _ _ _ _ _ _ _ _ _ _ (by show _ ≤ (40 : Nat); omega) (by show _ ≤ (240 : Nat); omega) h hZ (lv_sub hl [1, 2, 3, 4, 5, 0] rfl)
def b_L_ends_63 (n np : Nat) (post : Int32 → Mem → Prop) (v2 : Int32) (v3 : Int32) (s0 : Int32) (μ : Mem) : Prop := (∃ fuel : Nat, fuel ≤ 31 ∧ l_L_ends_72 n np post fuel v2 v3 s0 ((μ 22 0 (2 : Int32).toNatClampNeg) + 1) μ)
set_option maxRecDepth 100000 in
set_option maxHeartbeats 4000000 in
theorem t_L_ends_63 {p : Program} {l : Launch} {e : Env} {s : State} {m : MethodId} {args : Array Value} {below : List Frame} {meth : Method} {c : Code} {D : va_G} {ca : Nat → ClassId} {base : Nat} {ad : Nat → Nat → Nat} {n np : Nat} {post : Int32 → Mem → Prop} (hst : l.stackTraces = false) (hC : ZC p m meth c s RL cL_ends 10) (hr : meth.sig.returnType = (some FieldType.boolean)) (v2 : Int32) (v3 : Int32) (s0 : Int32) (cx dx : Nat) (μ : Mem) (H : Heap) (locs : List Loc) (ls : Array Slot) (hBc : cx + (37) ≤ 40) (hBs : dx + (222) ≤ 240) (h : b_L_ends_63 n np post v2 v3 s0 μ) (hZ : ZS D ca base ad n np μ s H locs) (hl : lv_has ls 10 [(0, .ref (ad 30 0)), (1, .ref (ad 22 0)), (2, .int v2), (3, .int v3)]) : W p l e ({ frames := 9, cells := 40, slots := 240, locals := 149 } : Room) s m args below meth c H locs cx dx (MQ below (ZQ D ca base ad n np (zpi post)) args s 40 240 (zB base)) (F0 m 63 ls [.int s0]) := by
  unfold b_L_ends_63 at h
  refine lv_istore (lv' := [(4, .int s0), (0, .ref (ad 30 0)), (1, .ref (ad 22 0)), (2, .int v2), (3, .int v3)]) hC.1 hC.2.1 dL_ends_63 hl (by decide) rfl (fun ls hl => ?_)
  refine lv_aload_n hC.1 hC.2.1 dL_ends_65 rfl (lv_at hl 2 rfl) ?_
  refine lv_iconst (v := 2) hC.1 hC.2.1 dL_ends_66 (by decide) ?_
  refine aL_22 hC hZ (by unfold vp_in; decide) dL_ends_67 ?_
  refine lv_iconst (v := 1) hC.1 hC.2.1 dL_ends_68 (by decide) ?_
  refine lv_iadd hC.1 hC.2.1 dL_ends_69 ?_
  refine lv_istore (lv' := [(5, .int ((μ 22 0 (2 : Int32).toNatClampNeg) + 1)), (4, .int s0), (0, .ref (ad 30 0)), (1, .ref (ad 22 0)), (2, .int v2), (3, .int v3)]) hC.1 hC.2.1 dL_ends_70 hl (by decide) rfl (fun ls hl => ?_)
  obtain ⟨fuel, hfu, h⟩ := h
  exact t_L_ends_72 (l := l) hst hC hr _ _ _ _ _ _ _ _ _ _ _ (by show _ ≤ (40 : Nat); omega) (by show _ ≤ (240 : Nat); omega) h hZ (lv_sub hl [2, 3, 4, 5, 1, 0] rfl)
def b_L_ends_62 (n np : Nat) (post : Int32 → Mem → Prop) (v2 : Int32) (v3 : Int32) (μ : Mem) : Prop := b_L_ends_63 n np post v2 v3 (0 : Int32) μ
set_option maxRecDepth 100000 in
set_option maxHeartbeats 4000000 in
theorem t_L_ends_62 {p : Program} {l : Launch} {e : Env} {s : State} {m : MethodId} {args : Array Value} {below : List Frame} {meth : Method} {c : Code} {D : va_G} {ca : Nat → ClassId} {base : Nat} {ad : Nat → Nat → Nat} {n np : Nat} {post : Int32 → Mem → Prop} (hst : l.stackTraces = false) (hC : ZC p m meth c s RL cL_ends 10) (hr : meth.sig.returnType = (some FieldType.boolean)) (v2 : Int32) (v3 : Int32) (cx dx : Nat) (μ : Mem) (H : Heap) (locs : List Loc) (ls : Array Slot) (hBc : cx + (37) ≤ 40) (hBs : dx + (222) ≤ 240) (h : b_L_ends_62 n np post v2 v3 μ) (hZ : ZS D ca base ad n np μ s H locs) (hl : lv_has ls 10 [(0, .ref (ad 30 0)), (1, .ref (ad 22 0)), (2, .int v2), (3, .int v3)]) : W p l e ({ frames := 9, cells := 40, slots := 240, locals := 149 } : Room) s m args below meth c H locs cx dx (MQ below (ZQ D ca base ad n np (zpi post)) args s 40 240 (zB base)) (F0 m 62 ls []) := by
  unfold b_L_ends_62 at h
  refine lv_iconst (v := 0) hC.1 hC.2.1 dL_ends_62 (by decide) ?_
  exact t_L_ends_63 (l := l) hst hC hr _ _ _ _ _ _ _ _ _ (by show _ ≤ (40 : Nat); omega) (by show _ ≤ (240 : Nat); omega) h hZ (lv_sub hl [0, 1, 2, 3] rfl)
def w_L_ends (n np : Nat) (post : Int32 → Mem → Prop) (μ : Mem) : Prop := ((¬ (μ 22 0 (2 : Int32).toNatClampNeg) = 30 → (w_X4_cost n np (fun (r3 : Int32) (μ2 : Mem) => (∃ μ2g : Mem, gs μ2 μ2g ∧ (w_L_sceneOn n np (fun (r5 : Int32) (μ4 : Mem) => ((r5 < 0 → b_L_ends_62 n np post r3 r5 μ4) ∧ (¬ r5 < 0 → (w_L_isAllowed n np (fun (r56 : Int32) (μ55 : Mem) => ((¬ r56 = 0 → b_L_ends_62 n np post r3 r5 μ55) ∧ (r56 = 0 → b_L_ends_63 n np post r3 r5 (1 : Int32) μ55))) r5 (μ4 22 0 (2 : Int32).toNatClampNeg) μ4)))) (μ2g 22 0 (2 : Int32).toNatClampNeg) μ2g))) μ)) ∧ ((μ 22 0 (2 : Int32).toNatClampNeg) = 30 → (w_L_shoot n np (fun (r59 : Int32) (μ58 : Mem) => ((¬ r59 = (-1000003) → post 0 μ58) ∧ (r59 = (-1000003) → (w_X4_cost n np (fun (r62 : Int32) (μ61 : Mem) => (∃ μ61g : Mem, gs μ61 μ61g ∧ ((¬ r62 = 0 → post 0 μ61g) ∧ (r62 = 0 → post 1 μ61g)))) μ58)))) μ)))
set_option maxRecDepth 100000 in
set_option maxHeartbeats 4000000 in
theorem c_L_ends (l : Launch) (hst : l.stackTraces = false) {D : va_G} {ca : Nat → ClassId} {base : Nat} {ad : Nat → Nat → Nat} {n np : Nat} {μ : Mem} {post : Int32 → Mem → Prop} (h : w_L_ends n np post μ) : ZMet l yL_ends cL_ends 10 (some FieldType.boolean) ({ frames := 9, cells := 40, slots := 240, locals := 149 } : Room) 40 240 D ca base ad n np [.ref (ad 30 0), .ref (ad 22 0)] μ (zpi post) := by
  unfold ZMet
  refine Met.ofW (cc := cL_ends) (maxL := 10) (ret := (some FieldType.boolean)) (by decide) rfl ?_
  intro p e s m args below meth c s₁ B hml hv
  obtain ⟨rfl, hU⟩ := hv
  have hZ := hU.toS
  have hC : ZC p m meth c s RL cL_ends 10 := ⟨B.exec, B.bytes, hml, findClass_of_methodNamed B.named, B.notSynchronized⟩
  have hr := B.returns
  have key : W p l e ({ frames := 9, cells := 40, slots := 240, locals := 149 } : Room) s m (([.ref (ad 30 0), .ref (ad 22 0)] : List Value).toArray) below meth c s.heap [] 0 0 (MQ below (ZQ D ca base ad n np (zpi post)) (([.ref (ad 30 0), .ref (ad 22 0)] : List Value).toArray) s 40 240 (zB base)) (entryFrame m (([.ref (ad 30 0), .ref (ad 22 0)] : List Value).toArray) 10) := by
    have hl := lv_entry ([.ref (ad 30 0), .ref (ad 22 0)]) (n := 10) (Nat.le_of_ble_eq_true rfl)
    rw [lg_entry_eq]
    generalize (lg_sl ([.ref (ad 30 0), .ref (ad 22 0)]) ++ List.replicate (10 - (lg_sl ([.ref (ad 30 0), .ref (ad 22 0)])).length) Slot.unset).toArray = ls at hl ⊢
    have hl : lv_has ls 10 [(0, .ref (ad 30 0)), (1, .ref (ad 22 0))] := hl
    unfold w_L_ends at h
    refine lv_aload_n hC.1 hC.2.1 dL_ends_0 rfl (lv_at hl 1 rfl) ?_
    refine lv_iconst (v := 2) hC.1 hC.2.1 dL_ends_1 (by decide) ?_
    refine aL_22 hC hZ (by unfold vp_in; decide) dL_ends_2 ?_
    refine lv_bipush (v := 30) hC.1 hC.2.1 dL_ends_3 (by decide) ?_
    refine lv_icmp_ne (tgt := 30) hC.1 hC.2.1 dL_ends_5 (by decide) (fun c1 => ?_) (fun c1 => ?_)
    · have h := h.1 c1
      refine lv_aload_n hC.1 hC.2.1 dL_ends_30 rfl (lv_at hl 0 rfl) ?_
      refine z_cVi (As := []) hC hZ (zF_30 _) rfl zy_X4_cost (c_X4_cost l h) km_L_111 rfl ⟨rfl, rfl⟩ ⟨Nat.le_of_ble_eq_true rfl, Nat.le_of_ble_eq_true rfl⟩ hl.1 rfl (Nat.le_of_ble_eq_true rfl) dL_ends_31 ⟨by show _ ≤ (40 : Nat); omega, by show _ ≤ (240 : Nat); omega⟩ (fun r3 μ2 H locs h hZ => ?_)
      obtain ⟨μ2g, hgs, h⟩ := h
      have hZ := hZ.gs hgs
      refine lv_istore_n (lv' := [(2, .int r3), (0, .ref (ad 30 0)), (1, .ref (ad 22 0))]) hC.1 hC.2.1 dL_ends_34 rfl hl (by decide) rfl (fun ls hl => ?_)
      refine lv_aload_n hC.1 hC.2.1 dL_ends_35 rfl (lv_at hl 1 rfl) ?_
      refine lv_aload_n hC.1 hC.2.1 dL_ends_36 rfl (lv_at hl 2 rfl) ?_
      refine lv_iconst (v := 2) hC.1 hC.2.1 dL_ends_37 (by decide) ?_
      refine aL_22 hC hZ (by unfold vp_in; decide) dL_ends_38 ?_
      refine z_cWi (As := [.ref (ad 30 0), .int (μ2g 22 0 (2 : Int32).toNatClampNeg)]) hC hZ zy_L_sceneOn (c_L_sceneOn l hst h) km_L_85 rfl ⟨rfl, rfl⟩ ⟨Nat.le_of_ble_eq_true rfl, Nat.le_of_ble_eq_true rfl⟩ hl.1 rfl (Nat.le_of_ble_eq_true rfl) dL_ends_39 ⟨by show _ ≤ (40 : Nat); omega, by show _ ≤ (240 : Nat); omega⟩ (fun r5 μ4 H locs h hZ => ?_)
      refine lv_istore_n (lv' := [(3, .int r5), (2, .int r3), (0, .ref (ad 30 0)), (1, .ref (ad 22 0))]) hC.1 hC.2.1 dL_ends_42 rfl hl (by decide) rfl (fun ls hl => ?_)
      refine lv_iload_n hC.1 hC.2.1 dL_ends_43 rfl (lv_at hl 0 rfl) ?_
      refine lv_if_lt (tgt := 62) hC.1 hC.2.1 dL_ends_44 (by decide) (fun c6 => ?_) (fun c6 => ?_)
      · have h := h.1 c6
        exact t_L_ends_62 (l := l) hst hC hr _ _ _ _ _ _ _ _ (by show _ ≤ (40 : Nat); omega) (by show _ ≤ (240 : Nat); omega) h hZ (lv_sub hl [2, 3, 1, 0] rfl)
      · have h := h.2 c6
        refine lv_aload_n hC.1 hC.2.1 dL_ends_47 rfl (lv_at hl 2 rfl) ?_
        refine lv_iload_n hC.1 hC.2.1 dL_ends_48 rfl (lv_at hl 0 rfl) ?_
        refine lv_aload_n hC.1 hC.2.1 dL_ends_49 rfl (lv_at hl 3 rfl) ?_
        refine lv_iconst (v := 2) hC.1 hC.2.1 dL_ends_50 (by decide) ?_
        refine aL_22 hC hZ (by unfold vp_in; decide) dL_ends_51 ?_
        refine z_cWi (As := [.ref (ad 30 0), .int r5, .int (μ4 22 0 (2 : Int32).toNatClampNeg)]) hC hZ zy_L_isAllowed (c_L_isAllowed l hst h) km_L_94 rfl ⟨rfl, rfl⟩ ⟨Nat.le_of_ble_eq_true rfl, Nat.le_of_ble_eq_true rfl⟩ hl.1 rfl (Nat.le_of_ble_eq_true rfl) dL_ends_52 ⟨by show _ ≤ (40 : Nat); omega, by show _ ≤ (240 : Nat); omega⟩ (fun r56 μ55 H locs h hZ => ?_)
        refine lv_if_ne (tgt := 62) hC.1 hC.2.1 dL_ends_55 (by decide) (fun c57 => ?_) (fun c57 => ?_)
        · have h := h.1 c57
          exact t_L_ends_62 (l := l) hst hC hr _ _ _ _ _ _ _ _ (by show _ ≤ (40 : Nat); omega) (by show _ ≤ (240 : Nat); omega) h hZ (lv_sub hl [2, 3, 1, 0] rfl)
        · have h := h.2 c57
          refine lv_iconst (v := 1) hC.1 hC.2.1 dL_ends_58 (by decide) ?_
          refine lv_goto (tgt := 63) hC.1 hC.2.1 dL_ends_59 (by decide) ?_
          exact t_L_ends_63 (l := l) hst hC hr _ _ _ _ _ _ _ _ _ (by show _ ≤ (40 : Nat); omega) (by show _ ≤ (240 : Nat); omega) h hZ (lv_sub hl [2, 3, 1, 0] rfl)
    · have h := h.2 c1
      refine lv_aload_n hC.1 hC.2.1 dL_ends_8 rfl (lv_at hl 0 rfl) ?_
      refine z_cWi (As := [.ref (ad 30 0)]) hC hZ zy_L_shoot (c_L_shoot l hst h) km_L_137 rfl ⟨rfl, rfl⟩ ⟨Nat.le_of_ble_eq_true rfl, Nat.le_of_ble_eq_true rfl⟩ hl.1 rfl (Nat.le_of_ble_eq_true rfl) dL_ends_9 ⟨by show _ ≤ (40 : Nat); omega, by show _ ≤ (240 : Nat); omega⟩ (fun r59 μ58 H locs h hZ => ?_)
      refine lv_ldc (v := (-1000003)) hC.1 hC.2.1 hC.2.2.2.1 (hZ.1.2.1.use _ kk_L_21 rfl) dL_ends_12 ?_
      refine lv_icmp_ne (tgt := 28) hC.1 hC.2.1 dL_ends_14 (by decide) (fun c60 => ?_) (fun c60 => ?_)
      · have h := h.1 c60
        refine lv_iconst (v := 0) hC.1 hC.2.1 dL_ends_28 (by decide) ?_
        exact z_bret hC hr hZ (by decide) h dL_ends_29 (by show _ ≤ (40 : Nat); omega) (by show _ ≤ (240 : Nat); omega)
      · have h := h.2 c60
        refine lv_aload_n hC.1 hC.2.1 dL_ends_17 rfl (lv_at hl 0 rfl) ?_
        refine z_cVi (As := []) hC hZ (zF_30 _) rfl zy_X4_cost (c_X4_cost l h) km_L_111 rfl ⟨rfl, rfl⟩ ⟨Nat.le_of_ble_eq_true rfl, Nat.le_of_ble_eq_true rfl⟩ hl.1 rfl (Nat.le_of_ble_eq_true rfl) dL_ends_18 ⟨by show _ ≤ (40 : Nat); omega, by show _ ≤ (240 : Nat); omega⟩ (fun r62 μ61 H locs h hZ => ?_)
        obtain ⟨μ61g, hgs, h⟩ := h
        have hZ := hZ.gs hgs
        refine lv_if_ne (tgt := 28) hC.1 hC.2.1 dL_ends_21 (by decide) (fun c63 => ?_) (fun c63 => ?_)
        · have h := h.1 c63
          refine lv_iconst (v := 0) hC.1 hC.2.1 dL_ends_28 (by decide) ?_
          exact z_bret hC hr hZ (by decide) h dL_ends_29 (by show _ ≤ (40 : Nat); omega) (by show _ ≤ (240 : Nat); omega)
        · have h := h.2 c63
          refine lv_iconst (v := 1) hC.1 hC.2.1 dL_ends_24 (by decide) ?_
          refine lv_goto (tgt := 29) hC.1 hC.2.1 dL_ends_25 (by decide) ?_
          exact z_bret hC hr hZ (by decide) h dL_ends_29 (by show _ ≤ (40 : Nat); omega) (by show _ ≤ (240 : Nat); omega)
  exact key
