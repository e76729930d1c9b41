def w_L_low (n np : Nat) (post : Int32 → Mem → Prop) (a1 : Int32) (a2 : Int32) (μ : Mem) : Prop := (¬ a2 = 0 ∧ post ((a1 &&& 2147483647) - (a1 &&& 2147483647) / a2 * a2) μ)
set_option maxRecDepth 100000 in
set_option maxHeartbeats 4000000 in
theorem c_L_low (l : Launch) {D : va_G} {ca : Nat → ClassId} {base : Nat} {ad : Nat → Nat → Nat} {n np : Nat} {μ : Mem} {post : Int32 → Mem → Prop} {a1 : Int32} {a2 : Int32} (h : w_L_low n np post a1 a2 μ) : ZMet l yL_low cL_low 2 (some FieldType.int) ({ frames := 0, cells := 0, slots := 0, locals := 0 } : Room) 0 0 D ca base ad n np [.int a1, .int a2] μ (zpi post) := by
  unfold ZMet
  refine Met.ofW (cc := cL_low) (maxL := 2) (ret := (some FieldType.int)) (by decide) rfl ?_
  intro p e s m args below meth c s₁ B hml hv
  obtain ⟨rfl, hU⟩ := hv
  have hZ := hU.toS
  have hC : ZC p m meth c s RL cL_low 2 := ⟨B.exec, B.bytes, hml, findClass_of_methodNamed B.named, B.notSynchronized⟩
  have hr := B.returns
  have key : W p l e ({ frames := 0, cells := 0, slots := 0, locals := 0 } : Room) s m (([.int a1, .int a2] : List Value).toArray) below meth c s.heap [] 0 0 (MQ below (ZQ D ca base ad n np (zpi post)) (([.int a1, .int a2] : List Value).toArray) s 0 0 (zB base)) (entryFrame m (([.int a1, .int a2] : List Value).toArray) 2) := by
    have hl := lv_entry ([.int a1, .int a2]) (n := 2) (Nat.le_of_ble_eq_true rfl)
    rw [lg_entry_eq]
    generalize (lg_sl ([.int a1, .int a2]) ++ List.replicate (2 - (lg_sl ([.int a1, .int a2])).length) Slot.unset).toArray = ls at hl ⊢
    have hl : lv_has ls 2 [(0, .int a1), (1, .int a2)] := hl
    unfold w_L_low at h
    refine lv_iload_n hC.1 hC.2.1 dL_low_0 rfl (lv_at hl 0 rfl) ?_
    refine lv_ldc (v := 2147483647) hC.1 hC.2.1 hC.2.2.2.1 (hZ.1.2.1.use _ kk_L_9 rfl) dL_low_1 ?_
    refine lv_iand hC.1 hC.2.1 dL_low_3 ?_
    refine lv_iload_n hC.1 hC.2.1 dL_low_4 rfl (lv_at hl 1 rfl) ?_
    obtain ⟨q1, h⟩ := h
    refine lv_irem hC.1 hC.2.1 dL_low_5 q1 ?_
    exact z_iret hC hr hZ h dL_low_6 (by show _ ≤ (0 : Nat); omega) (by show _ ≤ (0 : Nat); omega)
  exact key
def w_L_use (n np : Nat) (post : Int32 → Mem → Prop) (a3 : Int32) (a4 : Int32) (μ : Mem) : Prop := (w_L_stateOf n np (fun (r2 : Int32) (μ1 : Mem) => ((¬ r2 = 2 → (vp_in ((5 * a3) + a4) 50 ∧ post (μ1 23 0 ((5 * a3) + a4).toNatClampNeg) μ1)) ∧ (r2 = 2 → post 0 μ1))) a3 μ)
set_option maxRecDepth 100000 in
set_option maxHeartbeats 4000000 in
theorem c_L_use (l : Launch) (hst : l.stackTraces = false) {D : va_G} {ca : Nat → ClassId} {base : Nat} {ad : Nat → Nat → Nat} {n np : Nat} {μ : Mem} {post : Int32 → Mem → Prop} {a3 : Int32} {a4 : Int32} (h : w_L_use n np post a3 a4 μ) : ZMet l yL_use cL_use 4 (some FieldType.int) ({ frames := 9, cells := 1, slots := 6, locals := 146 } : Room) 1 6 D ca base ad n np [.ref (ad 23 0), .ref (ad 30 0), .int a3, .int a4] μ (zpi post) := by
  unfold ZMet
  refine Met.ofW (cc := cL_use) (maxL := 4) (ret := (some FieldType.int)) (by decide) rfl ?_
  intro p e s m args below meth c s₁ B hml hv
  obtain ⟨rfl, hU⟩ := hv
  have hZ := hU.toS
  have hC : ZC p m meth c s RL cL_use 4 := ⟨B.exec, B.bytes, hml, findClass_of_methodNamed B.named, B.notSynchronized⟩
  have hr := B.returns
  have key : W p l e ({ frames := 9, cells := 1, slots := 6, locals := 146 } : Room) s m (([.ref (ad 23 0), .ref (ad 30 0), .int a3, .int a4] : List Value).toArray) below meth c s.heap [] 0 0 (MQ below (ZQ D ca base ad n np (zpi post)) (([.ref (ad 23 0), .ref (ad 30 0), .int a3, .int a4] : List Value).toArray) s 1 6 (zB base)) (entryFrame m (([.ref (ad 23 0), .ref (ad 30 0), .int a3, .int a4] : List Value).toArray) 4) := by
    have hl := lv_entry ([.ref (ad 23 0), .ref (ad 30 0), .int a3, .int a4]) (n := 4) (Nat.le_of_ble_eq_true rfl)
    rw [lg_entry_eq]
    generalize (lg_sl ([.ref (ad 23 0), .ref (ad 30 0), .int a3, .int a4]) ++ List.replicate (4 - (lg_sl ([.ref (ad 23 0), .ref (ad 30 0), .int a3, .int a4])).length) Slot.unset).toArray = ls at hl ⊢
    have hl : lv_has ls 4 [(0, .ref (ad 23 0)), (1, .ref (ad 30 0)), (2, .int a3), (3, .int a4)] := hl
    unfold w_L_use at h
    refine lv_aload_n hC.1 hC.2.1 dL_use_0 rfl (lv_at hl 1 rfl) ?_
    refine lv_iload_n hC.1 hC.2.1 dL_use_1 rfl (lv_at hl 2 rfl) ?_
    refine z_cWi (As := [.ref (ad 30 0), .int a3]) hC hZ zy_L_stateOf (c_L_stateOf l hst h) km_L_90 rfl ⟨rfl, rfl⟩ ⟨Nat.le_of_ble_eq_true rfl, Nat.le_of_ble_eq_true rfl⟩ hl.1 rfl (Nat.le_of_ble_eq_true rfl) dL_use_2 ⟨by show _ ≤ (1 : Nat); omega, by show _ ≤ (6 : Nat); omega⟩ (fun r2 μ1 H locs h hZ => ?_)
    refine lv_iconst (v := 2) hC.1 hC.2.1 dL_use_5 (by decide) ?_
    refine lv_icmp_ne (tgt := 13) hC.1 hC.2.1 dL_use_6 (by decide) (fun c3 => ?_) (fun c3 => ?_)
    · have h := h.1 c3
      refine lv_aload_n hC.1 hC.2.1 dL_use_13 rfl (lv_at hl 0 rfl) ?_
      refine lv_iconst (v := 5) hC.1 hC.2.1 dL_use_14 (by decide) ?_
      refine lv_iload_n hC.1 hC.2.1 dL_use_15 rfl (lv_at hl 2 rfl) ?_
      refine lv_imul hC.1 hC.2.1 dL_use_16 ?_
      refine lv_iload_n hC.1 hC.2.1 dL_use_17 rfl (lv_at hl 3 rfl) ?_
      refine lv_iadd hC.1 hC.2.1 dL_use_18 ?_
      obtain ⟨q4, h⟩ := h
      refine aL_23 hC hZ q4 dL_use_19 ?_
      exact z_iret hC hr hZ h dL_use_20 (by show _ ≤ (1 : Nat); omega) (by show _ ≤ (6 : Nat); omega)
    · have h := h.2 c3
      refine lv_iconst (v := 0) hC.1 hC.2.1 dL_use_9 (by decide) ?_
      refine lv_goto (tgt := 20) hC.1 hC.2.1 dL_use_10 (by decide) ?_
      exact z_iret hC hr hZ h dL_use_20 (by show _ ≤ (1 : Nat); omega) (by show _ ≤ (6 : Nat); omega)
  exact key
def b_L_isSo_340 (n np : Nat) (post : Int32 → Mem → Prop) (k231 : Int32 → Int32 → Int32 → Mem → Prop) (k243 : Int32 → Int32 → Int32 → Int32 → Int32 → Mem → Prop) (v3 : Int32) (v4 : Int32) (v5 : Int32) (v7 : Int32) (s0 : Int32) (μ : Mem) : Prop := k243 v3 v4 v5 s0 (v7 + 1) μ
set_option maxRecDepth 100000 in
set_option maxHeartbeats 4000000 in
theorem t_L_isSo_340 {p : Program} {l : Launch} {e : Env} {s : State} {m : MethodId} {args : Array Value} {below : List Frame} {meth : Method} {c : Code} {D : va_G} {ca : Nat → ClassId} {base : Nat} {ad : Nat → Nat → Nat} {n np : Nat} {post : Int32 → Mem → Prop} {k231 : Int32 → Int32 → Int32 → Mem → Prop} {k243 : Int32 → Int32 → Int32 → Int32 → Int32 → Mem → Prop} {Kc231 Ks231 : Nat} {Kc243 Ks243 : Nat} (hst : l.stackTraces = false) (hC : ZC p m meth c s RL cL_isSo 9) (hr : meth.sig.returnType = (some FieldType.boolean)) (hk231 : ∀ (v3 : Int32) (v4 : Int32) (v5 : Int32) (cx dx : Nat) (μ : Mem) (H : Heap) (locs : List Loc) (ls : Array Slot), cx + Kc231 ≤ 429 → dx + Ks231 ≤ 2574 → k231 v3 v4 v5 μ → ZS D ca base ad n np μ s H locs → lv_has ls 9 [(0, .ref (ad 30 0)), (1, .ref (ad 22 0)), (2, .ref (ad 23 0)), (3, .int v3), (4, .int v4), (5, .int v5)] → W p l e ({ frames := 9, cells := 429, slots := 2574, locals := 155 } : Room) s m args below meth c H locs cx dx (MQ below (ZQ D ca base ad n np (zpi post)) args s 429 2574 (zB base)) (F0 m 231 ls [])) (hk243 : ∀ (v3 : Int32) (v4 : Int32) (v5 : Int32) (v6 : Int32) (v7 : Int32) (cx dx : Nat) (μ : Mem) (H : Heap) (locs : List Loc) (ls : Array Slot), cx + Kc243 ≤ 429 → dx + Ks243 ≤ 2574 → k243 v3 v4 v5 v6 v7 μ → ZS D ca base ad n np μ s H locs → lv_has ls 9 [(0, .ref (ad 30 0)), (1, .ref (ad 22 0)), (2, .ref (ad 23 0)), (3, .int v3), (4, .int v4), (5, .int v5), (6, .int v6), (7, .int v7)] → W p l e ({ frames := 9, cells := 429, slots := 2574, locals := 155 } : Room) s m args below meth c H locs cx dx (MQ below (ZQ D ca base ad n np (zpi post)) args s 429 2574 (zB base)) (F0 m 243 ls [])) (v3 : Int32) (v4 : Int32) (v5 : Int32) (v7 : Int32) (s0 : Int32) (cx dx : Nat) (μ : Mem) (H : Heap) (locs : List Loc) (ls : Array Slot) (hBc : cx + (0 + Kc243) ≤ 429) (hBs : dx + (0 + Ks243) ≤ 2574) (h : b_L_isSo_340 n np post k231 k243 v3 v4 v5 v7 s0 μ) (hZ : ZS D ca base ad n np μ s H locs) (hl : lv_has ls 9 [(0, .ref (ad 30 0)), (1, .ref (ad 22 0)), (2, .ref (ad 23 0)), (3, .int v3), (4, .int v4), (5, .int v5), (7, .int v7)]) : W p l e ({ frames := 9, cells := 429, slots := 2574, locals := 155 } : Room) s m args below meth c H locs cx dx (MQ below (ZQ D ca base ad n np (zpi post)) args s 429 2574 (zB base)) (F0 m 340 ls [.int s0]) := by
  unfold b_L_isSo_340 at h
  refine lv_istore (lv' := [(6, .int s0), (0, .ref (ad 30 0)), (1, .ref (ad 22 0)), (2, .ref (ad 23 0)), (3, .int v3), (4, .int v4), (5, .int v5), (7, .int v7)]) hC.1 hC.2.1 dL_isSo_340 hl (by decide) rfl (fun ls hl => ?_)
  refine lv_iinc (v := v7 + 1) (lv' := [(7, .int (v7 + 1)), (6, .int s0), (0, .ref (ad 30 0)), (1, .ref (ad 22 0)), (2, .ref (ad 23 0)), (3, .int v3), (4, .int v4), (5, .int v5)]) hC.1 hC.2.1 dL_isSo_342 hl (k := 7) rfl rfl (by decide) rfl (fun ls hl => ?_)
  refine lv_goto (tgt := 243) hC.1 hC.2.1 dL_isSo_345 (by decide) ?_
  exact hk243 _ _ _ _ _ _ _ _ _ _ _ (by show _ ≤ (429 : Nat); omega) (by show _ ≤ (2574 : Nat); omega) h hZ (lv_sub hl [2, 3, 4, 5, 6, 7, 1, 0] rfl)
def b_L_isSo_325 (n np : Nat) (post : Int32 → Mem → Prop) (k231 : Int32 → Int32 → Int32 → Mem → Prop) (k243 : Int32 → Int32 → Int32 → Int32 → Int32 → Mem → Prop) (v3 : Int32) (v4 : Int32) (v5 : Int32) (v6 : Int32) (v7 : Int32) (v8 : Int32) (μ : Mem) : Prop := ((v8 ≤ 0 → b_L_isSo_340 n np post k231 k243 v3 v4 v5 v7 v6 μ) ∧ (¬ v8 ≤ 0 → b_L_isSo_340 n np post k231 k243 v3 v4 v5 v7 (v8 / 8) μ))
set_option maxRecDepth 100000 in
set_option maxHeartbeats 4000000 in
theorem t_L_isSo_325 {p : Program} {l : Launch} {e : Env} {s : State} {m : MethodId} {args : Array Value} {below : List Frame} {meth : Method} {c : Code} {D : va_G} {ca : Nat → ClassId} {base : Nat} {ad : Nat → Nat → Nat} {n np : Nat} {post : Int32 → Mem → Prop} {k231 : Int32 → Int32 → Int32 → Mem → Prop} {k243 : Int32 → Int32 → Int32 → Int32 → Int32 → Mem → Prop} {Kc231 Ks231 : Nat} {Kc243 Ks243 : Nat} (hst : l.stackTraces = false) (hC : ZC p m meth c s RL cL_isSo 9) (hr : meth.sig.returnType = (some FieldType.boolean)) (hk231 : ∀ (v3 : Int32) (v4 : Int32) (v5 : Int32) (cx dx : Nat) (μ : Mem) (H : Heap) (locs : List Loc) (ls : Array Slot), cx + Kc231 ≤ 429 → dx + Ks231 ≤ 2574 → k231 v3 v4 v5 μ → ZS D ca base ad n np μ s H locs → lv_has ls 9 [(0, .ref (ad 30 0)), (1, .ref (ad 22 0)), (2, .ref (ad 23 0)), (3, .int v3), (4, .int v4), (5, .int v5)] → W p l e ({ frames := 9, cells := 429, slots := 2574, locals := 155 } : Room) s m args below meth c H locs cx dx (MQ below (ZQ D ca base ad n np (zpi post)) args s 429 2574 (zB base)) (F0 m 231 ls [])) (hk243 : ∀ (v3 : Int32) (v4 : Int32) (v5 : Int32) (v6 : Int32) (v7 : Int32) (cx dx : Nat) (μ : Mem) (H : Heap) (locs : List Loc) (ls : Array Slot), cx + Kc243 ≤ 429 → dx + Ks243 ≤ 2574 → k243 v3 v4 v5 v6 v7 μ → ZS D ca base ad n np μ s H locs → lv_has ls 9 [(0, .ref (ad 30 0)), (1, .ref (ad 22 0)), (2, .ref (ad 23 0)), (3, .int v3), (4, .int v4), (5, .int v5), (6, .int v6), (7, .int v7)] → W p l e ({ frames := 9, cells := 429, slots := 2574, locals := 155 } : Room) s m args below meth c H locs cx dx (MQ below (ZQ D ca base ad n np (zpi post)) args s 429 2574 (zB base)) (F0 m 243 ls [])) (v3 : Int32) (v4 : Int32) (v5 : Int32) (v6 : Int32) (v7 : Int32) (v8 : Int32) (cx dx : Nat) (μ : Mem) (H : Heap) (locs : List Loc) (ls : Array Slot) (hBc : cx + (0 + Kc243) ≤ 429) (hBs : dx + (0 + Ks243) ≤ 2574) (h : b_L_isSo_325 n np post k231 k243 v3 v4 v5 v6 v7 v8 μ) (hZ : ZS D ca base ad n np μ s H locs) (hl : lv_has ls 9 [(0, .ref (ad 30 0)), (1, .ref (ad 22 0)), (2, .ref (ad 23 0)), (3, .int v3), (4, .int v4), (5, .int v5), (6, .int v6), (7, .int v7), (8, .int v8)]) : W p l e ({ frames := 9, cells := 429, slots := 2574, locals := 155 } : Room) s m args below meth c H locs cx dx (MQ below (ZQ D ca base ad n np (zpi post)) args s 429 2574 (zB base)) (F0 m 325 ls []) := by
  unfold b_L_isSo_325 at h
  refine lv_iload hC.1 hC.2.1 dL_isSo_325 (lv_at hl 8 rfl) ?_
  refine lv_if_le (tgt := 338) hC.1 hC.2.1 dL_isSo_327 (by decide) (fun c56 => ?_) (fun c56 => ?_)
  · have h := h.1 c56
    refine lv_iload hC.1 hC.2.1 dL_isSo_338 (lv_at hl 6 rfl) ?_
    exact t_L_isSo_340 (l := l) hst hC hr hk231 hk243 _ _ _ _ _ _ _ _ _ _ _ (by show _ ≤ (429 : Nat); omega) (by show _ ≤ (2574 : Nat); omega) h hZ (lv_sub hl [0, 1, 2, 3, 4, 5, 7] rfl)
  · have h := h.2 c56
    refine lv_iload hC.1 hC.2.1 dL_isSo_330 (lv_at hl 8 rfl) ?_
    refine lv_bipush (v := 8) hC.1 hC.2.1 dL_isSo_332 (by decide) ?_
    refine lv_idiv hC.1 hC.2.1 dL_isSo_334 (by decide) ?_
    refine lv_goto (tgt := 340) hC.1 hC.2.1 dL_isSo_335 (by decide) ?_
    exact t_L_isSo_340 (l := l) hst hC hr hk231 hk243 _ _ _ _ _ _ _ _ _ _ _ (by show _ ≤ (429 : Nat); omega) (by show _ ≤ (2574 : Nat); omega) h hZ (lv_sub hl [0, 1, 2, 3, 4, 5, 7] rfl)
def b_L_isSo_289 (n np : Nat) (post : Int32 → Mem → Prop) (k231 : Int32 → Int32 → Int32 → Mem → Prop) (k243 : Int32 → Int32 → Int32 → Int32 → Int32 → Mem → Prop) (v3 : Int32) (v4 : Int32) (v5 : Int32) (v6 : Int32) (v7 : Int32) (s0 : Int32) (μ : Mem) : Prop := ((s0 ≤ 0 → b_L_isSo_325 n np post k231 k243 v3 v4 v5 v6 v7 s0 μ) ∧ (¬ s0 ≤ 0 → ((((s0 - s0 / 8 * 8) - 1) < v6 → post 0 μ) ∧ (¬ ((s0 - s0 / 8 * 8) - 1) < v6 → ((((s0 - s0 / 8 * 8) - 1) ≤ (s0 / 8) → b_L_isSo_325 n np post k231 k243 v3 v4 v5 v6 v7 s0 μ) ∧ (¬ ((s0 - s0 / 8 * 8) - 1) ≤ (s0 / 8) → post 0 μ))))))
set_option maxRecDepth 100000 in
set_option maxHeartbeats 4000000 in
theorem t_L_isSo_289 {p : Program} {l : Launch} {e : Env} {s : State} {m : MethodId} {args : Array Value} {below : List Frame} {meth : Method} {c : Code} {D : va_G} {ca : Nat → ClassId} {base : Nat} {ad : Nat → Nat → Nat} {n np : Nat} {post : Int32 → Mem → Prop} {k231 : Int32 → Int32 → Int32 → Mem → Prop} {k243 : Int32 → Int32 → Int32 → Int32 → Int32 → Mem → Prop} {Kc231 Ks231 : Nat} {Kc243 Ks243 : Nat} (hst : l.stackTraces = false) (hC : ZC p m meth c s RL cL_isSo 9) (hr : meth.sig.returnType = (some FieldType.boolean)) (hk231 : ∀ (v3 : Int32) (v4 : Int32) (v5 : Int32) (cx dx : Nat) (μ : Mem) (H : Heap) (locs : List Loc) (ls : Array Slot), cx + Kc231 ≤ 429 → dx + Ks231 ≤ 2574 → k231 v3 v4 v5 μ → ZS D ca base ad n np μ s H locs → lv_has ls 9 [(0, .ref (ad 30 0)), (1, .ref (ad 22 0)), (2, .ref (ad 23 0)), (3, .int v3), (4, .int v4), (5, .int v5)] → W p l e ({ frames := 9, cells := 429, slots := 2574, locals := 155 } : Room) s m args below meth c H locs cx dx (MQ below (ZQ D ca base ad n np (zpi post)) args s 429 2574 (zB base)) (F0 m 231 ls [])) (hk243 : ∀ (v3 : Int32) (v4 : Int32) (v5 : Int32) (v6 : Int32) (v7 : Int32) (cx dx : Nat) (μ : Mem) (H : Heap) (locs : List Loc) (ls : Array Slot), cx + Kc243 ≤ 429 → dx + Ks243 ≤ 2574 → k243 v3 v4 v5 v6 v7 μ → ZS D ca base ad n np μ s H locs → lv_has ls 9 [(0, .ref (ad 30 0)), (1, .ref (ad 22 0)), (2, .ref (ad 23 0)), (3, .int v3), (4, .int v4), (5, .int v5), (6, .int v6), (7, .int v7)] → W p l e ({ frames := 9, cells := 429, slots := 2574, locals := 155 } : Room) s m args below meth c H locs cx dx (MQ below (ZQ D ca base ad n np (zpi post)) args s 429 2574 (zB base)) (F0 m 243 ls [])) (v3 : Int32) (v4 : Int32) (v5 : Int32) (v6 : Int32) (v7 : Int32) (s0 : Int32) (cx dx : Nat) (μ : Mem) (H : Heap) (locs : List Loc) (ls : Array Slot) (hBc : cx + (0 + Kc243) ≤ 429) (hBs : dx + (0 + Ks243) ≤ 2574) (h : b_L_isSo_289 n np post k231 k243 v3 v4 v5 v6 v7 s0 μ) (hZ : ZS D ca base ad n np μ s H locs) (hl : lv_has ls 9 [(0, .ref (ad 30 0)), (1, .ref (ad 22 0)), (2, .ref (ad 23 0)), (3, .int v3), (4, .int v4), (5, .int v5), (6, .int v6), (7, .int v7)]) : W p l e ({ frames := 9, cells := 429, slots := 2574, locals := 155 } : Room) s m args below meth c H locs cx dx (MQ below (ZQ D ca base ad n np (zpi post)) args s 429 2574 (zB base)) (F0 m 289 ls [.int s0]) := by
  unfold b_L_isSo_289 at h
  refine lv_istore (lv' := [(8, .int s0), (0, .ref (ad 30 0)), (1, .ref (ad 22 0)), (2, .ref (ad 23 0)), (3, .int v3), (4, .int v4), (5, .int v5), (6, .int v6), (7, .int v7)]) hC.1 hC.2.1 dL_isSo_289 hl (by decide) rfl (fun ls hl => ?_)
  refine lv_iload hC.1 hC.2.1 dL_isSo_291 (lv_at hl 0 rfl) ?_
  refine lv_if_le (tgt := 325) hC.1 hC.2.1 dL_isSo_293 (by decide) (fun c55 => ?_) (fun c55 => ?_)
  · have h := h.1 c55
    exact t_L_isSo_325 (l := l) hst hC hr hk231 hk243 _ _ _ _ _ _ _ _ _ _ _ _ (by show _ ≤ (429 : Nat); omega) (by show _ ≤ (2574 : Nat); omega) h hZ (lv_sub hl [1, 2, 3, 4, 5, 6, 7, 8, 0] rfl)
  · have h := h.2 c55
    refine lv_iload hC.1 hC.2.1 dL_isSo_296 (lv_at hl 0 rfl) ?_
    refine lv_bipush (v := 8) hC.1 hC.2.1 dL_isSo_298 (by decide) ?_
    refine lv_irem hC.1 hC.2.1 dL_isSo_300 (by decide) ?_
    refine lv_iconst (v := 1) hC.1 hC.2.1 dL_isSo_301 (by decide) ?_
    refine lv_isub hC.1 hC.2.1 dL_isSo_302 ?_
    refine lv_iload hC.1 hC.2.1 dL_isSo_303 (lv_at hl 7 rfl) ?_
    refine lv_icmp_lt (tgt := 323) hC.1 hC.2.1 dL_isSo_305 (by decide) (fun c57 => ?_) (fun c57 => ?_)
    · have h := h.1 c57
      refine lv_iconst (v := 0) hC.1 hC.2.1 dL_isSo_323 (by decide) ?_
      exact z_bret hC hr hZ (by decide) h dL_isSo_324 (by show _ ≤ (429 : Nat); omega) (by show _ ≤ (2574 : Nat); omega)
    · have h := h.2 c57
      refine lv_iload hC.1 hC.2.1 dL_isSo_308 (lv_at hl 0 rfl) ?_
      refine lv_bipush (v := 8) hC.1 hC.2.1 dL_isSo_310 (by decide) ?_
      refine lv_idiv hC.1 hC.2.1 dL_isSo_312 (by decide) ?_
      refine lv_iload hC.1 hC.2.1 dL_isSo_313 (lv_at hl 0 rfl) ?_
      refine lv_bipush (v := 8) hC.1 hC.2.1 dL_isSo_315 (by decide) ?_
      refine lv_irem hC.1 hC.2.1 dL_isSo_317 (by decide) ?_
      refine lv_iconst (v := 1) hC.1 hC.2.1 dL_isSo_318 (by decide) ?_
      refine lv_isub hC.1 hC.2.1 dL_isSo_319 ?_
      refine lv_icmp_ge (tgt := 325) hC.1 hC.2.1 dL_isSo_320 (by decide) (fun c58 => ?_) (fun c58 => ?_)
      · have h := h.1 c58
        exact t_L_isSo_325 (l := l) hst hC hr hk231 hk243 _ _ _ _ _ _ _ _ _ _ _ _ (by show _ ≤ (429 : Nat); omega) (by show _ ≤ (2574 : Nat); omega) h hZ (lv_sub hl [1, 2, 3, 4, 5, 6, 7, 8, 0] rfl)
      · have h := h.2 c58
        refine lv_iconst (v := 0) hC.1 hC.2.1 dL_isSo_323 (by decide) ?_
        exact z_bret hC hr hZ (by decide) h dL_isSo_324 (by show _ ≤ (429 : Nat); omega) (by show _ ≤ (2574 : Nat); omega)
def lb_L_isSo_243 (n np : Nat) (post : Int32 → Mem → Prop) (k231 : Int32 → Int32 → Int32 → Mem → Prop) (k243 : Int32 → Int32 → Int32 → Int32 → Int32 → Mem → Prop) (v3 : Int32) (v4 : Int32) (v5 : Int32) (v6 : Int32) (v7 : Int32) (μ : Mem) : Prop := (((μ 22 0 (0 : Int32).toNatClampNeg) ≤ v7 → k231 v3 v4 (v5 + 1) μ) ∧ (¬ (μ 22 0 (0 : Int32).toNatClampNeg) ≤ v7 → (w_L_ahead n np (fun (r49 : Int32) (μ48 : Mem) => ((r49 = v6 → (w_L_stateOf n np (fun (r52 : Int32) (μ51 : Mem) => ((¬ r52 = 2 → (vp_in ((5 * v7) + v5) 50 ∧ b_L_isSo_289 n np post k231 k243 v3 v4 v5 v6 v7 (μ51 23 0 ((5 * v7) + v5).toNatClampNeg) μ51)) ∧ (r52 = 2 → b_L_isSo_289 n np post k231 k243 v3 v4 v5 v6 v7 (0 : Int32) μ51))) v7 μ48)) ∧ (¬ r49 = v6 → post 0 μ48))) v7 v5 μ)))
def l_L_isSo_243 (n np : Nat) (post : Int32 → Mem → Prop) (k231 : Int32 → Int32 → Int32 → Mem → Prop) : Nat → Int32 → Int32 → Int32 → Int32 → Int32 → Mem → Prop
  | 0 => fun _ _ _ _ _ _ => False
  | fuel + 1 => lb_L_isSo_243 n np post k231 (l_L_isSo_243 n np post k231 fuel) 
set_option maxRecDepth 100000 in
set_option maxHeartbeats 4000000 in
theorem t_L_isSo_243 {p : Program} {l : Launch} {e : Env} {s : State} {m : MethodId} {args : Array Value} {below : List Frame} {meth : Method} {c : Code} {D : va_G} {ca : Nat → ClassId} {base : Nat} {ad : Nat → Nat → Nat} {n np : Nat} {post : Int32 → Mem → Prop} {k231 : Int32 → Int32 → Int32 → Mem → Prop} {Kc231 Ks231 : Nat} (hst : l.stackTraces = false) (hC : ZC p m meth c s RL cL_isSo 9) (hr : meth.sig.returnType = (some FieldType.boolean)) (hk231 : ∀ (v3 : Int32) (v4 : Int32) (v5 : Int32) (cx dx : Nat) (μ : Mem) (H : Heap) (locs : List Loc) (ls : Array Slot), cx + Kc231 ≤ 429 → dx + Ks231 ≤ 2574 → k231 v3 v4 v5 μ → ZS D ca base ad n np μ s H locs → lv_has ls 9 [(0, .ref (ad 30 0)), (1, .ref (ad 22 0)), (2, .ref (ad 23 0)), (3, .int v3), (4, .int v4), (5, .int v5)] → W p l e ({ frames := 9, cells := 429, slots := 2574, locals := 155 } : Room) s m args below meth c H locs cx dx (MQ below (ZQ D ca base ad n np (zpi post)) args s 429 2574 (zB base)) (F0 m 231 ls [])) : ∀ (fuel : Nat) (v3 : Int32) (v4 : Int32) (v5 : Int32) (v6 : Int32) (v7 : Int32) (cx dx : Nat) (μ : Mem) (H : Heap) (locs : List Loc) (ls : Array Slot), cx + (fuel * 3 + (3 + Kc231)) ≤ 429 → dx + (fuel * 18 + (18 + Ks231)) ≤ 2574 → l_L_isSo_243 n np post k231 fuel v3 v4 v5 v6 v7 μ → ZS D ca base ad n np μ s H locs → lv_has ls 9 [(0, .ref (ad 30 0)), (1, .ref (ad 22 0)), (2, .ref (ad 23 0)), (3, .int v3), (4, .int v4), (5, .int v5), (6, .int v6), (7, .int v7)] → W p l e ({ frames := 9, cells := 429, slots := 2574, locals := 155 } : Room) s m args below meth c H locs cx dx (MQ below (ZQ D ca base ad n np (zpi post)) args s 429 2574 (zB base)) (F0 m 243 ls []) := by
  intro fuel
  induction fuel with
  | zero => exact fun _ _ _ _ _ _ _ _ _ _ _ _ _ h => h.elim
  | succ fuel hk243 =>
    intro v3 v4 v5 v6 v7 cx dx μ H locs ls hBc hBs h hZ hl
    have h : lb_L_isSo_243 n np post k231 (l_L_isSo_243 n np post k231 fuel) v3 v4 v5 v6 v7 μ := h
    unfold lb_L_isSo_243 at h
    refine lv_iload hC.1 hC.2.1 dL_isSo_243 (lv_at hl 7 rfl) ?_
    refine lv_aload_n hC.1 hC.2.1 dL_isSo_245 rfl (lv_at hl 1 rfl) ?_
    refine lv_iconst (v := 0) hC.1 hC.2.1 dL_isSo_246 (by decide) ?_
    refine aL_22 hC hZ (by unfold vp_in; decide) dL_isSo_247 ?_
    refine lv_icmp_ge (tgt := 348) hC.1 hC.2.1 dL_isSo_248 (by decide) (fun c47 => ?_) (fun c47 => ?_)
    · have h := h.1 c47
      refine lv_iinc (v := v5 + 1) (lv' := [(5, .int (v5 + 1)), (0, .ref (ad 30 0)), (1, .ref (ad 22 0)), (2, .ref (ad 23 0)), (3, .int v3), (4, .int v4), (6, .int v6), (7, .int v7)]) hC.1 hC.2.1 dL_isSo_348 hl (k := 5) rfl rfl (by decide) rfl (fun ls hl => ?_)
      refine lv_goto (tgt := 231) hC.1 hC.2.1 dL_isSo_351 (by decide) ?_
      exact hk231 _ _ _ _ _ _ _ _ _ (by show _ ≤ (429 : Nat); omega) (by show _ ≤ (2574 : Nat); omega) h hZ (lv_sub hl [1, 2, 3, 4, 5, 0] rfl)
    · have h := h.2 c47
      refine lv_aload_n hC.1 hC.2.1 dL_isSo_251 rfl (lv_at hl 0 rfl) ?_
      refine lv_iload hC.1 hC.2.1 dL_isSo_252 (lv_at hl 7 rfl) ?_
      refine lv_iload hC.1 hC.2.1 dL_isSo_254 (lv_at hl 5 rfl) ?_
      refine z_cWi (As := [.ref (ad 30 0), .int v7, .int v5]) hC hZ zy_L_ahead (c_L_ahead l hst h) km_L_97 rfl ⟨rfl, rfl⟩ ⟨Nat.le_of_ble_eq_true rfl, Nat.le_of_ble_eq_true rfl⟩ hl.1 rfl (Nat.le_of_ble_eq_true rfl) dL_isSo_256 ⟨by show _ ≤ (429 : Nat); omega, by show _ ≤ (2574 : Nat); omega⟩ (fun r49 μ48 H locs h hZ => ?_)
      refine lv_iload hC.1 hC.2.1 dL_isSo_259 (lv_at hl 6 rfl) ?_
      refine lv_icmp_eq (tgt := 266) hC.1 hC.2.1 dL_isSo_261 (by decide) (fun c50 => ?_) (fun c50 => ?_)
      · have h := h.1 c50
        refine lv_aload_n hC.1 hC.2.1 dL_isSo_266 rfl (lv_at hl 0 rfl) ?_
        refine lv_iload hC.1 hC.2.1 dL_isSo_267 (lv_at hl 7 rfl) ?_
        refine z_cWi (As := [.ref (ad 30 0), .int v7]) hC hZ zy_L_stateOf (c_L_stateOf l hst h) km_L_90 rfl ⟨rfl, rfl⟩ ⟨Nat.le_of_ble_eq_true rfl, Nat.le_of_ble_eq_true rfl⟩ hl.1 rfl (Nat.le_of_ble_eq_true rfl) dL_isSo_269 ⟨by show _ ≤ (429 : Nat); omega, by show _ ≤ (2574 : Nat); omega⟩ (fun r52 μ51 H locs h hZ => ?_)
        refine lv_iconst (v := 2) hC.1 hC.2.1 dL_isSo_272 (by decide) ?_
        refine lv_icmp_ne (tgt := 280) hC.1 hC.2.1 dL_isSo_273 (by decide) (fun c53 => ?_) (fun c53 => ?_)
        · have h := h.1 c53
          refine lv_aload_n hC.1 hC.2.1 dL_isSo_280 rfl (lv_at hl 2 rfl) ?_
          refine lv_iconst (v := 5) hC.1 hC.2.1 dL_isSo_281 (by decide) ?_
          refine lv_iload hC.1 hC.2.1 dL_isSo_282 (lv_at hl 7 rfl) ?_
          refine lv_imul hC.1 hC.2.1 dL_isSo_284 ?_
          refine lv_iload hC.1 hC.2.1 dL_isSo_285 (lv_at hl 5 rfl) ?_
          refine lv_iadd hC.1 hC.2.1 dL_isSo_287 ?_
          obtain ⟨q54, h⟩ := h
          refine aL_23 hC hZ q54 dL_isSo_288 ?_
          exact t_L_isSo_289 (l := l) hst hC hr hk231 hk243 _ _ _ _ _ _ _ _ _ _ _ _ (by show _ ≤ (429 : Nat); omega) (by show _ ≤ (2574 : Nat); omega) h hZ (lv_sub hl [0, 1, 2, 3, 4, 5, 6, 7] rfl)
        · have h := h.2 c53
          refine lv_iconst (v := 0) hC.1 hC.2.1 dL_isSo_276 (by decide) ?_
          refine lv_goto (tgt := 289) hC.1 hC.2.1 dL_isSo_277 (by decide) ?_
          exact t_L_isSo_289 (l := l) hst hC hr hk231 hk243 _ _ _ _ _ _ _ _ _ _ _ _ (by show _ ≤ (429 : Nat); omega) (by show _ ≤ (2574 : Nat); omega) h hZ (lv_sub hl [0, 1, 2, 3, 4, 5, 6, 7] rfl)
      · have h := h.2 c50
        refine lv_iconst (v := 0) hC.1 hC.2.1 dL_isSo_264 (by decide) ?_
        exact z_bret hC hr hZ (by decide) h dL_isSo_265 (by show _ ≤ (429 : Nat); omega) (by show _ ≤ (2574 : Nat); omega)
def lb_L_isSo_231 (n np : Nat) (post : Int32 → Mem → Prop) (k231 : Int32 → Int32 → Int32 → Mem → Prop) (v3 : Int32) (v4 : Int32) (v5 : Int32) (μ : Mem) : Prop := ((5 ≤ v5 → ((¬ v3 = 0 → post 0 μ) ∧ (v3 = 0 → (w_X4_refused n np (fun (r6 : Int32) (μ5 : Mem) => (∃ μ5g : Mem, gs μ5 μ5g ∧ ((¬ r6 = v4 → post 0 μ5g) ∧ (r6 = v4 → (w_X4_today n np (fun (r9 : Int32) (μ8 : Mem) => (∃ μ8g : Mem, gs μ8 μ8g ∧ ((¬ r9 = (μ8g 22 0 (2 : Int32).toNatClampNeg) → post 0 μ8g) ∧ (r9 = (μ8g 22 0 (2 : Int32).toNatClampNeg) → (w_X4_spent n np (fun (r12 : Int32) (μ11 : Mem) => (∃ μ11g : Mem, gs μ11 μ11g ∧ ((¬ r12 = (μ11g 22 0 (3 : Int32).toNatClampNeg) → post 0 μ11g) ∧ (r12 = (μ11g 22 0 (3 : Int32).toNatClampNeg) → (w_X4_scenes n np (fun (r15 : Int32) (μ14 : Mem) => (∃ μ14g : Mem, gs μ14 μ14g ∧ ((¬ r15 = (μ14g 22 0 (0 : Int32).toNatClampNeg) → post 0 μ14g) ∧ (r15 = (μ14g 22 0 (0 : Int32).toNatClampNeg) → (w_X4_cost n np (fun (r18 : Int32) (μ17 : Mem) => (∃ μ17g : Mem, gs μ17 μ17g ∧ ((r18 < (20 * v4) → post 0 μ17g) ∧ (¬ r18 < (20 * v4) → (w_L_sceneOn n np (fun (r21 : Int32) (μ20 : Mem) => ((¬ r21 = (-1000002) → post 0 μ20) ∧ (r21 = (-1000002) → (w_L_sceneOn n np (fun (r24 : Int32) (μ23 : Mem) => ((¬ r24 = (-1000002) → post 0 μ23) ∧ (r24 = (-1000002) → (w_L_stateOf n np (fun (r27 : Int32) (μ26 : Mem) => ((¬ r27 = (-1000001) → post 0 μ26) ∧ (r27 = (-1000001) → (w_L_dayOf n np (fun (r30 : Int32) (μ29 : Mem) => ((¬ r30 = (-1000001) → post 0 μ29) ∧ (r30 = (-1000001) → (w_L_isAllowed n np (fun (r33 : Int32) (μ32 : Mem) => ((¬ r33 = (-1000001) → post 0 μ32) ∧ (r33 = (-1000001) → (w_L_ahead n np (fun (r36 : Int32) (μ35 : Mem) => ((¬ r36 = (-1000001) → post 0 μ35) ∧ (r36 = (-1000001) → (w_L_growth n np (fun (r39 : Int32) (μ38 : Mem) => ((¬ r39 = (-1000001) → post 0 μ38) ∧ (r39 = (-1000001) → (w_L_copies n np (fun (r42 : Int32) (μ41 : Mem) => ((¬ r42 = (-1000001) → post 0 μ41) ∧ (r42 = (-1000001) → (w_L_copies n np (fun (r45 : Int32) (μ44 : Mem) => ((¬ r45 = (-1000002) → post 0 μ44) ∧ (r45 = (-1000002) → post 1 μ44))) (0 : Int32) (4 : Int32) μ41)))) (5 : Int32) (9 : Int32) μ38)))) (5 : Int32) μ35)))) (μ32 22 0 (0 : Int32).toNatClampNeg) (0 : Int32) μ32)))) (μ29 22 0 (0 : Int32).toNatClampNeg) (30 : Int32) μ29)))) (-1 : Int32) μ26)))) (μ23 22 0 (0 : Int32).toNatClampNeg) μ23)))) (-1 : Int32) μ20)))) (30 : Int32) μ17g))))) μ14g))))) μ11g))))) μ8g))))) μ5g))))) μ)))) ∧ (¬ 5 ≤ v5 → (∃ fuel : Nat, fuel ≤ 11 ∧ l_L_isSo_243 n np post k231 fuel v3 v4 v5 (0 : Int32) (0 : Int32) μ)))
def l_L_isSo_231 (n np : Nat) (post : Int32 → Mem → Prop) : Nat → Int32 → Int32 → Int32 → Mem → Prop
  | 0 => fun _ _ _ _ => False
  | fuel + 1 => lb_L_isSo_231 n np post (l_L_isSo_231 n np post fuel) 
set_option maxRecDepth 100000 in
set_option maxHeartbeats 4000000 in
theorem t_L_isSo_231 {p : Program} {l : Launch} {e : Env} {s : State} {m : MethodId} {args : Array Value} {below : List Frame} {meth : Method} {c : Code} {D : va_G} {ca : Nat → ClassId} {base : Nat} {ad : Nat → Nat → Nat} {n np : Nat} {post : Int32 → Mem → Prop} (hst : l.stackTraces = false) (hC : ZC p m meth c s RL cL_isSo 9) (hr : meth.sig.returnType = (some FieldType.boolean)) : ∀ (fuel : Nat) (v3 : Int32) (v4 : Int32) (v5 : Int32) (cx dx : Nat) (μ : Mem) (H : Heap) (locs : List Loc) (ls : Array Slot), cx + (fuel * 36 + (36)) ≤ 429 → dx + (fuel * 216 + (216)) ≤ 2574 → l_L_isSo_231 n np post fuel v3 v4 v5 μ → ZS D ca base ad n np μ s H locs → lv_has ls 9 [(0, .ref (ad 30 0)), (1, .ref (ad 22 0)), (2, .ref (ad 23 0)), (3, .int v3), (4, .int v4), (5, .int v5)] → W p l e ({ frames := 9, cells := 429, slots := 2574, locals := 155 } : Room) s m args below meth c H locs cx dx (MQ below (ZQ D ca base ad n np (zpi post)) args s 429 2574 (zB base)) (F0 m 231 ls []) := by
  intro fuel
  induction fuel with
  | zero => exact fun _ _ _ _ _ _ _ _ _ _ _ h => h.elim
  | succ fuel hk231 =>
    intro v3 v4 v5 cx dx μ H locs ls hBc hBs h hZ hl
    have h : lb_L_isSo_231 n np post (l_L_isSo_231 n np post fuel) v3 v4 v5 μ := h
    unfold lb_L_isSo_231 at h
    refine lv_iload hC.1 hC.2.1 dL_isSo_231 (lv_at hl 5 rfl) ?_
    refine lv_iconst (v := 5) hC.1 hC.2.1 dL_isSo_233 (by decide) ?_
    refine lv_icmp_ge (tgt := 354) hC.1 hC.2.1 dL_isSo_234 (by decide) (fun c3 => ?_) (fun c3 => ?_)
    · have h := h.1 c3
      refine lv_iload_n hC.1 hC.2.1 dL_isSo_354 rfl (lv_at hl 3 rfl) ?_
      refine lv_if_ne (tgt := 516) hC.1 hC.2.1 dL_isSo_355 (by decide) (fun c4 => ?_) (fun c4 => ?_)
      · have h := h.1 c4
        refine lv_iconst (v := 0) hC.1 hC.2.1 dL_isSo_516 (by decide) ?_
        exact z_bret hC hr hZ (by decide) h dL_isSo_517 (by show _ ≤ (429 : Nat); omega) (by show _ ≤ (2574 : Nat); omega)
      · have h := h.2 c4
        refine lv_aload_n hC.1 hC.2.1 dL_isSo_358 rfl (lv_at hl 0 rfl) ?_
        refine z_cVi (As := []) hC hZ (zF_30 _) rfl zy_X4_refused (c_X4_refused l h) km_L_99 rfl ⟨rfl, rfl⟩ ⟨Nat.le_of_ble_eq_true rfl, Nat.le_of_ble_eq_true rfl⟩ hl.1 rfl (Nat.le_of_ble_eq_true rfl) dL_isSo_359 ⟨by show _ ≤ (429 : Nat); omega, by show _ ≤ (2574 : Nat); omega⟩ (fun r6 μ5 H locs h hZ => ?_)
        obtain ⟨μ5g, hgs, h⟩ := h
        have hZ := hZ.gs hgs
        refine lv_iload hC.1 hC.2.1 dL_isSo_362 (lv_at hl 4 rfl) ?_
        refine lv_icmp_ne (tgt := 516) hC.1 hC.2.1 dL_isSo_364 (by decide) (fun c7 => ?_) (fun c7 => ?_)
        · have h := h.1 c7
          refine lv_iconst (v := 0) hC.1 hC.2.1 dL_isSo_516 (by decide) ?_
          exact z_bret hC hr hZ (by decide) h dL_isSo_517 (by show _ ≤ (429 : Nat); omega) (by show _ ≤ (2574 : Nat); omega)
        · have h := h.2 c7
          refine lv_aload_n hC.1 hC.2.1 dL_isSo_367 rfl (lv_at hl 0 rfl) ?_
          refine z_cVi (As := []) hC hZ (zF_30 _) rfl zy_X4_today (c_X4_today l h) km_L_102 rfl ⟨rfl, rfl⟩ ⟨Nat.le_of_ble_eq_true rfl, Nat.le_of_ble_eq_true rfl⟩ hl.1 rfl (Nat.le_of_ble_eq_true rfl) dL_isSo_368 ⟨by show _ ≤ (429 : Nat); omega, by show _ ≤ (2574 : Nat); omega⟩ (fun r9 μ8 H locs h hZ => ?_)
          obtain ⟨μ8g, hgs, h⟩ := h
          have hZ := hZ.gs hgs
          refine lv_aload_n hC.1 hC.2.1 dL_isSo_371 rfl (lv_at hl 1 rfl) ?_
          refine lv_iconst (v := 2) hC.1 hC.2.1 dL_isSo_372 (by decide) ?_
          refine aL_22 hC hZ (by unfold vp_in; decide) dL_isSo_373 ?_
          refine lv_icmp_ne (tgt := 516) hC.1 hC.2.1 dL_isSo_374 (by decide) (fun c10 => ?_) (fun c10 => ?_)
          · have h := h.1 c10
            refine lv_iconst (v := 0) hC.1 hC.2.1 dL_isSo_516 (by decide) ?_
            exact z_bret hC hr hZ (by decide) h dL_isSo_517 (by show _ ≤ (429 : Nat); omega) (by show _ ≤ (2574 : Nat); omega)
          · have h := h.2 c10
            refine lv_aload_n hC.1 hC.2.1 dL_isSo_377 rfl (lv_at hl 0 rfl) ?_
            refine z_cVi (As := []) hC hZ (zF_30 _) rfl zy_X4_spent (c_X4_spent l h) km_L_105 rfl ⟨rfl, rfl⟩ ⟨Nat.le_of_ble_eq_true rfl, Nat.le_of_ble_eq_true rfl⟩ hl.1 rfl (Nat.le_of_ble_eq_true rfl) dL_isSo_378 ⟨by show _ ≤ (429 : Nat); omega, by show _ ≤ (2574 : Nat); omega⟩ (fun r12 μ11 H locs h hZ => ?_)
            obtain ⟨μ11g, hgs, h⟩ := h
            have hZ := hZ.gs hgs
            refine lv_aload_n hC.1 hC.2.1 dL_isSo_381 rfl (lv_at hl 1 rfl) ?_
            refine lv_iconst (v := 3) hC.1 hC.2.1 dL_isSo_382 (by decide) ?_
            refine aL_22 hC hZ (by unfold vp_in; decide) dL_isSo_383 ?_
            refine lv_icmp_ne (tgt := 516) hC.1 hC.2.1 dL_isSo_384 (by decide) (fun c13 => ?_) (fun c13 => ?_)
            · have h := h.1 c13
              refine lv_iconst (v := 0) hC.1 hC.2.1 dL_isSo_516 (by decide) ?_
              exact z_bret hC hr hZ (by decide) h dL_isSo_517 (by show _ ≤ (429 : Nat); omega) (by show _ ≤ (2574 : Nat); omega)
            · have h := h.2 c13
              refine lv_aload_n hC.1 hC.2.1 dL_isSo_387 rfl (lv_at hl 0 rfl) ?_
              refine z_cVi (As := []) hC hZ (zF_30 _) rfl zy_X4_scenes (c_X4_scenes l h) km_L_108 rfl ⟨rfl, rfl⟩ ⟨Nat.le_of_ble_eq_true rfl, Nat.le_of_ble_eq_true rfl⟩ hl.1 rfl (Nat.le_of_ble_eq_true rfl) dL_isSo_388 ⟨by show _ ≤ (429 : Nat); omega, by show _ ≤ (2574 : Nat); omega⟩ (fun r15 μ14 H locs h hZ => ?_)
              obtain ⟨μ14g, hgs, h⟩ := h
              have hZ := hZ.gs hgs
              refine lv_aload_n hC.1 hC.2.1 dL_isSo_391 rfl (lv_at hl 1 rfl) ?_
              refine lv_iconst (v := 0) hC.1 hC.2.1 dL_isSo_392 (by decide) ?_
              refine aL_22 hC hZ (by unfold vp_in; decide) dL_isSo_393 ?_
              refine lv_icmp_ne (tgt := 516) hC.1 hC.2.1 dL_isSo_394 (by decide) (fun c16 => ?_) (fun c16 => ?_)
              · have h := h.1 c16
                refine lv_iconst (v := 0) hC.1 hC.2.1 dL_isSo_516 (by decide) ?_
                exact z_bret hC hr hZ (by decide) h dL_isSo_517 (by show _ ≤ (429 : Nat); omega) (by show _ ≤ (2574 : Nat); omega)
              · have h := h.2 c16
                refine lv_aload_n hC.1 hC.2.1 dL_isSo_397 rfl (lv_at hl 0 rfl) ?_
                refine z_cVi (As := []) hC hZ (zF_30 _) rfl zy_X4_cost (c_X4_cost l h) km_L_111 rfl ⟨rfl, rfl⟩ ⟨Nat.le_of_ble_eq_true rfl, Nat.le_of_ble_eq_true rfl⟩ hl.1 rfl (Nat.le_of_ble_eq_true rfl) dL_isSo_398 ⟨by show _ ≤ (429 : Nat); omega, by show _ ≤ (2574 : Nat); omega⟩ (fun r18 μ17 H locs h hZ => ?_)
                obtain ⟨μ17g, hgs, h⟩ := h
                have hZ := hZ.gs hgs
                refine lv_bipush (v := 20) hC.1 hC.2.1 dL_isSo_401 (by decide) ?_
                refine lv_iload hC.1 hC.2.1 dL_isSo_403 (lv_at hl 4 rfl) ?_
                refine lv_imul hC.1 hC.2.1 dL_isSo_405 ?_
                refine lv_icmp_lt (tgt := 516) hC.1 hC.2.1 dL_isSo_406 (by decide) (fun c19 => ?_) (fun c19 => ?_)
                · have h := h.1 c19
                  refine lv_iconst (v := 0) hC.1 hC.2.1 dL_isSo_516 (by decide) ?_
                  exact z_bret hC hr hZ (by decide) h dL_isSo_517 (by show _ ≤ (429 : Nat); omega) (by show _ ≤ (2574 : Nat); omega)
                · have h := h.2 c19
                  refine lv_aload_n hC.1 hC.2.1 dL_isSo_409 rfl (lv_at hl 0 rfl) ?_
                  refine lv_bipush (v := 30) hC.1 hC.2.1 dL_isSo_410 (by decide) ?_
                  refine z_cWi (As := [.ref (ad 30 0), .int 30]) hC hZ zy_L_sceneOn (c_L_sceneOn l hst h) km_L_85 rfl ⟨rfl, rfl⟩ ⟨Nat.le_of_ble_eq_true rfl, Nat.le_of_ble_eq_true rfl⟩ hl.1 rfl (Nat.le_of_ble_eq_true rfl) dL_isSo_412 ⟨by show _ ≤ (429 : Nat); omega, by show _ ≤ (2574 : Nat); omega⟩ (fun r21 μ20 H locs h hZ => ?_)
                  refine lv_ldc (v := (-1000002)) hC.1 hC.2.1 hC.2.2.2.1 (hZ.1.2.1.use _ kk_L_18 rfl) dL_isSo_415 ?_
                  refine lv_icmp_ne (tgt := 516) hC.1 hC.2.1 dL_isSo_417 (by decide) (fun c22 => ?_) (fun c22 => ?_)
                  · have h := h.1 c22
                    refine lv_iconst (v := 0) hC.1 hC.2.1 dL_isSo_516 (by decide) ?_
                    exact z_bret hC hr hZ (by decide) h dL_isSo_517 (by show _ ≤ (429 : Nat); omega) (by show _ ≤ (2574 : Nat); omega)
                  · have h := h.2 c22
                    refine lv_aload_n hC.1 hC.2.1 dL_isSo_420 rfl (lv_at hl 0 rfl) ?_
                    refine lv_iconst (v := (-1)) hC.1 hC.2.1 dL_isSo_421 (by decide) ?_
                    refine z_cWi (As := [.ref (ad 30 0), .int (-1)]) hC hZ zy_L_sceneOn (c_L_sceneOn l hst h) km_L_85 rfl ⟨rfl, rfl⟩ ⟨Nat.le_of_ble_eq_true rfl, Nat.le_of_ble_eq_true rfl⟩ hl.1 rfl (Nat.le_of_ble_eq_true rfl) dL_isSo_422 ⟨by show _ ≤ (429 : Nat); omega, by show _ ≤ (2574 : Nat); omega⟩ (fun r24 μ23 H locs h hZ => ?_)
                    refine lv_ldc (v := (-1000002)) hC.1 hC.2.1 hC.2.2.2.1 (hZ.1.2.1.use _ kk_L_18 rfl) dL_isSo_425 ?_
                    refine lv_icmp_ne (tgt := 516) hC.1 hC.2.1 dL_isSo_427 (by decide) (fun c25 => ?_) (fun c25 => ?_)
                    · have h := h.1 c25
                      refine lv_iconst (v := 0) hC.1 hC.2.1 dL_isSo_516 (by decide) ?_
                      exact z_bret hC hr hZ (by decide) h dL_isSo_517 (by show _ ≤ (429 : Nat); omega) (by show _ ≤ (2574 : Nat); omega)
                    · have h := h.2 c25
                      refine lv_aload_n hC.1 hC.2.1 dL_isSo_430 rfl (lv_at hl 0 rfl) ?_
                      refine lv_aload_n hC.1 hC.2.1 dL_isSo_431 rfl (lv_at hl 1 rfl) ?_
                      refine lv_iconst (v := 0) hC.1 hC.2.1 dL_isSo_432 (by decide) ?_
                      refine aL_22 hC hZ (by unfold vp_in; decide) dL_isSo_433 ?_
                      refine z_cWi (As := [.ref (ad 30 0), .int (μ23 22 0 (0 : Int32).toNatClampNeg)]) hC hZ zy_L_stateOf (c_L_stateOf l hst h) km_L_90 rfl ⟨rfl, rfl⟩ ⟨Nat.le_of_ble_eq_true rfl, Nat.le_of_ble_eq_true rfl⟩ hl.1 rfl (Nat.le_of_ble_eq_true rfl) dL_isSo_434 ⟨by show _ ≤ (429 : Nat); omega, by show _ ≤ (2574 : Nat); omega⟩ (fun r27 μ26 H locs h hZ => ?_)
                      refine lv_ldc (v := (-1000001)) hC.1 hC.2.1 hC.2.2.2.1 (hZ.1.2.1.use _ kk_L_28 rfl) dL_isSo_437 ?_
                      refine lv_icmp_ne (tgt := 516) hC.1 hC.2.1 dL_isSo_439 (by decide) (fun c28 => ?_) (fun c28 => ?_)
                      · have h := h.1 c28
                        refine lv_iconst (v := 0) hC.1 hC.2.1 dL_isSo_516 (by decide) ?_
                        exact z_bret hC hr hZ (by decide) h dL_isSo_517 (by show _ ≤ (429 : Nat); omega) (by show _ ≤ (2574 : Nat); omega)
                      · have h := h.2 c28
                        refine lv_aload_n hC.1 hC.2.1 dL_isSo_442 rfl (lv_at hl 0 rfl) ?_
                        refine lv_iconst (v := (-1)) hC.1 hC.2.1 dL_isSo_443 (by decide) ?_
                        refine z_cWi (As := [.ref (ad 30 0), .int (-1)]) hC hZ zy_L_dayOf (c_L_dayOf l hst h) km_L_92 rfl ⟨rfl, rfl⟩ ⟨Nat.le_of_ble_eq_true rfl, Nat.le_of_ble_eq_true rfl⟩ hl.1 rfl (Nat.le_of_ble_eq_true rfl) dL_isSo_444 ⟨by show _ ≤ (429 : Nat); omega, by show _ ≤ (2574 : Nat); omega⟩ (fun r30 μ29 H locs h hZ => ?_)
                        refine lv_ldc (v := (-1000001)) hC.1 hC.2.1 hC.2.2.2.1 (hZ.1.2.1.use _ kk_L_28 rfl) dL_isSo_447 ?_
                        refine lv_icmp_ne (tgt := 516) hC.1 hC.2.1 dL_isSo_449 (by decide) (fun c31 => ?_) (fun c31 => ?_)
                        · have h := h.1 c31
                          refine lv_iconst (v := 0) hC.1 hC.2.1 dL_isSo_516 (by decide) ?_
                          exact z_bret hC hr hZ (by decide) h dL_isSo_517 (by show _ ≤ (429 : Nat); omega) (by show _ ≤ (2574 : Nat); omega)
                        · have h := h.2 c31
                          refine lv_aload_n hC.1 hC.2.1 dL_isSo_452 rfl (lv_at hl 0 rfl) ?_
                          refine lv_aload_n hC.1 hC.2.1 dL_isSo_453 rfl (lv_at hl 1 rfl) ?_
                          refine lv_iconst (v := 0) hC.1 hC.2.1 dL_isSo_454 (by decide) ?_
                          refine aL_22 hC hZ (by unfold vp_in; decide) dL_isSo_455 ?_
                          refine lv_bipush (v := 30) hC.1 hC.2.1 dL_isSo_456 (by decide) ?_
                          refine z_cWi (As := [.ref (ad 30 0), .int (μ29 22 0 (0 : Int32).toNatClampNeg), .int 30]) hC hZ zy_L_isAllowed (c_L_isAllowed l hst h) km_L_94 rfl ⟨rfl, rfl⟩ ⟨Nat.le_of_ble_eq_true rfl, Nat.le_of_ble_eq_true rfl⟩ hl.1 rfl (Nat.le_of_ble_eq_true rfl) dL_isSo_458 ⟨by show _ ≤ (429 : Nat); omega, by show _ ≤ (2574 : Nat); omega⟩ (fun r33 μ32 H locs h hZ => ?_)
                          refine lv_ldc (v := (-1000001)) hC.1 hC.2.1 hC.2.2.2.1 (hZ.1.2.1.use _ kk_L_28 rfl) dL_isSo_461 ?_
                          refine lv_icmp_ne (tgt := 516) hC.1 hC.2.1 dL_isSo_463 (by decide) (fun c34 => ?_) (fun c34 => ?_)
                          · have h := h.1 c34
                            refine lv_iconst (v := 0) hC.1 hC.2.1 dL_isSo_516 (by decide) ?_
                            exact z_bret hC hr hZ (by decide) h dL_isSo_517 (by show _ ≤ (429 : Nat); omega) (by show _ ≤ (2574 : Nat); omega)
                          · have h := h.2 c34
                            refine lv_aload_n hC.1 hC.2.1 dL_isSo_466 rfl (lv_at hl 0 rfl) ?_
                            refine lv_aload_n hC.1 hC.2.1 dL_isSo_467 rfl (lv_at hl 1 rfl) ?_
                            refine lv_iconst (v := 0) hC.1 hC.2.1 dL_isSo_468 (by decide) ?_
                            refine aL_22 hC hZ (by unfold vp_in; decide) dL_isSo_469 ?_
                            refine lv_iconst (v := 0) hC.1 hC.2.1 dL_isSo_470 (by decide) ?_
                            refine z_cWi (As := [.ref (ad 30 0), .int (μ32 22 0 (0 : Int32).toNatClampNeg), .int 0]) hC hZ zy_L_ahead (c_L_ahead l hst h) km_L_97 rfl ⟨rfl, rfl⟩ ⟨Nat.le_of_ble_eq_true rfl, Nat.le_of_ble_eq_true rfl⟩ hl.1 rfl (Nat.le_of_ble_eq_true rfl) dL_isSo_471 ⟨by show _ ≤ (429 : Nat); omega, by show _ ≤ (2574 : Nat); omega⟩ (fun r36 μ35 H locs h hZ => ?_)
                            refine lv_ldc (v := (-1000001)) hC.1 hC.2.1 hC.2.2.2.1 (hZ.1.2.1.use _ kk_L_28 rfl) dL_isSo_474 ?_
                            refine lv_icmp_ne (tgt := 516) hC.1 hC.2.1 dL_isSo_476 (by decide) (fun c37 => ?_) (fun c37 => ?_)
                            · have h := h.1 c37
                              refine lv_iconst (v := 0) hC.1 hC.2.1 dL_isSo_516 (by decide) ?_
                              exact z_bret hC hr hZ (by decide) h dL_isSo_517 (by show _ ≤ (429 : Nat); omega) (by show _ ≤ (2574 : Nat); omega)
                            · have h := h.2 c37
                              refine lv_aload_n hC.1 hC.2.1 dL_isSo_479 rfl (lv_at hl 0 rfl) ?_
                              refine lv_iconst (v := 5) hC.1 hC.2.1 dL_isSo_480 (by decide) ?_
                              refine z_cWi (As := [.ref (ad 30 0), .int 5]) hC hZ zy_L_growth (c_L_growth l hst h) km_L_114 rfl ⟨rfl, rfl⟩ ⟨Nat.le_of_ble_eq_true rfl, Nat.le_of_ble_eq_true rfl⟩ hl.1 rfl (Nat.le_of_ble_eq_true rfl) dL_isSo_481 ⟨by show _ ≤ (429 : Nat); omega, by show _ ≤ (2574 : Nat); omega⟩ (fun r39 μ38 H locs h hZ => ?_)
                              refine lv_ldc (v := (-1000001)) hC.1 hC.2.1 hC.2.2.2.1 (hZ.1.2.1.use _ kk_L_28 rfl) dL_isSo_484 ?_
                              refine lv_icmp_ne (tgt := 516) hC.1 hC.2.1 dL_isSo_486 (by decide) (fun c40 => ?_) (fun c40 => ?_)
                              · have h := h.1 c40
                                refine lv_iconst (v := 0) hC.1 hC.2.1 dL_isSo_516 (by decide) ?_
                                exact z_bret hC hr hZ (by decide) h dL_isSo_517 (by show _ ≤ (429 : Nat); omega) (by show _ ≤ (2574 : Nat); omega)
                              · have h := h.2 c40
                                refine lv_aload_n hC.1 hC.2.1 dL_isSo_489 rfl (lv_at hl 0 rfl) ?_
                                refine lv_iconst (v := 5) hC.1 hC.2.1 dL_isSo_490 (by decide) ?_
                                refine lv_bipush (v := 9) hC.1 hC.2.1 dL_isSo_491 (by decide) ?_
                                refine z_cWi (As := [.ref (ad 30 0), .int 5, .int 9]) hC hZ zy_L_copies (c_L_copies l hst h) km_L_116 rfl ⟨rfl, rfl⟩ ⟨Nat.le_of_ble_eq_true rfl, Nat.le_of_ble_eq_true rfl⟩ hl.1 rfl (Nat.le_of_ble_eq_true rfl) dL_isSo_493 ⟨by show _ ≤ (429 : Nat); omega, by show _ ≤ (2574 : Nat); omega⟩ (fun r42 μ41 H locs h hZ => ?_)
                                refine lv_ldc (v := (-1000001)) hC.1 hC.2.1 hC.2.2.2.1 (hZ.1.2.1.use _ kk_L_28 rfl) dL_isSo_496 ?_
                                refine lv_icmp_ne (tgt := 516) hC.1 hC.2.1 dL_isSo_498 (by decide) (fun c43 => ?_) (fun c43 => ?_)
                                · have h := h.1 c43
                                  refine lv_iconst (v := 0) hC.1 hC.2.1 dL_isSo_516 (by decide) ?_
                                  exact z_bret hC hr hZ (by decide) h dL_isSo_517 (by show _ ≤ (429 : Nat); omega) (by show _ ≤ (2574 : Nat); omega)
                                · have h := h.2 c43
                                  refine lv_aload_n hC.1 hC.2.1 dL_isSo_501 rfl (lv_at hl 0 rfl) ?_
                                  refine lv_iconst (v := 0) hC.1 hC.2.1 dL_isSo_502 (by decide) ?_
                                  refine lv_iconst (v := 4) hC.1 hC.2.1 dL_isSo_503 (by decide) ?_
                                  refine z_cWi (As := [.ref (ad 30 0), .int 0, .int 4]) hC hZ zy_L_copies (c_L_copies l hst h) km_L_116 rfl ⟨rfl, rfl⟩ ⟨Nat.le_of_ble_eq_true rfl, Nat.le_of_ble_eq_true rfl⟩ hl.1 rfl (Nat.le_of_ble_eq_true rfl) dL_isSo_504 ⟨by show _ ≤ (429 : Nat); omega, by show _ ≤ (2574 : Nat); omega⟩ (fun r45 μ44 H locs h hZ => ?_)
                                  refine lv_ldc (v := (-1000002)) hC.1 hC.2.1 hC.2.2.2.1 (hZ.1.2.1.use _ kk_L_18 rfl) dL_isSo_507 ?_
                                  refine lv_icmp_ne (tgt := 516) hC.1 hC.2.1 dL_isSo_509 (by decide) (fun c46 => ?_) (fun c46 => ?_)
                                  · have h := h.1 c46
                                    refine lv_iconst (v := 0) hC.1 hC.2.1 dL_isSo_516 (by decide) ?_
                                    exact z_bret hC hr hZ (by decide) h dL_isSo_517 (by show _ ≤ (429 : Nat); omega) (by show _ ≤ (2574 : Nat); omega)
                                  · have h := h.2 c46
                                    refine lv_iconst (v := 1) hC.1 hC.2.1 dL_isSo_512 (by decide) ?_
                                    refine lv_goto (tgt := 517) hC.1 hC.2.1 dL_isSo_513 (by decide) ?_
                                    exact z_bret hC hr hZ (by decide) h dL_isSo_517 (by show _ ≤ (429 : Nat); omega) (by show _ ≤ (2574 : Nat); omega)
    · have h := h.2 c3
      refine lv_iconst (v := 0) hC.1 hC.2.1 dL_isSo_237 (by decide) ?_
      refine lv_istore (lv' := [(6, .int 0), (0, .ref (ad 30 0)), (1, .ref (ad 22 0)), (2, .ref (ad 23 0)), (3, .int v3), (4, .int v4), (5, .int v5)]) hC.1 hC.2.1 dL_isSo_238 hl (by decide) rfl (fun ls hl => ?_)
      refine lv_iconst (v := 0) hC.1 hC.2.1 dL_isSo_240 (by decide) ?_
      refine lv_istore (lv' := [(7, .int 0), (6, .int 0), (0, .ref (ad 30 0)), (1, .ref (ad 22 0)), (2, .ref (ad 23 0)), (3, .int v3), (4, .int v4), (5, .int v5)]) hC.1 hC.2.1 dL_isSo_241 hl (by decide) rfl (fun ls hl => ?_)
      obtain ⟨fuel, hfu, h⟩ := h
      exact t_L_isSo_243 (l := l) hst hC hr hk231 _ _ _ _ _ _ _ _ _ _ _ _ (by show _ ≤ (429 : Nat); omega) (by show _ ≤ (2574 : Nat); omega) h hZ (lv_sub hl [2, 3, 4, 5, 6, 7, 1, 0] rfl)
def b_L_isSo_222 (n np : Nat) (post : Int32 → Mem → Prop) (k120 : Int32 → Int32 → Int32 → Mem → Prop) (v3 : Int32) (v4 : Int32) (v5 : Int32) (μ : Mem) : Prop := k120 v3 v4 (v5 + 1) μ
set_option maxRecDepth 100000 in
set_option maxHeartbeats 4000000 in
theorem t_L_isSo_222 {p : Program} {l : Launch} {e : Env} {s : State} {m : MethodId} {args : Array Value} {below : List Frame} {meth : Method} {c : Code} {D : va_G} {ca : Nat → ClassId} {base : Nat} {ad : Nat → Nat → Nat} {n np : Nat} {post : Int32 → Mem → Prop} {k120 : Int32 → Int32 → Int32 → Mem → Prop} {Kc120 Ks120 : Nat} (hst : l.stackTraces = false) (hC : ZC p m meth c s RL cL_isSo 9) (hr : meth.sig.returnType = (some FieldType.boolean)) (hk120 : ∀ (v3 : Int32) (v4 : Int32) (v5 : Int32) (cx dx : Nat) (μ : Mem) (H : Heap) (locs : List Loc) (ls : Array Slot), cx + Kc120 ≤ 429 → dx + Ks120 ≤ 2574 → k120 v3 v4 v5 μ → ZS D ca base ad n np μ s H locs → lv_has ls 9 [(0, .ref (ad 30 0)), (1, .ref (ad 22 0)), (2, .ref (ad 23 0)), (3, .int v3), (4, .int v4), (5, .int v5)] → W p l e ({ frames := 9, cells := 429, slots := 2574, locals := 155 } : Room) s m args below meth c H locs cx dx (MQ below (ZQ D ca base ad n np (zpi post)) args s 429 2574 (zB base)) (F0 m 120 ls [])) (v3 : Int32) (v4 : Int32) (v5 : Int32) (cx dx : Nat) (μ : Mem) (H : Heap) (locs : List Loc) (ls : Array Slot) (hBc : cx + (0 + Kc120) ≤ 429) (hBs : dx + (0 + Ks120) ≤ 2574) (h : b_L_isSo_222 n np post k120 v3 v4 v5 μ) (hZ : ZS D ca base ad n np μ s H locs) (hl : lv_has ls 9 [(0, .ref (ad 30 0)), (1, .ref (ad 22 0)), (2, .ref (ad 23 0)), (3, .int v3), (4, .int v4), (5, .int v5)]) : W p l e ({ frames := 9, cells := 429, slots := 2574, locals := 155 } : Room) s m args below meth c H locs cx dx (MQ below (ZQ D ca base ad n np (zpi post)) args s 429 2574 (zB base)) (F0 m 222 ls []) := by
  unfold b_L_isSo_222 at h
  refine lv_iinc (v := v5 + 1) (lv' := [(5, .int (v5 + 1)), (0, .ref (ad 30 0)), (1, .ref (ad 22 0)), (2, .ref (ad 23 0)), (3, .int v3), (4, .int v4)]) hC.1 hC.2.1 dL_isSo_222 hl (k := 5) rfl rfl (by decide) rfl (fun ls hl => ?_)
  refine lv_goto (tgt := 120) hC.1 hC.2.1 dL_isSo_225 (by decide) ?_
  exact hk120 _ _ _ _ _ _ _ _ _ (by show _ ≤ (429 : Nat); omega) (by show _ ≤ (2574 : Nat); omega) h hZ (lv_sub hl [1, 2, 3, 4, 5, 0] rfl)
def b_L_isSo_155 (n np : Nat) (post : Int32 → Mem → Prop) (k120 : Int32 → Int32 → Int32 → Mem → Prop) (v4 : Int32) (v5 : Int32) (v6 : Int32) (v7 : Int32) (s0 : Int32) (s1 : Int32) (μ : Mem) : Prop := ((v6 < 0 → post 0 μ) ∧ (¬ v6 < 0 → ((2 < v6 → post 0 μ) ∧ (¬ 2 < v6 → ((¬ v6 = 2 → ((¬ v6 = 1 → ((v7 < (μ 22 0 (2 : Int32).toNatClampNeg) → post 0 μ) ∧ (¬ v7 < (μ 22 0 (2 : Int32).toNatClampNeg) → ((v7 ≤ 29 → b_L_isSo_222 n np post k120 (s0 - s1) v4 v5 μ) ∧ (¬ v7 ≤ 29 → post 0 μ))))) ∧ (v6 = 1 → ((v7 < 0 → post 0 μ) ∧ (¬ v7 < 0 → ((v7 < (μ 22 0 (2 : Int32).toNatClampNeg) → b_L_isSo_222 n np post k120 (s0 - s1) v4 v5 μ) ∧ (¬ v7 < (μ 22 0 (2 : Int32).toNatClampNeg) → post 0 μ))))))) ∧ (v6 = 2 → ((v7 = (-1) → b_L_isSo_222 n np post k120 (s0 - s1) v4 v5 μ) ∧ (¬ v7 = (-1) → post 0 μ))))))))
set_option maxRecDepth 100000 in
set_option maxHeartbeats 4000000 in
theorem t_L_isSo_155 {p : Program} {l : Launch} {e : Env} {s : State} {m : MethodId} {args : Array Value} {below : List Frame} {meth : Method} {c : Code} {D : va_G} {ca : Nat → ClassId} {base : Nat} {ad : Nat → Nat → Nat} {n np : Nat} {post : Int32 → Mem → Prop} {k120 : Int32 → Int32 → Int32 → Mem → Prop} {Kc120 Ks120 : Nat} (hst : l.stackTraces = false) (hC : ZC p m meth c s RL cL_isSo 9) (hr : meth.sig.returnType = (some FieldType.boolean)) (hk120 : ∀ (v3 : Int32) (v4 : Int32) (v5 : Int32) (cx dx : Nat) (μ : Mem) (H : Heap) (locs : List Loc) (ls : Array Slot), cx + Kc120 ≤ 429 → dx + Ks120 ≤ 2574 → k120 v3 v4 v5 μ → ZS D ca base ad n np μ s H locs → lv_has ls 9 [(0, .ref (ad 30 0)), (1, .ref (ad 22 0)), (2, .ref (ad 23 0)), (3, .int v3), (4, .int v4), (5, .int v5)] → W p l e ({ frames := 9, cells := 429, slots := 2574, locals := 155 } : Room) s m args below meth c H locs cx dx (MQ below (ZQ D ca base ad n np (zpi post)) args s 429 2574 (zB base)) (F0 m 120 ls [])) (v4 : Int32) (v5 : Int32) (v6 : Int32) (v7 : Int32) (s0 : Int32) (s1 : Int32) (cx dx : Nat) (μ : Mem) (H : Heap) (locs : List Loc) (ls : Array Slot) (hBc : cx + (0 + Kc120) ≤ 429) (hBs : dx + (0 + Ks120) ≤ 2574) (h : b_L_isSo_155 n np post k120 v4 v5 v6 v7 s0 s1 μ) (hZ : ZS D ca base ad n np μ s H locs) (hl : lv_has ls 9 [(0, .ref (ad 30 0)), (1, .ref (ad 22 0)), (2, .ref (ad 23 0)), (4, .int v4), (5, .int v5), (6, .int v6), (7, .int v7)]) : W p l e ({ frames := 9, cells := 429, slots := 2574, locals := 155 } : Room) s m args below meth c H locs cx dx (MQ below (ZQ D ca base ad n np (zpi post)) args s 429 2574 (zB base)) (F0 m 155 ls [.int s1, .int s0]) := by
  unfold b_L_isSo_155 at h
  refine lv_isub hC.1 hC.2.1 dL_isSo_155 ?_
  refine lv_istore_n (lv' := [(3, .int (s0 - s1)), (0, .ref (ad 30 0)), (1, .ref (ad 22 0)), (2, .ref (ad 23 0)), (4, .int v4), (5, .int v5), (6, .int v6), (7, .int v7)]) hC.1 hC.2.1 dL_isSo_156 rfl hl (by decide) rfl (fun ls hl => ?_)
  refine lv_iload hC.1 hC.2.1 dL_isSo_157 (lv_at hl 6 rfl) ?_
  refine lv_if_lt (tgt := 220) hC.1 hC.2.1 dL_isSo_159 (by decide) (fun c64 => ?_) (fun c64 => ?_)
  · have h := h.1 c64
    refine lv_iconst (v := 0) hC.1 hC.2.1 dL_isSo_220 (by decide) ?_
    exact z_bret hC hr hZ (by decide) h dL_isSo_221 (by show _ ≤ (429 : Nat); omega) (by show _ ≤ (2574 : Nat); omega)
  · have h := h.2 c64
    refine lv_iload hC.1 hC.2.1 dL_isSo_162 (lv_at hl 6 rfl) ?_
    refine lv_iconst (v := 2) hC.1 hC.2.1 dL_isSo_164 (by decide) ?_
    refine lv_icmp_gt (tgt := 220) hC.1 hC.2.1 dL_isSo_165 (by decide) (fun c65 => ?_) (fun c65 => ?_)
    · have h := h.1 c65
      refine lv_iconst (v := 0) hC.1 hC.2.1 dL_isSo_220 (by decide) ?_
      exact z_bret hC hr hZ (by decide) h dL_isSo_221 (by show _ ≤ (429 : Nat); omega) (by show _ ≤ (2574 : Nat); omega)
    · have h := h.2 c65
      refine lv_iload hC.1 hC.2.1 dL_isSo_168 (lv_at hl 6 rfl) ?_
      refine lv_iconst (v := 2) hC.1 hC.2.1 dL_isSo_170 (by decide) ?_
      refine lv_icmp_ne (tgt := 183) hC.1 hC.2.1 dL_isSo_171 (by decide) (fun c66 => ?_) (fun c66 => ?_)
      · have h := h.1 c66
        refine lv_iload hC.1 hC.2.1 dL_isSo_183 (lv_at hl 6 rfl) ?_
        refine lv_iconst (v := 1) hC.1 hC.2.1 dL_isSo_185 (by decide) ?_
        refine lv_icmp_ne (tgt := 205) hC.1 hC.2.1 dL_isSo_186 (by decide) (fun c67 => ?_) (fun c67 => ?_)
        · have h := h.1 c67
          refine lv_iload hC.1 hC.2.1 dL_isSo_205 (lv_at hl 7 rfl) ?_
          refine lv_aload_n hC.1 hC.2.1 dL_isSo_207 rfl (lv_at hl 2 rfl) ?_
          refine lv_iconst (v := 2) hC.1 hC.2.1 dL_isSo_208 (by decide) ?_
          refine aL_22 hC hZ (by unfold vp_in; decide) dL_isSo_209 ?_
          refine lv_icmp_lt (tgt := 220) hC.1 hC.2.1 dL_isSo_210 (by decide) (fun c68 => ?_) (fun c68 => ?_)
          · have h := h.1 c68
            refine lv_iconst (v := 0) hC.1 hC.2.1 dL_isSo_220 (by decide) ?_
            exact z_bret hC hr hZ (by decide) h dL_isSo_221 (by show _ ≤ (429 : Nat); omega) (by show _ ≤ (2574 : Nat); omega)
          · have h := h.2 c68
            refine lv_iload hC.1 hC.2.1 dL_isSo_213 (lv_at hl 7 rfl) ?_
            refine lv_bipush (v := 29) hC.1 hC.2.1 dL_isSo_215 (by decide) ?_
            refine lv_icmp_le (tgt := 222) hC.1 hC.2.1 dL_isSo_217 (by decide) (fun c69 => ?_) (fun c69 => ?_)
            · have h := h.1 c69
              exact t_L_isSo_222 (l := l) hst hC hr hk120 _ _ _ _ _ _ _ _ _ (by show _ ≤ (429 : Nat); omega) (by show _ ≤ (2574 : Nat); omega) h hZ (lv_sub hl [1, 2, 3, 0, 4, 5] rfl)
            · have h := h.2 c69
              refine lv_iconst (v := 0) hC.1 hC.2.1 dL_isSo_220 (by decide) ?_
              exact z_bret hC hr hZ (by decide) h dL_isSo_221 (by show _ ≤ (429 : Nat); omega) (by show _ ≤ (2574 : Nat); omega)
        · have h := h.2 c67
          refine lv_iload hC.1 hC.2.1 dL_isSo_189 (lv_at hl 7 rfl) ?_
          refine lv_if_lt (tgt := 220) hC.1 hC.2.1 dL_isSo_191 (by decide) (fun c70 => ?_) (fun c70 => ?_)
          · have h := h.1 c70
            refine lv_iconst (v := 0) hC.1 hC.2.1 dL_isSo_220 (by decide) ?_
            exact z_bret hC hr hZ (by decide) h dL_isSo_221 (by show _ ≤ (429 : Nat); omega) (by show _ ≤ (2574 : Nat); omega)
          · have h := h.2 c70
            refine lv_iload hC.1 hC.2.1 dL_isSo_194 (lv_at hl 7 rfl) ?_
            refine lv_aload_n hC.1 hC.2.1 dL_isSo_196 rfl (lv_at hl 2 rfl) ?_
            refine lv_iconst (v := 2) hC.1 hC.2.1 dL_isSo_197 (by decide) ?_
            refine aL_22 hC hZ (by unfold vp_in; decide) dL_isSo_198 ?_
            refine lv_icmp_lt (tgt := 222) hC.1 hC.2.1 dL_isSo_199 (by decide) (fun c71 => ?_) (fun c71 => ?_)
            · have h := h.1 c71
              exact t_L_isSo_222 (l := l) hst hC hr hk120 _ _ _ _ _ _ _ _ _ (by show _ ≤ (429 : Nat); omega) (by show _ ≤ (2574 : Nat); omega) h hZ (lv_sub hl [1, 2, 3, 0, 4, 5] rfl)
            · have h := h.2 c71
              refine lv_goto (tgt := 220) hC.1 hC.2.1 dL_isSo_202 (by decide) ?_
              refine lv_iconst (v := 0) hC.1 hC.2.1 dL_isSo_220 (by decide) ?_
              exact z_bret hC hr hZ (by decide) h dL_isSo_221 (by show _ ≤ (429 : Nat); omega) (by show _ ≤ (2574 : Nat); omega)
      · have h := h.2 c66
        refine lv_iload hC.1 hC.2.1 dL_isSo_174 (lv_at hl 7 rfl) ?_
        refine lv_iconst (v := (-1)) hC.1 hC.2.1 dL_isSo_176 (by decide) ?_
        refine lv_icmp_eq (tgt := 222) hC.1 hC.2.1 dL_isSo_177 (by decide) (fun c72 => ?_) (fun c72 => ?_)
        · have h := h.1 c72
          exact t_L_isSo_222 (l := l) hst hC hr hk120 _ _ _ _ _ _ _ _ _ (by show _ ≤ (429 : Nat); omega) (by show _ ≤ (2574 : Nat); omega) h hZ (lv_sub hl [1, 2, 3, 0, 4, 5] rfl)
        · have h := h.2 c72
          refine lv_goto (tgt := 220) hC.1 hC.2.1 dL_isSo_180 (by decide) ?_
          refine lv_iconst (v := 0) hC.1 hC.2.1 dL_isSo_220 (by decide) ?_
          exact z_bret hC hr hZ (by decide) h dL_isSo_221 (by show _ ≤ (429 : Nat); omega) (by show _ ≤ (2574 : Nat); omega)
def lb_L_isSo_120 (n np : Nat) (post : Int32 → Mem → Prop) (k120 : Int32 → Int32 → Int32 → Mem → Prop) (v3 : Int32) (v4 : Int32) (v5 : Int32) (μ : Mem) : Prop := (((μ 22 0 (0 : Int32).toNatClampNeg) ≤ v5 → (∃ fuel : Nat, fuel ≤ 6 ∧ l_L_isSo_231 n np post fuel v3 v4 (0 : Int32) μ)) ∧ (¬ (μ 22 0 (0 : Int32).toNatClampNeg) ≤ v5 → (w_L_stateOf n np (fun (r60 : Int32) (μ59 : Mem) => (w_L_dayOf n np (fun (r62 : Int32) (μ61 : Mem) => ((¬ r60 = 0 → b_L_isSo_155 n np post k120 v4 v5 r60 r62 v3 (0 : Int32) μ61) ∧ (r60 = 0 → b_L_isSo_155 n np post k120 v4 v5 r60 r62 v3 (1 : Int32) μ61))) v5 μ59)) v5 μ)))
def l_L_isSo_120 (n np : Nat) (post : Int32 → Mem → Prop) : Nat → Int32 → Int32 → Int32 → Mem → Prop
  | 0 => fun _ _ _ _ => False
  | fuel + 1 => lb_L_isSo_120 n np post (l_L_isSo_120 n np post fuel) 
set_option maxRecDepth 100000 in
set_option maxHeartbeats 4000000 in
theorem t_L_isSo_120 {p : Program} {l : Launch} {e : Env} {s : State} {m : MethodId} {args : Array Value} {below : List Frame} {meth : Method} {c : Code} {D : va_G} {ca : Nat → ClassId} {base : Nat} {ad : Nat → Nat → Nat} {n np : Nat} {post : Int32 → Mem → Prop} (hst : l.stackTraces = false) (hC : ZC p m meth c s RL cL_isSo 9) (hr : meth.sig.returnType = (some FieldType.boolean)) : ∀ (fuel : Nat) (v3 : Int32) (v4 : Int32) (v5 : Int32) (cx dx : Nat) (μ : Mem) (H : Heap) (locs : List Loc) (ls : Array Slot), cx + (fuel * 2 + (252)) ≤ 429 → dx + (fuel * 12 + (1512)) ≤ 2574 → l_L_isSo_120 n np post fuel v3 v4 v5 μ → ZS D ca base ad n np μ s H locs → lv_has ls 9 [(0, .ref (ad 30 0)), (1, .ref (ad 22 0)), (2, .ref (ad 23 0)), (3, .int v3), (4, .int v4), (5, .int v5)] → W p l e ({ frames := 9, cells := 429, slots := 2574, locals := 155 } : Room) s m args below meth c H locs cx dx (MQ below (ZQ D ca base ad n np (zpi post)) args s 429 2574 (zB base)) (F0 m 120 ls []) := by
  intro fuel
  induction fuel with
  | zero => exact fun _ _ _ _ _ _ _ _ _ _ _ h => h.elim
  | succ fuel hk120 =>
    intro v3 v4 v5 cx dx μ H locs ls hBc hBs h hZ hl
    have h : lb_L_isSo_120 n np post (l_L_isSo_120 n np post fuel) v3 v4 v5 μ := h
    unfold lb_L_isSo_120 at h
    refine lv_iload hC.1 hC.2.1 dL_isSo_120 (lv_at hl 5 rfl) ?_
    refine lv_aload_n hC.1 hC.2.1 dL_isSo_122 rfl (lv_at hl 1 rfl) ?_
    refine lv_iconst (v := 0) hC.1 hC.2.1 dL_isSo_123 (by decide) ?_
    refine aL_22 hC hZ (by unfold vp_in; decide) dL_isSo_124 ?_
    refine lv_icmp_ge (tgt := 228) hC.1 hC.2.1 dL_isSo_125 (by decide) (fun c2 => ?_) (fun c2 => ?_)
    · have h := h.1 c2
      refine lv_iconst (v := 0) hC.1 hC.2.1 dL_isSo_228 (by decide) ?_
      refine lv_istore (lv' := [(5, .int 0), (0, .ref (ad 30 0)), (1, .ref (ad 22 0)), (2, .ref (ad 23 0)), (3, .int v3), (4, .int v4)]) hC.1 hC.2.1 dL_isSo_229 hl (by decide) rfl (fun ls hl => ?_)
      obtain ⟨fuel, hfu, h⟩ := h
      exact t_L_isSo_231 (l := l) hst hC hr _ _ _ _ _ _ _ _ _ _ (by show _ ≤ (429 : Nat); omega) (by show _ ≤ (2574 : Nat); omega) h hZ (lv_sub hl [1, 2, 3, 4, 5, 0] rfl)
    · have h := h.2 c2
      refine lv_aload_n hC.1 hC.2.1 dL_isSo_128 rfl (lv_at hl 0 rfl) ?_
      refine lv_iload hC.1 hC.2.1 dL_isSo_129 (lv_at hl 5 rfl) ?_
      refine z_cWi (As := [.ref (ad 30 0), .int v5]) hC hZ zy_L_stateOf (c_L_stateOf l hst h) km_L_90 rfl ⟨rfl, rfl⟩ ⟨Nat.le_of_ble_eq_true rfl, Nat.le_of_ble_eq_true rfl⟩ hl.1 rfl (Nat.le_of_ble_eq_true rfl) dL_isSo_131 ⟨by show _ ≤ (429 : Nat); omega, by show _ ≤ (2574 : Nat); omega⟩ (fun r60 μ59 H locs h hZ => ?_)
      refine lv_istore (lv' := [(6, .int r60), (0, .ref (ad 30 0)), (1, .ref (ad 22 0)), (2, .ref (ad 23 0)), (3, .int v3), (4, .int v4), (5, .int v5)]) hC.1 hC.2.1 dL_isSo_134 hl (by decide) rfl (fun ls hl => ?_)
      refine lv_aload_n hC.1 hC.2.1 dL_isSo_136 rfl (lv_at hl 1 rfl) ?_
      refine lv_iload hC.1 hC.2.1 dL_isSo_137 (lv_at hl 6 rfl) ?_
      refine z_cWi (As := [.ref (ad 30 0), .int v5]) hC hZ zy_L_dayOf (c_L_dayOf l hst h) km_L_92 rfl ⟨rfl, rfl⟩ ⟨Nat.le_of_ble_eq_true rfl, Nat.le_of_ble_eq_true rfl⟩ hl.1 rfl (Nat.le_of_ble_eq_true rfl) dL_isSo_139 ⟨by show _ ≤ (429 : Nat); omega, by show _ ≤ (2574 : Nat); omega⟩ (fun r62 μ61 H locs h hZ => ?_)
      refine lv_istore (lv' := [(7, .int r62), (6, .int r60), (0, .ref (ad 30 0)), (1, .ref (ad 22 0)), (2, .ref (ad 23 0)), (3, .int v3), (4, .int v4), (5, .int v5)]) hC.1 hC.2.1 dL_isSo_142 hl (by decide) rfl (fun ls hl => ?_)
      refine lv_iload_n hC.1 hC.2.1 dL_isSo_144 rfl (lv_at hl 5 rfl) ?_
      refine lv_iload hC.1 hC.2.1 dL_isSo_145 (lv_at hl 1 rfl) ?_
      refine lv_if_ne (tgt := 154) hC.1 hC.2.1 dL_isSo_147 (by decide) (fun c63 => ?_) (fun c63 => ?_)
      · have h := h.1 c63
        refine lv_iconst (v := 0) hC.1 hC.2.1 dL_isSo_154 (by decide) ?_
        exact t_L_isSo_155 (l := l) hst hC hr hk120 _ _ _ _ _ _ _ _ _ _ _ _ (by show _ ≤ (429 : Nat); omega) (by show _ ≤ (2574 : Nat); omega) h hZ (lv_sub hl [2, 3, 4, 6, 7, 1, 0] rfl)
      · have h := h.2 c63
        refine lv_iconst (v := 1) hC.1 hC.2.1 dL_isSo_150 (by decide) ?_
        refine lv_goto (tgt := 155) hC.1 hC.2.1 dL_isSo_151 (by decide) ?_
        exact t_L_isSo_155 (l := l) hst hC hr hk120 _ _ _ _ _ _ _ _ _ _ _ _ (by show _ ≤ (429 : Nat); omega) (by show _ ≤ (2574 : Nat); omega) h hZ (lv_sub hl [2, 3, 4, 6, 7, 1, 0] rfl)
def b_L_isSo_108 (n np : Nat) (post : Int32 → Mem → Prop) (k8 : Int32 → Int32 → Int32 → Mem → Prop) (v3 : Int32) (v5 : Int32) (s0 : Int32) (s1 : Int32) (μ : Mem) : Prop := k8 v3 (s0 + s1) (v5 + 1) μ
set_option maxRecDepth 100000 in
set_option maxHeartbeats 4000000 in
theorem t_L_isSo_108 {p : Program} {l : Launch} {e : Env} {s : State} {m : MethodId} {args : Array Value} {below : List Frame} {meth : Method} {c : Code} {D : va_G} {ca : Nat → ClassId} {base : Nat} {ad : Nat → Nat → Nat} {n np : Nat} {post : Int32 → Mem → Prop} {k8 : Int32 → Int32 → Int32 → Mem → Prop} {Kc8 Ks8 : Nat} (hst : l.stackTraces = false) (hC : ZC p m meth c s RL cL_isSo 9) (hr : meth.sig.returnType = (some FieldType.boolean)) (hk8 : ∀ (v3 : Int32) (v4 : Int32) (v5 : Int32) (cx dx : Nat) (μ : Mem) (H : Heap) (locs : List Loc) (ls : Array Slot), cx + Kc8 ≤ 429 → dx + Ks8 ≤ 2574 → k8 v3 v4 v5 μ → ZS D ca base ad n np μ s H locs → lv_has ls 9 [(0, .ref (ad 30 0)), (1, .ref (ad 22 0)), (2, .ref (ad 23 0)), (3, .int v3), (4, .int v4), (5, .int v5)] → W p l e ({ frames := 9, cells := 429, slots := 2574, locals := 155 } : Room) s m args below meth c H locs cx dx (MQ below (ZQ D ca base ad n np (zpi post)) args s 429 2574 (zB base)) (F0 m 8 ls [])) (v3 : Int32) (v5 : Int32) (s0 : Int32) (s1 : Int32) (cx dx : Nat) (μ : Mem) (H : Heap) (locs : List Loc) (ls : Array Slot) (hBc : cx + (0 + Kc8) ≤ 429) (hBs : dx + (0 + Ks8) ≤ 2574) (h : b_L_isSo_108 n np post k8 v3 v5 s0 s1 μ) (hZ : ZS D ca base ad n np μ s H locs) (hl : lv_has ls 9 [(0, .ref (ad 30 0)), (1, .ref (ad 22 0)), (2, .ref (ad 23 0)), (3, .int v3), (5, .int v5)]) : W p l e ({ frames := 9, cells := 429, slots := 2574, locals := 155 } : Room) s m args below meth c H locs cx dx (MQ below (ZQ D ca base ad n np (zpi post)) args s 429 2574 (zB base)) (F0 m 108 ls [.int s1, .int s0]) := by
  unfold b_L_isSo_108 at h
  refine lv_iadd hC.1 hC.2.1 dL_isSo_108 ?_
  refine lv_istore (lv' := [(4, .int (s0 + s1)), (0, .ref (ad 30 0)), (1, .ref (ad 22 0)), (2, .ref (ad 23 0)), (3, .int v3), (5, .int v5)]) hC.1 hC.2.1 dL_isSo_109 hl (by decide) rfl (fun ls hl => ?_)
  refine lv_iinc (v := v5 + 1) (lv' := [(5, .int (v5 + 1)), (4, .int (s0 + s1)), (0, .ref (ad 30 0)), (1, .ref (ad 22 0)), (2, .ref (ad 23 0)), (3, .int v3)]) hC.1 hC.2.1 dL_isSo_111 hl (k := 5) rfl rfl (by decide) rfl (fun ls hl => ?_)
  refine lv_goto (tgt := 8) hC.1 hC.2.1 dL_isSo_114 (by decide) ?_
  exact hk8 _ _ _ _ _ _ _ _ _ (by show _ ≤ (429 : Nat); omega) (by show _ ≤ (2574 : Nat); omega) h hZ (lv_sub hl [2, 3, 4, 5, 1, 0] rfl)
def b_L_isSo_107 (n np : Nat) (post : Int32 → Mem → Prop) (k8 : Int32 → Int32 → Int32 → Mem → Prop) (v3 : Int32) (v5 : Int32) (s0 : Int32) (μ : Mem) : Prop := b_L_isSo_108 n np post k8 v3 v5 s0 (0 : Int32) μ
set_option maxRecDepth 100000 in
set_option maxHeartbeats 4000000 in
theorem t_L_isSo_107 {p : Program} {l : Launch} {e : Env} {s : State} {m : MethodId} {args : Array Value} {below : List Frame} {meth : Method} {c : Code} {D : va_G} {ca : Nat → ClassId} {base : Nat} {ad : Nat → Nat → Nat} {n np : Nat} {post : Int32 → Mem → Prop} {k8 : Int32 → Int32 → Int32 → Mem → Prop} {Kc8 Ks8 : Nat} (hst : l.stackTraces = false) (hC : ZC p m meth c s RL cL_isSo 9) (hr : meth.sig.returnType = (some FieldType.boolean)) (hk8 : ∀ (v3 : Int32) (v4 : Int32) (v5 : Int32) (cx dx : Nat) (μ : Mem) (H : Heap) (locs : List Loc) (ls : Array Slot), cx + Kc8 ≤ 429 → dx + Ks8 ≤ 2574 → k8 v3 v4 v5 μ → ZS D ca base ad n np μ s H locs → lv_has ls 9 [(0, .ref (ad 30 0)), (1, .ref (ad 22 0)), (2, .ref (ad 23 0)), (3, .int v3), (4, .int v4), (5, .int v5)] → W p l e ({ frames := 9, cells := 429, slots := 2574, locals := 155 } : Room) s m args below meth c H locs cx dx (MQ below (ZQ D ca base ad n np (zpi post)) args s 429 2574 (zB base)) (F0 m 8 ls [])) (v3 : Int32) (v5 : Int32) (s0 : Int32) (cx dx : Nat) (μ : Mem) (H : Heap) (locs : List Loc) (ls : Array Slot) (hBc : cx + (0 + Kc8) ≤ 429) (hBs : dx + (0 + Ks8) ≤ 2574) (h : b_L_isSo_107 n np post k8 v3 v5 s0 μ) (hZ : ZS D ca base ad n np μ s H locs) (hl : lv_has ls 9 [(0, .ref (ad 30 0)), (1, .ref (ad 22 0)), (2, .ref (ad 23 0)), (3, .int v3), (5, .int v5)]) : W p l e ({ frames := 9, cells := 429, slots := 2574, locals := 155 } : Room) s m args below meth c H locs cx dx (MQ below (ZQ D ca base ad n np (zpi post)) args s 429 2574 (zB base)) (F0 m 107 ls [.int s0]) := by
  unfold b_L_isSo_107 at h
  refine lv_iconst (v := 0) hC.1 hC.2.1 dL_isSo_107 (by decide) ?_
  exact t_L_isSo_108 (l := l) hst hC hr hk8 _ _ _ _ _ _ _ _ _ _ (by show _ ≤ (429 : Nat); omega) (by show _ ≤ (2574 : Nat); omega) h hZ (lv_sub hl [0, 1, 2, 3, 4] rfl)
def b_L_isSo_83 (n np : Nat) (post : Int32 → Mem → Prop) (k8 : Int32 → Int32 → Int32 → Mem → Prop) (v4 : Int32) (v5 : Int32) (v6 : Int32) (s0 : Int32) (s1 : Int32) (μ : Mem) : Prop := ((v6 < 0 → b_L_isSo_107 n np post k8 (s0 + s1) v5 v4 μ) ∧ (¬ v6 < 0 → (w_L_isAllowed n np (fun (r81 : Int32) (μ80 : Mem) => ((¬ r81 = 0 → b_L_isSo_107 n np post k8 (s0 + s1) v5 v4 μ80) ∧ (r81 = 0 → b_L_isSo_108 n np post k8 (s0 + s1) v5 v4 (1 : Int32) μ80))) v6 v5 μ)))
set_option maxRecDepth 100000 in
set_option maxHeartbeats 4000000 in
theorem t_L_isSo_83 {p : Program} {l : Launch} {e : Env} {s : State} {m : MethodId} {args : Array Value} {below : List Frame} {meth : Method} {c : Code} {D : va_G} {ca : Nat → ClassId} {base : Nat} {ad : Nat → Nat → Nat} {n np : Nat} {post : Int32 → Mem → Prop} {k8 : Int32 → Int32 → Int32 → Mem → Prop} {Kc8 Ks8 : Nat} (hst : l.stackTraces = false) (hC : ZC p m meth c s RL cL_isSo 9) (hr : meth.sig.returnType = (some FieldType.boolean)) (hk8 : ∀ (v3 : Int32) (v4 : Int32) (v5 : Int32) (cx dx : Nat) (μ : Mem) (H : Heap) (locs : List Loc) (ls : Array Slot), cx + Kc8 ≤ 429 → dx + Ks8 ≤ 2574 → k8 v3 v4 v5 μ → ZS D ca base ad n np μ s H locs → lv_has ls 9 [(0, .ref (ad 30 0)), (1, .ref (ad 22 0)), (2, .ref (ad 23 0)), (3, .int v3), (4, .int v4), (5, .int v5)] → W p l e ({ frames := 9, cells := 429, slots := 2574, locals := 155 } : Room) s m args below meth c H locs cx dx (MQ below (ZQ D ca base ad n np (zpi post)) args s 429 2574 (zB base)) (F0 m 8 ls [])) (v4 : Int32) (v5 : Int32) (v6 : Int32) (s0 : Int32) (s1 : Int32) (cx dx : Nat) (μ : Mem) (H : Heap) (locs : List Loc) (ls : Array Slot) (hBc : cx + (2 + Kc8) ≤ 429) (hBs : dx + (12 + Ks8) ≤ 2574) (h : b_L_isSo_83 n np post k8 v4 v5 v6 s0 s1 μ) (hZ : ZS D ca base ad n np μ s H locs) (hl : lv_has ls 9 [(0, .ref (ad 30 0)), (1, .ref (ad 22 0)), (2, .ref (ad 23 0)), (4, .int v4), (5, .int v5), (6, .int v6)]) : W p l e ({ frames := 9, cells := 429, slots := 2574, locals := 155 } : Room) s m args below meth c H locs cx dx (MQ below (ZQ D ca base ad n np (zpi post)) args s 429 2574 (zB base)) (F0 m 83 ls [.int s1, .int s0]) := by
  unfold b_L_isSo_83 at h
  refine lv_iadd hC.1 hC.2.1 dL_isSo_83 ?_
  refine lv_istore_n (lv' := [(3, .int (s0 + s1)), (0, .ref (ad 30 0)), (1, .ref (ad 22 0)), (2, .ref (ad 23 0)), (4, .int v4), (5, .int v5), (6, .int v6)]) hC.1 hC.2.1 dL_isSo_84 rfl hl (by decide) rfl (fun ls hl => ?_)
  refine lv_iload hC.1 hC.2.1 dL_isSo_85 (lv_at hl 4 rfl) ?_
  refine lv_iload hC.1 hC.2.1 dL_isSo_87 (lv_at hl 6 rfl) ?_
  refine lv_if_lt (tgt := 107) hC.1 hC.2.1 dL_isSo_89 (by decide) (fun c79 => ?_) (fun c79 => ?_)
  · have h := h.1 c79
    exact t_L_isSo_107 (l := l) hst hC hr hk8 _ _ _ _ _ _ _ _ _ (by show _ ≤ (429 : Nat); omega) (by show _ ≤ (2574 : Nat); omega) h hZ (lv_sub hl [1, 2, 3, 0, 5] rfl)
  · have h := h.2 c79
    refine lv_aload_n hC.1 hC.2.1 dL_isSo_92 rfl (lv_at hl 1 rfl) ?_
    refine lv_iload hC.1 hC.2.1 dL_isSo_93 (lv_at hl 6 rfl) ?_
    refine lv_iload hC.1 hC.2.1 dL_isSo_95 (lv_at hl 5 rfl) ?_
    refine z_cWi (As := [.ref (ad 30 0), .int v6, .int v5]) hC hZ zy_L_isAllowed (c_L_isAllowed l hst h) km_L_94 rfl ⟨rfl, rfl⟩ ⟨Nat.le_of_ble_eq_true rfl, Nat.le_of_ble_eq_true rfl⟩ hl.1 rfl (Nat.le_of_ble_eq_true rfl) dL_isSo_97 ⟨by show _ ≤ (429 : Nat); omega, by show _ ≤ (2574 : Nat); omega⟩ (fun r81 μ80 H locs h hZ => ?_)
    refine lv_if_ne (tgt := 107) hC.1 hC.2.1 dL_isSo_100 (by decide) (fun c82 => ?_) (fun c82 => ?_)
    · have h := h.1 c82
      exact t_L_isSo_107 (l := l) hst hC hr hk8 _ _ _ _ _ _ _ _ _ (by show _ ≤ (429 : Nat); omega) (by show _ ≤ (2574 : Nat); omega) h hZ (lv_sub hl [1, 2, 3, 0, 5] rfl)
    · have h := h.2 c82
      refine lv_iconst (v := 1) hC.1 hC.2.1 dL_isSo_103 (by decide) ?_
      refine lv_goto (tgt := 108) hC.1 hC.2.1 dL_isSo_104 (by decide) ?_
      exact t_L_isSo_108 (l := l) hst hC hr hk8 _ _ _ _ _ _ _ _ _ _ (by show _ ≤ (429 : Nat); omega) (by show _ ≤ (2574 : Nat); omega) h hZ (lv_sub hl [1, 2, 3, 0, 5] rfl)
def b_L_isSo_72 (n np : Nat) (post : Int32 → Mem → Prop) (k8 : Int32 → Int32 → Int32 → Mem → Prop) (v3 : Int32) (v4 : Int32) (v5 : Int32) (v6 : Int32) (μ : Mem) : Prop := ((v6 < 0 → b_L_isSo_83 n np post k8 v4 v5 v6 v3 (0 : Int32) μ) ∧ (¬ v6 < 0 → b_L_isSo_83 n np post k8 v4 v5 v6 v3 (1 : Int32) μ))
set_option maxRecDepth 100000 in
set_option maxHeartbeats 4000000 in
theorem t_L_isSo_72 {p : Program} {l : Launch} {e : Env} {s : State} {m : MethodId} {args : Array Value} {below : List Frame} {meth : Method} {c : Code} {D : va_G} {ca : Nat → ClassId} {base : Nat} {ad : Nat → Nat → Nat} {n np : Nat} {post : Int32 → Mem → Prop} {k8 : Int32 → Int32 → Int32 → Mem → Prop} {Kc8 Ks8 : Nat} (hst : l.stackTraces = false) (hC : ZC p m meth c s RL cL_isSo 9) (hr : meth.sig.returnType = (some FieldType.boolean)) (hk8 : ∀ (v3 : Int32) (v4 : Int32) (v5 : Int32) (cx dx : Nat) (μ : Mem) (H : Heap) (locs : List Loc) (ls : Array Slot), cx + Kc8 ≤ 429 → dx + Ks8 ≤ 2574 → k8 v3 v4 v5 μ → ZS D ca base ad n np μ s H locs → lv_has ls 9 [(0, .ref (ad 30 0)), (1, .ref (ad 22 0)), (2, .ref (ad 23 0)), (3, .int v3), (4, .int v4), (5, .int v5)] → W p l e ({ frames := 9, cells := 429, slots := 2574, locals := 155 } : Room) s m args below meth c H locs cx dx (MQ below (ZQ D ca base ad n np (zpi post)) args s 429 2574 (zB base)) (F0 m 8 ls [])) (v3 : Int32) (v4 : Int32) (v5 : Int32) (v6 : Int32) (cx dx : Nat) (μ : Mem) (H : Heap) (locs : List Loc) (ls : Array Slot) (hBc : cx + (2 + Kc8) ≤ 429) (hBs : dx + (12 + Ks8) ≤ 2574) (h : b_L_isSo_72 n np post k8 v3 v4 v5 v6 μ) (hZ : ZS D ca base ad n np μ s H locs) (hl : lv_has ls 9 [(0, .ref (ad 30 0)), (1, .ref (ad 22 0)), (2, .ref (ad 23 0)), (3, .int v3), (4, .int v4), (5, .int v5), (6, .int v6)]) : W p l e ({ frames := 9, cells := 429, slots := 2574, locals := 155 } : Room) s m args below meth c H locs cx dx (MQ below (ZQ D ca base ad n np (zpi post)) args s 429 2574 (zB base)) (F0 m 72 ls []) := by
  unfold b_L_isSo_72 at h
  refine lv_iload_n hC.1 hC.2.1 dL_isSo_72 rfl (lv_at hl 3 rfl) ?_
  refine lv_iload hC.1 hC.2.1 dL_isSo_73 (lv_at hl 6 rfl) ?_
  refine lv_if_lt (tgt := 82) hC.1 hC.2.1 dL_isSo_75 (by decide) (fun c78 => ?_) (fun c78 => ?_)
  · have h := h.1 c78
    refine lv_iconst (v := 0) hC.1 hC.2.1 dL_isSo_82 (by decide) ?_
    exact t_L_isSo_83 (l := l) hst hC hr hk8 _ _ _ _ _ _ _ _ _ _ _ (by show _ ≤ (429 : Nat); omega) (by show _ ≤ (2574 : Nat); omega) h hZ (lv_sub hl [0, 1, 2, 4, 5, 6] rfl)
  · have h := h.2 c78
    refine lv_iconst (v := 1) hC.1 hC.2.1 dL_isSo_78 (by decide) ?_
    refine lv_goto (tgt := 83) hC.1 hC.2.1 dL_isSo_79 (by decide) ?_
    exact t_L_isSo_83 (l := l) hst hC hr hk8 _ _ _ _ _ _ _ _ _ _ _ (by show _ ≤ (429 : Nat); omega) (by show _ ≤ (2574 : Nat); omega) h hZ (lv_sub hl [0, 1, 2, 4, 5, 6] rfl)
def lb_L_isSo_8 (n np : Nat) (post : Int32 → Mem → Prop) (k8 : Int32 → Int32 → Int32 → Mem → Prop) (v3 : Int32) (v4 : Int32) (v5 : Int32) (μ : Mem) : Prop := ((30 ≤ v5 → (∃ fuel : Nat, fuel ≤ 11 ∧ l_L_isSo_120 n np post fuel v3 v4 (0 : Int32) μ)) ∧ (¬ 30 ≤ v5 → (w_L_sceneOn n np (fun (r74 : Int32) (μ73 : Mem) => ((r74 < (-1) → post 0 μ73) ∧ (¬ r74 < (-1) → (((μ73 22 0 (0 : Int32).toNatClampNeg) ≤ r74 → post 0 μ73) ∧ (¬ (μ73 22 0 (0 : Int32).toNatClampNeg) ≤ r74 → ((r74 < 0 → b_L_isSo_72 n np post k8 v3 v4 v5 r74 μ73) ∧ (¬ r74 < 0 → ((v5 < (μ73 22 0 (2 : Int32).toNatClampNeg) → post 0 μ73) ∧ (¬ v5 < (μ73 22 0 (2 : Int32).toNatClampNeg) → (w_L_stateOf n np (fun (r85 : Int32) (μ84 : Mem) => ((¬ r85 = 0 → post 0 μ84) ∧ (r85 = 0 → (w_L_dayOf n np (fun (r88 : Int32) (μ87 : Mem) => ((r88 = v5 → b_L_isSo_72 n np post k8 v3 v4 v5 r74 μ87) ∧ (¬ r88 = v5 → post 0 μ87))) r74 μ84)))) r74 μ73)))))))))) v5 μ)))
def l_L_isSo_8 (n np : Nat) (post : Int32 → Mem → Prop) : Nat → Int32 → Int32 → Int32 → Mem → Prop
  | 0 => fun _ _ _ _ => False
  | fuel + 1 => lb_L_isSo_8 n np post (l_L_isSo_8 n np post fuel) 
set_option maxRecDepth 100000 in
set_option maxHeartbeats 4000000 in
theorem t_L_isSo_8 {p : Program} {l : Launch} {e : Env} {s : State} {m : MethodId} {args : Array Value} {below : List Frame} {meth : Method} {c : Code} {D : va_G} {ca : Nat → ClassId} {base : Nat} {ad : Nat → Nat → Nat} {n np : Nat} {post : Int32 → Mem → Prop} (hst : l.stackTraces = false) (hC : ZC p m meth c s RL cL_isSo 9) (hr : meth.sig.returnType = (some FieldType.boolean)) : ∀ (fuel : Nat) (v3 : Int32) (v4 : Int32) (v5 : Int32) (cx dx : Nat) (μ : Mem) (H : Heap) (locs : List Loc) (ls : Array Slot), cx + (fuel * 5 + (274)) ≤ 429 → dx + (fuel * 30 + (1644)) ≤ 2574 → l_L_isSo_8 n np post fuel v3 v4 v5 μ → ZS D ca base ad n np μ s H locs → lv_has ls 9 [(0, .ref (ad 30 0)), (1, .ref (ad 22 0)), (2, .ref (ad 23 0)), (3, .int v3), (4, .int v4), (5, .int v5)] → W p l e ({ frames := 9, cells := 429, slots := 2574, locals := 155 } : Room) s m args below meth c H locs cx dx (MQ below (ZQ D ca base ad n np (zpi post)) args s 429 2574 (zB base)) (F0 m 8 ls []) := by
  intro fuel
  induction fuel with
  | zero => exact fun _ _ _ _ _ _ _ _ _ _ _ h => h.elim
  | succ fuel hk8 =>
    intro v3 v4 v5 cx dx μ H locs ls hBc hBs h hZ hl
    have h : lb_L_isSo_8 n np post (l_L_isSo_8 n np post fuel) v3 v4 v5 μ := h
    unfold lb_L_isSo_8 at h
    refine lv_iload hC.1 hC.2.1 dL_isSo_8 (lv_at hl 5 rfl) ?_
    refine lv_bipush (v := 30) hC.1 hC.2.1 dL_isSo_10 (by decide) ?_
    refine lv_icmp_ge (tgt := 117) hC.1 hC.2.1 dL_isSo_12 (by decide) (fun c1 => ?_) (fun c1 => ?_)
    · have h := h.1 c1
      refine lv_iconst (v := 0) hC.1 hC.2.1 dL_isSo_117 (by decide) ?_
      refine lv_istore (lv' := [(5, .int 0), (0, .ref (ad 30 0)), (1, .ref (ad 22 0)), (2, .ref (ad 23 0)), (3, .int v3), (4, .int v4)]) hC.1 hC.2.1 dL_isSo_118 hl (by decide) rfl (fun ls hl => ?_)
      obtain ⟨fuel, hfu, h⟩ := h
      exact t_L_isSo_120 (l := l) hst hC hr _ _ _ _ _ _ _ _ _ _ (by show _ ≤ (429 : Nat); omega) (by show _ ≤ (2574 : Nat); omega) h hZ (lv_sub hl [1, 2, 3, 4, 5, 0] rfl)
    · have h := h.2 c1
      refine lv_aload_n hC.1 hC.2.1 dL_isSo_15 rfl (lv_at hl 0 rfl) ?_
      refine lv_iload hC.1 hC.2.1 dL_isSo_16 (lv_at hl 5 rfl) ?_
      refine z_cWi (As := [.ref (ad 30 0), .int v5]) hC hZ zy_L_sceneOn (c_L_sceneOn l hst h) km_L_85 rfl ⟨rfl, rfl⟩ ⟨Nat.le_of_ble_eq_true rfl, Nat.le_of_ble_eq_true rfl⟩ hl.1 rfl (Nat.le_of_ble_eq_true rfl) dL_isSo_18 ⟨by show _ ≤ (429 : Nat); omega, by show _ ≤ (2574 : Nat); omega⟩ (fun r74 μ73 H locs h hZ => ?_)
      refine lv_istore (lv' := [(6, .int r74), (0, .ref (ad 30 0)), (1, .ref (ad 22 0)), (2, .ref (ad 23 0)), (3, .int v3), (4, .int v4), (5, .int v5)]) hC.1 hC.2.1 dL_isSo_21 hl (by decide) rfl (fun ls hl => ?_)
      refine lv_iload hC.1 hC.2.1 dL_isSo_23 (lv_at hl 0 rfl) ?_
      refine lv_iconst (v := (-1)) hC.1 hC.2.1 dL_isSo_25 (by decide) ?_
      refine lv_icmp_lt (tgt := 70) hC.1 hC.2.1 dL_isSo_26 (by decide) (fun c75 => ?_) (fun c75 => ?_)
      · have h := h.1 c75
        refine lv_iconst (v := 0) hC.1 hC.2.1 dL_isSo_70 (by decide) ?_
        exact z_bret hC hr hZ (by decide) h dL_isSo_71 (by show _ ≤ (429 : Nat); omega) (by show _ ≤ (2574 : Nat); omega)
      · have h := h.2 c75
        refine lv_iload hC.1 hC.2.1 dL_isSo_29 (lv_at hl 0 rfl) ?_
        refine lv_aload_n hC.1 hC.2.1 dL_isSo_31 rfl (lv_at hl 2 rfl) ?_
        refine lv_iconst (v := 0) hC.1 hC.2.1 dL_isSo_32 (by decide) ?_
        refine aL_22 hC hZ (by unfold vp_in; decide) dL_isSo_33 ?_
        refine lv_icmp_ge (tgt := 70) hC.1 hC.2.1 dL_isSo_34 (by decide) (fun c76 => ?_) (fun c76 => ?_)
        · have h := h.1 c76
          refine lv_iconst (v := 0) hC.1 hC.2.1 dL_isSo_70 (by decide) ?_
          exact z_bret hC hr hZ (by decide) h dL_isSo_71 (by show _ ≤ (429 : Nat); omega) (by show _ ≤ (2574 : Nat); omega)
        · have h := h.2 c76
          refine lv_iload hC.1 hC.2.1 dL_isSo_37 (lv_at hl 0 rfl) ?_
          refine lv_if_lt (tgt := 72) hC.1 hC.2.1 dL_isSo_39 (by decide) (fun c77 => ?_) (fun c77 => ?_)
          · have h := h.1 c77
            exact t_L_isSo_72 (l := l) hst hC hr hk8 _ _ _ _ _ _ _ _ _ _ (by show _ ≤ (429 : Nat); omega) (by show _ ≤ (2574 : Nat); omega) h hZ (lv_sub hl [1, 2, 3, 4, 5, 6, 0] rfl)
          · have h := h.2 c77
            refine lv_iload hC.1 hC.2.1 dL_isSo_42 (lv_at hl 6 rfl) ?_
            refine lv_aload_n hC.1 hC.2.1 dL_isSo_44 rfl (lv_at hl 2 rfl) ?_
            refine lv_iconst (v := 2) hC.1 hC.2.1 dL_isSo_45 (by decide) ?_
            refine aL_22 hC hZ (by unfold vp_in; decide) dL_isSo_46 ?_
            refine lv_icmp_lt (tgt := 70) hC.1 hC.2.1 dL_isSo_47 (by decide) (fun c83 => ?_) (fun c83 => ?_)
            · have h := h.1 c83
              refine lv_iconst (v := 0) hC.1 hC.2.1 dL_isSo_70 (by decide) ?_
              exact z_bret hC hr hZ (by decide) h dL_isSo_71 (by show _ ≤ (429 : Nat); omega) (by show _ ≤ (2574 : Nat); omega)
            · have h := h.2 c83
              refine lv_aload_n hC.1 hC.2.1 dL_isSo_50 rfl (lv_at hl 1 rfl) ?_
              refine lv_iload hC.1 hC.2.1 dL_isSo_51 (lv_at hl 0 rfl) ?_
              refine z_cWi (As := [.ref (ad 30 0), .int r74]) hC hZ zy_L_stateOf (c_L_stateOf l hst h) km_L_90 rfl ⟨rfl, rfl⟩ ⟨Nat.le_of_ble_eq_true rfl, Nat.le_of_ble_eq_true rfl⟩ hl.1 rfl (Nat.le_of_ble_eq_true rfl) dL_isSo_53 ⟨by show _ ≤ (429 : Nat); omega, by show _ ≤ (2574 : Nat); omega⟩ (fun r85 μ84 H locs h hZ => ?_)
              refine lv_if_ne (tgt := 70) hC.1 hC.2.1 dL_isSo_56 (by decide) (fun c86 => ?_) (fun c86 => ?_)
              · have h := h.1 c86
                refine lv_iconst (v := 0) hC.1 hC.2.1 dL_isSo_70 (by decide) ?_
                exact z_bret hC hr hZ (by decide) h dL_isSo_71 (by show _ ≤ (429 : Nat); omega) (by show _ ≤ (2574 : Nat); omega)
              · have h := h.2 c86
                refine lv_aload_n hC.1 hC.2.1 dL_isSo_59 rfl (lv_at hl 1 rfl) ?_
                refine lv_iload hC.1 hC.2.1 dL_isSo_60 (lv_at hl 0 rfl) ?_
                refine z_cWi (As := [.ref (ad 30 0), .int r74]) hC hZ zy_L_dayOf (c_L_dayOf l hst h) km_L_92 rfl ⟨rfl, rfl⟩ ⟨Nat.le_of_ble_eq_true rfl, Nat.le_of_ble_eq_true rfl⟩ hl.1 rfl (Nat.le_of_ble_eq_true rfl) dL_isSo_62 ⟨by show _ ≤ (429 : Nat); omega, by show _ ≤ (2574 : Nat); omega⟩ (fun r88 μ87 H locs h hZ => ?_)
                refine lv_iload hC.1 hC.2.1 dL_isSo_65 (lv_at hl 6 rfl) ?_
                refine lv_icmp_eq (tgt := 72) hC.1 hC.2.1 dL_isSo_67 (by decide) (fun c89 => ?_) (fun c89 => ?_)
                · have h := h.1 c89
                  exact t_L_isSo_72 (l := l) hst hC hr hk8 _ _ _ _ _ _ _ _ _ _ (by show _ ≤ (429 : Nat); omega) (by show _ ≤ (2574 : Nat); omega) h hZ (lv_sub hl [1, 2, 3, 4, 5, 6, 0] rfl)
                · have h := h.2 c89
                  refine lv_iconst (v := 0) hC.1 hC.2.1 dL_isSo_70 (by decide) ?_
                  exact z_bret hC hr hZ (by decide) h dL_isSo_71 (by show _ ≤ (429 : Nat); omega) (by show _ ≤ (2574 : Nat); omega)
def w_L_isSo (n np : Nat) (post : Int32 → Mem → Prop) (μ : Mem) : Prop := (∃ fuel : Nat, fuel ≤ 31 ∧ l_L_isSo_8 n np post fuel (0 : Int32) (0 : Int32) (0 : Int32) μ)
set_option maxRecDepth 100000 in
set_option maxHeartbeats 4000000 in
theorem c_L_isSo (l : Launch) (hst : l.stackTraces = false) {D : va_G} {ca : Nat → ClassId} {base : Nat} {ad : Nat → Nat → Nat} {n np : Nat} {μ : Mem} {post : Int32 → Mem → Prop} (h : w_L_isSo n np post μ) : ZMet l yL_isSo cL_isSo 9 (some FieldType.boolean) ({ frames := 9, cells := 429, slots := 2574, locals := 155 } : Room) 429 2574 D ca base ad n np [.ref (ad 30 0), .ref (ad 22 0), .ref (ad 23 0)] μ (zpi post) := by
  unfold ZMet
  refine Met.ofW (cc := cL_isSo) (maxL := 9) (ret := (some FieldType.boolean)) (by decide) rfl ?_
  intro p e s m args below meth c s₁ B hml hv
  obtain ⟨rfl, hU⟩ := hv
  have hZ := hU.toS
  have hC : ZC p m meth c s RL cL_isSo 9 := ⟨B.exec, B.bytes, hml, findClass_of_methodNamed B.named, B.notSynchronized⟩
  have hr := B.returns
  have key : W p l e ({ frames := 9, cells := 429, slots := 2574, locals := 155 } : Room) s m (([.ref (ad 30 0), .ref (ad 22 0), .ref (ad 23 0)] : List Value).toArray) below meth c s.heap [] 0 0 (MQ below (ZQ D ca base ad n np (zpi post)) (([.ref (ad 30 0), .ref (ad 22 0), .ref (ad 23 0)] : List Value).toArray) s 429 2574 (zB base)) (entryFrame m (([.ref (ad 30 0), .ref (ad 22 0), .ref (ad 23 0)] : List Value).toArray) 9) := by
    have hl := lv_entry ([.ref (ad 30 0), .ref (ad 22 0), .ref (ad 23 0)]) (n := 9) (Nat.le_of_ble_eq_true rfl)
    rw [lg_entry_eq]
    generalize (lg_sl ([.ref (ad 30 0), .ref (ad 22 0), .ref (ad 23 0)]) ++ List.replicate (9 - (lg_sl ([.ref (ad 30 0), .ref (ad 22 0), .ref (ad 23 0)])).length) Slot.unset).toArray = ls at hl ⊢
    have hl : lv_has ls 9 [(0, .ref (ad 30 0)), (1, .ref (ad 22 0)), (2, .ref (ad 23 0))] := hl
    unfold w_L_isSo at h
    refine lv_iconst (v := 0) hC.1 hC.2.1 dL_isSo_0 (by decide) ?_
    refine lv_istore_n (lv' := [(3, .int 0), (0, .ref (ad 30 0)), (1, .ref (ad 22 0)), (2, .ref (ad 23 0))]) hC.1 hC.2.1 dL_isSo_1 rfl hl (by decide) rfl (fun ls hl => ?_)
    refine lv_iconst (v := 0) hC.1 hC.2.1 dL_isSo_2 (by decide) ?_
    refine lv_istore (lv' := [(4, .int 0), (3, .int 0), (0, .ref (ad 30 0)), (1, .ref (ad 22 0)), (2, .ref (ad 23 0))]) hC.1 hC.2.1 dL_isSo_3 hl (by decide) rfl (fun ls hl => ?_)
    refine lv_iconst (v := 0) hC.1 hC.2.1 dL_isSo_5 (by decide) ?_
    refine lv_istore (lv' := [(5, .int 0), (4, .int 0), (3, .int 0), (0, .ref (ad 30 0)), (1, .ref (ad 22 0)), (2, .ref (ad 23 0))]) hC.1 hC.2.1 dL_isSo_6 hl (by decide) rfl (fun ls hl => ?_)
    obtain ⟨fuel, hfu, h⟩ := h
    exact t_L_isSo_8 (l := l) hst hC hr _ _ _ _ _ _ _ _ _ _ (by show _ ≤ (429 : Nat); omega) (by show _ ≤ (2574 : Nat); omega) h hZ (lv_sub hl [3, 4, 5, 2, 1, 0] rfl)
  exact key
