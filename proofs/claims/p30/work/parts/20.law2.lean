def b_L_scenes_181 (n np : Nat) (post : Int32 → Nat → Nat → Mem → Prop) (a4 : Int32) (a5 : Int32) (s0 : Int32) (μ : Mem) : Prop := ((¬ s0 = (-1000002) → post 0 n np μ) ∧ (s0 = (-1000002) → post 1 n np μ))
set_option maxRecDepth 100000 in
set_option maxHeartbeats 4000000 in
theorem t_L_scenes_181 {p : Program} {l : Launch} {e : Env} {s : State} {m : MethodId} {args : Array Value} {below : List Frame} {meth : Method} {c : Code} {D : va_G} {ca : Nat → ClassId} {base : Nat} {ad : Nat → Nat → Nat} {n np : Nat} {ad0 : Nat → Nat → Nat} {post : Int32 → Nat → Nat → Mem → Prop} (hst : l.stackTraces = false) (hC : ZC p m meth c s RL cL_scenes 13) (hr : meth.sig.returnType = (some FieldType.boolean)) (hag : zagr ad0 ad) (a4 : Int32) (a5 : Int32) (s0 : Int32) (cx dx : Nat) (μ : Mem) (H : Heap) (locs : List Loc) (ls : Array Slot) (hBc : cx + (0) ≤ 45) (hBs : dx + (0) ≤ 267) (h : b_L_scenes_181 n np post a4 a5 s0 μ) (hZ : ZS D ca base ad n np μ s H locs) (hl : lv_has ls 13 []) : W p l e ({ frames := 10, cells := 45, slots := 267, locals := 169 } : Room) s m args below meth c H locs cx dx (MQ below (ZQN D ca base ad0 post) args s 45 267 (zB base)) (F0 m 181 ls [.int s0]) := by
  unfold b_L_scenes_181 at h
  refine lv_ldc (v := (-1000002)) hC.1 hC.2.1 hC.2.2.2.1 (hZ.1.2.1.use _ kk_L_18 rfl) dL_scenes_181 ?_
  refine lv_icmp_ne (tgt := 190) hC.1 hC.2.1 dL_scenes_183 (by decide) (fun c21 => ?_) (fun c21 => ?_)
  · have h := h.1 c21
    refine lv_iconst (v := 0) hC.1 hC.2.1 dL_scenes_190 (by decide) ?_
    exact z_nretb hC hr hZ hag (by decide) h dL_scenes_191 (by show _ ≤ (45 : Nat); omega) (by show _ ≤ (267 : Nat); omega)
  · have h := h.2 c21
    refine lv_iconst (v := 1) hC.1 hC.2.1 dL_scenes_186 (by decide) ?_
    refine lv_goto (tgt := 191) hC.1 hC.2.1 dL_scenes_187 (by decide) ?_
    exact z_nretb hC hr hZ hag (by decide) h dL_scenes_191 (by show _ ≤ (45 : Nat); omega) (by show _ ≤ (267 : Nat); omega)
def b_L_scenes_169 (n np : Nat) (post : Int32 → Nat → Nat → Mem → Prop) (a4 : Int32) (a5 : Int32) (s0 : Int32) (μ : Mem) : Prop := ((¬ s0 = (-1000002) → post 0 n np μ) ∧ (s0 = (-1000002) → (w_L_scene n np (fun (r20 : Int32) (n np : Nat) (μ19 : Mem) => b_L_scenes_181 n np post a4 a5 r20 μ19) (0 : Int32) (10 : Int32) μ)))
set_option maxRecDepth 100000 in
set_option maxHeartbeats 4000000 in
theorem t_L_scenes_169 {p : Program} {l : Launch} {e : Env} {s : State} {m : MethodId} {args : Array Value} {below : List Frame} {meth : Method} {c : Code} {D : va_G} {ca : Nat → ClassId} {base : Nat} {ad : Nat → Nat → Nat} {n np : Nat} {ad0 : Nat → Nat → Nat} {post : Int32 → Nat → Nat → Mem → Prop} (hst : l.stackTraces = false) (hC : ZC p m meth c s RL cL_scenes 13) (hr : meth.sig.returnType = (some FieldType.boolean)) (hag : zagr ad0 ad) (a4 : Int32) (a5 : Int32) (s0 : Int32) (cx dx : Nat) (μ : Mem) (H : Heap) (locs : List Loc) (ls : Array Slot) (hBc : cx + (4) ≤ 45) (hBs : dx + (23) ≤ 267) (h : b_L_scenes_169 n np post a4 a5 s0 μ) (hZ : ZS D ca base ad n np μ s H locs) (hl : lv_has ls 13 [(0, .ref (ad 30 0))]) : W p l e ({ frames := 10, cells := 45, slots := 267, locals := 169 } : Room) s m args below meth c H locs cx dx (MQ below (ZQN D ca base ad0 post) args s 45 267 (zB base)) (F0 m 169 ls [.int s0]) := by
  unfold b_L_scenes_169 at h
  refine lv_ldc (v := (-1000002)) hC.1 hC.2.1 hC.2.2.2.1 (hZ.1.2.1.use _ kk_L_18 rfl) dL_scenes_169 ?_
  refine lv_icmp_ne (tgt := 190) hC.1 hC.2.1 dL_scenes_171 (by decide) (fun c18 => ?_) (fun c18 => ?_)
  · have h := h.1 c18
    refine lv_iconst (v := 0) hC.1 hC.2.1 dL_scenes_190 (by decide) ?_
    exact z_nretb hC hr hZ hag (by decide) h dL_scenes_191 (by show _ ≤ (45 : Nat); omega) (by show _ ≤ (267 : Nat); omega)
  · have h := h.2 c18
    refine lv_aload_n hC.1 hC.2.1 dL_scenes_174 rfl (lv_at hl 0 rfl) ?_
    refine lv_iconst (v := 0) hC.1 hC.2.1 dL_scenes_175 (by decide) ?_
    refine lv_bipush (v := 10) hC.1 hC.2.1 dL_scenes_176 (by decide) ?_
    refine z_callW (As := [.ref (ad 30 0), .int 0, .int 10]) hC hZ zy_L_scene (c_L_scene l hst h) km_L_121 rfl ⟨rfl, rfl⟩ ⟨Nat.le_of_ble_eq_true rfl, Nat.le_of_ble_eq_true rfl⟩ hl.1 rfl (Nat.le_of_ble_eq_true rfl) dL_scenes_178 ⟨by show _ ≤ (45 : Nat); omega, by show _ ≤ (267 : Nat); omega⟩ (fun r20 n2 np2 ad2 μ19 H locs h hag2 hZ => ?_)
    have hl : lv_has ls 13 [(0, .ref (ad2 30 0))] := by
      have q := hl
      rw [← hag2 30 0 (by decide)] at q
      exact q
    exact t_L_scenes_181 (l := l) hst hC hr (zagr_tr hag hag2) _ _ _ _ _ _ _ _ _ (by show _ ≤ (45 : Nat); omega) (by show _ ≤ (267 : Nat); omega) h hZ (lv_sub hl [] rfl)
def b_L_scenes_163 (n np : Nat) (post : Int32 → Nat → Nat → Mem → Prop) (a4 : Int32) (a5 : Int32) (μ : Mem) : Prop := (w_L_scene n np (fun (r17 : Int32) (n np : Nat) (μ16 : Mem) => b_L_scenes_169 n np post a4 a5 r17 μ16) (4 : Int32) (0 : Int32) μ)
set_option maxRecDepth 100000 in
set_option maxHeartbeats 4000000 in
theorem t_L_scenes_163 {p : Program} {l : Launch} {e : Env} {s : State} {m : MethodId} {args : Array Value} {below : List Frame} {meth : Method} {c : Code} {D : va_G} {ca : Nat → ClassId} {base : Nat} {ad : Nat → Nat → Nat} {n np : Nat} {ad0 : Nat → Nat → Nat} {post : Int32 → Nat → Nat → Mem → Prop} (hst : l.stackTraces = false) (hC : ZC p m meth c s RL cL_scenes 13) (hr : meth.sig.returnType = (some FieldType.boolean)) (hag : zagr ad0 ad) (a4 : Int32) (a5 : Int32) (cx dx : Nat) (μ : Mem) (H : Heap) (locs : List Loc) (ls : Array Slot) (hBc : cx + (8) ≤ 45) (hBs : dx + (46) ≤ 267) (h : b_L_scenes_163 n np post a4 a5 μ) (hZ : ZS D ca base ad n np μ s H locs) (hl : lv_has ls 13 [(0, .ref (ad 30 0))]) : W p l e ({ frames := 10, cells := 45, slots := 267, locals := 169 } : Room) s m args below meth c H locs cx dx (MQ below (ZQN D ca base ad0 post) args s 45 267 (zB base)) (F0 m 163 ls []) := by
  unfold b_L_scenes_163 at h
  refine lv_aload_n hC.1 hC.2.1 dL_scenes_163 rfl (lv_at hl 0 rfl) ?_
  refine lv_iconst (v := 4) hC.1 hC.2.1 dL_scenes_164 (by decide) ?_
  refine lv_iconst (v := 0) hC.1 hC.2.1 dL_scenes_165 (by decide) ?_
  refine z_callW (As := [.ref (ad 30 0), .int 4, .int 0]) hC hZ zy_L_scene (c_L_scene l hst h) km_L_121 rfl ⟨rfl, rfl⟩ ⟨Nat.le_of_ble_eq_true rfl, Nat.le_of_ble_eq_true rfl⟩ hl.1 rfl (Nat.le_of_ble_eq_true rfl) dL_scenes_166 ⟨by show _ ≤ (45 : Nat); omega, by show _ ≤ (267 : Nat); omega⟩ (fun r17 n2 np2 ad2 μ16 H locs h hag2 hZ => ?_)
  have hl : lv_has ls 13 [(0, .ref (ad2 30 0))] := by
    have q := hl
    rw [← hag2 30 0 (by decide)] at q
    exact q
  exact t_L_scenes_169 (l := l) hst hC hr (zagr_tr hag hag2) _ _ _ _ _ _ _ _ _ (by show _ ≤ (45 : Nat); omega) (by show _ ≤ (267 : Nat); omega) h hZ (lv_sub hl [0] rfl)
def b_L_scenes_131 (n np : Nat) (post : Int32 → Nat → Nat → Mem → Prop) (a4 : Int32) (a5 : Int32) (v5 : Int32) (v6 : Int32) (s0 : Int32) (μ : Mem) : Prop := ((¬ s0 = v6 → post 0 n np μ) ∧ (s0 = v6 → ((v6 < 0 → b_L_scenes_163 n np post a4 a5 μ) ∧ (¬ v6 < 0 → (w_L_dayOf n np (fun (r23 : Int32) (μ22 : Mem) => ((¬ r23 = (v5 + 1) → post 0 n np μ22) ∧ (r23 = (v5 + 1) → (w_L_stateOf n np (fun (r26 : Int32) (μ25 : Mem) => ((¬ r26 = 0 → post 0 n np μ25) ∧ (r26 = 0 → b_L_scenes_163 n np post a4 a5 μ25))) v6 μ22)))) v6 μ)))))
set_option maxRecDepth 100000 in
set_option maxHeartbeats 4000000 in
theorem t_L_scenes_131 {p : Program} {l : Launch} {e : Env} {s : State} {m : MethodId} {args : Array Value} {below : List Frame} {meth : Method} {c : Code} {D : va_G} {ca : Nat → ClassId} {base : Nat} {ad : Nat → Nat → Nat} {n np : Nat} {ad0 : Nat → Nat → Nat} {post : Int32 → Nat → Nat → Mem → Prop} (hst : l.stackTraces = false) (hC : ZC p m meth c s RL cL_scenes 13) (hr : meth.sig.returnType = (some FieldType.boolean)) (hag : zagr ad0 ad) (a4 : Int32) (a5 : Int32) (v5 : Int32) (v6 : Int32) (s0 : Int32) (cx dx : Nat) (μ : Mem) (H : Heap) (locs : List Loc) (ls : Array Slot) (hBc : cx + (10) ≤ 45) (hBs : dx + (58) ≤ 267) (h : b_L_scenes_131 n np post a4 a5 v5 v6 s0 μ) (hZ : ZS D ca base ad n np μ s H locs) (hl : lv_has ls 13 [(0, .ref (ad 30 0)), (5, .int v5), (6, .int v6)]) : W p l e ({ frames := 10, cells := 45, slots := 267, locals := 169 } : Room) s m args below meth c H locs cx dx (MQ below (ZQN D ca base ad0 post) args s 45 267 (zB base)) (F0 m 131 ls [.int s0]) := by
  unfold b_L_scenes_131 at h
  refine lv_iload hC.1 hC.2.1 dL_scenes_131 (lv_at hl 2 rfl) ?_
  refine lv_icmp_ne (tgt := 190) hC.1 hC.2.1 dL_scenes_133 (by decide) (fun c14 => ?_) (fun c14 => ?_)
  · have h := h.1 c14
    refine lv_iconst (v := 0) hC.1 hC.2.1 dL_scenes_190 (by decide) ?_
    exact z_nretb hC hr hZ hag (by decide) h dL_scenes_191 (by show _ ≤ (45 : Nat); omega) (by show _ ≤ (267 : Nat); omega)
  · have h := h.2 c14
    refine lv_iload hC.1 hC.2.1 dL_scenes_136 (lv_at hl 2 rfl) ?_
    refine lv_if_lt (tgt := 163) hC.1 hC.2.1 dL_scenes_138 (by decide) (fun c15 => ?_) (fun c15 => ?_)
    · have h := h.1 c15
      exact t_L_scenes_163 (l := l) hst hC hr hag _ _  _ _ _ _ _ _ (by show _ ≤ (45 : Nat); omega) (by show _ ≤ (267 : Nat); omega) h hZ (lv_sub hl [0] rfl)
    · have h := h.2 c15
      refine lv_aload_n hC.1 hC.2.1 dL_scenes_141 rfl (lv_at hl 0 rfl) ?_
      refine lv_iload hC.1 hC.2.1 dL_scenes_142 (lv_at hl 2 rfl) ?_
      refine z_cWi (As := [.ref (ad 30 0), .int v6]) hC hZ zy_L_dayOf (c_L_dayOf l hst h) km_L_92 rfl ⟨rfl, rfl⟩ ⟨Nat.le_of_ble_eq_true rfl, Nat.le_of_ble_eq_true rfl⟩ hl.1 rfl (Nat.le_of_ble_eq_true rfl) dL_scenes_144 ⟨by show _ ≤ (45 : Nat); omega, by show _ ≤ (267 : Nat); omega⟩ (fun r23 μ22 H locs h hZ => ?_)
      refine lv_iload hC.1 hC.2.1 dL_scenes_147 (lv_at hl 1 rfl) ?_
      refine lv_iconst (v := 1) hC.1 hC.2.1 dL_scenes_149 (by decide) ?_
      refine lv_iadd hC.1 hC.2.1 dL_scenes_150 ?_
      refine lv_icmp_ne (tgt := 190) hC.1 hC.2.1 dL_scenes_151 (by decide) (fun c24 => ?_) (fun c24 => ?_)
      · have h := h.1 c24
        refine lv_iconst (v := 0) hC.1 hC.2.1 dL_scenes_190 (by decide) ?_
        exact z_nretb hC hr hZ hag (by decide) h dL_scenes_191 (by show _ ≤ (45 : Nat); omega) (by show _ ≤ (267 : Nat); omega)
      · have h := h.2 c24
        refine lv_aload_n hC.1 hC.2.1 dL_scenes_154 rfl (lv_at hl 0 rfl) ?_
        refine lv_iload hC.1 hC.2.1 dL_scenes_155 (lv_at hl 2 rfl) ?_
        refine z_cWi (As := [.ref (ad 30 0), .int v6]) hC hZ zy_L_stateOf (c_L_stateOf l hst h) km_L_90 rfl ⟨rfl, rfl⟩ ⟨Nat.le_of_ble_eq_true rfl, Nat.le_of_ble_eq_true rfl⟩ hl.1 rfl (Nat.le_of_ble_eq_true rfl) dL_scenes_157 ⟨by show _ ≤ (45 : Nat); omega, by show _ ≤ (267 : Nat); omega⟩ (fun r26 μ25 H locs h hZ => ?_)
        refine lv_if_ne (tgt := 190) hC.1 hC.2.1 dL_scenes_160 (by decide) (fun c27 => ?_) (fun c27 => ?_)
        · have h := h.1 c27
          refine lv_iconst (v := 0) hC.1 hC.2.1 dL_scenes_190 (by decide) ?_
          exact z_nretb hC hr hZ hag (by decide) h dL_scenes_191 (by show _ ≤ (45 : Nat); omega) (by show _ ≤ (267 : Nat); omega)
        · have h := h.2 c27
          exact t_L_scenes_163 (l := l) hst hC hr hag _ _  _ _ _ _ _ _ (by show _ ≤ (45 : Nat); omega) (by show _ ≤ (267 : Nat); omega) h hZ (lv_sub hl [0] rfl)
def b_L_scenes_128 (n np : Nat) (post : Int32 → Nat → Nat → Mem → Prop) (a4 : Int32) (a5 : Int32) (v5 : Int32) (v6 : Int32) (s1 : Int32) (s2 : Int32) (μ : Mem) : Prop := (w_L_scene n np (fun (r13 : Int32) (n np : Nat) (μ12 : Mem) => b_L_scenes_131 n np post a4 a5 v5 v6 r13 μ12) s1 s2 μ)
set_option maxRecDepth 100000 in
set_option maxHeartbeats 4000000 in
theorem t_L_scenes_128 {p : Program} {l : Launch} {e : Env} {s : State} {m : MethodId} {args : Array Value} {below : List Frame} {meth : Method} {c : Code} {D : va_G} {ca : Nat → ClassId} {base : Nat} {ad : Nat → Nat → Nat} {n np : Nat} {ad0 : Nat → Nat → Nat} {post : Int32 → Nat → Nat → Mem → Prop} (hst : l.stackTraces = false) (hC : ZC p m meth c s RL cL_scenes 13) (hr : meth.sig.returnType = (some FieldType.boolean)) (hag : zagr ad0 ad) (a4 : Int32) (a5 : Int32) (v5 : Int32) (v6 : Int32) (s1 : Int32) (s2 : Int32) (cx dx : Nat) (μ : Mem) (H : Heap) (locs : List Loc) (ls : Array Slot) (hBc : cx + (14) ≤ 45) (hBs : dx + (81) ≤ 267) (h : b_L_scenes_128 n np post a4 a5 v5 v6 s1 s2 μ) (hZ : ZS D ca base ad n np μ s H locs) (hl : lv_has ls 13 [(0, .ref (ad 30 0)), (5, .int v5), (6, .int v6)]) : W p l e ({ frames := 10, cells := 45, slots := 267, locals := 169 } : Room) s m args below meth c H locs cx dx (MQ below (ZQN D ca base ad0 post) args s 45 267 (zB base)) (F0 m 128 ls [.int s2, .int s1, .ref (ad 30 0)]) := by
  unfold b_L_scenes_128 at h
  refine z_callW (As := [.ref (ad 30 0), .int s1, .int s2]) hC hZ zy_L_scene (c_L_scene l hst h) km_L_121 rfl ⟨rfl, rfl⟩ ⟨Nat.le_of_ble_eq_true rfl, Nat.le_of_ble_eq_true rfl⟩ hl.1 rfl (Nat.le_of_ble_eq_true rfl) dL_scenes_128 ⟨by show _ ≤ (45 : Nat); omega, by show _ ≤ (267 : Nat); omega⟩ (fun r13 n2 np2 ad2 μ12 H locs h hag2 hZ => ?_)
  have hl : lv_has ls 13 [(0, .ref (ad2 30 0)), (5, .int v5), (6, .int v6)] := by
    have q := hl
    rw [← hag2 30 0 (by decide)] at q
    exact q
  exact t_L_scenes_131 (l := l) hst hC hr (zagr_tr hag hag2) _ _ _ _ _ _ _ _ _ _ _ (by show _ ≤ (45 : Nat); omega) (by show _ ≤ (267 : Nat); omega) h hZ (lv_sub hl [0, 1, 2] rfl)
def b_L_scenes_95 (n np : Nat) (post : Int32 → Nat → Nat → Mem → Prop) (a4 : Int32) (a5 : Int32) (v5 : Int32) (v6 : Int32) (s1 : Int32) (s2 : Int32) (s3 : Int32) (μ : Mem) : Prop := (vp_in s1 5 ∧ ∀ μ6 : Mem, μ6 = zst μ 22 0 s1.toNatClampNeg (s2 + s3) → (w_L_low n np (fun (r8 : Int32) (μ7 : Mem) => (w_L_low n np (fun (r10 : Int32) (μ9 : Mem) => ((¬ r10 = 0 → b_L_scenes_128 n np post a4 a5 v5 v6 r8 (0 : Int32) μ9) ∧ (r10 = 0 → (w_L_low n np (fun (r29 : Int32) (μ28 : Mem) => b_L_scenes_128 n np post a4 a5 v5 v6 r8 r29 μ28) (a5 >>> (4 &&& 31)) (10 : Int32) μ9)))) (a5 >>> (2 &&& 31)) (3 : Int32) μ7)) a5 (4 : Int32) μ6))
set_option maxRecDepth 100000 in
set_option maxHeartbeats 4000000 in
theorem t_L_scenes_95 {p : Program} {l : Launch} {e : Env} {s : State} {m : MethodId} {args : Array Value} {below : List Frame} {meth : Method} {c : Code} {D : va_G} {ca : Nat → ClassId} {base : Nat} {ad : Nat → Nat → Nat} {n np : Nat} {ad0 : Nat → Nat → Nat} {post : Int32 → Nat → Nat → Mem → Prop} (hst : l.stackTraces = false) (hC : ZC p m meth c s RL cL_scenes 13) (hr : meth.sig.returnType = (some FieldType.boolean)) (hag : zagr ad0 ad) (a4 : Int32) (a5 : Int32) (v5 : Int32) (v6 : Int32) (s1 : Int32) (s2 : Int32) (s3 : Int32) (cx dx : Nat) (μ : Mem) (H : Heap) (locs : List Loc) (ls : Array Slot) (hBc : cx + (14) ≤ 45) (hBs : dx + (81) ≤ 267) (h : b_L_scenes_95 n np post a4 a5 v5 v6 s1 s2 s3 μ) (hZ : ZS D ca base ad n np μ s H locs) (hl : lv_has ls 13 [(0, .ref (ad 30 0)), (4, .int a5), (5, .int v5), (6, .int v6)]) : W p l e ({ frames := 10, cells := 45, slots := 267, locals := 169 } : Room) s m args below meth c H locs cx dx (MQ below (ZQN D ca base ad0 post) args s 45 267 (zB base)) (F0 m 95 ls [.int s3, .int s2, .int s1, .ref (ad 22 0)]) := by
  unfold b_L_scenes_95 at h
  refine lv_iadd hC.1 hC.2.1 dL_scenes_95 ?_
  obtain ⟨q5, h⟩ := h
  refine aS_22 hC hZ q5 dL_scenes_96 (fun μ6 H locs eμ6 hZ => ?_)
  have h := h μ6 eμ6
  refine lv_aload_n hC.1 hC.2.1 dL_scenes_97 rfl (lv_at hl 0 rfl) ?_
  refine lv_iload hC.1 hC.2.1 dL_scenes_98 (lv_at hl 1 rfl) ?_
  refine lv_iconst (v := 4) hC.1 hC.2.1 dL_scenes_100 (by decide) ?_
  refine z_cSi (As := [.int a5, .int 4]) hC hZ zy_L_low (c_L_low l h) km_L_118 rfl ⟨rfl, rfl⟩ ⟨Nat.le_of_ble_eq_true rfl, Nat.le_of_ble_eq_true rfl⟩ hl.1 rfl (Nat.le_of_ble_eq_true rfl) dL_scenes_101 ⟨by show _ ≤ (45 : Nat); omega, by show _ ≤ (267 : Nat); omega⟩ (fun r8 μ7 H locs h hZ => ?_)
  refine lv_iload hC.1 hC.2.1 dL_scenes_104 (lv_at hl 1 rfl) ?_
  refine lv_iconst (v := 2) hC.1 hC.2.1 dL_scenes_106 (by decide) ?_
  refine lv_ishr hC.1 hC.2.1 dL_scenes_107 ?_
  refine lv_iconst (v := 3) hC.1 hC.2.1 dL_scenes_108 (by decide) ?_
  refine z_cSi (As := [.int (a5 >>> (2 &&& 31)), .int 3]) hC hZ zy_L_low (c_L_low l h) km_L_118 rfl ⟨rfl, rfl⟩ ⟨Nat.le_of_ble_eq_true rfl, Nat.le_of_ble_eq_true rfl⟩ hl.1 rfl (Nat.le_of_ble_eq_true rfl) dL_scenes_109 ⟨by show _ ≤ (45 : Nat); omega, by show _ ≤ (267 : Nat); omega⟩ (fun r10 μ9 H locs h hZ => ?_)
  refine lv_if_ne (tgt := 127) hC.1 hC.2.1 dL_scenes_112 (by decide) (fun c11 => ?_) (fun c11 => ?_)
  · have h := h.1 c11
    refine lv_iconst (v := 0) hC.1 hC.2.1 dL_scenes_127 (by decide) ?_
    exact t_L_scenes_128 (l := l) hst hC hr hag _ _ _ _ _ _ _ _ _ _ _ _ (by show _ ≤ (45 : Nat); omega) (by show _ ≤ (267 : Nat); omega) h hZ (lv_sub hl [0, 2, 3] rfl)
  · have h := h.2 c11
    refine lv_iload hC.1 hC.2.1 dL_scenes_115 (lv_at hl 1 rfl) ?_
    refine lv_iconst (v := 4) hC.1 hC.2.1 dL_scenes_117 (by decide) ?_
    refine lv_ishr hC.1 hC.2.1 dL_scenes_118 ?_
    refine lv_bipush (v := 10) hC.1 hC.2.1 dL_scenes_119 (by decide) ?_
    refine z_cSi (As := [.int (a5 >>> (4 &&& 31)), .int 10]) hC hZ zy_L_low (c_L_low l h) km_L_118 rfl ⟨rfl, rfl⟩ ⟨Nat.le_of_ble_eq_true rfl, Nat.le_of_ble_eq_true rfl⟩ hl.1 rfl (Nat.le_of_ble_eq_true rfl) dL_scenes_121 ⟨by show _ ≤ (45 : Nat); omega, by show _ ≤ (267 : Nat); omega⟩ (fun r29 μ28 H locs h hZ => ?_)
    refine lv_goto (tgt := 128) hC.1 hC.2.1 dL_scenes_124 (by decide) ?_
    exact t_L_scenes_128 (l := l) hst hC hr hag _ _ _ _ _ _ _ _ _ _ _ _ (by show _ ≤ (45 : Nat); omega) (by show _ ≤ (267 : Nat); omega) h hZ (lv_sub hl [0, 2, 3] rfl)
def b_L_scenes_79 (n np : Nat) (post : Int32 → Nat → Nat → Mem → Prop) (a4 : Int32) (a5 : Int32) (v5 : Int32) (s0 : Int32) (μ : Mem) : Prop := ((0 ≤ s0 → b_L_scenes_95 n np post a4 a5 v5 s0 (0 : Int32) (μ 22 0 (0 : Int32).toNatClampNeg) (1 : Int32) μ) ∧ (¬ 0 ≤ s0 → b_L_scenes_95 n np post a4 a5 v5 s0 (0 : Int32) (μ 22 0 (0 : Int32).toNatClampNeg) (0 : Int32) μ))
set_option maxRecDepth 100000 in
set_option maxHeartbeats 4000000 in
theorem t_L_scenes_79 {p : Program} {l : Launch} {e : Env} {s : State} {m : MethodId} {args : Array Value} {below : List Frame} {meth : Method} {c : Code} {D : va_G} {ca : Nat → ClassId} {base : Nat} {ad : Nat → Nat → Nat} {n np : Nat} {ad0 : Nat → Nat → Nat} {post : Int32 → Nat → Nat → Mem → Prop} (hst : l.stackTraces = false) (hC : ZC p m meth c s RL cL_scenes 13) (hr : meth.sig.returnType = (some FieldType.boolean)) (hag : zagr ad0 ad) (a4 : Int32) (a5 : Int32) (v5 : Int32) (s0 : Int32) (cx dx : Nat) (μ : Mem) (H : Heap) (locs : List Loc) (ls : Array Slot) (hBc : cx + (14) ≤ 45) (hBs : dx + (81) ≤ 267) (h : b_L_scenes_79 n np post a4 a5 v5 s0 μ) (hZ : ZS D ca base ad n np μ s H locs) (hl : lv_has ls 13 [(0, .ref (ad 30 0)), (1, .ref (ad 22 0)), (4, .int a5), (5, .int v5)]) : W p l e ({ frames := 10, cells := 45, slots := 267, locals := 169 } : Room) s m args below meth c H locs cx dx (MQ below (ZQN D ca base ad0 post) args s 45 267 (zB base)) (F0 m 79 ls [.int s0]) := by
  unfold b_L_scenes_79 at h
  refine lv_istore (lv' := [(6, .int s0), (0, .ref (ad 30 0)), (1, .ref (ad 22 0)), (4, .int a5), (5, .int v5)]) hC.1 hC.2.1 dL_scenes_79 hl (by decide) rfl (fun ls hl => ?_)
  refine lv_aload_n hC.1 hC.2.1 dL_scenes_81 rfl (lv_at hl 2 rfl) ?_
  refine lv_iconst (v := 0) hC.1 hC.2.1 dL_scenes_82 (by decide) ?_
  refine lv_dup2_11 hC.1 hC.2.1 dL_scenes_83 rfl rfl ?_
  refine aL_22 hC hZ (by unfold vp_in; decide) dL_scenes_84 ?_
  refine lv_iload hC.1 hC.2.1 dL_scenes_85 (lv_at hl 0 rfl) ?_
  refine lv_if_ge (tgt := 94) hC.1 hC.2.1 dL_scenes_87 (by decide) (fun c4 => ?_) (fun c4 => ?_)
  · have h := h.1 c4
    refine lv_iconst (v := 1) hC.1 hC.2.1 dL_scenes_94 (by decide) ?_
    exact t_L_scenes_95 (l := l) hst hC hr hag _ _ _ _ _ _ _ _ _ _ _ _ _ (by show _ ≤ (45 : Nat); omega) (by show _ ≤ (267 : Nat); omega) h hZ (lv_sub hl [1, 3, 4, 0] rfl)
  · have h := h.2 c4
    refine lv_iconst (v := 0) hC.1 hC.2.1 dL_scenes_90 (by decide) ?_
    refine lv_goto (tgt := 95) hC.1 hC.2.1 dL_scenes_91 (by decide) ?_
    exact t_L_scenes_95 (l := l) hst hC hr hag _ _ _ _ _ _ _ _ _ _ _ _ _ (by show _ ≤ (45 : Nat); omega) (by show _ ≤ (267 : Nat); omega) h hZ (lv_sub hl [1, 3, 4, 0] rfl)
def b_L_scenes_71 (n np : Nat) (post : Int32 → Nat → Nat → Mem → Prop) (a4 : Int32) (a5 : Int32) (v5 : Int32) (μ : Mem) : Prop := b_L_scenes_79 n np post a4 a5 v5 (-1000003 : Int32) μ
set_option maxRecDepth 100000 in
set_option maxHeartbeats 4000000 in
theorem t_L_scenes_71 {p : Program} {l : Launch} {e : Env} {s : State} {m : MethodId} {args : Array Value} {below : List Frame} {meth : Method} {c : Code} {D : va_G} {ca : Nat → ClassId} {base : Nat} {ad : Nat → Nat → Nat} {n np : Nat} {ad0 : Nat → Nat → Nat} {post : Int32 → Nat → Nat → Mem → Prop} (hst : l.stackTraces = false) (hC : ZC p m meth c s RL cL_scenes 13) (hr : meth.sig.returnType = (some FieldType.boolean)) (hag : zagr ad0 ad) (a4 : Int32) (a5 : Int32) (v5 : Int32) (cx dx : Nat) (μ : Mem) (H : Heap) (locs : List Loc) (ls : Array Slot) (hBc : cx + (14) ≤ 45) (hBs : dx + (81) ≤ 267) (h : b_L_scenes_71 n np post a4 a5 v5 μ) (hZ : ZS D ca base ad n np μ s H locs) (hl : lv_has ls 13 [(0, .ref (ad 30 0)), (1, .ref (ad 22 0)), (4, .int a5), (5, .int v5)]) : W p l e ({ frames := 10, cells := 45, slots := 267, locals := 169 } : Room) s m args below meth c H locs cx dx (MQ below (ZQN D ca base ad0 post) args s 45 267 (zB base)) (F0 m 71 ls []) := by
  unfold b_L_scenes_71 at h
  refine lv_ldc (v := (-1000003)) hC.1 hC.2.1 hC.2.2.2.1 (hZ.1.2.1.use _ kk_L_21 rfl) dL_scenes_71 ?_
  refine lv_goto (tgt := 79) hC.1 hC.2.1 dL_scenes_73 (by decide) ?_
  exact t_L_scenes_79 (l := l) hst hC hr hag _ _ _ _ _ _ _ _ _ _ (by show _ ≤ (45 : Nat); omega) (by show _ ≤ (267 : Nat); omega) h hZ (lv_sub hl [0, 1, 2, 3] rfl)
def b_L_scenes_48 (n np : Nat) (post : Int32 → Nat → Nat → Mem → Prop) (k25 : Int32 → Int32 → Mem → Prop) (a4 : Int32) (a5 : Int32) (v6 : Int32) (s0 : Int32) (μ : Mem) : Prop := k25 s0 (v6 + 1) μ
set_option maxRecDepth 100000 in
set_option maxHeartbeats 4000000 in
theorem t_L_scenes_48 {p : Program} {l : Launch} {e : Env} {s : State} {m : MethodId} {args : Array Value} {below : List Frame} {meth : Method} {c : Code} {D : va_G} {ca : Nat → ClassId} {base : Nat} {ad : Nat → Nat → Nat} {n np : Nat} {ad0 : Nat → Nat → Nat} {post : Int32 → Nat → Nat → Mem → Prop} {k25 : Int32 → Int32 → Mem → Prop} {Kc25 Ks25 : Nat} (hst : l.stackTraces = false) (hC : ZC p m meth c s RL cL_scenes 13) (hr : meth.sig.returnType = (some FieldType.boolean)) (hag : zagr ad0 ad) (a4 : Int32) (a5 : Int32) (hk25 : ∀ (v5 : Int32) (v6 : Int32) (cx dx : Nat) (μ : Mem) (H : Heap) (locs : List Loc) (ls : Array Slot), cx + Kc25 ≤ 45 → dx + Ks25 ≤ 267 → k25 v5 v6 μ → ZS D ca base ad n np μ s H locs → lv_has ls 13 [(0, .ref (ad 30 0)), (1, .ref (ad 22 0)), (4, .int a5), (5, .int v5), (6, .int v6)] → W p l e ({ frames := 10, cells := 45, slots := 267, locals := 169 } : Room) s m args below meth c H locs cx dx (MQ below (ZQN D ca base ad0 post) args s 45 267 (zB base)) (F0 m 25 ls [])) (v6 : Int32) (s0 : Int32) (cx dx : Nat) (μ : Mem) (H : Heap) (locs : List Loc) (ls : Array Slot) (hBc : cx + (0 + Kc25) ≤ 45) (hBs : dx + (0 + Ks25) ≤ 267) (h : b_L_scenes_48 n np post k25 a4 a5 v6 s0 μ) (hZ : ZS D ca base ad n np μ s H locs) (hl : lv_has ls 13 [(0, .ref (ad 30 0)), (1, .ref (ad 22 0)), (4, .int a5), (6, .int v6)]) : W p l e ({ frames := 10, cells := 45, slots := 267, locals := 169 } : Room) s m args below meth c H locs cx dx (MQ below (ZQN D ca base ad0 post) args s 45 267 (zB base)) (F0 m 48 ls [.int s0]) := by
  unfold b_L_scenes_48 at h
  refine lv_istore (lv' := [(5, .int s0), (0, .ref (ad 30 0)), (1, .ref (ad 22 0)), (4, .int a5), (6, .int v6)]) hC.1 hC.2.1 dL_scenes_48 hl (by decide) rfl (fun ls hl => ?_)
  refine lv_iinc (v := v6 + 1) (lv' := [(6, .int (v6 + 1)), (5, .int s0), (0, .ref (ad 30 0)), (1, .ref (ad 22 0)), (4, .int a5)]) hC.1 hC.2.1 dL_scenes_50 hl (k := 4) rfl rfl (by decide) rfl (fun ls hl => ?_)
  refine lv_goto (tgt := 25) hC.1 hC.2.1 dL_scenes_53 (by decide) ?_
  exact hk25 _ _ _ _ _ _ _ _ (by show _ ≤ (45 : Nat); omega) (by show _ ≤ (267 : Nat); omega) h hZ (lv_sub hl [2, 3, 4, 1, 0] rfl)
def lb_L_scenes_25 (n np : Nat) (post : Int32 → Nat → Nat → Mem → Prop) (k25 : Int32 → Int32 → Mem → Prop) (a4 : Int32) (a5 : Int32) (v5 : Int32) (v6 : Int32) (μ : Mem) : Prop := ((30 ≤ v6 → (((μ 22 0 (0 : Int32).toNatClampNeg) = 10 → b_L_scenes_71 n np post a4 a5 v5 μ) ∧ (¬ (μ 22 0 (0 : Int32).toNatClampNeg) = 10 → ((¬ v5 = 29 → b_L_scenes_79 n np post a4 a5 v5 (μ 22 0 (0 : Int32).toNatClampNeg) μ) ∧ (v5 = 29 → b_L_scenes_71 n np post a4 a5 v5 μ))))) ∧ (¬ 30 ≤ v6 → (w_L_sceneOn n np (fun (r32 : Int32) (μ31 : Mem) => ((r32 < 0 → b_L_scenes_48 n np post k25 a4 a5 v6 v5 μ31) ∧ (¬ r32 < 0 → b_L_scenes_48 n np post k25 a4 a5 v6 v6 μ31))) v6 μ)))
def l_L_scenes_25 (n np : Nat) (post : Int32 → Nat → Nat → Mem → Prop) (a4 : Int32) (a5 : Int32) : Nat → Int32 → Int32 → Mem → Prop
  | 0 => fun _ _ _ => False
  | fuel + 1 => lb_L_scenes_25 n np post (l_L_scenes_25 n np post a4 a5 fuel) a4 a5 
set_option maxRecDepth 100000 in
set_option maxHeartbeats 4000000 in
theorem t_L_scenes_25 {p : Program} {l : Launch} {e : Env} {s : State} {m : MethodId} {args : Array Value} {below : List Frame} {meth : Method} {c : Code} {D : va_G} {ca : Nat → ClassId} {base : Nat} {ad : Nat → Nat → Nat} {n np : Nat} {ad0 : Nat → Nat → Nat} {post : Int32 → Nat → Nat → Mem → Prop} (hst : l.stackTraces = false) (hC : ZC p m meth c s RL cL_scenes 13) (hr : meth.sig.returnType = (some FieldType.boolean)) (hag : zagr ad0 ad) (a4 : Int32) (a5 : Int32) : ∀ (fuel : Nat) (v5 : Int32) (v6 : Int32) (cx dx : Nat) (μ : Mem) (H : Heap) (locs : List Loc) (ls : Array Slot), cx + (fuel * 1 + (14)) ≤ 45 → dx + (fuel * 6 + (81)) ≤ 267 → l_L_scenes_25 n np post a4 a5 fuel v5 v6 μ → ZS D ca base ad n np μ s H locs → lv_has ls 13 [(0, .ref (ad 30 0)), (1, .ref (ad 22 0)), (4, .int a5), (5, .int v5), (6, .int v6)] → W p l e ({ frames := 10, cells := 45, slots := 267, locals := 169 } : Room) s m args below meth c H locs cx dx (MQ below (ZQN D ca base ad0 post) args s 45 267 (zB base)) (F0 m 25 ls []) := by
  intro fuel
  induction fuel with
  | zero => exact fun _ _ _ _ _ _ _ _ _ _ h => h.elim
  | succ fuel hk25 =>
    intro v5 v6 cx dx μ H locs ls hBc hBs h hZ hl
    have h : lb_L_scenes_25 n np post (l_L_scenes_25 n np post a4 a5 fuel) a4 a5 v5 v6 μ := h
    unfold lb_L_scenes_25 at h
    refine lv_iload hC.1 hC.2.1 dL_scenes_25 (lv_at hl 4 rfl) ?_
    refine lv_bipush (v := 30) hC.1 hC.2.1 dL_scenes_27 (by decide) ?_
    refine lv_icmp_ge (tgt := 56) hC.1 hC.2.1 dL_scenes_29 (by decide) (fun c2 => ?_) (fun c2 => ?_)
    · have h := h.1 c2
      refine lv_aload_n hC.1 hC.2.1 dL_scenes_56 rfl (lv_at hl 1 rfl) ?_
      refine lv_iconst (v := 0) hC.1 hC.2.1 dL_scenes_57 (by decide) ?_
      refine aL_22 hC hZ (by unfold vp_in; decide) dL_scenes_58 ?_
      refine lv_bipush (v := 10) hC.1 hC.2.1 dL_scenes_59 (by decide) ?_
      refine lv_icmp_eq (tgt := 71) hC.1 hC.2.1 dL_scenes_61 (by decide) (fun c3 => ?_) (fun c3 => ?_)
      · have h := h.1 c3
        exact t_L_scenes_71 (l := l) hst hC hr hag _ _ _ _ _ _ _ _ _ (by show _ ≤ (45 : Nat); omega) (by show _ ≤ (267 : Nat); omega) h hZ (lv_sub hl [0, 1, 2, 3] rfl)
      · have h := h.2 c3
        refine lv_iload hC.1 hC.2.1 dL_scenes_64 (lv_at hl 3 rfl) ?_
        refine lv_bipush (v := 29) hC.1 hC.2.1 dL_scenes_66 (by decide) ?_
        refine lv_icmp_ne (tgt := 76) hC.1 hC.2.1 dL_scenes_68 (by decide) (fun c30 => ?_) (fun c30 => ?_)
        · have h := h.1 c30
          refine lv_aload_n hC.1 hC.2.1 dL_scenes_76 rfl (lv_at hl 1 rfl) ?_
          refine lv_iconst (v := 0) hC.1 hC.2.1 dL_scenes_77 (by decide) ?_
          refine aL_22 hC hZ (by unfold vp_in; decide) dL_scenes_78 ?_
          exact t_L_scenes_79 (l := l) hst hC hr hag _ _ _ _ _ _ _ _ _ _ (by show _ ≤ (45 : Nat); omega) (by show _ ≤ (267 : Nat); omega) h hZ (lv_sub hl [0, 1, 2, 3] rfl)
        · have h := h.2 c30
          exact t_L_scenes_71 (l := l) hst hC hr hag _ _ _ _ _ _ _ _ _ (by show _ ≤ (45 : Nat); omega) (by show _ ≤ (267 : Nat); omega) h hZ (lv_sub hl [0, 1, 2, 3] rfl)
    · have h := h.2 c2
      refine lv_aload_n hC.1 hC.2.1 dL_scenes_32 rfl (lv_at hl 0 rfl) ?_
      refine lv_iload hC.1 hC.2.1 dL_scenes_33 (lv_at hl 4 rfl) ?_
      refine z_cWi (As := [.ref (ad 30 0), .int v6]) hC hZ zy_L_sceneOn (c_L_sceneOn l hst h) km_L_85 rfl ⟨rfl, rfl⟩ ⟨Nat.le_of_ble_eq_true rfl, Nat.le_of_ble_eq_true rfl⟩ hl.1 rfl (Nat.le_of_ble_eq_true rfl) dL_scenes_35 ⟨by show _ ≤ (45 : Nat); omega, by show _ ≤ (267 : Nat); omega⟩ (fun r32 μ31 H locs h hZ => ?_)
      refine lv_if_lt (tgt := 46) hC.1 hC.2.1 dL_scenes_38 (by decide) (fun c33 => ?_) (fun c33 => ?_)
      · have h := h.1 c33
        refine lv_iload hC.1 hC.2.1 dL_scenes_46 (lv_at hl 3 rfl) ?_
        exact t_L_scenes_48 (l := l) hst hC hr hag _ _ hk25 _ _ _ _ _ _ _ _ (by show _ ≤ (45 : Nat); omega) (by show _ ≤ (267 : Nat); omega) h hZ (lv_sub hl [0, 1, 2, 4] rfl)
      · have h := h.2 c33
        refine lv_iload hC.1 hC.2.1 dL_scenes_41 (lv_at hl 4 rfl) ?_
        refine lv_goto (tgt := 48) hC.1 hC.2.1 dL_scenes_43 (by decide) ?_
        exact t_L_scenes_48 (l := l) hst hC hr hag _ _ hk25 _ _ _ _ _ _ _ _ (by show _ ≤ (45 : Nat); omega) (by show _ ≤ (267 : Nat); omega) h hZ (lv_sub hl [0, 1, 2, 4] rfl)
def b_L_scenes_15 (n np : Nat) (post : Int32 → Nat → Nat → Mem → Prop) (a4 : Int32) (a5 : Int32) (μ : Mem) : Prop := (∃ fuel : Nat, fuel ≤ 31 ∧ l_L_scenes_25 n np post a4 a5 fuel ((μ 22 0 (2 : Int32).toNatClampNeg) - 1) (0 : Int32) μ)
set_option maxRecDepth 100000 in
set_option maxHeartbeats 4000000 in
theorem t_L_scenes_15 {p : Program} {l : Launch} {e : Env} {s : State} {m : MethodId} {args : Array Value} {below : List Frame} {meth : Method} {c : Code} {D : va_G} {ca : Nat → ClassId} {base : Nat} {ad : Nat → Nat → Nat} {n np : Nat} {ad0 : Nat → Nat → Nat} {post : Int32 → Nat → Nat → Mem → Prop} (hst : l.stackTraces = false) (hC : ZC p m meth c s RL cL_scenes 13) (hr : meth.sig.returnType = (some FieldType.boolean)) (hag : zagr ad0 ad) (a4 : Int32) (a5 : Int32) (cx dx : Nat) (μ : Mem) (H : Heap) (locs : List Loc) (ls : Array Slot) (hBc : cx + (45) ≤ 45) (hBs : dx + (267) ≤ 267) (h : b_L_scenes_15 n np post a4 a5 μ) (hZ : ZS D ca base ad n np μ s H locs) (hl : lv_has ls 13 [(0, .ref (ad 30 0)), (1, .ref (ad 22 0)), (4, .int a5)]) : W p l e ({ frames := 10, cells := 45, slots := 267, locals := 169 } : Room) s m args below meth c H locs cx dx (MQ below (ZQN D ca base ad0 post) args s 45 267 (zB base)) (F0 m 15 ls []) := by
  unfold b_L_scenes_15 at h
  refine lv_aload_n hC.1 hC.2.1 dL_scenes_15 rfl (lv_at hl 1 rfl) ?_
  refine lv_iconst (v := 2) hC.1 hC.2.1 dL_scenes_16 (by decide) ?_
  refine aL_22 hC hZ (by unfold vp_in; decide) dL_scenes_17 ?_
  refine lv_iconst (v := 1) hC.1 hC.2.1 dL_scenes_18 (by decide) ?_
  refine lv_isub hC.1 hC.2.1 dL_scenes_19 ?_
  refine lv_istore (lv' := [(5, .int ((μ 22 0 (2 : Int32).toNatClampNeg) - 1)), (0, .ref (ad 30 0)), (1, .ref (ad 22 0)), (4, .int a5)]) hC.1 hC.2.1 dL_scenes_20 hl (by decide) rfl (fun ls hl => ?_)
  refine lv_iconst (v := 0) hC.1 hC.2.1 dL_scenes_22 (by decide) ?_
  refine lv_istore (lv' := [(6, .int 0), (5, .int ((μ 22 0 (2 : Int32).toNatClampNeg) - 1)), (0, .ref (ad 30 0)), (1, .ref (ad 22 0)), (4, .int a5)]) hC.1 hC.2.1 dL_scenes_23 hl (by decide) rfl (fun ls hl => ?_)
  obtain ⟨fuel, hfu, h⟩ := h
  exact t_L_scenes_25 (l := l) hst hC hr hag _ _ _ _ _ _ _ _ _ _ _ (by show _ ≤ (45 : Nat); omega) (by show _ ≤ (267 : Nat); omega) h hZ (lv_sub hl [2, 3, 4, 1, 0] rfl)
def b_L_scenes_631 (n np : Nat) (post : Int32 → Nat → Nat → Mem → Prop) (a4 : Int32) (a5 : Int32) (v5 : Int32) (v7 : Int32) (μ : Mem) : Prop := (w_L_uses n np (fun (r64 : Int32) (μ63 : Mem) => ((¬ r64 = (-1000002) → post 0 n np μ63) ∧ (r64 = (-1000002) → (w_L_uses n np (fun (r67 : Int32) (μ66 : Mem) => ((¬ r67 = (-1000002) → post 0 n np μ66) ∧ (r67 = (-1000002) → (w_L_uses n np (fun (r70 : Int32) (μ69 : Mem) => ((¬ r70 = (-1000001) → post 0 n np μ69) ∧ (r70 = (-1000001) → post 1 n np μ69))) v5 (-1 : Int32) (0 : Int32) (0 : Int32) μ66)))) v5 v7 (2 : Int32) (1 : Int32) μ63)))) v5 v7 (4 : Int32) (4 : Int32) μ)
set_option maxRecDepth 100000 in
set_option maxHeartbeats 4000000 in
theorem t_L_scenes_631 {p : Program} {l : Launch} {e : Env} {s : State} {m : MethodId} {args : Array Value} {below : List Frame} {meth : Method} {c : Code} {D : va_G} {ca : Nat → ClassId} {base : Nat} {ad : Nat → Nat → Nat} {n np : Nat} {ad0 : Nat → Nat → Nat} {post : Int32 → Nat → Nat → Mem → Prop} (hst : l.stackTraces = false) (hC : ZC p m meth c s RL cL_scenes 13) (hr : meth.sig.returnType = (some FieldType.boolean)) (hag : zagr ad0 ad) (a4 : Int32) (a5 : Int32) (v5 : Int32) (v7 : Int32) (cx dx : Nat) (μ : Mem) (H : Heap) (locs : List Loc) (ls : Array Slot) (hBc : cx + (12) ≤ 45) (hBs : dx + (72) ≤ 267) (h : b_L_scenes_631 n np post a4 a5 v5 v7 μ) (hZ : ZS D ca base ad n np μ s H locs) (hl : lv_has ls 13 [(0, .ref (ad 30 0)), (5, .int v5), (7, .int v7)]) : W p l e ({ frames := 10, cells := 45, slots := 267, locals := 169 } : Room) s m args below meth c H locs cx dx (MQ below (ZQN D ca base ad0 post) args s 45 267 (zB base)) (F0 m 631 ls []) := by
  unfold b_L_scenes_631 at h
  refine lv_aload_n hC.1 hC.2.1 dL_scenes_631 rfl (lv_at hl 0 rfl) ?_
  refine lv_iload hC.1 hC.2.1 dL_scenes_632 (lv_at hl 1 rfl) ?_
  refine lv_iload hC.1 hC.2.1 dL_scenes_634 (lv_at hl 2 rfl) ?_
  refine lv_iconst (v := 4) hC.1 hC.2.1 dL_scenes_636 (by decide) ?_
  refine lv_iconst (v := 4) hC.1 hC.2.1 dL_scenes_637 (by decide) ?_
  refine z_cWi (As := [.ref (ad 30 0), .int v5, .int v7, .int 4, .int 4]) hC hZ zy_L_uses (c_L_uses l hst h) km_L_132 rfl ⟨rfl, rfl⟩ ⟨Nat.le_of_ble_eq_true rfl, Nat.le_of_ble_eq_true rfl⟩ hl.1 rfl (Nat.le_of_ble_eq_true rfl) dL_scenes_638 ⟨by show _ ≤ (45 : Nat); omega, by show _ ≤ (267 : Nat); omega⟩ (fun r64 μ63 H locs h hZ => ?_)
  refine lv_ldc (v := (-1000002)) hC.1 hC.2.1 hC.2.2.2.1 (hZ.1.2.1.use _ kk_L_18 rfl) dL_scenes_641 ?_
  refine lv_icmp_ne (tgt := 679) hC.1 hC.2.1 dL_scenes_643 (by decide) (fun c65 => ?_) (fun c65 => ?_)
  · have h := h.1 c65
    refine lv_iconst (v := 0) hC.1 hC.2.1 dL_scenes_679 (by decide) ?_
    exact z_nretb hC hr hZ hag (by decide) h dL_scenes_680 (by show _ ≤ (45 : Nat); omega) (by show _ ≤ (267 : Nat); omega)
  · have h := h.2 c65
    refine lv_aload_n hC.1 hC.2.1 dL_scenes_646 rfl (lv_at hl 0 rfl) ?_
    refine lv_iload hC.1 hC.2.1 dL_scenes_647 (lv_at hl 1 rfl) ?_
    refine lv_iload hC.1 hC.2.1 dL_scenes_649 (lv_at hl 2 rfl) ?_
    refine lv_iconst (v := 2) hC.1 hC.2.1 dL_scenes_651 (by decide) ?_
    refine lv_iconst (v := 1) hC.1 hC.2.1 dL_scenes_652 (by decide) ?_
    refine z_cWi (As := [.ref (ad 30 0), .int v5, .int v7, .int 2, .int 1]) hC hZ zy_L_uses (c_L_uses l hst h) km_L_132 rfl ⟨rfl, rfl⟩ ⟨Nat.le_of_ble_eq_true rfl, Nat.le_of_ble_eq_true rfl⟩ hl.1 rfl (Nat.le_of_ble_eq_true rfl) dL_scenes_653 ⟨by show _ ≤ (45 : Nat); omega, by show _ ≤ (267 : Nat); omega⟩ (fun r67 μ66 H locs h hZ => ?_)
    refine lv_ldc (v := (-1000002)) hC.1 hC.2.1 hC.2.2.2.1 (hZ.1.2.1.use _ kk_L_18 rfl) dL_scenes_656 ?_
    refine lv_icmp_ne (tgt := 679) hC.1 hC.2.1 dL_scenes_658 (by decide) (fun c68 => ?_) (fun c68 => ?_)
    · have h := h.1 c68
      refine lv_iconst (v := 0) hC.1 hC.2.1 dL_scenes_679 (by decide) ?_
      exact z_nretb hC hr hZ hag (by decide) h dL_scenes_680 (by show _ ≤ (45 : Nat); omega) (by show _ ≤ (267 : Nat); omega)
    · have h := h.2 c68
      refine lv_aload_n hC.1 hC.2.1 dL_scenes_661 rfl (lv_at hl 0 rfl) ?_
      refine lv_iload hC.1 hC.2.1 dL_scenes_662 (lv_at hl 1 rfl) ?_
      refine lv_iconst (v := (-1)) hC.1 hC.2.1 dL_scenes_664 (by decide) ?_
      refine lv_iconst (v := 0) hC.1 hC.2.1 dL_scenes_665 (by decide) ?_
      refine lv_iconst (v := 0) hC.1 hC.2.1 dL_scenes_666 (by decide) ?_
      refine z_cWi (As := [.ref (ad 30 0), .int v5, .int (-1), .int 0, .int 0]) hC hZ zy_L_uses (c_L_uses l hst h) km_L_132 rfl ⟨rfl, rfl⟩ ⟨Nat.le_of_ble_eq_true rfl, Nat.le_of_ble_eq_true rfl⟩ hl.1 rfl (Nat.le_of_ble_eq_true rfl) dL_scenes_667 ⟨by show _ ≤ (45 : Nat); omega, by show _ ≤ (267 : Nat); omega⟩ (fun r70 μ69 H locs h hZ => ?_)
      refine lv_ldc (v := (-1000001)) hC.1 hC.2.1 hC.2.2.2.1 (hZ.1.2.1.use _ kk_L_28 rfl) dL_scenes_670 ?_
      refine lv_icmp_ne (tgt := 679) hC.1 hC.2.1 dL_scenes_672 (by decide) (fun c71 => ?_) (fun c71 => ?_)
      · have h := h.1 c71
        refine lv_iconst (v := 0) hC.1 hC.2.1 dL_scenes_679 (by decide) ?_
        exact z_nretb hC hr hZ hag (by decide) h dL_scenes_680 (by show _ ≤ (45 : Nat); omega) (by show _ ≤ (267 : Nat); omega)
      · have h := h.2 c71
        refine lv_iconst (v := 1) hC.1 hC.2.1 dL_scenes_675 (by decide) ?_
        refine lv_goto (tgt := 680) hC.1 hC.2.1 dL_scenes_676 (by decide) ?_
        exact z_nretb hC hr hZ hag (by decide) h dL_scenes_680 (by show _ ≤ (45 : Nat); omega) (by show _ ≤ (267 : Nat); omega)
def b_L_scenes_603 (n np : Nat) (post : Int32 → Nat → Nat → Mem → Prop) (a4 : Int32) (a5 : Int32) (v5 : Int32) (v7 : Int32) (v10 : Int32) (v11 : Int32) (s1 : Int32) (s2 : Int32) (μ : Mem) : Prop := (vp_in s1 50 ∧ ∀ μ60 : Mem, μ60 = zst μ 23 0 s1.toNatClampNeg s2 → ((v10 = 0 → ((¬ v11 = (-1000003) → post 0 n np μ60) ∧ (v11 = (-1000003) → b_L_scenes_631 n np post a4 a5 v5 v7 μ60))) ∧ (¬ v10 = 0 → ((v11 < 1 → post 0 n np μ60) ∧ (¬ v11 < 1 → ((5 < v11 → post 0 n np μ60) ∧ (¬ 5 < v11 → b_L_scenes_631 n np post a4 a5 v5 v7 μ60)))))))
set_option maxRecDepth 100000 in
set_option maxHeartbeats 4000000 in
theorem t_L_scenes_603 {p : Program} {l : Launch} {e : Env} {s : State} {m : MethodId} {args : Array Value} {below : List Frame} {meth : Method} {c : Code} {D : va_G} {ca : Nat → ClassId} {base : Nat} {ad : Nat → Nat → Nat} {n np : Nat} {ad0 : Nat → Nat → Nat} {post : Int32 → Nat → Nat → Mem → Prop} (hst : l.stackTraces = false) (hC : ZC p m meth c s RL cL_scenes 13) (hr : meth.sig.returnType = (some FieldType.boolean)) (hag : zagr ad0 ad) (a4 : Int32) (a5 : Int32) (v5 : Int32) (v7 : Int32) (v10 : Int32) (v11 : Int32) (s1 : Int32) (s2 : Int32) (cx dx : Nat) (μ : Mem) (H : Heap) (locs : List Loc) (ls : Array Slot) (hBc : cx + (12) ≤ 45) (hBs : dx + (72) ≤ 267) (h : b_L_scenes_603 n np post a4 a5 v5 v7 v10 v11 s1 s2 μ) (hZ : ZS D ca base ad n np μ s H locs) (hl : lv_has ls 13 [(0, .ref (ad 30 0)), (5, .int v5), (7, .int v7), (10, .int v10), (11, .int v11)]) : W p l e ({ frames := 10, cells := 45, slots := 267, locals := 169 } : Room) s m args below meth c H locs cx dx (MQ below (ZQN D ca base ad0 post) args s 45 267 (zB base)) (F0 m 603 ls [.int s2, .int s1, .ref (ad 23 0)]) := by
  unfold b_L_scenes_603 at h
  obtain ⟨q59, h⟩ := h
  refine aS_23 hC hZ q59 dL_scenes_603 (fun μ60 H locs eμ60 hZ => ?_)
  have h := h μ60 eμ60
  refine lv_iload hC.1 hC.2.1 dL_scenes_604 (lv_at hl 3 rfl) ?_
  refine lv_if_eq (tgt := 624) hC.1 hC.2.1 dL_scenes_606 (by decide) (fun c61 => ?_) (fun c61 => ?_)
  · have h := h.1 c61
    refine lv_iload hC.1 hC.2.1 dL_scenes_624 (lv_at hl 4 rfl) ?_
    refine lv_ldc (v := (-1000003)) hC.1 hC.2.1 hC.2.2.2.1 (hZ.1.2.1.use _ kk_L_21 rfl) dL_scenes_626 ?_
    refine lv_icmp_ne (tgt := 679) hC.1 hC.2.1 dL_scenes_628 (by decide) (fun c62 => ?_) (fun c62 => ?_)
    · have h := h.1 c62
      refine lv_iconst (v := 0) hC.1 hC.2.1 dL_scenes_679 (by decide) ?_
      exact z_nretb hC hr hZ hag (by decide) h dL_scenes_680 (by show _ ≤ (45 : Nat); omega) (by show _ ≤ (267 : Nat); omega)
    · have h := h.2 c62
      exact t_L_scenes_631 (l := l) hst hC hr hag _ _ _ _ _ _ _ _ _ _ (by show _ ≤ (45 : Nat); omega) (by show _ ≤ (267 : Nat); omega) h hZ (lv_sub hl [0, 1, 2] rfl)
  · have h := h.2 c61
    refine lv_iload hC.1 hC.2.1 dL_scenes_609 (lv_at hl 4 rfl) ?_
    refine lv_iconst (v := 1) hC.1 hC.2.1 dL_scenes_611 (by decide) ?_
    refine lv_icmp_lt (tgt := 679) hC.1 hC.2.1 dL_scenes_612 (by decide) (fun c72 => ?_) (fun c72 => ?_)
    · have h := h.1 c72
      refine lv_iconst (v := 0) hC.1 hC.2.1 dL_scenes_679 (by decide) ?_
      exact z_nretb hC hr hZ hag (by decide) h dL_scenes_680 (by show _ ≤ (45 : Nat); omega) (by show _ ≤ (267 : Nat); omega)
    · have h := h.2 c72
      refine lv_iload hC.1 hC.2.1 dL_scenes_615 (lv_at hl 4 rfl) ?_
      refine lv_iconst (v := 5) hC.1 hC.2.1 dL_scenes_617 (by decide) ?_
      refine lv_icmp_gt (tgt := 679) hC.1 hC.2.1 dL_scenes_618 (by decide) (fun c73 => ?_) (fun c73 => ?_)
      · have h := h.1 c73
        refine lv_iconst (v := 0) hC.1 hC.2.1 dL_scenes_679 (by decide) ?_
        exact z_nretb hC hr hZ hag (by decide) h dL_scenes_680 (by show _ ≤ (45 : Nat); omega) (by show _ ≤ (267 : Nat); omega)
      · have h := h.2 c73
        refine lv_goto (tgt := 631) hC.1 hC.2.1 dL_scenes_621 (by decide) ?_
        exact t_L_scenes_631 (l := l) hst hC hr hag _ _ _ _ _ _ _ _ _ _ (by show _ ≤ (45 : Nat); omega) (by show _ ≤ (267 : Nat); omega) h hZ (lv_sub hl [0, 1, 2] rfl)
def b_L_scenes_546 (n np : Nat) (post : Int32 → Nat → Nat → Mem → Prop) (k469 : Int32 → Int32 → Int32 → Int32 → Int32 → Int32 → Mem → Prop) (a4 : Int32) (a5 : Int32) (v5 : Int32) (v7 : Int32) (v8 : Int32) (v9 : Int32) (v11 : Int32) (s0 : Int32) (μ : Mem) : Prop := k469 v5 v7 v8 v9 s0 (v11 + 1) μ
set_option maxRecDepth 100000 in
set_option maxHeartbeats 4000000 in
theorem t_L_scenes_546 {p : Program} {l : Launch} {e : Env} {s : State} {m : MethodId} {args : Array Value} {below : List Frame} {meth : Method} {c : Code} {D : va_G} {ca : Nat → ClassId} {base : Nat} {ad : Nat → Nat → Nat} {n np : Nat} {ad0 : Nat → Nat → Nat} {post : Int32 → Nat → Nat → Mem → Prop} {k469 : Int32 → Int32 → Int32 → Int32 → Int32 → Int32 → Mem → Prop} {Kc469 Ks469 : Nat} (hst : l.stackTraces = false) (hC : ZC p m meth c s RL cL_scenes 13) (hr : meth.sig.returnType = (some FieldType.boolean)) (hag : zagr ad0 ad) (a4 : Int32) (a5 : Int32) (hk469 : ∀ (v5 : Int32) (v7 : Int32) (v8 : Int32) (v9 : Int32) (v10 : Int32) (v11 : Int32) (cx dx : Nat) (μ : Mem) (H : Heap) (locs : List Loc) (ls : Array Slot), cx + Kc469 ≤ 45 → dx + Ks469 ≤ 267 → k469 v5 v7 v8 v9 v10 v11 μ → ZS D ca base ad n np μ s H locs → lv_has ls 13 [(0, .ref (ad 30 0)), (1, .ref (ad 22 0)), (2, .ref (ad 23 0)), (5, .int v5), (7, .int v7), (8, .int v8), (9, .int v9), (10, .int v10), (11, .int v11)] → W p l e ({ frames := 10, cells := 45, slots := 267, locals := 169 } : Room) s m args below meth c H locs cx dx (MQ below (ZQN D ca base ad0 post) args s 45 267 (zB base)) (F0 m 469 ls [])) (v5 : Int32) (v7 : Int32) (v8 : Int32) (v9 : Int32) (v11 : Int32) (s0 : Int32) (cx dx : Nat) (μ : Mem) (H : Heap) (locs : List Loc) (ls : Array Slot) (hBc : cx + (0 + Kc469) ≤ 45) (hBs : dx + (0 + Ks469) ≤ 267) (h : b_L_scenes_546 n np post k469 a4 a5 v5 v7 v8 v9 v11 s0 μ) (hZ : ZS D ca base ad n np μ s H locs) (hl : lv_has ls 13 [(0, .ref (ad 30 0)), (1, .ref (ad 22 0)), (2, .ref (ad 23 0)), (5, .int v5), (7, .int v7), (8, .int v8), (9, .int v9), (11, .int v11)]) : W p l e ({ frames := 10, cells := 45, slots := 267, locals := 169 } : Room) s m args below meth c H locs cx dx (MQ below (ZQN D ca base ad0 post) args s 45 267 (zB base)) (F0 m 546 ls [.int s0]) := by
  unfold b_L_scenes_546 at h
  refine lv_istore (lv' := [(10, .int s0), (0, .ref (ad 30 0)), (1, .ref (ad 22 0)), (2, .ref (ad 23 0)), (5, .int v5), (7, .int v7), (8, .int v8), (9, .int v9), (11, .int v11)]) hC.1 hC.2.1 dL_scenes_546 hl (by decide) rfl (fun ls hl => ?_)
  refine lv_iinc (v := v11 + 1) (lv' := [(11, .int (v11 + 1)), (10, .int s0), (0, .ref (ad 30 0)), (1, .ref (ad 22 0)), (2, .ref (ad 23 0)), (5, .int v5), (7, .int v7), (8, .int v8), (9, .int v9)]) hC.1 hC.2.1 dL_scenes_548 hl (k := 8) rfl rfl (by decide) rfl (fun ls hl => ?_)
  refine lv_goto (tgt := 469) hC.1 hC.2.1 dL_scenes_551 (by decide) ?_
  exact hk469 _ _ _ _ _ _ _ _ _ _ _ _ (by show _ ≤ (45 : Nat); omega) (by show _ ≤ (267 : Nat); omega) h hZ (lv_sub hl [2, 3, 4, 5, 6, 7, 8, 1, 0] rfl)
def b_L_scenes_545 (n np : Nat) (post : Int32 → Nat → Nat → Mem → Prop) (k469 : Int32 → Int32 → Int32 → Int32 → Int32 → Int32 → Mem → Prop) (a4 : Int32) (a5 : Int32) (v5 : Int32) (v7 : Int32) (v8 : Int32) (v9 : Int32) (v11 : Int32) (μ : Mem) : Prop := b_L_scenes_546 n np post k469 a4 a5 v5 v7 v8 v9 v11 (0 : Int32) μ
set_option maxRecDepth 100000 in
set_option maxHeartbeats 4000000 in
theorem t_L_scenes_545 {p : Program} {l : Launch} {e : Env} {s : State} {m : MethodId} {args : Array Value} {below : List Frame} {meth : Method} {c : Code} {D : va_G} {ca : Nat → ClassId} {base : Nat} {ad : Nat → Nat → Nat} {n np : Nat} {ad0 : Nat → Nat → Nat} {post : Int32 → Nat → Nat → Mem → Prop} {k469 : Int32 → Int32 → Int32 → Int32 → Int32 → Int32 → Mem → Prop} {Kc469 Ks469 : Nat} (hst : l.stackTraces = false) (hC : ZC p m meth c s RL cL_scenes 13) (hr : meth.sig.returnType = (some FieldType.boolean)) (hag : zagr ad0 ad) (a4 : Int32) (a5 : Int32) (hk469 : ∀ (v5 : Int32) (v7 : Int32) (v8 : Int32) (v9 : Int32) (v10 : Int32) (v11 : Int32) (cx dx : Nat) (μ : Mem) (H : Heap) (locs : List Loc) (ls : Array Slot), cx + Kc469 ≤ 45 → dx + Ks469 ≤ 267 → k469 v5 v7 v8 v9 v10 v11 μ → ZS D ca base ad n np μ s H locs → lv_has ls 13 [(0, .ref (ad 30 0)), (1, .ref (ad 22 0)), (2, .ref (ad 23 0)), (5, .int v5), (7, .int v7), (8, .int v8), (9, .int v9), (10, .int v10), (11, .int v11)] → W p l e ({ frames := 10, cells := 45, slots := 267, locals := 169 } : Room) s m args below meth c H locs cx dx (MQ below (ZQN D ca base ad0 post) args s 45 267 (zB base)) (F0 m 469 ls [])) (v5 : Int32) (v7 : Int32) (v8 : Int32) (v9 : Int32) (v11 : Int32) (cx dx : Nat) (μ : Mem) (H : Heap) (locs : List Loc) (ls : Array Slot) (hBc : cx + (0 + Kc469) ≤ 45) (hBs : dx + (0 + Ks469) ≤ 267) (h : b_L_scenes_545 n np post k469 a4 a5 v5 v7 v8 v9 v11 μ) (hZ : ZS D ca base ad n np μ s H locs) (hl : lv_has ls 13 [(0, .ref (ad 30 0)), (1, .ref (ad 22 0)), (2, .ref (ad 23 0)), (5, .int v5), (7, .int v7), (8, .int v8), (9, .int v9), (11, .int v11)]) : W p l e ({ frames := 10, cells := 45, slots := 267, locals := 169 } : Room) s m args below meth c H locs cx dx (MQ below (ZQN D ca base ad0 post) args s 45 267 (zB base)) (F0 m 545 ls []) := by
  unfold b_L_scenes_545 at h
  refine lv_iconst (v := 0) hC.1 hC.2.1 dL_scenes_545 (by decide) ?_
  exact t_L_scenes_546 (l := l) hst hC hr hag _ _ hk469 _ _ _ _ _ _ _ _ _ _ _ _ (by show _ ≤ (45 : Nat); omega) (by show _ ≤ (267 : Nat); omega) h hZ (lv_sub hl [0, 1, 2, 3, 4, 5, 6, 7] rfl)
def b_L_scenes_541 (n np : Nat) (post : Int32 → Nat → Nat → Mem → Prop) (k469 : Int32 → Int32 → Int32 → Int32 → Int32 → Int32 → Mem → Prop) (a4 : Int32) (a5 : Int32) (v5 : Int32) (v7 : Int32) (v8 : Int32) (v9 : Int32) (v11 : Int32) (μ : Mem) : Prop := b_L_scenes_546 n np post k469 a4 a5 v5 v7 v8 v9 v11 (1 : Int32) μ
set_option maxRecDepth 100000 in
set_option maxHeartbeats 4000000 in
theorem t_L_scenes_541 {p : Program} {l : Launch} {e : Env} {s : State} {m : MethodId} {args : Array Value} {below : List Frame} {meth : Method} {c : Code} {D : va_G} {ca : Nat → ClassId} {base : Nat} {ad : Nat → Nat → Nat} {n np : Nat} {ad0 : Nat → Nat → Nat} {post : Int32 → Nat → Nat → Mem → Prop} {k469 : Int32 → Int32 → Int32 → Int32 → Int32 → Int32 → Mem → Prop} {Kc469 Ks469 : Nat} (hst : l.stackTraces = false) (hC : ZC p m meth c s RL cL_scenes 13) (hr : meth.sig.returnType = (some FieldType.boolean)) (hag : zagr ad0 ad) (a4 : Int32) (a5 : Int32) (hk469 : ∀ (v5 : Int32) (v7 : Int32) (v8 : Int32) (v9 : Int32) (v10 : Int32) (v11 : Int32) (cx dx : Nat) (μ : Mem) (H : Heap) (locs : List Loc) (ls : Array Slot), cx + Kc469 ≤ 45 → dx + Ks469 ≤ 267 → k469 v5 v7 v8 v9 v10 v11 μ → ZS D ca base ad n np μ s H locs → lv_has ls 13 [(0, .ref (ad 30 0)), (1, .ref (ad 22 0)), (2, .ref (ad 23 0)), (5, .int v5), (7, .int v7), (8, .int v8), (9, .int v9), (10, .int v10), (11, .int v11)] → W p l e ({ frames := 10, cells := 45, slots := 267, locals := 169 } : Room) s m args below meth c H locs cx dx (MQ below (ZQN D ca base ad0 post) args s 45 267 (zB base)) (F0 m 469 ls [])) (v5 : Int32) (v7 : Int32) (v8 : Int32) (v9 : Int32) (v11 : Int32) (cx dx : Nat) (μ : Mem) (H : Heap) (locs : List Loc) (ls : Array Slot) (hBc : cx + (0 + Kc469) ≤ 45) (hBs : dx + (0 + Ks469) ≤ 267) (h : b_L_scenes_541 n np post k469 a4 a5 v5 v7 v8 v9 v11 μ) (hZ : ZS D ca base ad n np μ s H locs) (hl : lv_has ls 13 [(0, .ref (ad 30 0)), (1, .ref (ad 22 0)), (2, .ref (ad 23 0)), (5, .int v5), (7, .int v7), (8, .int v8), (9, .int v9), (11, .int v11)]) : W p l e ({ frames := 10, cells := 45, slots := 267, locals := 169 } : Room) s m args below meth c H locs cx dx (MQ below (ZQN D ca base ad0 post) args s 45 267 (zB base)) (F0 m 541 ls []) := by
  unfold b_L_scenes_541 at h
  refine lv_iconst (v := 1) hC.1 hC.2.1 dL_scenes_541 (by decide) ?_
  refine lv_goto (tgt := 546) hC.1 hC.2.1 dL_scenes_542 (by decide) ?_
  exact t_L_scenes_546 (l := l) hst hC hr hag _ _ hk469 _ _ _ _ _ _ _ _ _ _ _ _ (by show _ ≤ (45 : Nat); omega) (by show _ ≤ (267 : Nat); omega) h hZ (lv_sub hl [0, 1, 2, 3, 4, 5, 6, 7] rfl)
def b_L_scenes_497 (n np : Nat) (post : Int32 → Nat → Nat → Mem → Prop) (k469 : Int32 → Int32 → Int32 → Int32 → Int32 → Int32 → Mem → Prop) (a4 : Int32) (a5 : Int32) (v5 : Int32) (v7 : Int32) (v8 : Int32) (v9 : Int32) (v10 : Int32) (v11 : Int32) (s0 : Int32) (μ : Mem) : Prop := ((v10 = 0 → b_L_scenes_545 n np post k469 a4 a5 v5 v7 v8 v9 v11 μ) ∧ (¬ v10 = 0 → ((s0 = 0 → b_L_scenes_541 n np post k469 a4 a5 v5 v7 v8 v9 v11 μ) ∧ (¬ s0 = 0 → ((v5 ≤ v11 → ((((s0 - s0 / 8 * 8) - 1) < v9 → b_L_scenes_545 n np post k469 a4 a5 v5 v7 v8 v9 v11 μ) ∧ (¬ ((s0 - s0 / 8 * 8) - 1) < v9 → b_L_scenes_541 n np post k469 a4 a5 v5 v7 v8 v9 v11 μ))) ∧ (¬ v5 ≤ v11 → ((v8 < (s0 / 8) → b_L_scenes_545 n np post k469 a4 a5 v5 v7 v8 v9 v11 μ) ∧ (¬ v8 < (s0 / 8) → b_L_scenes_541 n np post k469 a4 a5 v5 v7 v8 v9 v11 μ))))))))
set_option maxRecDepth 100000 in
set_option maxHeartbeats 4000000 in
theorem t_L_scenes_497 {p : Program} {l : Launch} {e : Env} {s : State} {m : MethodId} {args : Array Value} {below : List Frame} {meth : Method} {c : Code} {D : va_G} {ca : Nat → ClassId} {base : Nat} {ad : Nat → Nat → Nat} {n np : Nat} {ad0 : Nat → Nat → Nat} {post : Int32 → Nat → Nat → Mem → Prop} {k469 : Int32 → Int32 → Int32 → Int32 → Int32 → Int32 → Mem → Prop} {Kc469 Ks469 : Nat} (hst : l.stackTraces = false) (hC : ZC p m meth c s RL cL_scenes 13) (hr : meth.sig.returnType = (some FieldType.boolean)) (hag : zagr ad0 ad) (a4 : Int32) (a5 : Int32) (hk469 : ∀ (v5 : Int32) (v7 : Int32) (v8 : Int32) (v9 : Int32) (v10 : Int32) (v11 : Int32) (cx dx : Nat) (μ : Mem) (H : Heap) (locs : List Loc) (ls : Array Slot), cx + Kc469 ≤ 45 → dx + Ks469 ≤ 267 → k469 v5 v7 v8 v9 v10 v11 μ → ZS D ca base ad n np μ s H locs → lv_has ls 13 [(0, .ref (ad 30 0)), (1, .ref (ad 22 0)), (2, .ref (ad 23 0)), (5, .int v5), (7, .int v7), (8, .int v8), (9, .int v9), (10, .int v10), (11, .int v11)] → W p l e ({ frames := 10, cells := 45, slots := 267, locals := 169 } : Room) s m args below meth c H locs cx dx (MQ below (ZQN D ca base ad0 post) args s 45 267 (zB base)) (F0 m 469 ls [])) (v5 : Int32) (v7 : Int32) (v8 : Int32) (v9 : Int32) (v10 : Int32) (v11 : Int32) (s0 : Int32) (cx dx : Nat) (μ : Mem) (H : Heap) (locs : List Loc) (ls : Array Slot) (hBc : cx + (0 + Kc469) ≤ 45) (hBs : dx + (0 + Ks469) ≤ 267) (h : b_L_scenes_497 n np post k469 a4 a5 v5 v7 v8 v9 v10 v11 s0 μ) (hZ : ZS D ca base ad n np μ s H locs) (hl : lv_has ls 13 [(0, .ref (ad 30 0)), (1, .ref (ad 22 0)), (2, .ref (ad 23 0)), (5, .int v5), (7, .int v7), (8, .int v8), (9, .int v9), (10, .int v10), (11, .int v11)]) : W p l e ({ frames := 10, cells := 45, slots := 267, locals := 169 } : Room) s m args below meth c H locs cx dx (MQ below (ZQN D ca base ad0 post) args s 45 267 (zB base)) (F0 m 497 ls [.int s0]) := by
  unfold b_L_scenes_497 at h
  refine lv_istore (lv' := [(12, .int s0), (0, .ref (ad 30 0)), (1, .ref (ad 22 0)), (2, .ref (ad 23 0)), (5, .int v5), (7, .int v7), (8, .int v8), (9, .int v9), (10, .int v10), (11, .int v11)]) hC.1 hC.2.1 dL_scenes_497 hl (by decide) rfl (fun ls hl => ?_)
  refine lv_iload hC.1 hC.2.1 dL_scenes_499 (lv_at hl 8 rfl) ?_
  refine lv_if_eq (tgt := 545) hC.1 hC.2.1 dL_scenes_501 (by decide) (fun c77 => ?_) (fun c77 => ?_)
  · have h := h.1 c77
    exact t_L_scenes_545 (l := l) hst hC hr hag _ _ hk469 _ _ _ _ _ _ _ _ _ _ _ (by show _ ≤ (45 : Nat); omega) (by show _ ≤ (267 : Nat); omega) h hZ (lv_sub hl [1, 2, 3, 4, 5, 6, 7, 9] rfl)
  · have h := h.2 c77
    refine lv_iload hC.1 hC.2.1 dL_scenes_504 (lv_at hl 0 rfl) ?_
    refine lv_if_eq (tgt := 541) hC.1 hC.2.1 dL_scenes_506 (by decide) (fun c78 => ?_) (fun c78 => ?_)
    · have h := h.1 c78
      exact t_L_scenes_541 (l := l) hst hC hr hag _ _ hk469 _ _ _ _ _ _ _ _ _ _ _ (by show _ ≤ (45 : Nat); omega) (by show _ ≤ (267 : Nat); omega) h hZ (lv_sub hl [1, 2, 3, 4, 5, 6, 7, 9] rfl)
    · have h := h.2 c78
      refine lv_iload hC.1 hC.2.1 dL_scenes_509 (lv_at hl 9 rfl) ?_
      refine lv_iload hC.1 hC.2.1 dL_scenes_511 (lv_at hl 4 rfl) ?_
      refine lv_icmp_ge (tgt := 529) hC.1 hC.2.1 dL_scenes_513 (by decide) (fun c79 => ?_) (fun c79 => ?_)
      · have h := h.1 c79
        refine lv_iload hC.1 hC.2.1 dL_scenes_529 (lv_at hl 7 rfl) ?_
        refine lv_iload hC.1 hC.2.1 dL_scenes_531 (lv_at hl 0 rfl) ?_
        refine lv_bipush (v := 8) hC.1 hC.2.1 dL_scenes_533 (by decide) ?_
        refine lv_irem hC.1 hC.2.1 dL_scenes_535 (by decide) ?_
        refine lv_iconst (v := 1) hC.1 hC.2.1 dL_scenes_536 (by decide) ?_
        refine lv_isub hC.1 hC.2.1 dL_scenes_537 ?_
        refine lv_icmp_gt (tgt := 545) hC.1 hC.2.1 dL_scenes_538 (by decide) (fun c80 => ?_) (fun c80 => ?_)
        · have h := h.1 c80
          exact t_L_scenes_545 (l := l) hst hC hr hag _ _ hk469 _ _ _ _ _ _ _ _ _ _ _ (by show _ ≤ (45 : Nat); omega) (by show _ ≤ (267 : Nat); omega) h hZ (lv_sub hl [1, 2, 3, 4, 5, 6, 7, 9] rfl)
        · have h := h.2 c80
          exact t_L_scenes_541 (l := l) hst hC hr hag _ _ hk469 _ _ _ _ _ _ _ _ _ _ _ (by show _ ≤ (45 : Nat); omega) (by show _ ≤ (267 : Nat); omega) h hZ (lv_sub hl [1, 2, 3, 4, 5, 6, 7, 9] rfl)
      · have h := h.2 c79
        refine lv_iload hC.1 hC.2.1 dL_scenes_516 (lv_at hl 0 rfl) ?_
        refine lv_bipush (v := 8) hC.1 hC.2.1 dL_scenes_518 (by decide) ?_
        refine lv_idiv hC.1 hC.2.1 dL_scenes_520 (by decide) ?_
        refine lv_iload hC.1 hC.2.1 dL_scenes_521 (lv_at hl 6 rfl) ?_
        refine lv_icmp_gt (tgt := 545) hC.1 hC.2.1 dL_scenes_523 (by decide) (fun c81 => ?_) (fun c81 => ?_)
        · have h := h.1 c81
          exact t_L_scenes_545 (l := l) hst hC hr hag _ _ hk469 _ _ _ _ _ _ _ _ _ _ _ (by show _ ≤ (45 : Nat); omega) (by show _ ≤ (267 : Nat); omega) h hZ (lv_sub hl [1, 2, 3, 4, 5, 6, 7, 9] rfl)
        · have h := h.2 c81
          refine lv_goto (tgt := 541) hC.1 hC.2.1 dL_scenes_526 (by decide) ?_
          exact t_L_scenes_541 (l := l) hst hC hr hag _ _ hk469 _ _ _ _ _ _ _ _ _ _ _ (by show _ ≤ (45 : Nat); omega) (by show _ ≤ (267 : Nat); omega) h hZ (lv_sub hl [1, 2, 3, 4, 5, 6, 7, 9] rfl)
def lb_L_scenes_469 (n np : Nat) (post : Int32 → Nat → Nat → Mem → Prop) (k469 : Int32 → Int32 → Int32 → Int32 → Int32 → Int32 → Mem → Prop) (a4 : Int32) (a5 : Int32) (v5 : Int32) (v7 : Int32) (v8 : Int32) (v9 : Int32) (v10 : Int32) (v11 : Int32) (μ : Mem) : Prop := (((μ 22 0 (0 : Int32).toNatClampNeg) ≤ v11 → (w_L_uses n np (fun (r56 : Int32) (μ55 : Mem) => ((v10 = 0 → (vp_in ((5 * v5) + v7) 50 ∧ b_L_scenes_603 n np post a4 a5 v5 v7 v10 r56 ((5 * v5) + v7) (μ55 23 0 ((5 * v5) + v7).toNatClampNeg) μ55)) ∧ (¬ v10 = 0 → b_L_scenes_603 n np post a4 a5 v5 v7 v10 r56 ((5 * v5) + v7) ((1 + v8) + (8 * v9)) μ55))) v5 v7 v8 v9 μ)) ∧ (¬ (μ 22 0 (0 : Int32).toNatClampNeg) ≤ v11 → ((¬ v11 = v5 → (w_L_use n np (fun (r76 : Int32) (μ75 : Mem) => b_L_scenes_497 n np post k469 a4 a5 v5 v7 v8 v9 v10 v11 r76 μ75) v11 v7 μ)) ∧ (v11 = v5 → b_L_scenes_497 n np post k469 a4 a5 v5 v7 v8 v9 v10 v11 (0 : Int32) μ))))
def l_L_scenes_469 (n np : Nat) (post : Int32 → Nat → Nat → Mem → Prop) (a4 : Int32) (a5 : Int32) : Nat → Int32 → Int32 → Int32 → Int32 → Int32 → Int32 → Mem → Prop
  | 0 => fun _ _ _ _ _ _ _ => False
  | fuel + 1 => lb_L_scenes_469 n np post (l_L_scenes_469 n np post a4 a5 fuel) a4 a5 
set_option maxRecDepth 100000 in
set_option maxHeartbeats 4000000 in
theorem t_L_scenes_469 {p : Program} {l : Launch} {e : Env} {s : State} {m : MethodId} {args : Array Value} {below : List Frame} {meth : Method} {c : Code} {D : va_G} {ca : Nat → ClassId} {base : Nat} {ad : Nat → Nat → Nat} {n np : Nat} {ad0 : Nat → Nat → Nat} {post : Int32 → Nat → Nat → Mem → Prop} (hst : l.stackTraces = false) (hC : ZC p m meth c s RL cL_scenes 13) (hr : meth.sig.returnType = (some FieldType.boolean)) (hag : zagr ad0 ad) (a4 : Int32) (a5 : Int32) : ∀ (fuel : Nat) (v5 : Int32) (v7 : Int32) (v8 : Int32) (v9 : Int32) (v10 : Int32) (v11 : Int32) (cx dx : Nat) (μ : Mem) (H : Heap) (locs : List Loc) (ls : Array Slot), cx + (fuel * 1 + (16)) ≤ 45 → dx + (fuel * 6 + (96)) ≤ 267 → l_L_scenes_469 n np post a4 a5 fuel v5 v7 v8 v9 v10 v11 μ → ZS D ca base ad n np μ s H locs → lv_has ls 13 [(0, .ref (ad 30 0)), (1, .ref (ad 22 0)), (2, .ref (ad 23 0)), (5, .int v5), (7, .int v7), (8, .int v8), (9, .int v9), (10, .int v10), (11, .int v11)] → W p l e ({ frames := 10, cells := 45, slots := 267, locals := 169 } : Room) s m args below meth c H locs cx dx (MQ below (ZQN D ca base ad0 post) args s 45 267 (zB base)) (F0 m 469 ls []) := by
  intro fuel
  induction fuel with
  | zero => exact fun _ _ _ _ _ _ _ _ _ _ _ _ _ _ h => h.elim
  | succ fuel hk469 =>
    intro v5 v7 v8 v9 v10 v11 cx dx μ H locs ls hBc hBs h hZ hl
    have h : lb_L_scenes_469 n np post (l_L_scenes_469 n np post a4 a5 fuel) a4 a5 v5 v7 v8 v9 v10 v11 μ := h
    unfold lb_L_scenes_469 at h
    refine lv_iload hC.1 hC.2.1 dL_scenes_469 (lv_at hl 8 rfl) ?_
    refine lv_aload_n hC.1 hC.2.1 dL_scenes_471 rfl (lv_at hl 1 rfl) ?_
    refine lv_iconst (v := 0) hC.1 hC.2.1 dL_scenes_472 (by decide) ?_
    refine aL_22 hC hZ (by unfold vp_in; decide) dL_scenes_473 ?_
    refine lv_icmp_ge (tgt := 554) hC.1 hC.2.1 dL_scenes_474 (by decide) (fun c54 => ?_) (fun c54 => ?_)
    · have h := h.1 c54
      refine lv_aload_n hC.1 hC.2.1 dL_scenes_554 rfl (lv_at hl 0 rfl) ?_
      refine lv_iload hC.1 hC.2.1 dL_scenes_555 (lv_at hl 3 rfl) ?_
      refine lv_iload hC.1 hC.2.1 dL_scenes_557 (lv_at hl 4 rfl) ?_
      refine lv_iload hC.1 hC.2.1 dL_scenes_559 (lv_at hl 5 rfl) ?_
      refine lv_iload hC.1 hC.2.1 dL_scenes_561 (lv_at hl 6 rfl) ?_
      refine z_cWi (As := [.ref (ad 30 0), .int v5, .int v7, .int v8, .int v9]) hC hZ zy_L_uses (c_L_uses l hst h) km_L_132 rfl ⟨rfl, rfl⟩ ⟨Nat.le_of_ble_eq_true rfl, Nat.le_of_ble_eq_true rfl⟩ hl.1 rfl (Nat.le_of_ble_eq_true rfl) dL_scenes_563 ⟨by show _ ≤ (45 : Nat); omega, by show _ ≤ (267 : Nat); omega⟩ (fun r56 μ55 H locs h hZ => ?_)
      refine lv_istore (lv' := [(11, .int r56), (0, .ref (ad 30 0)), (1, .ref (ad 22 0)), (2, .ref (ad 23 0)), (5, .int v5), (7, .int v7), (8, .int v8), (9, .int v9), (10, .int v10)]) hC.1 hC.2.1 dL_scenes_566 hl (by decide) rfl (fun ls hl => ?_)
      refine lv_aload_n hC.1 hC.2.1 dL_scenes_568 rfl (lv_at hl 3 rfl) ?_
      refine lv_iconst (v := 5) hC.1 hC.2.1 dL_scenes_569 (by decide) ?_
      refine lv_iload hC.1 hC.2.1 dL_scenes_570 (lv_at hl 4 rfl) ?_
      refine lv_imul hC.1 hC.2.1 dL_scenes_572 ?_
      refine lv_iload hC.1 hC.2.1 dL_scenes_573 (lv_at hl 5 rfl) ?_
      refine lv_iadd hC.1 hC.2.1 dL_scenes_575 ?_
      refine lv_iload hC.1 hC.2.1 dL_scenes_576 (lv_at hl 8 rfl) ?_
      refine lv_if_eq (tgt := 594) hC.1 hC.2.1 dL_scenes_578 (by decide) (fun c57 => ?_) (fun c57 => ?_)
      · have h := h.1 c57
        refine lv_aload_n hC.1 hC.2.1 dL_scenes_594 rfl (lv_at hl 3 rfl) ?_
        refine lv_iconst (v := 5) hC.1 hC.2.1 dL_scenes_595 (by decide) ?_
        refine lv_iload hC.1 hC.2.1 dL_scenes_596 (lv_at hl 4 rfl) ?_
        refine lv_imul hC.1 hC.2.1 dL_scenes_598 ?_
        refine lv_iload hC.1 hC.2.1 dL_scenes_599 (lv_at hl 5 rfl) ?_
        refine lv_iadd hC.1 hC.2.1 dL_scenes_601 ?_
        obtain ⟨q58, h⟩ := h
        refine aL_23 hC hZ q58 dL_scenes_602 ?_
        exact t_L_scenes_603 (l := l) hst hC hr hag _ _ _ _ _ _ _ _ _ _ _ _ _ _ (by show _ ≤ (45 : Nat); omega) (by show _ ≤ (267 : Nat); omega) h hZ (lv_sub hl [1, 4, 5, 8, 0] rfl)
      · have h := h.2 c57
        refine lv_iconst (v := 1) hC.1 hC.2.1 dL_scenes_581 (by decide) ?_
        refine lv_iload hC.1 hC.2.1 dL_scenes_582 (lv_at hl 6 rfl) ?_
        refine lv_iadd hC.1 hC.2.1 dL_scenes_584 ?_
        refine lv_bipush (v := 8) hC.1 hC.2.1 dL_scenes_585 (by decide) ?_
        refine lv_iload hC.1 hC.2.1 dL_scenes_587 (lv_at hl 7 rfl) ?_
        refine lv_imul hC.1 hC.2.1 dL_scenes_589 ?_
        refine lv_iadd hC.1 hC.2.1 dL_scenes_590 ?_
        refine lv_goto (tgt := 603) hC.1 hC.2.1 dL_scenes_591 (by decide) ?_
        exact t_L_scenes_603 (l := l) hst hC hr hag _ _ _ _ _ _ _ _ _ _ _ _ _ _ (by show _ ≤ (45 : Nat); omega) (by show _ ≤ (267 : Nat); omega) h hZ (lv_sub hl [1, 4, 5, 8, 0] rfl)
    · have h := h.2 c54
      refine lv_iload hC.1 hC.2.1 dL_scenes_477 (lv_at hl 8 rfl) ?_
      refine lv_iload hC.1 hC.2.1 dL_scenes_479 (lv_at hl 3 rfl) ?_
      refine lv_icmp_ne (tgt := 488) hC.1 hC.2.1 dL_scenes_481 (by decide) (fun c74 => ?_) (fun c74 => ?_)
      · have h := h.1 c74
        refine lv_aload_n hC.1 hC.2.1 dL_scenes_488 rfl (lv_at hl 2 rfl) ?_
        refine lv_aload_n hC.1 hC.2.1 dL_scenes_489 rfl (lv_at hl 0 rfl) ?_
        refine lv_iload hC.1 hC.2.1 dL_scenes_490 (lv_at hl 8 rfl) ?_
        refine lv_iload hC.1 hC.2.1 dL_scenes_492 (lv_at hl 4 rfl) ?_
        refine z_cSi (As := [.ref (ad 23 0), .ref (ad 30 0), .int v11, .int v7]) hC hZ zy_L_use (c_L_use l hst h) km_L_128 rfl ⟨rfl, rfl⟩ ⟨Nat.le_of_ble_eq_true rfl, Nat.le_of_ble_eq_true rfl⟩ hl.1 rfl (Nat.le_of_ble_eq_true rfl) dL_scenes_494 ⟨by show _ ≤ (45 : Nat); omega, by show _ ≤ (267 : Nat); omega⟩ (fun r76 μ75 H locs h hZ => ?_)
        exact t_L_scenes_497 (l := l) hst hC hr hag _ _ hk469 _ _ _ _ _ _ _ _ _ _ _ _ _ (by show _ ≤ (45 : Nat); omega) (by show _ ≤ (267 : Nat); omega) h hZ (lv_sub hl [0, 1, 2, 3, 4, 5, 6, 7, 8] rfl)
      · have h := h.2 c74
        refine lv_iconst (v := 0) hC.1 hC.2.1 dL_scenes_484 (by decide) ?_
        refine lv_goto (tgt := 497) hC.1 hC.2.1 dL_scenes_485 (by decide) ?_
        exact t_L_scenes_497 (l := l) hst hC hr hag _ _ hk469 _ _ _ _ _ _ _ _ _ _ _ _ _ (by show _ ≤ (45 : Nat); omega) (by show _ ≤ (267 : Nat); omega) h hZ (lv_sub hl [0, 1, 2, 3, 4, 5, 6, 7, 8] rfl)
def b_L_scenes_436 (n np : Nat) (post : Int32 → Nat → Nat → Mem → Prop) (a4 : Int32) (a5 : Int32) (v5 : Int32) (v6 : Int32) (v7 : Int32) (μ : Mem) : Prop := (w_L_low n np (fun (r51 : Int32) (μ50 : Mem) => (w_L_low n np (fun (r53 : Int32) (μ52 : Mem) => (∃ fuel : Nat, fuel ≤ 11 ∧ l_L_scenes_469 n np post a4 a5 fuel v5 v7 r51 (r51 + r53) v6 (0 : Int32) μ52)) (a5 >>> (5 &&& 31)) (4 - r51) μ50)) (a5 >>> (3 &&& 31)) (4 : Int32) μ)
set_option maxRecDepth 100000 in
set_option maxHeartbeats 4000000 in
theorem t_L_scenes_436 {p : Program} {l : Launch} {e : Env} {s : State} {m : MethodId} {args : Array Value} {below : List Frame} {meth : Method} {c : Code} {D : va_G} {ca : Nat → ClassId} {base : Nat} {ad : Nat → Nat → Nat} {n np : Nat} {ad0 : Nat → Nat → Nat} {post : Int32 → Nat → Nat → Mem → Prop} (hst : l.stackTraces = false) (hC : ZC p m meth c s RL cL_scenes 13) (hr : meth.sig.returnType = (some FieldType.boolean)) (hag : zagr ad0 ad) (a4 : Int32) (a5 : Int32) (v5 : Int32) (v6 : Int32) (v7 : Int32) (cx dx : Nat) (μ : Mem) (H : Heap) (locs : List Loc) (ls : Array Slot) (hBc : cx + (27) ≤ 45) (hBs : dx + (162) ≤ 267) (h : b_L_scenes_436 n np post a4 a5 v5 v6 v7 μ) (hZ : ZS D ca base ad n np μ s H locs) (hl : lv_has ls 13 [(0, .ref (ad 30 0)), (1, .ref (ad 22 0)), (2, .ref (ad 23 0)), (4, .int a5), (5, .int v5), (6, .int v6), (7, .int v7)]) : W p l e ({ frames := 10, cells := 45, slots := 267, locals := 169 } : Room) s m args below meth c H locs cx dx (MQ below (ZQN D ca base ad0 post) args s 45 267 (zB base)) (F0 m 436 ls []) := by
  unfold b_L_scenes_436 at h
  refine lv_iload hC.1 hC.2.1 dL_scenes_436 (lv_at hl 3 rfl) ?_
  refine lv_iconst (v := 3) hC.1 hC.2.1 dL_scenes_438 (by decide) ?_
  refine lv_ishr hC.1 hC.2.1 dL_scenes_439 ?_
  refine lv_iconst (v := 4) hC.1 hC.2.1 dL_scenes_440 (by decide) ?_
  refine z_cSi (As := [.int (a5 >>> (3 &&& 31)), .int 4]) hC hZ zy_L_low (c_L_low l h) km_L_118 rfl ⟨rfl, rfl⟩ ⟨Nat.le_of_ble_eq_true rfl, Nat.le_of_ble_eq_true rfl⟩ hl.1 rfl (Nat.le_of_ble_eq_true rfl) dL_scenes_441 ⟨by show _ ≤ (45 : Nat); omega, by show _ ≤ (267 : Nat); omega⟩ (fun r51 μ50 H locs h hZ => ?_)
  refine lv_istore (lv' := [(8, .int r51), (0, .ref (ad 30 0)), (1, .ref (ad 22 0)), (2, .ref (ad 23 0)), (4, .int a5), (5, .int v5), (6, .int v6), (7, .int v7)]) hC.1 hC.2.1 dL_scenes_444 hl (by decide) rfl (fun ls hl => ?_)
  refine lv_iload hC.1 hC.2.1 dL_scenes_446 (lv_at hl 0 rfl) ?_
  refine lv_iload hC.1 hC.2.1 dL_scenes_448 (lv_at hl 4 rfl) ?_
  refine lv_iconst (v := 5) hC.1 hC.2.1 dL_scenes_450 (by decide) ?_
  refine lv_ishr hC.1 hC.2.1 dL_scenes_451 ?_
  refine lv_iconst (v := 4) hC.1 hC.2.1 dL_scenes_452 (by decide) ?_
  refine lv_iload hC.1 hC.2.1 dL_scenes_453 (lv_at hl 0 rfl) ?_
  refine lv_isub hC.1 hC.2.1 dL_scenes_455 ?_
  refine z_cSi (As := [.int (a5 >>> (5 &&& 31)), .int (4 - r51)]) hC hZ zy_L_low (c_L_low l h) km_L_118 rfl ⟨rfl, rfl⟩ ⟨Nat.le_of_ble_eq_true rfl, Nat.le_of_ble_eq_true rfl⟩ hl.1 rfl (Nat.le_of_ble_eq_true rfl) dL_scenes_456 ⟨by show _ ≤ (45 : Nat); omega, by show _ ≤ (267 : Nat); omega⟩ (fun r53 μ52 H locs h hZ => ?_)
  refine lv_iadd hC.1 hC.2.1 dL_scenes_459 ?_
  refine lv_istore (lv' := [(9, .int (r51 + r53)), (8, .int r51), (0, .ref (ad 30 0)), (1, .ref (ad 22 0)), (2, .ref (ad 23 0)), (4, .int a5), (5, .int v5), (6, .int v6), (7, .int v7)]) hC.1 hC.2.1 dL_scenes_460 hl (by decide) rfl (fun ls hl => ?_)
  refine lv_iload hC.1 hC.2.1 dL_scenes_462 (lv_at hl 7 rfl) ?_
  refine lv_istore (lv' := [(10, .int v6), (9, .int (r51 + r53)), (8, .int r51), (0, .ref (ad 30 0)), (1, .ref (ad 22 0)), (2, .ref (ad 23 0)), (4, .int a5), (5, .int v5), (6, .int v6), (7, .int v7)]) hC.1 hC.2.1 dL_scenes_464 hl (by decide) rfl (fun ls hl => ?_)
  refine lv_iconst (v := 0) hC.1 hC.2.1 dL_scenes_466 (by decide) ?_
  refine lv_istore (lv' := [(11, .int 0), (10, .int v6), (9, .int (r51 + r53)), (8, .int r51), (0, .ref (ad 30 0)), (1, .ref (ad 22 0)), (2, .ref (ad 23 0)), (4, .int a5), (5, .int v5), (6, .int v6), (7, .int v7)]) hC.1 hC.2.1 dL_scenes_467 hl (by decide) rfl (fun ls hl => ?_)
  obtain ⟨fuel, hfu, h⟩ := h
  exact t_L_scenes_469 (l := l) hst hC hr hag _ _ _ _ _ _ _ _ _ _ _ _ _ _ _ (by show _ ≤ (45 : Nat); omega) (by show _ ≤ (267 : Nat); omega) h hZ (lv_sub hl [4, 5, 6, 8, 10, 3, 2, 1, 0] rfl)
def b_L_scenes_415 (n np : Nat) (post : Int32 → Nat → Nat → Mem → Prop) (a4 : Int32) (a5 : Int32) (s0 : Int32) (s1 : Int32) (μ : Mem) : Prop := ((¬ s0 = s1 → post 0 n np μ) ∧ (s0 = s1 → (w_L_cut n np (fun (r99 : Int32) (μ98 : Mem) => ((¬ r99 = (-1000001) → post 0 n np μ98) ∧ (r99 = (-1000001) → post 1 n np μ98))) (μ 22 0 (0 : Int32).toNatClampNeg) μ)))
set_option maxRecDepth 100000 in
set_option maxHeartbeats 4000000 in
theorem t_L_scenes_415 {p : Program} {l : Launch} {e : Env} {s : State} {m : MethodId} {args : Array Value} {below : List Frame} {meth : Method} {c : Code} {D : va_G} {ca : Nat → ClassId} {base : Nat} {ad : Nat → Nat → Nat} {n np : Nat} {ad0 : Nat → Nat → Nat} {post : Int32 → Nat → Nat → Mem → Prop} (hst : l.stackTraces = false) (hC : ZC p m meth c s RL cL_scenes 13) (hr : meth.sig.returnType = (some FieldType.boolean)) (hag : zagr ad0 ad) (a4 : Int32) (a5 : Int32) (s0 : Int32) (s1 : Int32) (cx dx : Nat) (μ : Mem) (H : Heap) (locs : List Loc) (ls : Array Slot) (hBc : cx + (2) ≤ 45) (hBs : dx + (12) ≤ 267) (h : b_L_scenes_415 n np post a4 a5 s0 s1 μ) (hZ : ZS D ca base ad n np μ s H locs) (hl : lv_has ls 13 [(0, .ref (ad 30 0)), (1, .ref (ad 22 0))]) : W p l e ({ frames := 10, cells := 45, slots := 267, locals := 169 } : Room) s m args below meth c H locs cx dx (MQ below (ZQN D ca base ad0 post) args s 45 267 (zB base)) (F0 m 415 ls [.int s1, .int s0]) := by
  unfold b_L_scenes_415 at h
  refine lv_icmp_ne (tgt := 434) hC.1 hC.2.1 dL_scenes_415 (by decide) (fun c97 => ?_) (fun c97 => ?_)
  · have h := h.1 c97
    refine lv_iconst (v := 0) hC.1 hC.2.1 dL_scenes_434 (by decide) ?_
    exact z_nretb hC hr hZ hag (by decide) h dL_scenes_435 (by show _ ≤ (45 : Nat); omega) (by show _ ≤ (267 : Nat); omega)
  · have h := h.2 c97
    refine lv_aload_n hC.1 hC.2.1 dL_scenes_418 rfl (lv_at hl 0 rfl) ?_
    refine lv_aload_n hC.1 hC.2.1 dL_scenes_419 rfl (lv_at hl 1 rfl) ?_
    refine lv_iconst (v := 0) hC.1 hC.2.1 dL_scenes_420 (by decide) ?_
    refine aL_22 hC hZ (by unfold vp_in; decide) dL_scenes_421 ?_
    refine z_cWi (As := [.ref (ad 30 0), .int (μ 22 0 (0 : Int32).toNatClampNeg)]) hC hZ zy_L_cut (c_L_cut l hst h) km_L_126 rfl ⟨rfl, rfl⟩ ⟨Nat.le_of_ble_eq_true rfl, Nat.le_of_ble_eq_true rfl⟩ hl.1 rfl (Nat.le_of_ble_eq_true rfl) dL_scenes_422 ⟨by show _ ≤ (45 : Nat); omega, by show _ ≤ (267 : Nat); omega⟩ (fun r99 μ98 H locs h hZ => ?_)
    refine lv_ldc (v := (-1000001)) hC.1 hC.2.1 hC.2.2.2.1 (hZ.1.2.1.use _ kk_L_28 rfl) dL_scenes_425 ?_
    refine lv_icmp_ne (tgt := 434) hC.1 hC.2.1 dL_scenes_427 (by decide) (fun c100 => ?_) (fun c100 => ?_)
    · have h := h.1 c100
      refine lv_iconst (v := 0) hC.1 hC.2.1 dL_scenes_434 (by decide) ?_
      exact z_nretb hC hr hZ hag (by decide) h dL_scenes_435 (by show _ ≤ (45 : Nat); omega) (by show _ ≤ (267 : Nat); omega)
    · have h := h.2 c100
      refine lv_iconst (v := 1) hC.1 hC.2.1 dL_scenes_430 (by decide) ?_
      refine lv_goto (tgt := 435) hC.1 hC.2.1 dL_scenes_431 (by decide) ?_
      exact z_nretb hC hr hZ hag (by decide) h dL_scenes_435 (by show _ ≤ (45 : Nat); omega) (by show _ ≤ (267 : Nat); omega)
def b_L_scenes_384 (n np : Nat) (post : Int32 → Nat → Nat → Mem → Prop) (a4 : Int32) (a5 : Int32) (v5 : Int32) (v6 : Int32) (v8 : Int32) (s0 : Int32) (s1 : Int32) (μ : Mem) : Prop := ((¬ s0 = s1 → post 0 n np μ) ∧ (s0 = s1 → (w_L_cut n np (fun (r92 : Int32) (μ91 : Mem) => ((¬ r92 = (-1000003) → post 0 n np μ91) ∧ (r92 = (-1000003) → (w_L_dayOf n np (fun (r95 : Int32) (μ94 : Mem) => ((v6 = 0 → b_L_scenes_415 n np post a4 a5 r95 v8 μ94) ∧ (¬ v6 = 0 → b_L_scenes_415 n np post a4 a5 r95 (-1 : Int32) μ94))) v5 μ91)))) v5 μ)))
set_option maxRecDepth 100000 in
set_option maxHeartbeats 4000000 in
theorem t_L_scenes_384 {p : Program} {l : Launch} {e : Env} {s : State} {m : MethodId} {args : Array Value} {below : List Frame} {meth : Method} {c : Code} {D : va_G} {ca : Nat → ClassId} {base : Nat} {ad : Nat → Nat → Nat} {n np : Nat} {ad0 : Nat → Nat → Nat} {post : Int32 → Nat → Nat → Mem → Prop} (hst : l.stackTraces = false) (hC : ZC p m meth c s RL cL_scenes 13) (hr : meth.sig.returnType = (some FieldType.boolean)) (hag : zagr ad0 ad) (a4 : Int32) (a5 : Int32) (v5 : Int32) (v6 : Int32) (v8 : Int32) (s0 : Int32) (s1 : Int32) (cx dx : Nat) (μ : Mem) (H : Heap) (locs : List Loc) (ls : Array Slot) (hBc : cx + (5) ≤ 45) (hBs : dx + (30) ≤ 267) (h : b_L_scenes_384 n np post a4 a5 v5 v6 v8 s0 s1 μ) (hZ : ZS D ca base ad n np μ s H locs) (hl : lv_has ls 13 [(0, .ref (ad 30 0)), (1, .ref (ad 22 0)), (5, .int v5), (6, .int v6), (8, .int v8)]) : W p l e ({ frames := 10, cells := 45, slots := 267, locals := 169 } : Room) s m args below meth c H locs cx dx (MQ below (ZQN D ca base ad0 post) args s 45 267 (zB base)) (F0 m 384 ls [.int s1, .int s0]) := by
  unfold b_L_scenes_384 at h
  refine lv_icmp_ne (tgt := 434) hC.1 hC.2.1 dL_scenes_384 (by decide) (fun c90 => ?_) (fun c90 => ?_)
  · have h := h.1 c90
    refine lv_iconst (v := 0) hC.1 hC.2.1 dL_scenes_434 (by decide) ?_
    exact z_nretb hC hr hZ hag (by decide) h dL_scenes_435 (by show _ ≤ (45 : Nat); omega) (by show _ ≤ (267 : Nat); omega)
  · have h := h.2 c90
    refine lv_aload_n hC.1 hC.2.1 dL_scenes_387 rfl (lv_at hl 0 rfl) ?_
    refine lv_iload hC.1 hC.2.1 dL_scenes_388 (lv_at hl 2 rfl) ?_
    refine z_cWi (As := [.ref (ad 30 0), .int v5]) hC hZ zy_L_cut (c_L_cut l hst h) km_L_126 rfl ⟨rfl, rfl⟩ ⟨Nat.le_of_ble_eq_true rfl, Nat.le_of_ble_eq_true rfl⟩ hl.1 rfl (Nat.le_of_ble_eq_true rfl) dL_scenes_390 ⟨by show _ ≤ (45 : Nat); omega, by show _ ≤ (267 : Nat); omega⟩ (fun r92 μ91 H locs h hZ => ?_)
    refine lv_ldc (v := (-1000003)) hC.1 hC.2.1 hC.2.2.2.1 (hZ.1.2.1.use _ kk_L_21 rfl) dL_scenes_393 ?_
    refine lv_icmp_ne (tgt := 434) hC.1 hC.2.1 dL_scenes_395 (by decide) (fun c93 => ?_) (fun c93 => ?_)
    · have h := h.1 c93
      refine lv_iconst (v := 0) hC.1 hC.2.1 dL_scenes_434 (by decide) ?_
      exact z_nretb hC hr hZ hag (by decide) h dL_scenes_435 (by show _ ≤ (45 : Nat); omega) (by show _ ≤ (267 : Nat); omega)
    · have h := h.2 c93
      refine lv_aload_n hC.1 hC.2.1 dL_scenes_398 rfl (lv_at hl 0 rfl) ?_
      refine lv_iload hC.1 hC.2.1 dL_scenes_399 (lv_at hl 2 rfl) ?_
      refine z_cWi (As := [.ref (ad 30 0), .int v5]) hC hZ zy_L_dayOf (c_L_dayOf l hst h) km_L_92 rfl ⟨rfl, rfl⟩ ⟨Nat.le_of_ble_eq_true rfl, Nat.le_of_ble_eq_true rfl⟩ hl.1 rfl (Nat.le_of_ble_eq_true rfl) dL_scenes_401 ⟨by show _ ≤ (45 : Nat); omega, by show _ ≤ (267 : Nat); omega⟩ (fun r95 μ94 H locs h hZ => ?_)
      refine lv_iload hC.1 hC.2.1 dL_scenes_404 (lv_at hl 3 rfl) ?_
      refine lv_if_eq (tgt := 413) hC.1 hC.2.1 dL_scenes_406 (by decide) (fun c96 => ?_) (fun c96 => ?_)
      · have h := h.1 c96
        refine lv_iload hC.1 hC.2.1 dL_scenes_413 (lv_at hl 4 rfl) ?_
        exact t_L_scenes_415 (l := l) hst hC hr hag _ _ _ _ _ _ _ _ _ _ (by show _ ≤ (45 : Nat); omega) (by show _ ≤ (267 : Nat); omega) h hZ (lv_sub hl [0, 1] rfl)
      · have h := h.2 c96
        refine lv_iconst (v := (-1)) hC.1 hC.2.1 dL_scenes_409 (by decide) ?_
        refine lv_goto (tgt := 415) hC.1 hC.2.1 dL_scenes_410 (by decide) ?_
        exact t_L_scenes_415 (l := l) hst hC hr hag _ _ _ _ _ _ _ _ _ _ (by show _ ≤ (45 : Nat); omega) (by show _ ≤ (267 : Nat); omega) h hZ (lv_sub hl [0, 1] rfl)
def b_L_scenes_286 (n np : Nat) (post : Int32 → Nat → Nat → Mem → Prop) (a4 : Int32) (a5 : Int32) (v5 : Int32) (v7 : Int32) (μ : Mem) : Prop := (w_L_plays n np (fun (r108 : Int32) (μ107 : Mem) => ((¬ r108 = (-1000002) → post 0 n np μ107) ∧ (r108 = (-1000002) → (w_L_plays n np (fun (r111 : Int32) (μ110 : Mem) => ((¬ r111 = (-1000001) → post 0 n np μ110) ∧ (r111 = (-1000001) → (w_L_plays n np (fun (r114 : Int32) (μ113 : Mem) => ((¬ r114 = (-1000001) → post 0 n np μ113) ∧ (r114 = (-1000001) → post 1 n np μ113))) (μ110 22 0 (0 : Int32).toNatClampNeg) (0 : Int32) (99 : Int32) μ110)))) v5 (5 : Int32) (0 : Int32) μ107)))) v5 v7 (21 : Int32) μ)
set_option maxRecDepth 100000 in
set_option maxHeartbeats 4000000 in
theorem t_L_scenes_286 {p : Program} {l : Launch} {e : Env} {s : State} {m : MethodId} {args : Array Value} {below : List Frame} {meth : Method} {c : Code} {D : va_G} {ca : Nat → ClassId} {base : Nat} {ad : Nat → Nat → Nat} {n np : Nat} {ad0 : Nat → Nat → Nat} {post : Int32 → Nat → Nat → Mem → Prop} (hst : l.stackTraces = false) (hC : ZC p m meth c s RL cL_scenes 13) (hr : meth.sig.returnType = (some FieldType.boolean)) (hag : zagr ad0 ad) (a4 : Int32) (a5 : Int32) (v5 : Int32) (v7 : Int32) (cx dx : Nat) (μ : Mem) (H : Heap) (locs : List Loc) (ls : Array Slot) (hBc : cx + (9) ≤ 45) (hBs : dx + (54) ≤ 267) (h : b_L_scenes_286 n np post a4 a5 v5 v7 μ) (hZ : ZS D ca base ad n np μ s H locs) (hl : lv_has ls 13 [(0, .ref (ad 30 0)), (1, .ref (ad 22 0)), (5, .int v5), (7, .int v7)]) : W p l e ({ frames := 10, cells := 45, slots := 267, locals := 169 } : Room) s m args below meth c H locs cx dx (MQ below (ZQN D ca base ad0 post) args s 45 267 (zB base)) (F0 m 286 ls []) := by
  unfold b_L_scenes_286 at h
  refine lv_aload_n hC.1 hC.2.1 dL_scenes_286 rfl (lv_at hl 0 rfl) ?_
  refine lv_iload hC.1 hC.2.1 dL_scenes_287 (lv_at hl 2 rfl) ?_
  refine lv_iload hC.1 hC.2.1 dL_scenes_289 (lv_at hl 3 rfl) ?_
  refine lv_bipush (v := 21) hC.1 hC.2.1 dL_scenes_291 (by decide) ?_
  refine z_cWi (As := [.ref (ad 30 0), .int v5, .int v7, .int 21]) hC hZ zy_L_plays (c_L_plays l hst h) km_L_123 rfl ⟨rfl, rfl⟩ ⟨Nat.le_of_ble_eq_true rfl, Nat.le_of_ble_eq_true rfl⟩ hl.1 rfl (Nat.le_of_ble_eq_true rfl) dL_scenes_293 ⟨by show _ ≤ (45 : Nat); omega, by show _ ≤ (267 : Nat); omega⟩ (fun r108 μ107 H locs h hZ => ?_)
  refine lv_ldc (v := (-1000002)) hC.1 hC.2.1 hC.2.2.2.1 (hZ.1.2.1.use _ kk_L_18 rfl) dL_scenes_296 ?_
  refine lv_icmp_ne (tgt := 333) hC.1 hC.2.1 dL_scenes_298 (by decide) (fun c109 => ?_) (fun c109 => ?_)
  · have h := h.1 c109
    refine lv_iconst (v := 0) hC.1 hC.2.1 dL_scenes_333 (by decide) ?_
    exact z_nretb hC hr hZ hag (by decide) h dL_scenes_334 (by show _ ≤ (45 : Nat); omega) (by show _ ≤ (267 : Nat); omega)
  · have h := h.2 c109
    refine lv_aload_n hC.1 hC.2.1 dL_scenes_301 rfl (lv_at hl 0 rfl) ?_
    refine lv_iload hC.1 hC.2.1 dL_scenes_302 (lv_at hl 2 rfl) ?_
    refine lv_iconst (v := 5) hC.1 hC.2.1 dL_scenes_304 (by decide) ?_
    refine lv_iconst (v := 0) hC.1 hC.2.1 dL_scenes_305 (by decide) ?_
    refine z_cWi (As := [.ref (ad 30 0), .int v5, .int 5, .int 0]) hC hZ zy_L_plays (c_L_plays l hst h) km_L_123 rfl ⟨rfl, rfl⟩ ⟨Nat.le_of_ble_eq_true rfl, Nat.le_of_ble_eq_true rfl⟩ hl.1 rfl (Nat.le_of_ble_eq_true rfl) dL_scenes_306 ⟨by show _ ≤ (45 : Nat); omega, by show _ ≤ (267 : Nat); omega⟩ (fun r111 μ110 H locs h hZ => ?_)
    refine lv_ldc (v := (-1000001)) hC.1 hC.2.1 hC.2.2.2.1 (hZ.1.2.1.use _ kk_L_28 rfl) dL_scenes_309 ?_
    refine lv_icmp_ne (tgt := 333) hC.1 hC.2.1 dL_scenes_311 (by decide) (fun c112 => ?_) (fun c112 => ?_)
    · have h := h.1 c112
      refine lv_iconst (v := 0) hC.1 hC.2.1 dL_scenes_333 (by decide) ?_
      exact z_nretb hC hr hZ hag (by decide) h dL_scenes_334 (by show _ ≤ (45 : Nat); omega) (by show _ ≤ (267 : Nat); omega)
    · have h := h.2 c112
      refine lv_aload_n hC.1 hC.2.1 dL_scenes_314 rfl (lv_at hl 0 rfl) ?_
      refine lv_aload_n hC.1 hC.2.1 dL_scenes_315 rfl (lv_at hl 1 rfl) ?_
      refine lv_iconst (v := 0) hC.1 hC.2.1 dL_scenes_316 (by decide) ?_
      refine aL_22 hC hZ (by unfold vp_in; decide) dL_scenes_317 ?_
      refine lv_iconst (v := 0) hC.1 hC.2.1 dL_scenes_318 (by decide) ?_
      refine lv_bipush (v := 99) hC.1 hC.2.1 dL_scenes_319 (by decide) ?_
      refine z_cWi (As := [.ref (ad 30 0), .int (μ110 22 0 (0 : Int32).toNatClampNeg), .int 0, .int 99]) hC hZ zy_L_plays (c_L_plays l hst h) km_L_123 rfl ⟨rfl, rfl⟩ ⟨Nat.le_of_ble_eq_true rfl, Nat.le_of_ble_eq_true rfl⟩ hl.1 rfl (Nat.le_of_ble_eq_true rfl) dL_scenes_321 ⟨by show _ ≤ (45 : Nat); omega, by show _ ≤ (267 : Nat); omega⟩ (fun r114 μ113 H locs h hZ => ?_)
      refine lv_ldc (v := (-1000001)) hC.1 hC.2.1 hC.2.2.2.1 (hZ.1.2.1.use _ kk_L_28 rfl) dL_scenes_324 ?_
      refine lv_icmp_ne (tgt := 333) hC.1 hC.2.1 dL_scenes_326 (by decide) (fun c115 => ?_) (fun c115 => ?_)
      · have h := h.1 c115
        refine lv_iconst (v := 0) hC.1 hC.2.1 dL_scenes_333 (by decide) ?_
        exact z_nretb hC hr hZ hag (by decide) h dL_scenes_334 (by show _ ≤ (45 : Nat); omega) (by show _ ≤ (267 : Nat); omega)
      · have h := h.2 c115
        refine lv_iconst (v := 1) hC.1 hC.2.1 dL_scenes_329 (by decide) ?_
        refine lv_goto (tgt := 334) hC.1 hC.2.1 dL_scenes_330 (by decide) ?_
        exact z_nretb hC hr hZ hag (by decide) h dL_scenes_334 (by show _ ≤ (45 : Nat); omega) (by show _ ≤ (267 : Nat); omega)
def b_L_scenes_217 (n np : Nat) (post : Int32 → Nat → Nat → Mem → Prop) (a4 : Int32) (a5 : Int32) (v5 : Int32) (s0 : Int32) (μ : Mem) : Prop := (w_L_low n np (fun (r43 : Int32) (μ42 : Mem) => (w_L_low n np (fun (r45 : Int32) (μ44 : Mem) => ((¬ r45 = 0 → (w_L_low n np (fun (r48 : Int32) (μ47 : Mem) => ((¬ r48 = 1 → b_L_scenes_436 n np post a4 a5 v5 s0 r43 μ47) ∧ (r48 = 1 → (w_L_low n np (fun (r83 : Int32) (μ82 : Mem) => ((¬ r83 = 0 → b_L_scenes_436 n np post a4 a5 v5 s0 r43 μ82) ∧ (r83 = 0 → (w_L_dayOf n np (fun (r86 : Int32) (μ85 : Mem) => (w_L_cut n np (fun (r88 : Int32) (μ87 : Mem) => ((s0 = 0 → b_L_scenes_384 n np post a4 a5 v5 s0 r86 r88 (-1000003 : Int32) μ87) ∧ (¬ s0 = 0 → b_L_scenes_384 n np post a4 a5 v5 s0 r86 r88 r86 μ87))) v5 μ85)) v5 μ82)))) (a4 >>> (9 &&& 31)) (5 : Int32) μ47)))) (a4 >>> (7 &&& 31)) (3 : Int32) μ44)) ∧ (r45 = 0 → (w_L_low n np (fun (r102 : Int32) (μ101 : Mem) => (w_L_plays n np (fun (r104 : Int32) (μ103 : Mem) => ((s0 = 0 → ((¬ r104 = (-1000003) → post 0 n np μ103) ∧ (r104 = (-1000003) → b_L_scenes_286 n np post a4 a5 v5 r43 μ103))) ∧ (¬ s0 = 0 → ((r104 < 1 → post 0 n np μ103) ∧ (¬ r104 < 1 → ((5 < r104 → post 0 n np μ103) ∧ (¬ 5 < r104 → b_L_scenes_286 n np post a4 a5 v5 r43 μ103))))))) v5 r43 (r102 - 1) μ101)) (a5 >>> (3 &&& 31)) (22 : Int32) μ44)))) (a4 >>> (7 &&& 31)) (3 : Int32) μ42)) a5 (5 : Int32) μ)
set_option maxRecDepth 100000 in
set_option maxHeartbeats 4000000 in
theorem t_L_scenes_217 {p : Program} {l : Launch} {e : Env} {s : State} {m : MethodId} {args : Array Value} {below : List Frame} {meth : Method} {c : Code} {D : va_G} {ca : Nat → ClassId} {base : Nat} {ad : Nat → Nat → Nat} {n np : Nat} {ad0 : Nat → Nat → Nat} {post : Int32 → Nat → Nat → Mem → Prop} (hst : l.stackTraces = false) (hC : ZC p m meth c s RL cL_scenes 13) (hr : meth.sig.returnType = (some FieldType.boolean)) (hag : zagr ad0 ad) (a4 : Int32) (a5 : Int32) (v5 : Int32) (s0 : Int32) (cx dx : Nat) (μ : Mem) (H : Heap) (locs : List Loc) (ls : Array Slot) (hBc : cx + (27) ≤ 45) (hBs : dx + (162) ≤ 267) (h : b_L_scenes_217 n np post a4 a5 v5 s0 μ) (hZ : ZS D ca base ad n np μ s H locs) (hl : lv_has ls 13 [(0, .ref (ad 30 0)), (1, .ref (ad 22 0)), (2, .ref (ad 23 0)), (3, .int a4), (4, .int a5), (5, .int v5)]) : W p l e ({ frames := 10, cells := 45, slots := 267, locals := 169 } : Room) s m args below meth c H locs cx dx (MQ below (ZQN D ca base ad0 post) args s 45 267 (zB base)) (F0 m 217 ls [.int s0]) := by
  unfold b_L_scenes_217 at h
  refine lv_istore (lv' := [(6, .int s0), (0, .ref (ad 30 0)), (1, .ref (ad 22 0)), (2, .ref (ad 23 0)), (3, .int a4), (4, .int a5), (5, .int v5)]) hC.1 hC.2.1 dL_scenes_217 hl (by decide) rfl (fun ls hl => ?_)
  refine lv_iload hC.1 hC.2.1 dL_scenes_219 (lv_at hl 5 rfl) ?_
  refine lv_iconst (v := 5) hC.1 hC.2.1 dL_scenes_221 (by decide) ?_
  refine z_cSi (As := [.int a5, .int 5]) hC hZ zy_L_low (c_L_low l h) km_L_118 rfl ⟨rfl, rfl⟩ ⟨Nat.le_of_ble_eq_true rfl, Nat.le_of_ble_eq_true rfl⟩ hl.1 rfl (Nat.le_of_ble_eq_true rfl) dL_scenes_222 ⟨by show _ ≤ (45 : Nat); omega, by show _ ≤ (267 : Nat); omega⟩ (fun r43 μ42 H locs h hZ => ?_)
  refine lv_istore (lv' := [(7, .int r43), (6, .int s0), (0, .ref (ad 30 0)), (1, .ref (ad 22 0)), (2, .ref (ad 23 0)), (3, .int a4), (4, .int a5), (5, .int v5)]) hC.1 hC.2.1 dL_scenes_225 hl (by decide) rfl (fun ls hl => ?_)
  refine lv_iload_n hC.1 hC.2.1 dL_scenes_227 rfl (lv_at hl 5 rfl) ?_
  refine lv_bipush (v := 7) hC.1 hC.2.1 dL_scenes_228 (by decide) ?_
  refine lv_ishr hC.1 hC.2.1 dL_scenes_230 ?_
  refine lv_iconst (v := 3) hC.1 hC.2.1 dL_scenes_231 (by decide) ?_
  refine z_cSi (As := [.int (a4 >>> (7 &&& 31)), .int 3]) hC hZ zy_L_low (c_L_low l h) km_L_118 rfl ⟨rfl, rfl⟩ ⟨Nat.le_of_ble_eq_true rfl, Nat.le_of_ble_eq_true rfl⟩ hl.1 rfl (Nat.le_of_ble_eq_true rfl) dL_scenes_232 ⟨by show _ ≤ (45 : Nat); omega, by show _ ≤ (267 : Nat); omega⟩ (fun r45 μ44 H locs h hZ => ?_)
  refine lv_if_ne (tgt := 335) hC.1 hC.2.1 dL_scenes_235 (by decide) (fun c46 => ?_) (fun c46 => ?_)
  · have h := h.1 c46
    refine lv_iload_n hC.1 hC.2.1 dL_scenes_335 rfl (lv_at hl 5 rfl) ?_
    refine lv_bipush (v := 7) hC.1 hC.2.1 dL_scenes_336 (by decide) ?_
    refine lv_ishr hC.1 hC.2.1 dL_scenes_338 ?_
    refine lv_iconst (v := 3) hC.1 hC.2.1 dL_scenes_339 (by decide) ?_
    refine z_cSi (As := [.int (a4 >>> (7 &&& 31)), .int 3]) hC hZ zy_L_low (c_L_low l h) km_L_118 rfl ⟨rfl, rfl⟩ ⟨Nat.le_of_ble_eq_true rfl, Nat.le_of_ble_eq_true rfl⟩ hl.1 rfl (Nat.le_of_ble_eq_true rfl) dL_scenes_340 ⟨by show _ ≤ (45 : Nat); omega, by show _ ≤ (267 : Nat); omega⟩ (fun r48 μ47 H locs h hZ => ?_)
    refine lv_iconst (v := 1) hC.1 hC.2.1 dL_scenes_343 (by decide) ?_
    refine lv_icmp_ne (tgt := 436) hC.1 hC.2.1 dL_scenes_344 (by decide) (fun c49 => ?_) (fun c49 => ?_)
    · have h := h.1 c49
      exact t_L_scenes_436 (l := l) hst hC hr hag _ _ _ _ _ _ _ _ _ _ _ (by show _ ≤ (45 : Nat); omega) (by show _ ≤ (267 : Nat); omega) h hZ (lv_sub hl [2, 3, 4, 6, 7, 1, 0] rfl)
    · have h := h.2 c49
      refine lv_iload_n hC.1 hC.2.1 dL_scenes_347 rfl (lv_at hl 5 rfl) ?_
      refine lv_bipush (v := 9) hC.1 hC.2.1 dL_scenes_348 (by decide) ?_
      refine lv_ishr hC.1 hC.2.1 dL_scenes_350 ?_
      refine lv_iconst (v := 5) hC.1 hC.2.1 dL_scenes_351 (by decide) ?_
      refine z_cSi (As := [.int (a4 >>> (9 &&& 31)), .int 5]) hC hZ zy_L_low (c_L_low l h) km_L_118 rfl ⟨rfl, rfl⟩ ⟨Nat.le_of_ble_eq_true rfl, Nat.le_of_ble_eq_true rfl⟩ hl.1 rfl (Nat.le_of_ble_eq_true rfl) dL_scenes_352 ⟨by show _ ≤ (45 : Nat); omega, by show _ ≤ (267 : Nat); omega⟩ (fun r83 μ82 H locs h hZ => ?_)
      refine lv_if_ne (tgt := 436) hC.1 hC.2.1 dL_scenes_355 (by decide) (fun c84 => ?_) (fun c84 => ?_)
      · have h := h.1 c84
        exact t_L_scenes_436 (l := l) hst hC hr hag _ _ _ _ _ _ _ _ _ _ _ (by show _ ≤ (45 : Nat); omega) (by show _ ≤ (267 : Nat); omega) h hZ (lv_sub hl [2, 3, 4, 6, 7, 1, 0] rfl)
      · have h := h.2 c84
        refine lv_aload_n hC.1 hC.2.1 dL_scenes_358 rfl (lv_at hl 2 rfl) ?_
        refine lv_iload hC.1 hC.2.1 dL_scenes_359 (lv_at hl 7 rfl) ?_
        refine z_cWi (As := [.ref (ad 30 0), .int v5]) hC hZ zy_L_dayOf (c_L_dayOf l hst h) km_L_92 rfl ⟨rfl, rfl⟩ ⟨Nat.le_of_ble_eq_true rfl, Nat.le_of_ble_eq_true rfl⟩ hl.1 rfl (Nat.le_of_ble_eq_true rfl) dL_scenes_361 ⟨by show _ ≤ (45 : Nat); omega, by show _ ≤ (267 : Nat); omega⟩ (fun r86 μ85 H locs h hZ => ?_)
        refine lv_istore (lv' := [(8, .int r86), (7, .int r43), (6, .int s0), (0, .ref (ad 30 0)), (1, .ref (ad 22 0)), (2, .ref (ad 23 0)), (3, .int a4), (4, .int a5), (5, .int v5)]) hC.1 hC.2.1 dL_scenes_364 hl (by decide) rfl (fun ls hl => ?_)
        refine lv_aload_n hC.1 hC.2.1 dL_scenes_366 rfl (lv_at hl 3 rfl) ?_
        refine lv_iload hC.1 hC.2.1 dL_scenes_367 (lv_at hl 8 rfl) ?_
        refine z_cWi (As := [.ref (ad 30 0), .int v5]) hC hZ zy_L_cut (c_L_cut l hst h) km_L_126 rfl ⟨rfl, rfl⟩ ⟨Nat.le_of_ble_eq_true rfl, Nat.le_of_ble_eq_true rfl⟩ hl.1 rfl (Nat.le_of_ble_eq_true rfl) dL_scenes_369 ⟨by show _ ≤ (45 : Nat); omega, by show _ ≤ (267 : Nat); omega⟩ (fun r88 μ87 H locs h hZ => ?_)
        refine lv_iload hC.1 hC.2.1 dL_scenes_372 (lv_at hl 2 rfl) ?_
        refine lv_if_eq (tgt := 382) hC.1 hC.2.1 dL_scenes_374 (by decide) (fun c89 => ?_) (fun c89 => ?_)
        · have h := h.1 c89
          refine lv_ldc (v := (-1000003)) hC.1 hC.2.1 hC.2.2.2.1 (hZ.1.2.1.use _ kk_L_21 rfl) dL_scenes_382 ?_
          exact t_L_scenes_384 (l := l) hst hC hr hag _ _ _ _ _ _ _ _ _ _ _ _ _ (by show _ ≤ (45 : Nat); omega) (by show _ ≤ (267 : Nat); omega) h hZ (lv_sub hl [3, 4, 8, 2, 0] rfl)
        · have h := h.2 c89
          refine lv_iload hC.1 hC.2.1 dL_scenes_377 (lv_at hl 0 rfl) ?_
          refine lv_goto (tgt := 384) hC.1 hC.2.1 dL_scenes_379 (by decide) ?_
          exact t_L_scenes_384 (l := l) hst hC hr hag _ _ _ _ _ _ _ _ _ _ _ _ _ (by show _ ≤ (45 : Nat); omega) (by show _ ≤ (267 : Nat); omega) h hZ (lv_sub hl [3, 4, 8, 2, 0] rfl)
  · have h := h.2 c46
    refine lv_aload_n hC.1 hC.2.1 dL_scenes_238 rfl (lv_at hl 2 rfl) ?_
    refine lv_iload hC.1 hC.2.1 dL_scenes_239 (lv_at hl 7 rfl) ?_
    refine lv_iload hC.1 hC.2.1 dL_scenes_241 (lv_at hl 0 rfl) ?_
    refine lv_iload hC.1 hC.2.1 dL_scenes_243 (lv_at hl 6 rfl) ?_
    refine lv_iconst (v := 3) hC.1 hC.2.1 dL_scenes_245 (by decide) ?_
    refine lv_ishr hC.1 hC.2.1 dL_scenes_246 ?_
    refine lv_bipush (v := 22) hC.1 hC.2.1 dL_scenes_247 (by decide) ?_
    refine z_cSi (As := [.int (a5 >>> (3 &&& 31)), .int 22]) hC hZ zy_L_low (c_L_low l h) km_L_118 rfl ⟨rfl, rfl⟩ ⟨Nat.le_of_ble_eq_true rfl, Nat.le_of_ble_eq_true rfl⟩ hl.1 rfl (Nat.le_of_ble_eq_true rfl) dL_scenes_249 ⟨by show _ ≤ (45 : Nat); omega, by show _ ≤ (267 : Nat); omega⟩ (fun r102 μ101 H locs h hZ => ?_)
    refine lv_iconst (v := 1) hC.1 hC.2.1 dL_scenes_252 (by decide) ?_
    refine lv_isub hC.1 hC.2.1 dL_scenes_253 ?_
    refine z_cWi (As := [.ref (ad 30 0), .int v5, .int r43, .int (r102 - 1)]) hC hZ zy_L_plays (c_L_plays l hst h) km_L_123 rfl ⟨rfl, rfl⟩ ⟨Nat.le_of_ble_eq_true rfl, Nat.le_of_ble_eq_true rfl⟩ hl.1 rfl (Nat.le_of_ble_eq_true rfl) dL_scenes_254 ⟨by show _ ≤ (45 : Nat); omega, by show _ ≤ (267 : Nat); omega⟩ (fun r104 μ103 H locs h hZ => ?_)
    refine lv_istore (lv' := [(8, .int r104), (7, .int r43), (6, .int s0), (0, .ref (ad 30 0)), (1, .ref (ad 22 0)), (2, .ref (ad 23 0)), (3, .int a4), (4, .int a5), (5, .int v5)]) hC.1 hC.2.1 dL_scenes_257 hl (by decide) rfl (fun ls hl => ?_)
    refine lv_iload hC.1 hC.2.1 dL_scenes_259 (lv_at hl 2 rfl) ?_
    refine lv_if_eq (tgt := 279) hC.1 hC.2.1 dL_scenes_261 (by decide) (fun c105 => ?_) (fun c105 => ?_)
    · have h := h.1 c105
      refine lv_iload hC.1 hC.2.1 dL_scenes_279 (lv_at hl 0 rfl) ?_
      refine lv_ldc (v := (-1000003)) hC.1 hC.2.1 hC.2.2.2.1 (hZ.1.2.1.use _ kk_L_21 rfl) dL_scenes_281 ?_
      refine lv_icmp_ne (tgt := 333) hC.1 hC.2.1 dL_scenes_283 (by decide) (fun c106 => ?_) (fun c106 => ?_)
      · have h := h.1 c106
        refine lv_iconst (v := 0) hC.1 hC.2.1 dL_scenes_333 (by decide) ?_
        exact z_nretb hC hr hZ hag (by decide) h dL_scenes_334 (by show _ ≤ (45 : Nat); omega) (by show _ ≤ (267 : Nat); omega)
      · have h := h.2 c106
        exact t_L_scenes_286 (l := l) hst hC hr hag _ _ _ _ _ _ _ _ _ _ (by show _ ≤ (45 : Nat); omega) (by show _ ≤ (267 : Nat); omega) h hZ (lv_sub hl [3, 4, 8, 1] rfl)
    · have h := h.2 c105
      refine lv_iload hC.1 hC.2.1 dL_scenes_264 (lv_at hl 0 rfl) ?_
      refine lv_iconst (v := 1) hC.1 hC.2.1 dL_scenes_266 (by decide) ?_
      refine lv_icmp_lt (tgt := 333) hC.1 hC.2.1 dL_scenes_267 (by decide) (fun c116 => ?_) (fun c116 => ?_)
      · have h := h.1 c116
        refine lv_iconst (v := 0) hC.1 hC.2.1 dL_scenes_333 (by decide) ?_
        exact z_nretb hC hr hZ hag (by decide) h dL_scenes_334 (by show _ ≤ (45 : Nat); omega) (by show _ ≤ (267 : Nat); omega)
      · have h := h.2 c116
        refine lv_iload hC.1 hC.2.1 dL_scenes_270 (lv_at hl 0 rfl) ?_
        refine lv_iconst (v := 5) hC.1 hC.2.1 dL_scenes_272 (by decide) ?_
        refine lv_icmp_gt (tgt := 333) hC.1 hC.2.1 dL_scenes_273 (by decide) (fun c117 => ?_) (fun c117 => ?_)
        · have h := h.1 c117
          refine lv_iconst (v := 0) hC.1 hC.2.1 dL_scenes_333 (by decide) ?_
          exact z_nretb hC hr hZ hag (by decide) h dL_scenes_334 (by show _ ≤ (45 : Nat); omega) (by show _ ≤ (267 : Nat); omega)
        · have h := h.2 c117
          refine lv_goto (tgt := 286) hC.1 hC.2.1 dL_scenes_276 (by decide) ?_
          exact t_L_scenes_286 (l := l) hst hC hr hag _ _ _ _ _ _ _ _ _ _ (by show _ ≤ (45 : Nat); omega) (by show _ ≤ (267 : Nat); omega) h hZ (lv_sub hl [3, 4, 8, 1] rfl)
def w_L_scenes (n np : Nat) (post : Int32 → Nat → Nat → Mem → Prop) (a4 : Int32) (a5 : Int32) (μ : Mem) : Prop := (((μ 22 0 (0 : Int32).toNatClampNeg) < 2 → b_L_scenes_15 n np post a4 a5 μ) ∧ (¬ (μ 22 0 (0 : Int32).toNatClampNeg) < 2 → (w_L_low n np (fun (r35 : Int32) (μ34 : Mem) => ((¬ r35 = 0 → (w_L_low n np (fun (r38 : Int32) (μ37 : Mem) => (w_L_stateOf n np (fun (r40 : Int32) (μ39 : Mem) => ((¬ r40 = 0 → b_L_scenes_217 n np post a4 a5 r38 (0 : Int32) μ39) ∧ (r40 = 0 → b_L_scenes_217 n np post a4 a5 r38 (1 : Int32) μ39))) r38 μ37)) (a4 >>> (3 &&& 31)) (μ34 22 0 (0 : Int32).toNatClampNeg) μ34)) ∧ (r35 = 0 → b_L_scenes_15 n np post a4 a5 μ34))) a4 (5 : Int32) μ)))
set_option maxRecDepth 100000 in
set_option maxHeartbeats 4000000 in
theorem c_L_scenes (l : Launch) (hst : l.stackTraces = false) {D : va_G} {ca : Nat → ClassId} {base : Nat} {ad : Nat → Nat → Nat} {n np : Nat} {μ : Mem} {post : Int32 → Nat → Nat → Mem → Prop} {a4 : Int32} {a5 : Int32} (h : w_L_scenes n np post a4 a5 μ) : ZGMet l yL_scenes cL_scenes 13 (some FieldType.boolean) ({ frames := 10, cells := 45, slots := 267, locals := 169 } : Room) 45 267 D ca base ad n np [.ref (ad 30 0), .ref (ad 22 0), .ref (ad 23 0), .int a4, .int a5] μ (post) := by
  unfold ZGMet
  refine Met.ofW (cc := cL_scenes) (maxL := 13) (ret := (some FieldType.boolean)) (by decide) rfl ?_
  intro p e s m args below meth c s₁ B hml hv
  obtain ⟨rfl, hU⟩ := hv
  have hZ := hU.toS
  have hC : ZC p m meth c s RL cL_scenes 13 := ⟨B.exec, B.bytes, hml, findClass_of_methodNamed B.named, B.notSynchronized⟩
  have hr := B.returns
  have hag := zagr_rf ad
  have key : W p l e ({ frames := 10, cells := 45, slots := 267, locals := 169 } : Room) s m (([.ref (ad 30 0), .ref (ad 22 0), .ref (ad 23 0), .int a4, .int a5] : List Value).toArray) below meth c s.heap [] 0 0 (MQ below (ZQN D ca base ad post) (([.ref (ad 30 0), .ref (ad 22 0), .ref (ad 23 0), .int a4, .int a5] : List Value).toArray) s 45 267 (zB base)) (entryFrame m (([.ref (ad 30 0), .ref (ad 22 0), .ref (ad 23 0), .int a4, .int a5] : List Value).toArray) 13) := by
    have hl := lv_entry ([.ref (ad 30 0), .ref (ad 22 0), .ref (ad 23 0), .int a4, .int a5]) (n := 13) (Nat.le_of_ble_eq_true rfl)
    rw [lg_entry_eq]
    generalize (lg_sl ([.ref (ad 30 0), .ref (ad 22 0), .ref (ad 23 0), .int a4, .int a5]) ++ List.replicate (13 - (lg_sl ([.ref (ad 30 0), .ref (ad 22 0), .ref (ad 23 0), .int a4, .int a5])).length) Slot.unset).toArray = ls at hl ⊢
    have hl : lv_has ls 13 [(0, .ref (ad 30 0)), (1, .ref (ad 22 0)), (2, .ref (ad 23 0)), (3, .int a4), (4, .int a5)] := hl
    unfold w_L_scenes at h
    refine lv_aload_n hC.1 hC.2.1 dL_scenes_0 rfl (lv_at hl 1 rfl) ?_
    refine lv_iconst (v := 0) hC.1 hC.2.1 dL_scenes_1 (by decide) ?_
    refine aL_22 hC hZ (by unfold vp_in; decide) dL_scenes_2 ?_
    refine lv_iconst (v := 2) hC.1 hC.2.1 dL_scenes_3 (by decide) ?_
    refine lv_icmp_lt (tgt := 15) hC.1 hC.2.1 dL_scenes_4 (by decide) (fun c1 => ?_) (fun c1 => ?_)
    · have h := h.1 c1
      exact t_L_scenes_15 (l := l) hst hC hr hag _ _  _ _ _ _ _ _ (by show _ ≤ (45 : Nat); omega) (by show _ ≤ (267 : Nat); omega) h hZ (lv_sub hl [0, 1, 4] rfl)
    · have h := h.2 c1
      refine lv_iload_n hC.1 hC.2.1 dL_scenes_7 rfl (lv_at hl 3 rfl) ?_
      refine lv_iconst (v := 5) hC.1 hC.2.1 dL_scenes_8 (by decide) ?_
      refine z_cSi (As := [.int a4, .int 5]) hC hZ zy_L_low (c_L_low l h) km_L_118 rfl ⟨rfl, rfl⟩ ⟨Nat.le_of_ble_eq_true rfl, Nat.le_of_ble_eq_true rfl⟩ hl.1 rfl (Nat.le_of_ble_eq_true rfl) dL_scenes_9 ⟨by show _ ≤ (45 : Nat); omega, by show _ ≤ (267 : Nat); omega⟩ (fun r35 μ34 H locs h hZ => ?_)
      refine lv_if_ne (tgt := 192) hC.1 hC.2.1 dL_scenes_12 (by decide) (fun c36 => ?_) (fun c36 => ?_)
      · have h := h.1 c36
        refine lv_iload_n hC.1 hC.2.1 dL_scenes_192 rfl (lv_at hl 3 rfl) ?_
        refine lv_iconst (v := 3) hC.1 hC.2.1 dL_scenes_193 (by decide) ?_
        refine lv_ishr hC.1 hC.2.1 dL_scenes_194 ?_
        refine lv_aload_n hC.1 hC.2.1 dL_scenes_195 rfl (lv_at hl 1 rfl) ?_
        refine lv_iconst (v := 0) hC.1 hC.2.1 dL_scenes_196 (by decide) ?_
        refine aL_22 hC hZ (by unfold vp_in; decide) dL_scenes_197 ?_
        refine z_cSi (As := [.int (a4 >>> (3 &&& 31)), .int (μ34 22 0 (0 : Int32).toNatClampNeg)]) hC hZ zy_L_low (c_L_low l h) km_L_118 rfl ⟨rfl, rfl⟩ ⟨Nat.le_of_ble_eq_true rfl, Nat.le_of_ble_eq_true rfl⟩ hl.1 rfl (Nat.le_of_ble_eq_true rfl) dL_scenes_198 ⟨by show _ ≤ (45 : Nat); omega, by show _ ≤ (267 : Nat); omega⟩ (fun r38 μ37 H locs h hZ => ?_)
        refine lv_istore (lv' := [(5, .int r38), (0, .ref (ad 30 0)), (1, .ref (ad 22 0)), (2, .ref (ad 23 0)), (3, .int a4), (4, .int a5)]) hC.1 hC.2.1 dL_scenes_201 hl (by decide) rfl (fun ls hl => ?_)
        refine lv_aload_n hC.1 hC.2.1 dL_scenes_203 rfl (lv_at hl 1 rfl) ?_
        refine lv_iload hC.1 hC.2.1 dL_scenes_204 (lv_at hl 0 rfl) ?_
        refine z_cWi (As := [.ref (ad 30 0), .int r38]) hC hZ zy_L_stateOf (c_L_stateOf l hst h) km_L_90 rfl ⟨rfl, rfl⟩ ⟨Nat.le_of_ble_eq_true rfl, Nat.le_of_ble_eq_true rfl⟩ hl.1 rfl (Nat.le_of_ble_eq_true rfl) dL_scenes_206 ⟨by show _ ≤ (45 : Nat); omega, by show _ ≤ (267 : Nat); omega⟩ (fun r40 μ39 H locs h hZ => ?_)
        refine lv_if_ne (tgt := 216) hC.1 hC.2.1 dL_scenes_209 (by decide) (fun c41 => ?_) (fun c41 => ?_)
        · have h := h.1 c41
          refine lv_iconst (v := 0) hC.1 hC.2.1 dL_scenes_216 (by decide) ?_
          exact t_L_scenes_217 (l := l) hst hC hr hag _ _ _ _ _ _ _ _ _ _ (by show _ ≤ (45 : Nat); omega) (by show _ ≤ (267 : Nat); omega) h hZ (lv_sub hl [1, 2, 3, 4, 5, 0] rfl)
        · have h := h.2 c41
          refine lv_iconst (v := 1) hC.1 hC.2.1 dL_scenes_212 (by decide) ?_
          refine lv_goto (tgt := 217) hC.1 hC.2.1 dL_scenes_213 (by decide) ?_
          exact t_L_scenes_217 (l := l) hst hC hr hag _ _ _ _ _ _ _ _ _ _ (by show _ ≤ (45 : Nat); omega) (by show _ ≤ (267 : Nat); omega) h hZ (lv_sub hl [1, 2, 3, 4, 5, 0] rfl)
      · have h := h.2 c36
        exact t_L_scenes_15 (l := l) hst hC hr hag _ _  _ _ _ _ _ _ (by show _ ≤ (45 : Nat); omega) (by show _ ≤ (267 : Nat); omega) h hZ (lv_sub hl [0, 1, 4] rfl)
  exact key
