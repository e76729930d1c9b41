def b_X5_lastPlanned_25 (post : Int32 → Mem → Prop) (k4 : Int32 → Int32 → Mem → Prop) (v2 : Int32) (s0 : Int32) (μ : Mem) : Prop := k4 s0 (v2 + 1) μ
set_option maxRecDepth 100000 in
set_option maxHeartbeats 4000000 in
theorem t_X5_lastPlanned_25 {p : Program} {l : Launch} {e : Env} {s : State} {m : MethodId} {args : Array Value} {below : List Frame} {meth : Method} {c : Code} {D : va_G} {ca : Nat → ClassId} {base : Nat} {ad : Nat → Nat → Nat} {n np : Nat} {post : Int32 → Mem → Prop} {k4 : Int32 → Int32 → Mem → Prop} (hC : ZC p m meth c s RX5 cX5_lastPlanned 3) (hr : meth.sig.returnType = (some FieldType.int)) (hk4 : ∀ (v1 : Int32) (v2 : Int32) (μ : Mem) (H : Heap) (locs : List Loc) (ls : Array Slot), k4 v1 v2 μ → ZS D ca base ad n np μ s H locs → lv_has ls 3 [(0, .ref (ad 0 0)), (1, .int v1), (2, .int v2)] → W p l e ({ frames := 0, cells := 0, slots := 0, locals := 0 } : Room) s m args below meth c H locs 0 0 (MQ below (ZQ D ca base ad n np (zpi post)) args s 0 0 (zB base)) (F0 m 4 ls [])) (v2 : Int32) (s0 : Int32) (μ : Mem) (H : Heap) (locs : List Loc) (ls : Array Slot) (h : b_X5_lastPlanned_25 post k4 v2 s0 μ) (hZ : ZS D ca base ad n np μ s H locs) (hl : lv_has ls 3 [(0, .ref (ad 0 0)), (2, .int v2)]) : W p l e ({ frames := 0, cells := 0, slots := 0, locals := 0 } : Room) s m args below meth c H locs 0 0 (MQ below (ZQ D ca base ad n np (zpi post)) args s 0 0 (zB base)) (F0 m 25 ls [.int s0]) := by
  unfold b_X5_lastPlanned_25 at h
  refine lv_istore_n (lv' := [(1, .int s0), (0, .ref (ad 0 0)), (2, .int v2)]) hC.1 hC.2.1 dX5_lastPlanned_25 rfl hl (by decide) rfl (fun ls hl => ?_)
  refine lv_iinc (v := v2 + 1) (lv' := [(2, .int (v2 + 1)), (1, .int s0), (0, .ref (ad 0 0))]) hC.1 hC.2.1 dX5_lastPlanned_26 hl (k := 2) rfl rfl (by decide) rfl (fun ls hl => ?_)
  refine lv_goto (tgt := 4) hC.1 hC.2.1 dX5_lastPlanned_29 (by decide) ?_
  exact hk4 _ _ _ _ _ _ h hZ (lv_sub hl [2, 1, 0] rfl)
def lb_X5_lastPlanned_4 (post : Int32 → Mem → Prop) (k4 : Int32 → Int32 → Mem → Prop) (v1 : Int32) (v2 : Int32) (μ : Mem) : Prop := ((30 ≤ v2 → post v1 μ) ∧ (¬ 30 ≤ v2 → (vp_in v2 30 ∧ (((μ 8 0 v2.toNatClampNeg) = (-1) → b_X5_lastPlanned_25 post k4 v2 v1 μ) ∧ (¬ (μ 8 0 v2.toNatClampNeg) = (-1) → b_X5_lastPlanned_25 post k4 v2 v2 μ)))))
def l_X5_lastPlanned_4 (post : Int32 → Mem → Prop) : Nat → Int32 → Int32 → Mem → Prop
  | 0 => fun _ _ _ => False
  | fuel + 1 => lb_X5_lastPlanned_4 post (l_X5_lastPlanned_4 post fuel) 
set_option maxRecDepth 100000 in
set_option maxHeartbeats 4000000 in
theorem t_X5_lastPlanned_4 {p : Program} {l : Launch} {e : Env} {s : State} {m : MethodId} {args : Array Value} {below : List Frame} {meth : Method} {c : Code} {D : va_G} {ca : Nat → ClassId} {base : Nat} {ad : Nat → Nat → Nat} {n np : Nat} {post : Int32 → Mem → Prop} (hC : ZC p m meth c s RX5 cX5_lastPlanned 3) (hr : meth.sig.returnType = (some FieldType.int)) : ∀ (fuel : Nat) (v1 : Int32) (v2 : Int32) (μ : Mem) (H : Heap) (locs : List Loc) (ls : Array Slot), l_X5_lastPlanned_4 post fuel v1 v2 μ → ZS D ca base ad n np μ s H locs → lv_has ls 3 [(0, .ref (ad 0 0)), (1, .int v1), (2, .int v2)] → W p l e ({ frames := 0, cells := 0, slots := 0, locals := 0 } : Room) s m args below meth c H locs 0 0 (MQ below (ZQ D ca base ad n np (zpi post)) args s 0 0 (zB base)) (F0 m 4 ls []) := by
  intro fuel
  induction fuel with
  | zero => exact fun _ _ _ _ _ _ h => h.elim
  | succ fuel hk4 =>
    intro v1 v2 μ H locs ls h hZ hl
    have h : lb_X5_lastPlanned_4 post (l_X5_lastPlanned_4 post fuel) v1 v2 μ := h
    unfold lb_X5_lastPlanned_4 at h
    refine lv_iload_n hC.1 hC.2.1 dX5_lastPlanned_4 rfl (lv_at hl 2 rfl) ?_
    refine lv_bipush (v := 30) hC.1 hC.2.1 dX5_lastPlanned_5 (by decide) ?_
    refine lv_icmp_ge (tgt := 32) hC.1 hC.2.1 dX5_lastPlanned_7 (by decide) (fun c1 => ?_) (fun c1 => ?_)
    · have h := h.1 c1
      refine lv_iload_n hC.1 hC.2.1 dX5_lastPlanned_32 rfl (lv_at hl 1 rfl) ?_
      exact z_iret hC hr hZ h dX5_lastPlanned_33 (Nat.le_of_ble_eq_true rfl) (Nat.le_of_ble_eq_true rfl)
    · have h := h.2 c1
      refine lv_aload_n hC.1 hC.2.1 dX5_lastPlanned_10 rfl (lv_at hl 0 rfl) ?_
      refine gX5_11 hC hZ kf_X5_35 dX5_lastPlanned_11 ?_
      refine lv_iload_n hC.1 hC.2.1 dX5_lastPlanned_14 rfl (lv_at hl 2 rfl) ?_
      obtain ⟨q2, h⟩ := h
      refine aL_8 hC hZ q2 dX5_lastPlanned_15 ?_
      refine lv_iconst (v := (-1)) hC.1 hC.2.1 dX5_lastPlanned_16 (by decide) ?_
      refine lv_icmp_eq (tgt := 24) hC.1 hC.2.1 dX5_lastPlanned_17 (by decide) (fun c3 => ?_) (fun c3 => ?_)
      · have h := h.1 c3
        refine lv_iload_n hC.1 hC.2.1 dX5_lastPlanned_24 rfl (lv_at hl 1 rfl) ?_
        exact t_X5_lastPlanned_25 (l := l) hC hr hk4 _ _ _ _ _ _ h hZ (lv_sub hl [0, 2] rfl)
      · have h := h.2 c3
        refine lv_iload_n hC.1 hC.2.1 dX5_lastPlanned_20 rfl (lv_at hl 2 rfl) ?_
        refine lv_goto (tgt := 25) hC.1 hC.2.1 dX5_lastPlanned_21 (by decide) ?_
        exact t_X5_lastPlanned_25 (l := l) hC hr hk4 _ _ _ _ _ _ h hZ (lv_sub hl [0, 2] rfl)
def w_X5_lastPlanned (post : Int32 → Mem → Prop) (μ : Mem) : Prop := (∃ fuel : Nat, l_X5_lastPlanned_4 post fuel (-1 : Int32) (0 : Int32) μ)
set_option maxRecDepth 100000 in
set_option maxHeartbeats 4000000 in
theorem c_X5_lastPlanned (l : Launch) {D : va_G} {ca : Nat → ClassId} {base : Nat} {ad : Nat → Nat → Nat} {n np : Nat} {μ : Mem} {post : Int32 → Mem → Prop} (h : w_X5_lastPlanned post μ) : ZMet l yX5_lastPlanned cX5_lastPlanned 3 (some FieldType.int) ({ frames := 0, cells := 0, slots := 0, locals := 0 } : Room) 0 0 D ca base ad n np [.ref (ad 0 0)] μ (zpi post) := by
  unfold ZMet
  refine Met.ofW (cc := cX5_lastPlanned) (maxL := 3) (ret := (some FieldType.int)) (by decide) rfl ?_
  intro p e s m args below meth c s₁ B hml hv
  obtain ⟨rfl, hU⟩ := hv
  have hZ := hU.toS
  have hC : ZC p m meth c s RX5 cX5_lastPlanned 3 := ⟨B.exec, B.bytes, hml, findClass_of_methodNamed B.named, B.notSynchronized⟩
  have hr := B.returns
  have key : W p l e ({ frames := 0, cells := 0, slots := 0, locals := 0 } : Room) s m (([.ref (ad 0 0)] : List Value).toArray) below meth c s.heap [] 0 0 (MQ below (ZQ D ca base ad n np (zpi post)) (([.ref (ad 0 0)] : List Value).toArray) s 0 0 (zB base)) (entryFrame m (([.ref (ad 0 0)] : List Value).toArray) 3) := by
    have hl := lv_entry ([.ref (ad 0 0)]) (n := 3) (Nat.le_of_ble_eq_true rfl)
    rw [lg_entry_eq]
    generalize (lg_sl ([.ref (ad 0 0)]) ++ List.replicate (3 - (lg_sl ([.ref (ad 0 0)])).length) Slot.unset).toArray = ls at hl ⊢
    have hl : lv_has ls 3 [(0, .ref (ad 0 0))] := hl
    unfold w_X5_lastPlanned at h
    refine lv_iconst (v := (-1)) hC.1 hC.2.1 dX5_lastPlanned_0 (by decide) ?_
    refine lv_istore_n (lv' := [(1, .int (-1)), (0, .ref (ad 0 0))]) hC.1 hC.2.1 dX5_lastPlanned_1 rfl hl (by decide) rfl (fun ls hl => ?_)
    refine lv_iconst (v := 0) hC.1 hC.2.1 dX5_lastPlanned_2 (by decide) ?_
    refine lv_istore_n (lv' := [(2, .int 0), (1, .int (-1)), (0, .ref (ad 0 0))]) hC.1 hC.2.1 dX5_lastPlanned_3 rfl hl (by decide) rfl (fun ls hl => ?_)
    obtain ⟨fuel, h⟩ := h
    exact t_X5_lastPlanned_4 (l := l) hC hr _ _ _ _ _ _ _ h hZ (lv_sub hl [2, 1, 0] rfl)
  exact key
def w_X5_plans (post : Mem → Prop) (a1 : Int32) (a2 : Int32) (μ : Mem) : Prop := (vp_in a2 30 ∧ ∀ μ2 : Mem, μ2 = zst μ 8 0 a2.toNatClampNeg a1 → ((a1 = (-1) → post μ2) ∧ (¬ a1 = (-1) → (vp_in a1 10 ∧ ∀ μ5 : Mem, μ5 = zst μ2 4 0 a1.toNatClampNeg a2 → post μ5))))
set_option maxRecDepth 100000 in
set_option maxHeartbeats 4000000 in
theorem c_X5_plans (l : Launch) {D : va_G} {ca : Nat → ClassId} {base : Nat} {ad : Nat → Nat → Nat} {n np : Nat} {μ : Mem} {post : Mem → Prop} {a1 : Int32} {a2 : Int32} (h : w_X5_plans post a1 a2 μ) : ZMet l yX5_plans cX5_plans 3 none ({ frames := 0, cells := 0, slots := 0, locals := 0 } : Room) 0 0 D ca base ad n np [.ref (ad 0 0), .int a1, .int a2] μ (zpv post) := by
  unfold ZMet
  refine Met.ofW (cc := cX5_plans) (maxL := 3) (ret := none) (by decide) rfl ?_
  intro p e s m args below meth c s₁ B hml hv
  obtain ⟨rfl, hU⟩ := hv
  have hZ := hU.toS
  have hC : ZC p m meth c s RX5 cX5_plans 3 := ⟨B.exec, B.bytes, hml, findClass_of_methodNamed B.named, B.notSynchronized⟩
  have hr := B.returns
  have key : W p l e ({ frames := 0, cells := 0, slots := 0, locals := 0 } : Room) s m (([.ref (ad 0 0), .int a1, .int a2] : List Value).toArray) below meth c s.heap [] 0 0 (MQ below (ZQ D ca base ad n np (zpv post)) (([.ref (ad 0 0), .int a1, .int a2] : List Value).toArray) s 0 0 (zB base)) (entryFrame m (([.ref (ad 0 0), .int a1, .int a2] : List Value).toArray) 3) := by
    have hl := lv_entry ([.ref (ad 0 0), .int a1, .int a2]) (n := 3) (Nat.le_of_ble_eq_true rfl)
    rw [lg_entry_eq]
    generalize (lg_sl ([.ref (ad 0 0), .int a1, .int a2]) ++ List.replicate (3 - (lg_sl ([.ref (ad 0 0), .int a1, .int a2])).length) Slot.unset).toArray = ls at hl ⊢
    have hl : lv_has ls 3 [(0, .ref (ad 0 0)), (1, .int a1), (2, .int a2)] := hl
    unfold w_X5_plans at h
    refine lv_aload_n hC.1 hC.2.1 dX5_plans_0 rfl (lv_at hl 0 rfl) ?_
    refine gX5_11 hC hZ kf_X5_35 dX5_plans_1 ?_
    refine lv_iload_n hC.1 hC.2.1 dX5_plans_4 rfl (lv_at hl 2 rfl) ?_
    refine lv_iload_n hC.1 hC.2.1 dX5_plans_5 rfl (lv_at hl 1 rfl) ?_
    obtain ⟨q1, h⟩ := h
    refine aS_8 hC hZ q1 dX5_plans_6 (fun μ2 H locs eμ2 hZ => ?_)
    have h := h μ2 eμ2
    refine lv_iload_n hC.1 hC.2.1 dX5_plans_7 rfl (lv_at hl 1 rfl) ?_
    refine lv_iconst (v := (-1)) hC.1 hC.2.1 dX5_plans_8 (by decide) ?_
    refine lv_icmp_eq (tgt := 19) hC.1 hC.2.1 dX5_plans_9 (by decide) (fun c3 => ?_) (fun c3 => ?_)
    · have h := h.1 c3
      exact z_vret hC hr hZ h dX5_plans_19 (Nat.le_of_ble_eq_true rfl) (Nat.le_of_ble_eq_true rfl)
    · have h := h.2 c3
      refine lv_aload_n hC.1 hC.2.1 dX5_plans_12 rfl (lv_at hl 0 rfl) ?_
      refine gX5_7 hC hZ kf_X5_23 dX5_plans_13 ?_
      refine lv_iload_n hC.1 hC.2.1 dX5_plans_16 rfl (lv_at hl 1 rfl) ?_
      refine lv_iload_n hC.1 hC.2.1 dX5_plans_17 rfl (lv_at hl 2 rfl) ?_
      obtain ⟨q4, h⟩ := h
      refine aS_4 hC hZ q4 dX5_plans_18 (fun μ5 H locs eμ5 hZ => ?_)
      have h := h μ5 eμ5
      exact z_vret hC hr hZ h dX5_plans_19 (Nat.le_of_ble_eq_true rfl) (Nat.le_of_ble_eq_true rfl)
  exact key
def lb_X5_scene_109 (post : Int32 → Mem → Prop) (k109 : Int32 → Int32 → Mem → Prop) (a1 : Int32) (a2 : Int32) (v3 : Int32) (v4 : Int32) (μ : Mem) : Prop := ((5 ≤ v4 → (w_X5_plans (fun (μ20 : Mem) => (∀ μ22 : Mem, μ22 = zst μ20 0 0 3 ((μ20 0 0 3) + 1) → post ((μ22 0 0 3) - 1) μ22)) (μ 0 0 3) v3 μ)) ∧ (¬ 5 ≤ v4 → (vp_in ((5 * (μ 0 0 3)) + v4) 50 ∧ ∀ μ24 : Mem, μ24 = zst μ 5 0 (((5 * (μ 0 0 3)) + v4).toNatClampNeg) (-2) → (vp_in ((5 * (μ24 0 0 3)) + v4) 50 ∧ ∀ μ26 : Mem, μ26 = zst μ24 6 0 (((5 * (μ24 0 0 3)) + v4).toNatClampNeg) (-1) → k109 v3 (v4 + 1) μ26))))
def l_X5_scene_109 (post : Int32 → Mem → Prop) (a1 : Int32) (a2 : Int32) : Nat → Int32 → Int32 → Mem → Prop
  | 0 => fun _ _ _ => False
  | fuel + 1 => lb_X5_scene_109 post (l_X5_scene_109 post a1 a2 fuel) a1 a2 
set_option maxRecDepth 100000 in
set_option maxHeartbeats 4000000 in
theorem t_X5_scene_109 {p : Program} {l : Launch} {e : Env} {s : State} {m : MethodId} {args : Array Value} {below : List Frame} {meth : Method} {c : Code} {D : va_G} {ca : Nat → ClassId} {base : Nat} {ad : Nat → Nat → Nat} {n np : Nat} {post : Int32 → Mem → Prop} (hC : ZC p m meth c s RX5 cX5_scene 5) (hr : meth.sig.returnType = (some FieldType.int)) (a1 : Int32) (a2 : Int32) : ∀ (fuel : Nat) (v3 : Int32) (v4 : Int32) (μ : Mem) (H : Heap) (locs : List Loc) (ls : Array Slot), l_X5_scene_109 post a1 a2 fuel v3 v4 μ → ZS D ca base ad n np μ s H locs → lv_has ls 5 [(0, .ref (ad 0 0)), (3, .int v3), (4, .int v4)] → W p l e ({ frames := 1, cells := 0, slots := 0, locals := 23 } : Room) s m args below meth c H locs 0 0 (MQ below (ZQ D ca base ad n np (zpi post)) args s 0 0 (zB base)) (F0 m 109 ls []) := by
  intro fuel
  induction fuel with
  | zero => exact fun _ _ _ _ _ _ h => h.elim
  | succ fuel hk109 =>
    intro v3 v4 μ H locs ls h hZ hl
    have h : lb_X5_scene_109 post (l_X5_scene_109 post a1 a2 fuel) a1 a2 v3 v4 μ := h
    unfold lb_X5_scene_109 at h
    refine lv_iload hC.1 hC.2.1 dX5_scene_109 (lv_at hl 2 rfl) ?_
    refine lv_iconst (v := 5) hC.1 hC.2.1 dX5_scene_111 (by decide) ?_
    refine lv_icmp_ge (tgt := 152) hC.1 hC.2.1 dX5_scene_112 (by decide) (fun c19 => ?_) (fun c19 => ?_)
    · have h := h.1 c19
      refine lv_aload_n hC.1 hC.2.1 dX5_scene_152 rfl (lv_at hl 0 rfl) ?_
      refine lv_aload_n hC.1 hC.2.1 dX5_scene_153 rfl (lv_at hl 0 rfl) ?_
      refine gX5_3 hC hZ kf_X5_78 dX5_scene_154 ?_
      refine lv_iload_n hC.1 hC.2.1 dX5_scene_157 rfl (lv_at hl 1 rfl) ?_
      refine z_cVv (As := [.int (μ 0 0 3), .int v3]) hC hZ (zF_0 _) rfl zy_X5_plans (c_X5_plans l h) km_X5_119 rfl ⟨rfl, rfl⟩ ⟨Nat.le_of_ble_eq_true rfl, Nat.le_of_ble_eq_true rfl⟩ hl.1 rfl (Nat.le_of_ble_eq_true rfl) dX5_scene_158 ⟨Nat.le_of_ble_eq_true rfl, Nat.le_of_ble_eq_true rfl⟩ (fun μ20 H locs h hZ => ?_)
      refine lv_aload_n hC.1 hC.2.1 dX5_scene_161 rfl (lv_at hl 0 rfl) ?_
      refine lv_dup hC.1 hC.2.1 dX5_scene_162 rfl ?_
      refine gX5_3 hC hZ kf_X5_78 dX5_scene_163 ?_
      refine lv_iconst (v := 1) hC.1 hC.2.1 dX5_scene_166 (by decide) ?_
      refine lv_iadd hC.1 hC.2.1 dX5_scene_167 ?_
      refine pX5_3 hC hZ kf_X5_78 dX5_scene_168 (fun μ22 H locs eμ22 hZ => ?_)
      have h := h μ22 eμ22
      refine lv_aload_n hC.1 hC.2.1 dX5_scene_171 rfl (lv_at hl 0 rfl) ?_
      refine gX5_3 hC hZ kf_X5_78 dX5_scene_172 ?_
      refine lv_iconst (v := 1) hC.1 hC.2.1 dX5_scene_175 (by decide) ?_
      refine lv_isub hC.1 hC.2.1 dX5_scene_176 ?_
      exact z_iret hC hr hZ h dX5_scene_177 (Nat.le_of_ble_eq_true rfl) (Nat.le_of_ble_eq_true rfl)
    · have h := h.2 c19
      refine lv_aload_n hC.1 hC.2.1 dX5_scene_115 rfl (lv_at hl 0 rfl) ?_
      refine gX5_8 hC hZ kf_X5_26 dX5_scene_116 ?_
      refine lv_iconst (v := 5) hC.1 hC.2.1 dX5_scene_119 (by decide) ?_
      refine lv_aload_n hC.1 hC.2.1 dX5_scene_120 rfl (lv_at hl 0 rfl) ?_
      refine gX5_3 hC hZ kf_X5_78 dX5_scene_121 ?_
      refine lv_imul hC.1 hC.2.1 dX5_scene_124 ?_
      refine lv_iload hC.1 hC.2.1 dX5_scene_125 (lv_at hl 2 rfl) ?_
      refine lv_iadd hC.1 hC.2.1 dX5_scene_127 ?_
      refine lv_bipush (v := (-2)) hC.1 hC.2.1 dX5_scene_128 (by decide) ?_
      obtain ⟨q23, h⟩ := h
      refine aS_5 hC hZ q23 dX5_scene_130 (fun μ24 H locs eμ24 hZ => ?_)
      have h := h μ24 eμ24
      refine lv_aload_n hC.1 hC.2.1 dX5_scene_131 rfl (lv_at hl 0 rfl) ?_
      refine gX5_9 hC hZ kf_X5_29 dX5_scene_132 ?_
      refine lv_iconst (v := 5) hC.1 hC.2.1 dX5_scene_135 (by decide) ?_
      refine lv_aload_n hC.1 hC.2.1 dX5_scene_136 rfl (lv_at hl 0 rfl) ?_
      refine gX5_3 hC hZ kf_X5_78 dX5_scene_137 ?_
      refine lv_imul hC.1 hC.2.1 dX5_scene_140 ?_
      refine lv_iload hC.1 hC.2.1 dX5_scene_141 (lv_at hl 2 rfl) ?_
      refine lv_iadd hC.1 hC.2.1 dX5_scene_143 ?_
      refine lv_iconst (v := (-1)) hC.1 hC.2.1 dX5_scene_144 (by decide) ?_
      obtain ⟨q25, h⟩ := h
      refine aS_6 hC hZ q25 dX5_scene_145 (fun μ26 H locs eμ26 hZ => ?_)
      have h := h μ26 eμ26
      refine lv_iinc (v := v4 + 1) (lv' := [(4, .int (v4 + 1)), (0, .ref (ad 0 0)), (3, .int v3)]) hC.1 hC.2.1 dX5_scene_146 hl (k := 2) rfl rfl (by decide) rfl (fun ls hl => ?_)
      refine lv_goto (tgt := 109) hC.1 hC.2.1 dX5_scene_149 (by decide) ?_
      exact hk109 _ _ _ _ _ _ h hZ (lv_sub hl [1, 2, 0] rfl)
def b_X5_scene_67 (post : Int32 → Mem → Prop) (a1 : Int32) (a2 : Int32) (v3 : Int32) (s1 : Int32) (s2 : Int32) (μ : Mem) : Prop := (w_X5_goes (fun (r11 : Int32) (μ10 : Mem) => ((¬ r11 = 0 → (vp_in (μ10 0 0 3) 10 ∧ ∀ μ14 : Mem, μ14 = zst μ10 1 0 ((μ10 0 0 3).toNatClampNeg) a1 → (vp_in (μ14 0 0 3) 10 ∧ ∀ μ16 : Mem, μ16 = zst μ14 2 0 ((μ14 0 0 3).toNatClampNeg) a2 → (vp_in (μ16 0 0 3) 10 ∧ ∀ μ18 : Mem, μ18 = zst μ16 3 0 ((μ16 0 0 3).toNatClampNeg) 0 → (∃ fuel : Nat, l_X5_scene_109 post a1 a2 fuel v3 (0 : Int32) μ18))))) ∧ (r11 = 0 → post 0 μ10))) s1 s2 (1 : Int32) μ)
set_option maxRecDepth 100000 in
set_option maxHeartbeats 4000000 in
theorem t_X5_scene_67 {p : Program} {l : Launch} {e : Env} {s : State} {m : MethodId} {args : Array Value} {below : List Frame} {meth : Method} {c : Code} {D : va_G} {ca : Nat → ClassId} {base : Nat} {ad : Nat → Nat → Nat} {n np : Nat} {post : Int32 → Mem → Prop} (hC : ZC p m meth c s RX5 cX5_scene 5) (hr : meth.sig.returnType = (some FieldType.int)) (a1 : Int32) (a2 : Int32) (v3 : Int32) (s1 : Int32) (s2 : Int32) (μ : Mem) (H : Heap) (locs : List Loc) (ls : Array Slot) (h : b_X5_scene_67 post a1 a2 v3 s1 s2 μ) (hZ : ZS D ca base ad n np μ s H locs) (hl : lv_has ls 5 [(0, .ref (ad 0 0)), (1, .int a1), (2, .int a2), (3, .int v3)]) : W p l e ({ frames := 1, cells := 0, slots := 0, locals := 23 } : Room) s m args below meth c H locs 0 0 (MQ below (ZQ D ca base ad n np (zpi post)) args s 0 0 (zB base)) (F0 m 67 ls [.int s2, .int s1, .ref (ad 0 0)]) := by
  unfold b_X5_scene_67 at h
  refine lv_iconst (v := 1) hC.1 hC.2.1 dX5_scene_67 (by decide) ?_
  refine z_cVi (As := [.int s1, .int s2, .int 1]) hC hZ (zF_0 _) rfl zy_X5_goes (c_X5_goes l h) km_X5_115 rfl ⟨rfl, rfl⟩ ⟨Nat.le_of_ble_eq_true rfl, Nat.le_of_ble_eq_true rfl⟩ hl.1 rfl (Nat.le_of_ble_eq_true rfl) dX5_scene_68 ⟨Nat.le_of_ble_eq_true rfl, Nat.le_of_ble_eq_true rfl⟩ (fun r11 μ10 H locs h hZ => ?_)
  refine lv_if_ne (tgt := 76) hC.1 hC.2.1 dX5_scene_71 (by decide) (fun c12 => ?_) (fun c12 => ?_)
  · have h := h.1 c12
    refine lv_aload_n hC.1 hC.2.1 dX5_scene_76 rfl (lv_at hl 0 rfl) ?_
    refine gX5_4 hC hZ kf_X5_13 dX5_scene_77 ?_
    refine lv_aload_n hC.1 hC.2.1 dX5_scene_80 rfl (lv_at hl 0 rfl) ?_
    refine gX5_3 hC hZ kf_X5_78 dX5_scene_81 ?_
    refine lv_iload_n hC.1 hC.2.1 dX5_scene_84 rfl (lv_at hl 1 rfl) ?_
    obtain ⟨q13, h⟩ := h
    refine aS_1 hC hZ q13 dX5_scene_85 (fun μ14 H locs eμ14 hZ => ?_)
    have h := h μ14 eμ14
    refine lv_aload_n hC.1 hC.2.1 dX5_scene_86 rfl (lv_at hl 0 rfl) ?_
    refine gX5_5 hC hZ kf_X5_17 dX5_scene_87 ?_
    refine lv_aload_n hC.1 hC.2.1 dX5_scene_90 rfl (lv_at hl 0 rfl) ?_
    refine gX5_3 hC hZ kf_X5_78 dX5_scene_91 ?_
    refine lv_iload_n hC.1 hC.2.1 dX5_scene_94 rfl (lv_at hl 2 rfl) ?_
    obtain ⟨q15, h⟩ := h
    refine aS_2 hC hZ q15 dX5_scene_95 (fun μ16 H locs eμ16 hZ => ?_)
    have h := h μ16 eμ16
    refine lv_aload_n hC.1 hC.2.1 dX5_scene_96 rfl (lv_at hl 0 rfl) ?_
    refine gX5_6 hC hZ kf_X5_20 dX5_scene_97 ?_
    refine lv_aload_n hC.1 hC.2.1 dX5_scene_100 rfl (lv_at hl 0 rfl) ?_
    refine gX5_3 hC hZ kf_X5_78 dX5_scene_101 ?_
    refine lv_iconst (v := 0) hC.1 hC.2.1 dX5_scene_104 (by decide) ?_
    obtain ⟨q17, h⟩ := h
    refine aS_3 hC hZ q17 dX5_scene_105 (fun μ18 H locs eμ18 hZ => ?_)
    have h := h μ18 eμ18
    refine lv_iconst (v := 0) hC.1 hC.2.1 dX5_scene_106 (by decide) ?_
    refine lv_istore (lv' := [(4, .int 0), (0, .ref (ad 0 0)), (1, .int a1), (2, .int a2), (3, .int v3)]) hC.1 hC.2.1 dX5_scene_107 hl (by decide) rfl (fun ls hl => ?_)
    obtain ⟨fuel, h⟩ := h
    exact t_X5_scene_109 (l := l) hC hr _ _ _ _ _ _ _ _ _ h hZ (lv_sub hl [1, 4, 0] rfl)
  · have h := h.2 c12
    refine lv_iconst (v := 0) hC.1 hC.2.1 dX5_scene_74 (by decide) ?_
    exact z_iret hC hr hZ h dX5_scene_75 (Nat.le_of_ble_eq_true rfl) (Nat.le_of_ble_eq_true rfl)
def b_X5_scene_66 (post : Int32 → Mem → Prop) (a1 : Int32) (a2 : Int32) (v3 : Int32) (s1 : Int32) (μ : Mem) : Prop := b_X5_scene_67 post a1 a2 v3 s1 (0 : Int32) μ
set_option maxRecDepth 100000 in
set_option maxHeartbeats 4000000 in
theorem t_X5_scene_66 {p : Program} {l : Launch} {e : Env} {s : State} {m : MethodId} {args : Array Value} {below : List Frame} {meth : Method} {c : Code} {D : va_G} {ca : Nat → ClassId} {base : Nat} {ad : Nat → Nat → Nat} {n np : Nat} {post : Int32 → Mem → Prop} (hC : ZC p m meth c s RX5 cX5_scene 5) (hr : meth.sig.returnType = (some FieldType.int)) (a1 : Int32) (a2 : Int32) (v3 : Int32) (s1 : Int32) (μ : Mem) (H : Heap) (locs : List Loc) (ls : Array Slot) (h : b_X5_scene_66 post a1 a2 v3 s1 μ) (hZ : ZS D ca base ad n np μ s H locs) (hl : lv_has ls 5 [(0, .ref (ad 0 0)), (1, .int a1), (2, .int a2), (3, .int v3)]) : W p l e ({ frames := 1, cells := 0, slots := 0, locals := 23 } : Room) s m args below meth c H locs 0 0 (MQ below (ZQ D ca base ad n np (zpi post)) args s 0 0 (zB base)) (F0 m 66 ls [.int s1, .ref (ad 0 0)]) := by
  unfold b_X5_scene_66 at h
  refine lv_iconst (v := 0) hC.1 hC.2.1 dX5_scene_66 (by decide) ?_
  exact t_X5_scene_67 (l := l) hC hr _ _ _ _ _ _ _ _ _ h hZ (lv_sub hl [0, 1, 2, 3] rfl)
def b_X5_scene_47 (post : Int32 → Mem → Prop) (a1 : Int32) (a2 : Int32) (v3 : Int32) (s1 : Int32) (μ : Mem) : Prop := ((10 ≤ (μ 0 0 3) → b_X5_scene_66 post a1 a2 v3 s1 μ) ∧ (¬ 10 ≤ (μ 0 0 3) → ((30 ≤ v3 → b_X5_scene_66 post a1 a2 v3 s1 μ) ∧ (¬ 30 ≤ v3 → b_X5_scene_67 post a1 a2 v3 s1 (1 : Int32) μ))))
set_option maxRecDepth 100000 in
set_option maxHeartbeats 4000000 in
theorem t_X5_scene_47 {p : Program} {l : Launch} {e : Env} {s : State} {m : MethodId} {args : Array Value} {below : List Frame} {meth : Method} {c : Code} {D : va_G} {ca : Nat → ClassId} {base : Nat} {ad : Nat → Nat → Nat} {n np : Nat} {post : Int32 → Mem → Prop} (hC : ZC p m meth c s RX5 cX5_scene 5) (hr : meth.sig.returnType = (some FieldType.int)) (a1 : Int32) (a2 : Int32) (v3 : Int32) (s1 : Int32) (μ : Mem) (H : Heap) (locs : List Loc) (ls : Array Slot) (h : b_X5_scene_47 post a1 a2 v3 s1 μ) (hZ : ZS D ca base ad n np μ s H locs) (hl : lv_has ls 5 [(0, .ref (ad 0 0)), (1, .int a1), (2, .int a2), (3, .int v3)]) : W p l e ({ frames := 1, cells := 0, slots := 0, locals := 23 } : Room) s m args below meth c H locs 0 0 (MQ below (ZQ D ca base ad n np (zpi post)) args s 0 0 (zB base)) (F0 m 47 ls [.int s1, .ref (ad 0 0)]) := by
  unfold b_X5_scene_47 at h
  refine lv_aload_n hC.1 hC.2.1 dX5_scene_47 rfl (lv_at hl 0 rfl) ?_
  refine gX5_3 hC hZ kf_X5_78 dX5_scene_48 ?_
  refine lv_bipush (v := 10) hC.1 hC.2.1 dX5_scene_51 (by decide) ?_
  refine lv_icmp_ge (tgt := 66) hC.1 hC.2.1 dX5_scene_53 (by decide) (fun c9 => ?_) (fun c9 => ?_)
  · have h := h.1 c9
    exact t_X5_scene_66 (l := l) hC hr _ _ _ _ _ _ _ _ h hZ (lv_sub hl [0, 1, 2, 3] rfl)
  · have h := h.2 c9
    refine lv_iload_n hC.1 hC.2.1 dX5_scene_56 rfl (lv_at hl 3 rfl) ?_
    refine lv_bipush (v := 30) hC.1 hC.2.1 dX5_scene_57 (by decide) ?_
    refine lv_icmp_ge (tgt := 66) hC.1 hC.2.1 dX5_scene_59 (by decide) (fun c27 => ?_) (fun c27 => ?_)
    · have h := h.1 c27
      exact t_X5_scene_66 (l := l) hC hr _ _ _ _ _ _ _ _ h hZ (lv_sub hl [0, 1, 2, 3] rfl)
    · have h := h.2 c27
      refine lv_iconst (v := 1) hC.1 hC.2.1 dX5_scene_62 (by decide) ?_
      refine lv_goto (tgt := 67) hC.1 hC.2.1 dX5_scene_63 (by decide) ?_
      exact t_X5_scene_67 (l := l) hC hr _ _ _ _ _ _ _ _ _ h hZ (lv_sub hl [0, 1, 2, 3] rfl)
def b_X5_scene_46 (post : Int32 → Mem → Prop) (a1 : Int32) (a2 : Int32) (v3 : Int32) (μ : Mem) : Prop := b_X5_scene_47 post a1 a2 v3 (0 : Int32) μ
set_option maxRecDepth 100000 in
set_option maxHeartbeats 4000000 in
theorem t_X5_scene_46 {p : Program} {l : Launch} {e : Env} {s : State} {m : MethodId} {args : Array Value} {below : List Frame} {meth : Method} {c : Code} {D : va_G} {ca : Nat → ClassId} {base : Nat} {ad : Nat → Nat → Nat} {n np : Nat} {post : Int32 → Mem → Prop} (hC : ZC p m meth c s RX5 cX5_scene 5) (hr : meth.sig.returnType = (some FieldType.int)) (a1 : Int32) (a2 : Int32) (v3 : Int32) (μ : Mem) (H : Heap) (locs : List Loc) (ls : Array Slot) (h : b_X5_scene_46 post a1 a2 v3 μ) (hZ : ZS D ca base ad n np μ s H locs) (hl : lv_has ls 5 [(0, .ref (ad 0 0)), (1, .int a1), (2, .int a2), (3, .int v3)]) : W p l e ({ frames := 1, cells := 0, slots := 0, locals := 23 } : Room) s m args below meth c H locs 0 0 (MQ below (ZQ D ca base ad n np (zpi post)) args s 0 0 (zB base)) (F0 m 46 ls [.ref (ad 0 0)]) := by
  unfold b_X5_scene_46 at h
  refine lv_iconst (v := 0) hC.1 hC.2.1 dX5_scene_46 (by decide) ?_
  exact t_X5_scene_47 (l := l) hC hr _ _ _ _ _ _ _ _ h hZ (lv_sub hl [0, 1, 2, 3] rfl)
def b_X5_scene_21 (post : Int32 → Mem → Prop) (a1 : Int32) (a2 : Int32) (s0 : Int32) (μ : Mem) : Prop := (w_X5_in (fun (r7 : Int32) (μ6 : Mem) => ((r7 = 0 → b_X5_scene_46 post a1 a2 s0 μ6) ∧ (¬ r7 = 0 → (w_X5_in (fun (r29 : Int32) (μ28 : Mem) => ((r29 = 0 → b_X5_scene_46 post a1 a2 s0 μ28) ∧ (¬ r29 = 0 → b_X5_scene_47 post a1 a2 s0 (1 : Int32) μ28))) a2 (0 : Int32) (9 : Int32) μ6)))) a1 (0 : Int32) (3 : Int32) μ)
set_option maxRecDepth 100000 in
set_option maxHeartbeats 4000000 in
theorem t_X5_scene_21 {p : Program} {l : Launch} {e : Env} {s : State} {m : MethodId} {args : Array Value} {below : List Frame} {meth : Method} {c : Code} {D : va_G} {ca : Nat → ClassId} {base : Nat} {ad : Nat → Nat → Nat} {n np : Nat} {post : Int32 → Mem → Prop} (hC : ZC p m meth c s RX5 cX5_scene 5) (hr : meth.sig.returnType = (some FieldType.int)) (a1 : Int32) (a2 : Int32) (s0 : Int32) (μ : Mem) (H : Heap) (locs : List Loc) (ls : Array Slot) (h : b_X5_scene_21 post a1 a2 s0 μ) (hZ : ZS D ca base ad n np μ s H locs) (hl : lv_has ls 5 [(0, .ref (ad 0 0)), (1, .int a1), (2, .int a2)]) : W p l e ({ frames := 1, cells := 0, slots := 0, locals := 23 } : Room) s m args below meth c H locs 0 0 (MQ below (ZQ D ca base ad n np (zpi post)) args s 0 0 (zB base)) (F0 m 21 ls [.int s0]) := by
  unfold b_X5_scene_21 at h
  refine lv_istore_n (lv' := [(3, .int s0), (0, .ref (ad 0 0)), (1, .int a1), (2, .int a2)]) hC.1 hC.2.1 dX5_scene_21 rfl hl (by decide) rfl (fun ls hl => ?_)
  refine lv_aload_n hC.1 hC.2.1 dX5_scene_22 rfl (lv_at hl 1 rfl) ?_
  refine lv_iload_n hC.1 hC.2.1 dX5_scene_23 rfl (lv_at hl 2 rfl) ?_
  refine lv_iconst (v := 0) hC.1 hC.2.1 dX5_scene_24 (by decide) ?_
  refine lv_iconst (v := 3) hC.1 hC.2.1 dX5_scene_25 (by decide) ?_
  refine z_cSi (As := [.int a1, .int 0, .int 3]) hC hZ zy_X5_in (c_X5_in l h) km_X5_81 rfl ⟨rfl, rfl⟩ ⟨Nat.le_of_ble_eq_true rfl, Nat.le_of_ble_eq_true rfl⟩ hl.1 rfl (Nat.le_of_ble_eq_true rfl) dX5_scene_26 ⟨Nat.le_of_ble_eq_true rfl, Nat.le_of_ble_eq_true rfl⟩ (fun r7 μ6 H locs h hZ => ?_)
  refine lv_if_eq (tgt := 46) hC.1 hC.2.1 dX5_scene_29 (by decide) (fun c8 => ?_) (fun c8 => ?_)
  · have h := h.1 c8
    exact t_X5_scene_46 (l := l) hC hr _ _ _ _ _ _ _ h hZ (lv_sub hl [1, 2, 3, 0] rfl)
  · have h := h.2 c8
    refine lv_iload_n hC.1 hC.2.1 dX5_scene_32 rfl (lv_at hl 3 rfl) ?_
    refine lv_iconst (v := 0) hC.1 hC.2.1 dX5_scene_33 (by decide) ?_
    refine lv_bipush (v := 9) hC.1 hC.2.1 dX5_scene_34 (by decide) ?_
    refine z_cSi (As := [.int a2, .int 0, .int 9]) hC hZ zy_X5_in (c_X5_in l h) km_X5_81 rfl ⟨rfl, rfl⟩ ⟨Nat.le_of_ble_eq_true rfl, Nat.le_of_ble_eq_true rfl⟩ hl.1 rfl (Nat.le_of_ble_eq_true rfl) dX5_scene_36 ⟨Nat.le_of_ble_eq_true rfl, Nat.le_of_ble_eq_true rfl⟩ (fun r29 μ28 H locs h hZ => ?_)
    refine lv_if_eq (tgt := 46) hC.1 hC.2.1 dX5_scene_39 (by decide) (fun c30 => ?_) (fun c30 => ?_)
    · have h := h.1 c30
      exact t_X5_scene_46 (l := l) hC hr _ _ _ _ _ _ _ h hZ (lv_sub hl [1, 2, 3, 0] rfl)
    · have h := h.2 c30
      refine lv_iconst (v := 1) hC.1 hC.2.1 dX5_scene_42 (by decide) ?_
      refine lv_goto (tgt := 47) hC.1 hC.2.1 dX5_scene_43 (by decide) ?_
      exact t_X5_scene_47 (l := l) hC hr _ _ _ _ _ _ _ _ h hZ (lv_sub hl [1, 2, 3, 0] rfl)
def w_X5_scene (post : Int32 → Mem → Prop) (a1 : Int32) (a2 : Int32) (μ : Mem) : Prop := (w_X5_lastPlanned (fun (r2 : Int32) (μ1 : Mem) => ((¬ r2 = (-1) → (w_X5_lastPlanned (fun (r5 : Int32) (μ4 : Mem) => b_X5_scene_21 post a1 a2 (r5 + 1) μ4) μ1)) ∧ (r2 = (-1) → b_X5_scene_21 post a1 a2 (μ1 0 0 0) μ1))) μ)
set_option maxRecDepth 100000 in
set_option maxHeartbeats 4000000 in
theorem c_X5_scene (l : Launch) {D : va_G} {ca : Nat → ClassId} {base : Nat} {ad : Nat → Nat → Nat} {n np : Nat} {μ : Mem} {post : Int32 → Mem → Prop} {a1 : Int32} {a2 : Int32} (h : w_X5_scene post a1 a2 μ) : ZMet l yX5_scene cX5_scene 5 (some FieldType.int) ({ frames := 1, cells := 0, slots := 0, locals := 23 } : Room) 0 0 D ca base ad n np [.ref (ad 0 0), .int a1, .int a2] μ (zpi post) := by
  unfold ZMet
  refine Met.ofW (cc := cX5_scene) (maxL := 5) (ret := (some FieldType.int)) (by decide) rfl ?_
  intro p e s m args below meth c s₁ B hml hv
  obtain ⟨rfl, hU⟩ := hv
  have hZ := hU.toS
  have hC : ZC p m meth c s RX5 cX5_scene 5 := ⟨B.exec, B.bytes, hml, findClass_of_methodNamed B.named, B.notSynchronized⟩
  have hr := B.returns
  have key : W p l e ({ frames := 1, cells := 0, slots := 0, locals := 23 } : Room) s m (([.ref (ad 0 0), .int a1, .int a2] : List Value).toArray) below meth c s.heap [] 0 0 (MQ below (ZQ D ca base ad n np (zpi post)) (([.ref (ad 0 0), .int a1, .int a2] : List Value).toArray) s 0 0 (zB base)) (entryFrame m (([.ref (ad 0 0), .int a1, .int a2] : List Value).toArray) 5) := by
    have hl := lv_entry ([.ref (ad 0 0), .int a1, .int a2]) (n := 5) (Nat.le_of_ble_eq_true rfl)
    rw [lg_entry_eq]
    generalize (lg_sl ([.ref (ad 0 0), .int a1, .int a2]) ++ List.replicate (5 - (lg_sl ([.ref (ad 0 0), .int a1, .int a2])).length) Slot.unset).toArray = ls at hl ⊢
    have hl : lv_has ls 5 [(0, .ref (ad 0 0)), (1, .int a1), (2, .int a2)] := hl
    unfold w_X5_scene at h
    refine lv_aload_n hC.1 hC.2.1 dX5_scene_0 rfl (lv_at hl 0 rfl) ?_
    refine z_cVi (As := []) hC hZ (zF_0 _) rfl zy_X5_lastPlanned (c_X5_lastPlanned l h) km_X5_111 rfl ⟨rfl, rfl⟩ ⟨Nat.le_of_ble_eq_true rfl, Nat.le_of_ble_eq_true rfl⟩ hl.1 rfl (Nat.le_of_ble_eq_true rfl) dX5_scene_1 ⟨Nat.le_of_ble_eq_true rfl, Nat.le_of_ble_eq_true rfl⟩ (fun r2 μ1 H locs h hZ => ?_)
    refine lv_iconst (v := (-1)) hC.1 hC.2.1 dX5_scene_4 (by decide) ?_
    refine lv_icmp_ne (tgt := 15) hC.1 hC.2.1 dX5_scene_5 (by decide) (fun c3 => ?_) (fun c3 => ?_)
    · have h := h.1 c3
      refine lv_aload_n hC.1 hC.2.1 dX5_scene_15 rfl (lv_at hl 0 rfl) ?_
      refine z_cVi (As := []) hC hZ (zF_0 _) rfl zy_X5_lastPlanned (c_X5_lastPlanned l h) km_X5_111 rfl ⟨rfl, rfl⟩ ⟨Nat.le_of_ble_eq_true rfl, Nat.le_of_ble_eq_true rfl⟩ hl.1 rfl (Nat.le_of_ble_eq_true rfl) dX5_scene_16 ⟨Nat.le_of_ble_eq_true rfl, Nat.le_of_ble_eq_true rfl⟩ (fun r5 μ4 H locs h hZ => ?_)
      refine lv_iconst (v := 1) hC.1 hC.2.1 dX5_scene_19 (by decide) ?_
      refine lv_iadd hC.1 hC.2.1 dX5_scene_20 ?_
      exact t_X5_scene_21 (l := l) hC hr _ _ _ _ _ _ _ h hZ (lv_sub hl [0, 1, 2] rfl)
    · have h := h.2 c3
      refine lv_aload_n hC.1 hC.2.1 dX5_scene_8 rfl (lv_at hl 0 rfl) ?_
      refine gX5_0 hC hZ kf_X5_85 dX5_scene_9 ?_
      refine lv_goto (tgt := 21) hC.1 hC.2.1 dX5_scene_12 (by decide) ?_
      exact t_X5_scene_21 (l := l) hC hr _ _ _ _ _ _ _ h hZ (lv_sub hl [0, 1, 2] rfl)
  exact key
def b_X5_plays_105 (post : Int32 → Mem → Prop) (k76 : Int32 → Int32 → Mem → Prop) (a1 : Int32) (a2 : Int32) (a3 : Int32) (v6 : Int32) (s0 : Int32) (s1 : Int32) (μ : Mem) : Prop := k76 (s0 + s1) (v6 + 1) μ
set_option maxRecDepth 100000 in
set_option maxHeartbeats 4000000 in
theorem t_X5_plays_105 {p : Program} {l : Launch} {e : Env} {s : State} {m : MethodId} {args : Array Value} {below : List Frame} {meth : Method} {c : Code} {D : va_G} {ca : Nat → ClassId} {base : Nat} {ad : Nat → Nat → Nat} {n np : Nat} {post : Int32 → Mem → Prop} {k76 : Int32 → Int32 → Mem → Prop} (hC : ZC p m meth c s RX5 cX5_plays 7) (hr : meth.sig.returnType = (some FieldType.int)) (a1 : Int32) (a2 : Int32) (a3 : Int32) (hk76 : ∀ (v5 : Int32) (v6 : Int32) (μ : Mem) (H : Heap) (locs : List Loc) (ls : Array Slot), k76 v5 v6 μ → ZS D ca base ad n np μ s H locs → lv_has ls 7 [(0, .ref (ad 0 0)), (1, .int a1), (5, .int v5), (6, .int v6)] → W p l e ({ frames := 2, cells := 0, slots := 0, locals := 43 } : Room) s m args below meth c H locs 0 0 (MQ below (ZQ D ca base ad n np (zpi post)) args s 0 0 (zB base)) (F0 m 76 ls [])) (v6 : Int32) (s0 : Int32) (s1 : Int32) (μ : Mem) (H : Heap) (locs : List Loc) (ls : Array Slot) (h : b_X5_plays_105 post k76 a1 a2 a3 v6 s0 s1 μ) (hZ : ZS D ca base ad n np μ s H locs) (hl : lv_has ls 7 [(0, .ref (ad 0 0)), (1, .int a1), (6, .int v6)]) : W p l e ({ frames := 2, cells := 0, slots := 0, locals := 43 } : Room) s m args below meth c H locs 0 0 (MQ below (ZQ D ca base ad n np (zpi post)) args s 0 0 (zB base)) (F0 m 105 ls [.int s1, .int s0]) := by
  unfold b_X5_plays_105 at h
  refine lv_iadd hC.1 hC.2.1 dX5_plays_105 ?_
  refine lv_istore (lv' := [(5, .int (s0 + s1)), (0, .ref (ad 0 0)), (1, .int a1), (6, .int v6)]) hC.1 hC.2.1 dX5_plays_106 hl (by decide) rfl (fun ls hl => ?_)
  refine lv_iinc (v := v6 + 1) (lv' := [(6, .int (v6 + 1)), (5, .int (s0 + s1)), (0, .ref (ad 0 0)), (1, .int a1)]) hC.1 hC.2.1 dX5_plays_108 hl (k := 3) rfl rfl (by decide) rfl (fun ls hl => ?_)
  refine lv_goto (tgt := 76) hC.1 hC.2.1 dX5_plays_111 (by decide) ?_
  exact hk76 _ _ _ _ _ _ h hZ (lv_sub hl [2, 3, 1, 0] rfl)
def lb_X5_plays_76 (post : Int32 → Mem → Prop) (k76 : Int32 → Int32 → Mem → Prop) (a1 : Int32) (a2 : Int32) (a3 : Int32) (v5 : Int32) (v6 : Int32) (μ : Mem) : Prop := ((5 ≤ v6 → post v5 μ) ∧ (¬ 5 ≤ v6 → (vp_in ((5 * a1) + v6) 50 ∧ ((¬ (μ 5 0 ((5 * a1) + v6).toNatClampNeg) = (-2) → b_X5_plays_105 post k76 a1 a2 a3 v6 v5 (1 : Int32) μ) ∧ ((μ 5 0 ((5 * a1) + v6).toNatClampNeg) = (-2) → b_X5_plays_105 post k76 a1 a2 a3 v6 v5 (0 : Int32) μ)))))
def l_X5_plays_76 (post : Int32 → Mem → Prop) (a1 : Int32) (a2 : Int32) (a3 : Int32) : Nat → Int32 → Int32 → Mem → Prop
  | 0 => fun _ _ _ => False
  | fuel + 1 => lb_X5_plays_76 post (l_X5_plays_76 post a1 a2 a3 fuel) a1 a2 a3 
set_option maxRecDepth 100000 in
set_option maxHeartbeats 4000000 in
theorem t_X5_plays_76 {p : Program} {l : Launch} {e : Env} {s : State} {m : MethodId} {args : Array Value} {below : List Frame} {meth : Method} {c : Code} {D : va_G} {ca : Nat → ClassId} {base : Nat} {ad : Nat → Nat → Nat} {n np : Nat} {post : Int32 → Mem → Prop} (hC : ZC p m meth c s RX5 cX5_plays 7) (hr : meth.sig.returnType = (some FieldType.int)) (a1 : Int32) (a2 : Int32) (a3 : Int32) : ∀ (fuel : Nat) (v5 : Int32) (v6 : Int32) (μ : Mem) (H : Heap) (locs : List Loc) (ls : Array Slot), l_X5_plays_76 post a1 a2 a3 fuel v5 v6 μ → ZS D ca base ad n np μ s H locs → lv_has ls 7 [(0, .ref (ad 0 0)), (1, .int a1), (5, .int v5), (6, .int v6)] → W p l e ({ frames := 2, cells := 0, slots := 0, locals := 43 } : Room) s m args below meth c H locs 0 0 (MQ below (ZQ D ca base ad n np (zpi post)) args s 0 0 (zB base)) (F0 m 76 ls []) := by
  intro fuel
  induction fuel with
  | zero => exact fun _ _ _ _ _ _ h => h.elim
  | succ fuel hk76 =>
    intro v5 v6 μ H locs ls h hZ hl
    have h : lb_X5_plays_76 post (l_X5_plays_76 post a1 a2 a3 fuel) a1 a2 a3 v5 v6 μ := h
    unfold lb_X5_plays_76 at h
    refine lv_iload hC.1 hC.2.1 dX5_plays_76 (lv_at hl 3 rfl) ?_
    refine lv_iconst (v := 5) hC.1 hC.2.1 dX5_plays_78 (by decide) ?_
    refine lv_icmp_ge (tgt := 114) hC.1 hC.2.1 dX5_plays_79 (by decide) (fun c12 => ?_) (fun c12 => ?_)
    · have h := h.1 c12
      refine lv_iload hC.1 hC.2.1 dX5_plays_114 (lv_at hl 2 rfl) ?_
      exact z_iret hC hr hZ h dX5_plays_116 (Nat.le_of_ble_eq_true rfl) (Nat.le_of_ble_eq_true rfl)
    · have h := h.2 c12
      refine lv_iload hC.1 hC.2.1 dX5_plays_82 (lv_at hl 2 rfl) ?_
      refine lv_aload_n hC.1 hC.2.1 dX5_plays_84 rfl (lv_at hl 0 rfl) ?_
      refine gX5_8 hC hZ kf_X5_26 dX5_plays_85 ?_
      refine lv_iconst (v := 5) hC.1 hC.2.1 dX5_plays_88 (by decide) ?_
      refine lv_iload_n hC.1 hC.2.1 dX5_plays_89 rfl (lv_at hl 1 rfl) ?_
      refine lv_imul hC.1 hC.2.1 dX5_plays_90 ?_
      refine lv_iload hC.1 hC.2.1 dX5_plays_91 (lv_at hl 3 rfl) ?_
      refine lv_iadd hC.1 hC.2.1 dX5_plays_93 ?_
      obtain ⟨q13, h⟩ := h
      refine aL_5 hC hZ q13 dX5_plays_94 ?_
      refine lv_bipush (v := (-2)) hC.1 hC.2.1 dX5_plays_95 (by decide) ?_
      refine lv_icmp_ne (tgt := 104) hC.1 hC.2.1 dX5_plays_97 (by decide) (fun c14 => ?_) (fun c14 => ?_)
      · have h := h.1 c14
        refine lv_iconst (v := 1) hC.1 hC.2.1 dX5_plays_104 (by decide) ?_
        exact t_X5_plays_105 (l := l) hC hr _ _ _ hk76 _ _ _ _ _ _ _ h hZ (lv_sub hl [0, 1, 3] rfl)
      · have h := h.2 c14
        refine lv_iconst (v := 0) hC.1 hC.2.1 dX5_plays_100 (by decide) ?_
        refine lv_goto (tgt := 105) hC.1 hC.2.1 dX5_plays_101 (by decide) ?_
        exact t_X5_plays_105 (l := l) hC hr _ _ _ hk76 _ _ _ _ _ _ _ h hZ (lv_sub hl [0, 1, 3] rfl)
def b_X5_plays_51 (post : Int32 → Mem → Prop) (a1 : Int32) (a2 : Int32) (a3 : Int32) (s1 : Int32) (s2 : Int32) (s3 : Int32) (μ : Mem) : Prop := (w_X5_goes (fun (r8 : Int32) (μ7 : Mem) => ((¬ r8 = 0 → (vp_in ((5 * a1) + a2) 50 ∧ ∀ μ11 : Mem, μ11 = zst μ7 5 0 (((5 * a1) + a2).toNatClampNeg) a3 → (∃ fuel : Nat, l_X5_plays_76 post a1 a2 a3 fuel (0 : Int32) (0 : Int32) μ11))) ∧ (r8 = 0 → post 0 μ7))) s1 s2 s3 μ)
set_option maxRecDepth 100000 in
set_option maxHeartbeats 4000000 in
theorem t_X5_plays_51 {p : Program} {l : Launch} {e : Env} {s : State} {m : MethodId} {args : Array Value} {below : List Frame} {meth : Method} {c : Code} {D : va_G} {ca : Nat → ClassId} {base : Nat} {ad : Nat → Nat → Nat} {n np : Nat} {post : Int32 → Mem → Prop} (hC : ZC p m meth c s RX5 cX5_plays 7) (hr : meth.sig.returnType = (some FieldType.int)) (a1 : Int32) (a2 : Int32) (a3 : Int32) (s1 : Int32) (s2 : Int32) (s3 : Int32) (μ : Mem) (H : Heap) (locs : List Loc) (ls : Array Slot) (h : b_X5_plays_51 post a1 a2 a3 s1 s2 s3 μ) (hZ : ZS D ca base ad n np μ s H locs) (hl : lv_has ls 7 [(0, .ref (ad 0 0)), (1, .int a1), (2, .int a2), (3, .int a3)]) : W p l e ({ frames := 2, cells := 0, slots := 0, locals := 43 } : Room) s m args below meth c H locs 0 0 (MQ below (ZQ D ca base ad n np (zpi post)) args s 0 0 (zB base)) (F0 m 51 ls [.int s3, .int s2, .int s1, .ref (ad 0 0)]) := by
  unfold b_X5_plays_51 at h
  refine z_cVi (As := [.int s1, .int s2, .int s3]) hC hZ (zF_0 _) rfl zy_X5_goes (c_X5_goes l h) km_X5_115 rfl ⟨rfl, rfl⟩ ⟨Nat.le_of_ble_eq_true rfl, Nat.le_of_ble_eq_true rfl⟩ hl.1 rfl (Nat.le_of_ble_eq_true rfl) dX5_plays_51 ⟨Nat.le_of_ble_eq_true rfl, Nat.le_of_ble_eq_true rfl⟩ (fun r8 μ7 H locs h hZ => ?_)
  refine lv_if_ne (tgt := 59) hC.1 hC.2.1 dX5_plays_54 (by decide) (fun c9 => ?_) (fun c9 => ?_)
  · have h := h.1 c9
    refine lv_aload_n hC.1 hC.2.1 dX5_plays_59 rfl (lv_at hl 0 rfl) ?_
    refine gX5_8 hC hZ kf_X5_26 dX5_plays_60 ?_
    refine lv_iconst (v := 5) hC.1 hC.2.1 dX5_plays_63 (by decide) ?_
    refine lv_iload_n hC.1 hC.2.1 dX5_plays_64 rfl (lv_at hl 1 rfl) ?_
    refine lv_imul hC.1 hC.2.1 dX5_plays_65 ?_
    refine lv_iload_n hC.1 hC.2.1 dX5_plays_66 rfl (lv_at hl 2 rfl) ?_
    refine lv_iadd hC.1 hC.2.1 dX5_plays_67 ?_
    refine lv_iload_n hC.1 hC.2.1 dX5_plays_68 rfl (lv_at hl 3 rfl) ?_
    obtain ⟨q10, h⟩ := h
    refine aS_5 hC hZ q10 dX5_plays_69 (fun μ11 H locs eμ11 hZ => ?_)
    have h := h μ11 eμ11
    refine lv_iconst (v := 0) hC.1 hC.2.1 dX5_plays_70 (by decide) ?_
    refine lv_istore (lv' := [(5, .int 0), (0, .ref (ad 0 0)), (1, .int a1), (2, .int a2), (3, .int a3)]) hC.1 hC.2.1 dX5_plays_71 hl (by decide) rfl (fun ls hl => ?_)
    refine lv_iconst (v := 0) hC.1 hC.2.1 dX5_plays_73 (by decide) ?_
    refine lv_istore (lv' := [(6, .int 0), (5, .int 0), (0, .ref (ad 0 0)), (1, .int a1), (2, .int a2), (3, .int a3)]) hC.1 hC.2.1 dX5_plays_74 hl (by decide) rfl (fun ls hl => ?_)
    obtain ⟨fuel, h⟩ := h
    exact t_X5_plays_76 (l := l) hC hr _ _ _ _ _ _ _ _ _ _ h hZ (lv_sub hl [2, 3, 1, 0] rfl)
  · have h := h.2 c9
    refine lv_iconst (v := 0) hC.1 hC.2.1 dX5_plays_57 (by decide) ?_
    exact z_iret hC hr hZ h dX5_plays_58 (Nat.le_of_ble_eq_true rfl) (Nat.le_of_ble_eq_true rfl)
def b_X5_plays_50 (post : Int32 → Mem → Prop) (a1 : Int32) (a2 : Int32) (a3 : Int32) (s1 : Int32) (s2 : Int32) (μ : Mem) : Prop := b_X5_plays_51 post a1 a2 a3 s1 s2 (0 : Int32) μ
set_option maxRecDepth 100000 in
set_option maxHeartbeats 4000000 in
theorem t_X5_plays_50 {p : Program} {l : Launch} {e : Env} {s : State} {m : MethodId} {args : Array Value} {below : List Frame} {meth : Method} {c : Code} {D : va_G} {ca : Nat → ClassId} {base : Nat} {ad : Nat → Nat → Nat} {n np : Nat} {post : Int32 → Mem → Prop} (hC : ZC p m meth c s RX5 cX5_plays 7) (hr : meth.sig.returnType = (some FieldType.int)) (a1 : Int32) (a2 : Int32) (a3 : Int32) (s1 : Int32) (s2 : Int32) (μ : Mem) (H : Heap) (locs : List Loc) (ls : Array Slot) (h : b_X5_plays_50 post a1 a2 a3 s1 s2 μ) (hZ : ZS D ca base ad n np μ s H locs) (hl : lv_has ls 7 [(0, .ref (ad 0 0)), (1, .int a1), (2, .int a2), (3, .int a3)]) : W p l e ({ frames := 2, cells := 0, slots := 0, locals := 43 } : Room) s m args below meth c H locs 0 0 (MQ below (ZQ D ca base ad n np (zpi post)) args s 0 0 (zB base)) (F0 m 50 ls [.int s2, .int s1, .ref (ad 0 0)]) := by
  unfold b_X5_plays_50 at h
  refine lv_iconst (v := 0) hC.1 hC.2.1 dX5_plays_50 (by decide) ?_
  exact t_X5_plays_51 (l := l) hC hr _ _ _ _ _ _ _ _ _ _ h hZ (lv_sub hl [0, 1, 2, 3] rfl)
def b_X5_plays_20 (post : Int32 → Mem → Prop) (a1 : Int32) (a2 : Int32) (a3 : Int32) (s0 : Int32) (μ : Mem) : Prop := (w_X5_in (fun (r5 : Int32) (μ4 : Mem) => ((s0 = 0 → b_X5_plays_50 post a1 a2 a3 s0 r5 μ4) ∧ (¬ s0 = 0 → (vp_in a1 10 ∧ ((¬ (μ4 3 0 a1.toNatClampNeg) = 0 → b_X5_plays_50 post a1 a2 a3 s0 r5 μ4) ∧ ((μ4 3 0 a1.toNatClampNeg) = 0 → b_X5_plays_51 post a1 a2 a3 s0 r5 (1 : Int32) μ4)))))) a3 (-1 : Int32) (20 : Int32) μ)
set_option maxRecDepth 100000 in
set_option maxHeartbeats 4000000 in
theorem t_X5_plays_20 {p : Program} {l : Launch} {e : Env} {s : State} {m : MethodId} {args : Array Value} {below : List Frame} {meth : Method} {c : Code} {D : va_G} {ca : Nat → ClassId} {base : Nat} {ad : Nat → Nat → Nat} {n np : Nat} {post : Int32 → Mem → Prop} (hC : ZC p m meth c s RX5 cX5_plays 7) (hr : meth.sig.returnType = (some FieldType.int)) (a1 : Int32) (a2 : Int32) (a3 : Int32) (s0 : Int32) (μ : Mem) (H : Heap) (locs : List Loc) (ls : Array Slot) (h : b_X5_plays_20 post a1 a2 a3 s0 μ) (hZ : ZS D ca base ad n np μ s H locs) (hl : lv_has ls 7 [(0, .ref (ad 0 0)), (1, .int a1), (2, .int a2), (3, .int a3)]) : W p l e ({ frames := 2, cells := 0, slots := 0, locals := 43 } : Room) s m args below meth c H locs 0 0 (MQ below (ZQ D ca base ad n np (zpi post)) args s 0 0 (zB base)) (F0 m 20 ls [.int s0]) := by
  unfold b_X5_plays_20 at h
  refine lv_istore (lv' := [(4, .int s0), (0, .ref (ad 0 0)), (1, .int a1), (2, .int a2), (3, .int a3)]) hC.1 hC.2.1 dX5_plays_20 hl (by decide) rfl (fun ls hl => ?_)
  refine lv_aload_n hC.1 hC.2.1 dX5_plays_22 rfl (lv_at hl 1 rfl) ?_
  refine lv_iload hC.1 hC.2.1 dX5_plays_23 (lv_at hl 0 rfl) ?_
  refine lv_iload_n hC.1 hC.2.1 dX5_plays_25 rfl (lv_at hl 4 rfl) ?_
  refine lv_iconst (v := (-1)) hC.1 hC.2.1 dX5_plays_26 (by decide) ?_
  refine lv_bipush (v := 20) hC.1 hC.2.1 dX5_plays_27 (by decide) ?_
  refine z_cSi (As := [.int a3, .int (-1), .int 20]) hC hZ zy_X5_in (c_X5_in l h) km_X5_81 rfl ⟨rfl, rfl⟩ ⟨Nat.le_of_ble_eq_true rfl, Nat.le_of_ble_eq_true rfl⟩ hl.1 rfl (Nat.le_of_ble_eq_true rfl) dX5_plays_29 ⟨Nat.le_of_ble_eq_true rfl, Nat.le_of_ble_eq_true rfl⟩ (fun r5 μ4 H locs h hZ => ?_)
  refine lv_iload hC.1 hC.2.1 dX5_plays_32 (lv_at hl 0 rfl) ?_
  refine lv_if_eq (tgt := 50) hC.1 hC.2.1 dX5_plays_34 (by decide) (fun c6 => ?_) (fun c6 => ?_)
  · have h := h.1 c6
    exact t_X5_plays_50 (l := l) hC hr _ _ _ _ _ _ _ _ _ h hZ (lv_sub hl [1, 2, 3, 4] rfl)
  · have h := h.2 c6
    refine lv_aload_n hC.1 hC.2.1 dX5_plays_37 rfl (lv_at hl 1 rfl) ?_
    refine gX5_6 hC hZ kf_X5_20 dX5_plays_38 ?_
    refine lv_iload_n hC.1 hC.2.1 dX5_plays_41 rfl (lv_at hl 2 rfl) ?_
    obtain ⟨q15, h⟩ := h
    refine aL_3 hC hZ q15 dX5_plays_42 ?_
    refine lv_if_ne (tgt := 50) hC.1 hC.2.1 dX5_plays_43 (by decide) (fun c16 => ?_) (fun c16 => ?_)
    · have h := h.1 c16
      exact t_X5_plays_50 (l := l) hC hr _ _ _ _ _ _ _ _ _ h hZ (lv_sub hl [1, 2, 3, 4] rfl)
    · have h := h.2 c16
      refine lv_iconst (v := 1) hC.1 hC.2.1 dX5_plays_46 (by decide) ?_
      refine lv_goto (tgt := 51) hC.1 hC.2.1 dX5_plays_47 (by decide) ?_
      exact t_X5_plays_51 (l := l) hC hr _ _ _ _ _ _ _ _ _ _ h hZ (lv_sub hl [1, 2, 3, 4] rfl)
def b_X5_plays_19 (post : Int32 → Mem → Prop) (a1 : Int32) (a2 : Int32) (a3 : Int32) (μ : Mem) : Prop := b_X5_plays_20 post a1 a2 a3 (0 : Int32) μ
set_option maxRecDepth 100000 in
set_option maxHeartbeats 4000000 in
theorem t_X5_plays_19 {p : Program} {l : Launch} {e : Env} {s : State} {m : MethodId} {args : Array Value} {below : List Frame} {meth : Method} {c : Code} {D : va_G} {ca : Nat → ClassId} {base : Nat} {ad : Nat → Nat → Nat} {n np : Nat} {post : Int32 → Mem → Prop} (hC : ZC p m meth c s RX5 cX5_plays 7) (hr : meth.sig.returnType = (some FieldType.int)) (a1 : Int32) (a2 : Int32) (a3 : Int32) (μ : Mem) (H : Heap) (locs : List Loc) (ls : Array Slot) (h : b_X5_plays_19 post a1 a2 a3 μ) (hZ : ZS D ca base ad n np μ s H locs) (hl : lv_has ls 7 [(0, .ref (ad 0 0)), (1, .int a1), (2, .int a2), (3, .int a3)]) : W p l e ({ frames := 2, cells := 0, slots := 0, locals := 43 } : Room) s m args below meth c H locs 0 0 (MQ below (ZQ D ca base ad n np (zpi post)) args s 0 0 (zB base)) (F0 m 19 ls []) := by
  unfold b_X5_plays_19 at h
  refine lv_iconst (v := 0) hC.1 hC.2.1 dX5_plays_19 (by decide) ?_
  exact t_X5_plays_20 (l := l) hC hr _ _ _ _ _ _ _ _ h hZ (lv_sub hl [0, 1, 2, 3] rfl)
def w_X5_plays (post : Int32 → Mem → Prop) (a1 : Int32) (a2 : Int32) (a3 : Int32) (μ : Mem) : Prop := (w_X5_isScene (fun (r2 : Int32) (μ1 : Mem) => ((r2 = 0 → b_X5_plays_19 post a1 a2 a3 μ1) ∧ (¬ r2 = 0 → (w_X5_isActor (fun (r18 : Int32) (μ17 : Mem) => ((r18 = 0 → b_X5_plays_19 post a1 a2 a3 μ17) ∧ (¬ r18 = 0 → b_X5_plays_20 post a1 a2 a3 (1 : Int32) μ17))) a2 μ1)))) a1 μ)
set_option maxRecDepth 100000 in
set_option maxHeartbeats 4000000 in
theorem c_X5_plays (l : Launch) {D : va_G} {ca : Nat → ClassId} {base : Nat} {ad : Nat → Nat → Nat} {n np : Nat} {μ : Mem} {post : Int32 → Mem → Prop} {a1 : Int32} {a2 : Int32} {a3 : Int32} (h : w_X5_plays post a1 a2 a3 μ) : ZMet l yX5_plays cX5_plays 7 (some FieldType.int) ({ frames := 2, cells := 0, slots := 0, locals := 43 } : Room) 0 0 D ca base ad n np [.ref (ad 0 0), .int a1, .int a2, .int a3] μ (zpi post) := by
  unfold ZMet
  refine Met.ofW (cc := cX5_plays) (maxL := 7) (ret := (some FieldType.int)) (by decide) rfl ?_
  intro p e s m args below meth c s₁ B hml hv
  obtain ⟨rfl, hU⟩ := hv
  have hZ := hU.toS
  have hC : ZC p m meth c s RX5 cX5_plays 7 := ⟨B.exec, B.bytes, hml, findClass_of_methodNamed B.named, B.notSynchronized⟩
  have hr := B.returns
  have key : W p l e ({ frames := 2, cells := 0, slots := 0, locals := 43 } : Room) s m (([.ref (ad 0 0), .int a1, .int a2, .int a3] : List Value).toArray) below meth c s.heap [] 0 0 (MQ below (ZQ D ca base ad n np (zpi post)) (([.ref (ad 0 0), .int a1, .int a2, .int a3] : List Value).toArray) s 0 0 (zB base)) (entryFrame m (([.ref (ad 0 0), .int a1, .int a2, .int a3] : List Value).toArray) 7) := by
    have hl := lv_entry ([.ref (ad 0 0), .int a1, .int a2, .int a3]) (n := 7) (Nat.le_of_ble_eq_true rfl)
    rw [lg_entry_eq]
    generalize (lg_sl ([.ref (ad 0 0), .int a1, .int a2, .int a3]) ++ List.replicate (7 - (lg_sl ([.ref (ad 0 0), .int a1, .int a2, .int a3])).length) Slot.unset).toArray = ls at hl ⊢
    have hl : lv_has ls 7 [(0, .ref (ad 0 0)), (1, .int a1), (2, .int a2), (3, .int a3)] := hl
    unfold w_X5_plays at h
    refine lv_aload_n hC.1 hC.2.1 dX5_plays_0 rfl (lv_at hl 0 rfl) ?_
    refine lv_iload_n hC.1 hC.2.1 dX5_plays_1 rfl (lv_at hl 1 rfl) ?_
    refine z_cVi (As := [.int a1]) hC hZ (zF_0 _) rfl zy_X5_isScene (c_X5_isScene l h) km_X5_123 rfl ⟨rfl, rfl⟩ ⟨Nat.le_of_ble_eq_true rfl, Nat.le_of_ble_eq_true rfl⟩ hl.1 rfl (Nat.le_of_ble_eq_true rfl) dX5_plays_2 ⟨Nat.le_of_ble_eq_true rfl, Nat.le_of_ble_eq_true rfl⟩ (fun r2 μ1 H locs h hZ => ?_)
    refine lv_if_eq (tgt := 19) hC.1 hC.2.1 dX5_plays_5 (by decide) (fun c3 => ?_) (fun c3 => ?_)
    · have h := h.1 c3
      exact t_X5_plays_19 (l := l) hC hr _ _ _  _ _ _ _ h hZ (lv_sub hl [0, 1, 2, 3] rfl)
    · have h := h.2 c3
      refine lv_iload_n hC.1 hC.2.1 dX5_plays_8 rfl (lv_at hl 2 rfl) ?_
      refine z_cSi (As := [.int a2]) hC hZ zy_X5_isActor (c_X5_isActor l h) km_X5_127 rfl ⟨rfl, rfl⟩ ⟨Nat.le_of_ble_eq_true rfl, Nat.le_of_ble_eq_true rfl⟩ hl.1 rfl (Nat.le_of_ble_eq_true rfl) dX5_plays_9 ⟨Nat.le_of_ble_eq_true rfl, Nat.le_of_ble_eq_true rfl⟩ (fun r18 μ17 H locs h hZ => ?_)
      refine lv_if_eq (tgt := 19) hC.1 hC.2.1 dX5_plays_12 (by decide) (fun c19 => ?_) (fun c19 => ?_)
      · have h := h.1 c19
        exact t_X5_plays_19 (l := l) hC hr _ _ _  _ _ _ _ h hZ (lv_sub hl [0, 1, 2, 3] rfl)
      · have h := h.2 c19
        refine lv_iconst (v := 1) hC.1 hC.2.1 dX5_plays_15 (by decide) ?_
        refine lv_goto (tgt := 20) hC.1 hC.2.1 dX5_plays_16 (by decide) ?_
        exact t_X5_plays_20 (l := l) hC hr _ _ _ _ _ _ _ _ h hZ (lv_sub hl [0, 1, 2, 3] rfl)
  exact key
def w_X5_isUsed (post : Int32 → Mem → Prop) (a1 : Int32) (a2 : Int32) (μ : Mem) : Prop := (vp_in a1 10 ∧ (((μ 3 0 a1.toNatClampNeg) = 2 → post 0 μ) ∧ (¬ (μ 3 0 a1.toNatClampNeg) = 2 → (vp_in ((5 * a1) + a2) 50 ∧ (((μ 6 0 ((5 * a1) + a2).toNatClampNeg) = (-1) → post 0 μ) ∧ (¬ (μ 6 0 ((5 * a1) + a2).toNatClampNeg) = (-1) → post 1 μ))))))
set_option maxRecDepth 100000 in
set_option maxHeartbeats 4000000 in
theorem c_X5_isUsed (l : Launch) {D : va_G} {ca : Nat → ClassId} {base : Nat} {ad : Nat → Nat → Nat} {n np : Nat} {μ : Mem} {post : Int32 → Mem → Prop} {a1 : Int32} {a2 : Int32} (h : w_X5_isUsed post a1 a2 μ) : ZMet l yX5_isUsed cX5_isUsed 3 (some FieldType.boolean) ({ frames := 0, cells := 0, slots := 0, locals := 0 } : Room) 0 0 D ca base ad n np [.ref (ad 0 0), .int a1, .int a2] μ (zpi post) := by
  unfold ZMet
  refine Met.ofW (cc := cX5_isUsed) (maxL := 3) (ret := (some FieldType.boolean)) (by decide) rfl ?_
  intro p e s m args below meth c s₁ B hml hv
  obtain ⟨rfl, hU⟩ := hv
  have hZ := hU.toS
  have hC : ZC p m meth c s RX5 cX5_isUsed 3 := ⟨B.exec, B.bytes, hml, findClass_of_methodNamed B.named, B.notSynchronized⟩
  have hr := B.returns
  have key : W p l e ({ frames := 0, cells := 0, slots := 0, locals := 0 } : Room) s m (([.ref (ad 0 0), .int a1, .int a2] : List Value).toArray) below meth c s.heap [] 0 0 (MQ below (ZQ D ca base ad n np (zpi post)) (([.ref (ad 0 0), .int a1, .int a2] : List Value).toArray) s 0 0 (zB base)) (entryFrame m (([.ref (ad 0 0), .int a1, .int a2] : List Value).toArray) 3) := by
    have hl := lv_entry ([.ref (ad 0 0), .int a1, .int a2]) (n := 3) (Nat.le_of_ble_eq_true rfl)
    rw [lg_entry_eq]
    generalize (lg_sl ([.ref (ad 0 0), .int a1, .int a2]) ++ List.replicate (3 - (lg_sl ([.ref (ad 0 0), .int a1, .int a2])).length) Slot.unset).toArray = ls at hl ⊢
    have hl : lv_has ls 3 [(0, .ref (ad 0 0)), (1, .int a1), (2, .int a2)] := hl
    unfold w_X5_isUsed at h
    refine lv_aload_n hC.1 hC.2.1 dX5_isUsed_0 rfl (lv_at hl 0 rfl) ?_
    refine gX5_6 hC hZ kf_X5_20 dX5_isUsed_1 ?_
    refine lv_iload_n hC.1 hC.2.1 dX5_isUsed_4 rfl (lv_at hl 1 rfl) ?_
    obtain ⟨q1, h⟩ := h
    refine aL_3 hC hZ q1 dX5_isUsed_5 ?_
    refine lv_iconst (v := 2) hC.1 hC.2.1 dX5_isUsed_6 (by decide) ?_
    refine lv_icmp_eq (tgt := 28) hC.1 hC.2.1 dX5_isUsed_7 (by decide) (fun c2 => ?_) (fun c2 => ?_)
    · have h := h.1 c2
      refine lv_iconst (v := 0) hC.1 hC.2.1 dX5_isUsed_28 (by decide) ?_
      exact z_bret hC hr hZ (by decide) h dX5_isUsed_29 (Nat.le_of_ble_eq_true rfl) (Nat.le_of_ble_eq_true rfl)
    · have h := h.2 c2
      refine lv_aload_n hC.1 hC.2.1 dX5_isUsed_10 rfl (lv_at hl 0 rfl) ?_
      refine gX5_9 hC hZ kf_X5_29 dX5_isUsed_11 ?_
      refine lv_iconst (v := 5) hC.1 hC.2.1 dX5_isUsed_14 (by decide) ?_
      refine lv_iload_n hC.1 hC.2.1 dX5_isUsed_15 rfl (lv_at hl 1 rfl) ?_
      refine lv_imul hC.1 hC.2.1 dX5_isUsed_16 ?_
      refine lv_iload_n hC.1 hC.2.1 dX5_isUsed_17 rfl (lv_at hl 2 rfl) ?_
      refine lv_iadd hC.1 hC.2.1 dX5_isUsed_18 ?_
      obtain ⟨q3, h⟩ := h
      refine aL_6 hC hZ q3 dX5_isUsed_19 ?_
      refine lv_iconst (v := (-1)) hC.1 hC.2.1 dX5_isUsed_20 (by decide) ?_
      refine lv_icmp_eq (tgt := 28) hC.1 hC.2.1 dX5_isUsed_21 (by decide) (fun c4 => ?_) (fun c4 => ?_)
      · have h := h.1 c4
        refine lv_iconst (v := 0) hC.1 hC.2.1 dX5_isUsed_28 (by decide) ?_
        exact z_bret hC hr hZ (by decide) h dX5_isUsed_29 (Nat.le_of_ble_eq_true rfl) (Nat.le_of_ble_eq_true rfl)
      · have h := h.2 c4
        refine lv_iconst (v := 1) hC.1 hC.2.1 dX5_isUsed_24 (by decide) ?_
        refine lv_goto (tgt := 29) hC.1 hC.2.1 dX5_isUsed_25 (by decide) ?_
        exact z_bret hC hr hZ (by decide) h dX5_isUsed_29 (Nat.le_of_ble_eq_true rfl) (Nat.le_of_ble_eq_true rfl)
  exact key
def b_X5_ages_98 (post : Int32 → Mem → Prop) (k6 : Int32 → Int32 → Mem → Prop) (a1 : Int32) (a2 : Int32) (a3 : Int32) (a4 : Int32) (v6 : Int32) (s0 : Int32) (μ : Mem) : Prop := k6 s0 (v6 + 1) μ
set_option maxRecDepth 100000 in
set_option maxHeartbeats 4000000 in
theorem t_X5_ages_98 {p : Program} {l : Launch} {e : Env} {s : State} {m : MethodId} {args : Array Value} {below : List Frame} {meth : Method} {c : Code} {D : va_G} {ca : Nat → ClassId} {base : Nat} {ad : Nat → Nat → Nat} {n np : Nat} {post : Int32 → Mem → Prop} {k6 : Int32 → Int32 → Mem → Prop} (hC : ZC p m meth c s RX5 cX5_ages 8) (hr : meth.sig.returnType = (some FieldType.boolean)) (a1 : Int32) (a2 : Int32) (a3 : Int32) (a4 : Int32) (hk6 : ∀ (v5 : Int32) (v6 : Int32) (μ : Mem) (H : Heap) (locs : List Loc) (ls : Array Slot), k6 v5 v6 μ → ZS D ca base ad n np μ s H locs → lv_has ls 8 [(0, .ref (ad 0 0)), (1, .int a1), (2, .int a2), (3, .int a3), (4, .int a4), (5, .int v5), (6, .int v6)] → W p l e ({ frames := 1, cells := 0, slots := 0, locals := 22 } : Room) s m args below meth c H locs 0 0 (MQ below (ZQ D ca base ad n np (zpi post)) args s 0 0 (zB base)) (F0 m 6 ls [])) (v6 : Int32) (s0 : Int32) (μ : Mem) (H : Heap) (locs : List Loc) (ls : Array Slot) (h : b_X5_ages_98 post k6 a1 a2 a3 a4 v6 s0 μ) (hZ : ZS D ca base ad n np μ s H locs) (hl : lv_has ls 8 [(0, .ref (ad 0 0)), (1, .int a1), (2, .int a2), (3, .int a3), (4, .int a4), (6, .int v6)]) : W p l e ({ frames := 1, cells := 0, slots := 0, locals := 22 } : Room) s m args below meth c H locs 0 0 (MQ below (ZQ D ca base ad n np (zpi post)) args s 0 0 (zB base)) (F0 m 98 ls [.int s0]) := by
  unfold b_X5_ages_98 at h
  refine lv_istore (lv' := [(5, .int s0), (0, .ref (ad 0 0)), (1, .int a1), (2, .int a2), (3, .int a3), (4, .int a4), (6, .int v6)]) hC.1 hC.2.1 dX5_ages_98 hl (by decide) rfl (fun ls hl => ?_)
  refine lv_iinc (v := v6 + 1) (lv' := [(6, .int (v6 + 1)), (5, .int s0), (0, .ref (ad 0 0)), (1, .int a1), (2, .int a2), (3, .int a3), (4, .int a4)]) hC.1 hC.2.1 dX5_ages_100 hl (k := 6) rfl rfl (by decide) rfl (fun ls hl => ?_)
  refine lv_goto (tgt := 6) hC.1 hC.2.1 dX5_ages_103 (by decide) ?_
  exact hk6 _ _ _ _ _ _ h hZ (lv_sub hl [2, 3, 4, 5, 6, 1, 0] rfl)
def b_X5_ages_97 (post : Int32 → Mem → Prop) (k6 : Int32 → Int32 → Mem → Prop) (a1 : Int32) (a2 : Int32) (a3 : Int32) (a4 : Int32) (v6 : Int32) (μ : Mem) : Prop := b_X5_ages_98 post k6 a1 a2 a3 a4 v6 (0 : Int32) μ
set_option maxRecDepth 100000 in
set_option maxHeartbeats 4000000 in
theorem t_X5_ages_97 {p : Program} {l : Launch} {e : Env} {s : State} {m : MethodId} {args : Array Value} {below : List Frame} {meth : Method} {c : Code} {D : va_G} {ca : Nat → ClassId} {base : Nat} {ad : Nat → Nat → Nat} {n np : Nat} {post : Int32 → Mem → Prop} {k6 : Int32 → Int32 → Mem → Prop} (hC : ZC p m meth c s RX5 cX5_ages 8) (hr : meth.sig.returnType = (some FieldType.boolean)) (a1 : Int32) (a2 : Int32) (a3 : Int32) (a4 : Int32) (hk6 : ∀ (v5 : Int32) (v6 : Int32) (μ : Mem) (H : Heap) (locs : List Loc) (ls : Array Slot), k6 v5 v6 μ → ZS D ca base ad n np μ s H locs → lv_has ls 8 [(0, .ref (ad 0 0)), (1, .int a1), (2, .int a2), (3, .int a3), (4, .int a4), (5, .int v5), (6, .int v6)] → W p l e ({ frames := 1, cells := 0, slots := 0, locals := 22 } : Room) s m args below meth c H locs 0 0 (MQ below (ZQ D ca base ad n np (zpi post)) args s 0 0 (zB base)) (F0 m 6 ls [])) (v6 : Int32) (μ : Mem) (H : Heap) (locs : List Loc) (ls : Array Slot) (h : b_X5_ages_97 post k6 a1 a2 a3 a4 v6 μ) (hZ : ZS D ca base ad n np μ s H locs) (hl : lv_has ls 8 [(0, .ref (ad 0 0)), (1, .int a1), (2, .int a2), (3, .int a3), (4, .int a4), (6, .int v6)]) : W p l e ({ frames := 1, cells := 0, slots := 0, locals := 22 } : Room) s m args below meth c H locs 0 0 (MQ below (ZQ D ca base ad n np (zpi post)) args s 0 0 (zB base)) (F0 m 97 ls []) := by
  unfold b_X5_ages_97 at h
  refine lv_iconst (v := 0) hC.1 hC.2.1 dX5_ages_97 (by decide) ?_
  exact t_X5_ages_98 (l := l) hC hr _ _ _ _ hk6 _ _ _ _ _ _ h hZ (lv_sub hl [0, 1, 2, 3, 4, 5] rfl)
def b_X5_ages_93 (post : Int32 → Mem → Prop) (k6 : Int32 → Int32 → Mem → Prop) (a1 : Int32) (a2 : Int32) (a3 : Int32) (a4 : Int32) (v6 : Int32) (μ : Mem) : Prop := b_X5_ages_98 post k6 a1 a2 a3 a4 v6 (1 : Int32) μ
set_option maxRecDepth 100000 in
set_option maxHeartbeats 4000000 in
theorem t_X5_ages_93 {p : Program} {l : Launch} {e : Env} {s : State} {m : MethodId} {args : Array Value} {below : List Frame} {meth : Method} {c : Code} {D : va_G} {ca : Nat → ClassId} {base : Nat} {ad : Nat → Nat → Nat} {n np : Nat} {post : Int32 → Mem → Prop} {k6 : Int32 → Int32 → Mem → Prop} (hC : ZC p m meth c s RX5 cX5_ages 8) (hr : meth.sig.returnType = (some FieldType.boolean)) (a1 : Int32) (a2 : Int32) (a3 : Int32) (a4 : Int32) (hk6 : ∀ (v5 : Int32) (v6 : Int32) (μ : Mem) (H : Heap) (locs : List Loc) (ls : Array Slot), k6 v5 v6 μ → ZS D ca base ad n np μ s H locs → lv_has ls 8 [(0, .ref (ad 0 0)), (1, .int a1), (2, .int a2), (3, .int a3), (4, .int a4), (5, .int v5), (6, .int v6)] → W p l e ({ frames := 1, cells := 0, slots := 0, locals := 22 } : Room) s m args below meth c H locs 0 0 (MQ below (ZQ D ca base ad n np (zpi post)) args s 0 0 (zB base)) (F0 m 6 ls [])) (v6 : Int32) (μ : Mem) (H : Heap) (locs : List Loc) (ls : Array Slot) (h : b_X5_ages_93 post k6 a1 a2 a3 a4 v6 μ) (hZ : ZS D ca base ad n np μ s H locs) (hl : lv_has ls 8 [(0, .ref (ad 0 0)), (1, .int a1), (2, .int a2), (3, .int a3), (4, .int a4), (6, .int v6)]) : W p l e ({ frames := 1, cells := 0, slots := 0, locals := 22 } : Room) s m args below meth c H locs 0 0 (MQ below (ZQ D ca base ad n np (zpi post)) args s 0 0 (zB base)) (F0 m 93 ls []) := by
  unfold b_X5_ages_93 at h
  refine lv_iconst (v := 1) hC.1 hC.2.1 dX5_ages_93 (by decide) ?_
  refine lv_goto (tgt := 98) hC.1 hC.2.1 dX5_ages_94 (by decide) ?_
  exact t_X5_ages_98 (l := l) hC hr _ _ _ _ hk6 _ _ _ _ _ _ h hZ (lv_sub hl [0, 1, 2, 3, 4, 5] rfl)
def b_X5_ages_65 (post : Int32 → Mem → Prop) (k6 : Int32 → Int32 → Mem → Prop) (a1 : Int32) (a2 : Int32) (a3 : Int32) (a4 : Int32) (v5 : Int32) (v6 : Int32) (s0 : Int32) (μ : Mem) : Prop := ((v5 = 0 → b_X5_ages_97 post k6 a1 a2 a3 a4 v6 μ) ∧ (¬ v5 = 0 → ((v6 = a1 → b_X5_ages_93 post k6 a1 a2 a3 a4 v6 μ) ∧ (¬ v6 = a1 → (w_X5_isUsed (fun (r9 : Int32) (μ8 : Mem) => ((r9 = 0 → b_X5_ages_93 post k6 a1 a2 a3 a4 v6 μ8) ∧ (¬ r9 = 0 → ((s0 = 0 → b_X5_ages_97 post k6 a1 a2 a3 a4 v6 μ8) ∧ (¬ s0 = 0 → b_X5_ages_93 post k6 a1 a2 a3 a4 v6 μ8))))) v6 a2 μ)))))
set_option maxRecDepth 100000 in
set_option maxHeartbeats 4000000 in
theorem t_X5_ages_65 {p : Program} {l : Launch} {e : Env} {s : State} {m : MethodId} {args : Array Value} {below : List Frame} {meth : Method} {c : Code} {D : va_G} {ca : Nat → ClassId} {base : Nat} {ad : Nat → Nat → Nat} {n np : Nat} {post : Int32 → Mem → Prop} {k6 : Int32 → Int32 → Mem → Prop} (hC : ZC p m meth c s RX5 cX5_ages 8) (hr : meth.sig.returnType = (some FieldType.boolean)) (a1 : Int32) (a2 : Int32) (a3 : Int32) (a4 : Int32) (hk6 : ∀ (v5 : Int32) (v6 : Int32) (μ : Mem) (H : Heap) (locs : List Loc) (ls : Array Slot), k6 v5 v6 μ → ZS D ca base ad n np μ s H locs → lv_has ls 8 [(0, .ref (ad 0 0)), (1, .int a1), (2, .int a2), (3, .int a3), (4, .int a4), (5, .int v5), (6, .int v6)] → W p l e ({ frames := 1, cells := 0, slots := 0, locals := 22 } : Room) s m args below meth c H locs 0 0 (MQ below (ZQ D ca base ad n np (zpi post)) args s 0 0 (zB base)) (F0 m 6 ls [])) (v5 : Int32) (v6 : Int32) (s0 : Int32) (μ : Mem) (H : Heap) (locs : List Loc) (ls : Array Slot) (h : b_X5_ages_65 post k6 a1 a2 a3 a4 v5 v6 s0 μ) (hZ : ZS D ca base ad n np μ s H locs) (hl : lv_has ls 8 [(0, .ref (ad 0 0)), (1, .int a1), (2, .int a2), (3, .int a3), (4, .int a4), (5, .int v5), (6, .int v6)]) : W p l e ({ frames := 1, cells := 0, slots := 0, locals := 22 } : Room) s m args below meth c H locs 0 0 (MQ below (ZQ D ca base ad n np (zpi post)) args s 0 0 (zB base)) (F0 m 65 ls [.int s0]) := by
  unfold b_X5_ages_65 at h
  refine lv_istore (lv' := [(7, .int s0), (0, .ref (ad 0 0)), (1, .int a1), (2, .int a2), (3, .int a3), (4, .int a4), (5, .int v5), (6, .int v6)]) hC.1 hC.2.1 dX5_ages_65 hl (by decide) rfl (fun ls hl => ?_)
  refine lv_iload hC.1 hC.2.1 dX5_ages_67 (lv_at hl 6 rfl) ?_
  refine lv_if_eq (tgt := 97) hC.1 hC.2.1 dX5_ages_69 (by decide) (fun c6 => ?_) (fun c6 => ?_)
  · have h := h.1 c6
    exact t_X5_ages_97 (l := l) hC hr _ _ _ _ hk6 _ _ _ _ _ h hZ (lv_sub hl [1, 2, 3, 4, 5, 7] rfl)
  · have h := h.2 c6
    refine lv_iload hC.1 hC.2.1 dX5_ages_72 (lv_at hl 7 rfl) ?_
    refine lv_iload_n hC.1 hC.2.1 dX5_ages_74 rfl (lv_at hl 2 rfl) ?_
    refine lv_icmp_eq (tgt := 93) hC.1 hC.2.1 dX5_ages_75 (by decide) (fun c7 => ?_) (fun c7 => ?_)
    · have h := h.1 c7
      exact t_X5_ages_93 (l := l) hC hr _ _ _ _ hk6 _ _ _ _ _ h hZ (lv_sub hl [1, 2, 3, 4, 5, 7] rfl)
    · have h := h.2 c7
      refine lv_aload_n hC.1 hC.2.1 dX5_ages_78 rfl (lv_at hl 1 rfl) ?_
      refine lv_iload hC.1 hC.2.1 dX5_ages_79 (lv_at hl 7 rfl) ?_
      refine lv_iload_n hC.1 hC.2.1 dX5_ages_81 rfl (lv_at hl 3 rfl) ?_
      refine z_cVi (As := [.int v6, .int a2]) hC hZ (zF_0 _) rfl zy_X5_isUsed (c_X5_isUsed l h) km_X5_130 rfl ⟨rfl, rfl⟩ ⟨Nat.le_of_ble_eq_true rfl, Nat.le_of_ble_eq_true rfl⟩ hl.1 rfl (Nat.le_of_ble_eq_true rfl) dX5_ages_82 ⟨Nat.le_of_ble_eq_true rfl, Nat.le_of_ble_eq_true rfl⟩ (fun r9 μ8 H locs h hZ => ?_)
      refine lv_if_eq (tgt := 93) hC.1 hC.2.1 dX5_ages_85 (by decide) (fun c10 => ?_) (fun c10 => ?_)
      · have h := h.1 c10
        exact t_X5_ages_93 (l := l) hC hr _ _ _ _ hk6 _ _ _ _ _ h hZ (lv_sub hl [1, 2, 3, 4, 5, 7] rfl)
      · have h := h.2 c10
        refine lv_iload hC.1 hC.2.1 dX5_ages_88 (lv_at hl 0 rfl) ?_
        refine lv_if_eq (tgt := 97) hC.1 hC.2.1 dX5_ages_90 (by decide) (fun c11 => ?_) (fun c11 => ?_)
        · have h := h.1 c11
          exact t_X5_ages_97 (l := l) hC hr _ _ _ _ hk6 _ _ _ _ _ h hZ (lv_sub hl [1, 2, 3, 4, 5, 7] rfl)
        · have h := h.2 c11
          exact t_X5_ages_93 (l := l) hC hr _ _ _ _ hk6 _ _ _ _ _ h hZ (lv_sub hl [1, 2, 3, 4, 5, 7] rfl)
def lb_X5_ages_6 (post : Int32 → Mem → Prop) (k6 : Int32 → Int32 → Mem → Prop) (a1 : Int32) (a2 : Int32) (a3 : Int32) (a4 : Int32) (v5 : Int32) (v6 : Int32) (μ : Mem) : Prop := (((μ 0 0 3) ≤ v6 → ((v5 = 0 ∨ v5 = 1) ∧ post v5 μ)) ∧ (¬ (μ 0 0 3) ≤ v6 → ((a1 ≤ v6 → (vp_in ((5 * v6) + a2) 50 ∧ (((μ 6 0 ((5 * v6) + a2).toNatClampNeg) < a4 → b_X5_ages_65 post k6 a1 a2 a3 a4 v5 v6 (0 : Int32) μ) ∧ (¬ (μ 6 0 ((5 * v6) + a2).toNatClampNeg) < a4 → b_X5_ages_65 post k6 a1 a2 a3 a4 v5 v6 (1 : Int32) μ)))) ∧ (¬ a1 ≤ v6 → (vp_in ((5 * v6) + a2) 50 ∧ ((a3 < (μ 7 0 ((5 * v6) + a2).toNatClampNeg) → b_X5_ages_65 post k6 a1 a2 a3 a4 v5 v6 (0 : Int32) μ) ∧ (¬ a3 < (μ 7 0 ((5 * v6) + a2).toNatClampNeg) → b_X5_ages_65 post k6 a1 a2 a3 a4 v5 v6 (1 : Int32) μ)))))))
def l_X5_ages_6 (post : Int32 → Mem → Prop) (a1 : Int32) (a2 : Int32) (a3 : Int32) (a4 : Int32) : Nat → Int32 → Int32 → Mem → Prop
  | 0 => fun _ _ _ => False
  | fuel + 1 => lb_X5_ages_6 post (l_X5_ages_6 post a1 a2 a3 a4 fuel) a1 a2 a3 a4 
set_option maxRecDepth 100000 in
set_option maxHeartbeats 4000000 in
theorem t_X5_ages_6 {p : Program} {l : Launch} {e : Env} {s : State} {m : MethodId} {args : Array Value} {below : List Frame} {meth : Method} {c : Code} {D : va_G} {ca : Nat → ClassId} {base : Nat} {ad : Nat → Nat → Nat} {n np : Nat} {post : Int32 → Mem → Prop} (hC : ZC p m meth c s RX5 cX5_ages 8) (hr : meth.sig.returnType = (some FieldType.boolean)) (a1 : Int32) (a2 : Int32) (a3 : Int32) (a4 : Int32) : ∀ (fuel : Nat) (v5 : Int32) (v6 : Int32) (μ : Mem) (H : Heap) (locs : List Loc) (ls : Array Slot), l_X5_ages_6 post a1 a2 a3 a4 fuel v5 v6 μ → ZS D ca base ad n np μ s H locs → lv_has ls 8 [(0, .ref (ad 0 0)), (1, .int a1), (2, .int a2), (3, .int a3), (4, .int a4), (5, .int v5), (6, .int v6)] → W p l e ({ frames := 1, cells := 0, slots := 0, locals := 22 } : Room) s m args below meth c H locs 0 0 (MQ below (ZQ D ca base ad n np (zpi post)) args s 0 0 (zB base)) (F0 m 6 ls []) := by
  intro fuel
  induction fuel with
  | zero => exact fun _ _ _ _ _ _ h => h.elim
  | succ fuel hk6 =>
    intro v5 v6 μ H locs ls h hZ hl
    have h : lb_X5_ages_6 post (l_X5_ages_6 post a1 a2 a3 a4 fuel) a1 a2 a3 a4 v5 v6 μ := h
    unfold lb_X5_ages_6 at h
    refine lv_iload hC.1 hC.2.1 dX5_ages_6 (lv_at hl 6 rfl) ?_
    refine lv_aload_n hC.1 hC.2.1 dX5_ages_8 rfl (lv_at hl 0 rfl) ?_
    refine gX5_3 hC hZ kf_X5_78 dX5_ages_9 ?_
    refine lv_icmp_ge (tgt := 106) hC.1 hC.2.1 dX5_ages_12 (by decide) (fun c1 => ?_) (fun c1 => ?_)
    · have h := h.1 c1
      refine lv_iload hC.1 hC.2.1 dX5_ages_106 (lv_at hl 5 rfl) ?_
      obtain ⟨q2, h⟩ := h
      exact z_bret hC hr hZ q2 h dX5_ages_108 (Nat.le_of_ble_eq_true rfl) (Nat.le_of_ble_eq_true rfl)
    · have h := h.2 c1
      refine lv_iload hC.1 hC.2.1 dX5_ages_15 (lv_at hl 6 rfl) ?_
      refine lv_iload_n hC.1 hC.2.1 dX5_ages_17 rfl (lv_at hl 1 rfl) ?_
      refine lv_icmp_ge (tgt := 44) hC.1 hC.2.1 dX5_ages_18 (by decide) (fun c3 => ?_) (fun c3 => ?_)
      · have h := h.1 c3
        refine lv_iload hC.1 hC.2.1 dX5_ages_44 (lv_at hl 4 rfl) ?_
        refine lv_aload_n hC.1 hC.2.1 dX5_ages_46 rfl (lv_at hl 0 rfl) ?_
        refine gX5_9 hC hZ kf_X5_29 dX5_ages_47 ?_
        refine lv_iconst (v := 5) hC.1 hC.2.1 dX5_ages_50 (by decide) ?_
        refine lv_iload hC.1 hC.2.1 dX5_ages_51 (lv_at hl 6 rfl) ?_
        refine lv_imul hC.1 hC.2.1 dX5_ages_53 ?_
        refine lv_iload_n hC.1 hC.2.1 dX5_ages_54 rfl (lv_at hl 2 rfl) ?_
        refine lv_iadd hC.1 hC.2.1 dX5_ages_55 ?_
        obtain ⟨q4, h⟩ := h
        refine aL_6 hC hZ q4 dX5_ages_56 ?_
        refine lv_icmp_gt (tgt := 64) hC.1 hC.2.1 dX5_ages_57 (by decide) (fun c5 => ?_) (fun c5 => ?_)
        · have h := h.1 c5
          refine lv_iconst (v := 0) hC.1 hC.2.1 dX5_ages_64 (by decide) ?_
          exact t_X5_ages_65 (l := l) hC hr _ _ _ _ hk6 _ _ _ _ _ _ _ h hZ (lv_sub hl [0, 1, 2, 3, 4, 5, 6] rfl)
        · have h := h.2 c5
          refine lv_iconst (v := 1) hC.1 hC.2.1 dX5_ages_60 (by decide) ?_
          refine lv_goto (tgt := 65) hC.1 hC.2.1 dX5_ages_61 (by decide) ?_
          exact t_X5_ages_65 (l := l) hC hr _ _ _ _ hk6 _ _ _ _ _ _ _ h hZ (lv_sub hl [0, 1, 2, 3, 4, 5, 6] rfl)
      · have h := h.2 c3
        refine lv_aload_n hC.1 hC.2.1 dX5_ages_21 rfl (lv_at hl 0 rfl) ?_
        refine gX5_10 hC hZ kf_X5_32 dX5_ages_22 ?_
        refine lv_iconst (v := 5) hC.1 hC.2.1 dX5_ages_25 (by decide) ?_
        refine lv_iload hC.1 hC.2.1 dX5_ages_26 (lv_at hl 6 rfl) ?_
        refine lv_imul hC.1 hC.2.1 dX5_ages_28 ?_
        refine lv_iload_n hC.1 hC.2.1 dX5_ages_29 rfl (lv_at hl 2 rfl) ?_
        refine lv_iadd hC.1 hC.2.1 dX5_ages_30 ?_
        obtain ⟨q12, h⟩ := h
        refine aL_7 hC hZ q12 dX5_ages_31 ?_
        refine lv_iload_n hC.1 hC.2.1 dX5_ages_32 rfl (lv_at hl 3 rfl) ?_
        refine lv_icmp_gt (tgt := 40) hC.1 hC.2.1 dX5_ages_33 (by decide) (fun c13 => ?_) (fun c13 => ?_)
        · have h := h.1 c13
          refine lv_iconst (v := 0) hC.1 hC.2.1 dX5_ages_40 (by decide) ?_
          refine lv_goto (tgt := 65) hC.1 hC.2.1 dX5_ages_41 (by decide) ?_
          exact t_X5_ages_65 (l := l) hC hr _ _ _ _ hk6 _ _ _ _ _ _ _ h hZ (lv_sub hl [0, 1, 2, 3, 4, 5, 6] rfl)
        · have h := h.2 c13
          refine lv_iconst (v := 1) hC.1 hC.2.1 dX5_ages_36 (by decide) ?_
          refine lv_goto (tgt := 65) hC.1 hC.2.1 dX5_ages_37 (by decide) ?_
          exact t_X5_ages_65 (l := l) hC hr _ _ _ _ hk6 _ _ _ _ _ _ _ h hZ (lv_sub hl [0, 1, 2, 3, 4, 5, 6] rfl)
def w_X5_ages (post : Int32 → Mem → Prop) (a1 : Int32) (a2 : Int32) (a3 : Int32) (a4 : Int32) (μ : Mem) : Prop := (∃ fuel : Nat, l_X5_ages_6 post a1 a2 a3 a4 fuel (1 : Int32) (0 : Int32) μ)
set_option maxRecDepth 100000 in
set_option maxHeartbeats 4000000 in
theorem c_X5_ages (l : Launch) {D : va_G} {ca : Nat → ClassId} {base : Nat} {ad : Nat → Nat → Nat} {n np : Nat} {μ : Mem} {post : Int32 → Mem → Prop} {a1 : Int32} {a2 : Int32} {a3 : Int32} {a4 : Int32} (h : w_X5_ages post a1 a2 a3 a4 μ) : ZMet l yX5_ages cX5_ages 8 (some FieldType.boolean) ({ frames := 1, cells := 0, slots := 0, locals := 22 } : Room) 0 0 D ca base ad n np [.ref (ad 0 0), .int a1, .int a2, .int a3, .int a4] μ (zpi post) := by
  unfold ZMet
  refine Met.ofW (cc := cX5_ages) (maxL := 8) (ret := (some FieldType.boolean)) (by decide) rfl ?_
  intro p e s m args below meth c s₁ B hml hv
  obtain ⟨rfl, hU⟩ := hv
  have hZ := hU.toS
  have hC : ZC p m meth c s RX5 cX5_ages 8 := ⟨B.exec, B.bytes, hml, findClass_of_methodNamed B.named, B.notSynchronized⟩
  have hr := B.returns
  have key : W p l e ({ frames := 1, cells := 0, slots := 0, locals := 22 } : Room) s m (([.ref (ad 0 0), .int a1, .int a2, .int a3, .int a4] : List Value).toArray) below meth c s.heap [] 0 0 (MQ below (ZQ D ca base ad n np (zpi post)) (([.ref (ad 0 0), .int a1, .int a2, .int a3, .int a4] : List Value).toArray) s 0 0 (zB base)) (entryFrame m (([.ref (ad 0 0), .int a1, .int a2, .int a3, .int a4] : List Value).toArray) 8) := by
    have hl := lv_entry ([.ref (ad 0 0), .int a1, .int a2, .int a3, .int a4]) (n := 8) (Nat.le_of_ble_eq_true rfl)
    rw [lg_entry_eq]
    generalize (lg_sl ([.ref (ad 0 0), .int a1, .int a2, .int a3, .int a4]) ++ List.replicate (8 - (lg_sl ([.ref (ad 0 0), .int a1, .int a2, .int a3, .int a4])).length) Slot.unset).toArray = ls at hl ⊢
    have hl : lv_has ls 8 [(0, .ref (ad 0 0)), (1, .int a1), (2, .int a2), (3, .int a3), (4, .int a4)] := hl
    unfold w_X5_ages at h
    refine lv_iconst (v := 1) hC.1 hC.2.1 dX5_ages_0 (by decide) ?_
    refine lv_istore (lv' := [(5, .int 1), (0, .ref (ad 0 0)), (1, .int a1), (2, .int a2), (3, .int a3), (4, .int a4)]) hC.1 hC.2.1 dX5_ages_1 hl (by decide) rfl (fun ls hl => ?_)
    refine lv_iconst (v := 0) hC.1 hC.2.1 dX5_ages_3 (by decide) ?_
    refine lv_istore (lv' := [(6, .int 0), (5, .int 1), (0, .ref (ad 0 0)), (1, .int a1), (2, .int a2), (3, .int a3), (4, .int a4)]) hC.1 hC.2.1 dX5_ages_4 hl (by decide) rfl (fun ls hl => ?_)
    obtain ⟨fuel, h⟩ := h
    exact t_X5_ages_6 (l := l) hC hr _ _ _ _ _ _ _ _ _ _ _ h hZ (lv_sub hl [2, 3, 4, 5, 6, 1, 0] rfl)
  exact key
def b_X5_uses_154 (post : Int32 → Mem → Prop) (k126 : Int32 → Int32 → Mem → Prop) (a1 : Int32) (a2 : Int32) (a3 : Int32) (a4 : Int32) (v8 : Int32) (s0 : Int32) (s1 : Int32) (μ : Mem) : Prop := k126 (s0 + s1) (v8 + 1) μ
set_option maxRecDepth 100000 in
set_option maxHeartbeats 4000000 in
theorem t_X5_uses_154 {p : Program} {l : Launch} {e : Env} {s : State} {m : MethodId} {args : Array Value} {below : List Frame} {meth : Method} {c : Code} {D : va_G} {ca : Nat → ClassId} {base : Nat} {ad : Nat → Nat → Nat} {n np : Nat} {post : Int32 → Mem → Prop} {k126 : Int32 → Int32 → Mem → Prop} (hC : ZC p m meth c s RX5 cX5_uses 9) (hr : meth.sig.returnType = (some FieldType.int)) (a1 : Int32) (a2 : Int32) (a3 : Int32) (a4 : Int32) (hk126 : ∀ (v7 : Int32) (v8 : Int32) (μ : Mem) (H : Heap) (locs : List Loc) (ls : Array Slot), k126 v7 v8 μ → ZS D ca base ad n np μ s H locs → lv_has ls 9 [(0, .ref (ad 0 0)), (1, .int a1), (7, .int v7), (8, .int v8)] → W p l e ({ frames := 2, cells := 0, slots := 0, locals := 49 } : Room) s m args below meth c H locs 0 0 (MQ below (ZQ D ca base ad n np (zpi post)) args s 0 0 (zB base)) (F0 m 126 ls [])) (v8 : Int32) (s0 : Int32) (s1 : Int32) (μ : Mem) (H : Heap) (locs : List Loc) (ls : Array Slot) (h : b_X5_uses_154 post k126 a1 a2 a3 a4 v8 s0 s1 μ) (hZ : ZS D ca base ad n np μ s H locs) (hl : lv_has ls 9 [(0, .ref (ad 0 0)), (1, .int a1), (8, .int v8)]) : W p l e ({ frames := 2, cells := 0, slots := 0, locals := 49 } : Room) s m args below meth c H locs 0 0 (MQ below (ZQ D ca base ad n np (zpi post)) args s 0 0 (zB base)) (F0 m 154 ls [.int s1, .int s0]) := by
  unfold b_X5_uses_154 at h
  refine lv_iadd hC.1 hC.2.1 dX5_uses_154 ?_
  refine lv_istore (lv' := [(7, .int (s0 + s1)), (0, .ref (ad 0 0)), (1, .int a1), (8, .int v8)]) hC.1 hC.2.1 dX5_uses_155 hl (by decide) rfl (fun ls hl => ?_)
  refine lv_iinc (v := v8 + 1) (lv' := [(8, .int (v8 + 1)), (7, .int (s0 + s1)), (0, .ref (ad 0 0)), (1, .int a1)]) hC.1 hC.2.1 dX5_uses_157 hl (k := 3) rfl rfl (by decide) rfl (fun ls hl => ?_)
  refine lv_goto (tgt := 126) hC.1 hC.2.1 dX5_uses_160 (by decide) ?_
  exact hk126 _ _ _ _ _ _ h hZ (lv_sub hl [2, 3, 1, 0] rfl)
def lb_X5_uses_126 (post : Int32 → Mem → Prop) (k126 : Int32 → Int32 → Mem → Prop) (a1 : Int32) (a2 : Int32) (a3 : Int32) (a4 : Int32) (v7 : Int32) (v8 : Int32) (μ : Mem) : Prop := ((5 ≤ v8 → post v7 μ) ∧ (¬ 5 ≤ v8 → (vp_in ((5 * a1) + v8) 50 ∧ ((¬ (μ 6 0 ((5 * a1) + v8).toNatClampNeg) = (-1) → b_X5_uses_154 post k126 a1 a2 a3 a4 v8 v7 (1 : Int32) μ) ∧ ((μ 6 0 ((5 * a1) + v8).toNatClampNeg) = (-1) → b_X5_uses_154 post k126 a1 a2 a3 a4 v8 v7 (0 : Int32) μ)))))
def l_X5_uses_126 (post : Int32 → Mem → Prop) (a1 : Int32) (a2 : Int32) (a3 : Int32) (a4 : Int32) : Nat → Int32 → Int32 → Mem → Prop
  | 0 => fun _ _ _ => False
  | fuel + 1 => lb_X5_uses_126 post (l_X5_uses_126 post a1 a2 a3 a4 fuel) a1 a2 a3 a4 
set_option maxRecDepth 100000 in
set_option maxHeartbeats 4000000 in
theorem t_X5_uses_126 {p : Program} {l : Launch} {e : Env} {s : State} {m : MethodId} {args : Array Value} {below : List Frame} {meth : Method} {c : Code} {D : va_G} {ca : Nat → ClassId} {base : Nat} {ad : Nat → Nat → Nat} {n np : Nat} {post : Int32 → Mem → Prop} (hC : ZC p m meth c s RX5 cX5_uses 9) (hr : meth.sig.returnType = (some FieldType.int)) (a1 : Int32) (a2 : Int32) (a3 : Int32) (a4 : Int32) : ∀ (fuel : Nat) (v7 : Int32) (v8 : Int32) (μ : Mem) (H : Heap) (locs : List Loc) (ls : Array Slot), l_X5_uses_126 post a1 a2 a3 a4 fuel v7 v8 μ → ZS D ca base ad n np μ s H locs → lv_has ls 9 [(0, .ref (ad 0 0)), (1, .int a1), (7, .int v7), (8, .int v8)] → W p l e ({ frames := 2, cells := 0, slots := 0, locals := 49 } : Room) s m args below meth c H locs 0 0 (MQ below (ZQ D ca base ad n np (zpi post)) args s 0 0 (zB base)) (F0 m 126 ls []) := by
  intro fuel
  induction fuel with
  | zero => exact fun _ _ _ _ _ _ h => h.elim
  | succ fuel hk126 =>
    intro v7 v8 μ H locs ls h hZ hl
    have h : lb_X5_uses_126 post (l_X5_uses_126 post a1 a2 a3 a4 fuel) a1 a2 a3 a4 v7 v8 μ := h
    unfold lb_X5_uses_126 at h
    refine lv_iload hC.1 hC.2.1 dX5_uses_126 (lv_at hl 3 rfl) ?_
    refine lv_iconst (v := 5) hC.1 hC.2.1 dX5_uses_128 (by decide) ?_
    refine lv_icmp_ge (tgt := 163) hC.1 hC.2.1 dX5_uses_129 (by decide) (fun c14 => ?_) (fun c14 => ?_)
    · have h := h.1 c14
      refine lv_iload hC.1 hC.2.1 dX5_uses_163 (lv_at hl 2 rfl) ?_
      exact z_iret hC hr hZ h dX5_uses_165 (Nat.le_of_ble_eq_true rfl) (Nat.le_of_ble_eq_true rfl)
    · have h := h.2 c14
      refine lv_iload hC.1 hC.2.1 dX5_uses_132 (lv_at hl 2 rfl) ?_
      refine lv_aload_n hC.1 hC.2.1 dX5_uses_134 rfl (lv_at hl 0 rfl) ?_
      refine gX5_9 hC hZ kf_X5_29 dX5_uses_135 ?_
      refine lv_iconst (v := 5) hC.1 hC.2.1 dX5_uses_138 (by decide) ?_
      refine lv_iload_n hC.1 hC.2.1 dX5_uses_139 rfl (lv_at hl 1 rfl) ?_
      refine lv_imul hC.1 hC.2.1 dX5_uses_140 ?_
      refine lv_iload hC.1 hC.2.1 dX5_uses_141 (lv_at hl 3 rfl) ?_
      refine lv_iadd hC.1 hC.2.1 dX5_uses_143 ?_
      obtain ⟨q15, h⟩ := h
      refine aL_6 hC hZ q15 dX5_uses_144 ?_
      refine lv_iconst (v := (-1)) hC.1 hC.2.1 dX5_uses_145 (by decide) ?_
      refine lv_icmp_ne (tgt := 153) hC.1 hC.2.1 dX5_uses_146 (by decide) (fun c16 => ?_) (fun c16 => ?_)
      · have h := h.1 c16
        refine lv_iconst (v := 1) hC.1 hC.2.1 dX5_uses_153 (by decide) ?_
        exact t_X5_uses_154 (l := l) hC hr _ _ _ _ hk126 _ _ _ _ _ _ _ h hZ (lv_sub hl [0, 1, 3] rfl)
      · have h := h.2 c16
        refine lv_iconst (v := 0) hC.1 hC.2.1 dX5_uses_149 (by decide) ?_
        refine lv_goto (tgt := 154) hC.1 hC.2.1 dX5_uses_150 (by decide) ?_
        exact t_X5_uses_154 (l := l) hC hr _ _ _ _ hk126 _ _ _ _ _ _ _ h hZ (lv_sub hl [0, 1, 3] rfl)
def b_X5_uses_89 (post : Int32 → Mem → Prop) (a1 : Int32) (a2 : Int32) (a3 : Int32) (a4 : Int32) (s1 : Int32) (s2 : Int32) (s3 : Int32) (μ : Mem) : Prop := (w_X5_goes (fun (r9 : Int32) (μ8 : Mem) => ((¬ r9 = 0 → (vp_in ((5 * a1) + a2) 50 ∧ ∀ μ12 : Mem, μ12 = zst μ8 6 0 (((5 * a1) + a2).toNatClampNeg) a3 → (∀ μ13 : Mem, μ13 = zst μ12 7 0 (((5 * a1) + a2).toNatClampNeg) a4 → (∃ fuel : Nat, l_X5_uses_126 post a1 a2 a3 a4 fuel (0 : Int32) (0 : Int32) μ13)))) ∧ (r9 = 0 → post 0 μ8))) s1 s2 s3 μ)
set_option maxRecDepth 100000 in
set_option maxHeartbeats 4000000 in
theorem t_X5_uses_89 {p : Program} {l : Launch} {e : Env} {s : State} {m : MethodId} {args : Array Value} {below : List Frame} {meth : Method} {c : Code} {D : va_G} {ca : Nat → ClassId} {base : Nat} {ad : Nat → Nat → Nat} {n np : Nat} {post : Int32 → Mem → Prop} (hC : ZC p m meth c s RX5 cX5_uses 9) (hr : meth.sig.returnType = (some FieldType.int)) (a1 : Int32) (a2 : Int32) (a3 : Int32) (a4 : Int32) (s1 : Int32) (s2 : Int32) (s3 : Int32) (μ : Mem) (H : Heap) (locs : List Loc) (ls : Array Slot) (h : b_X5_uses_89 post a1 a2 a3 a4 s1 s2 s3 μ) (hZ : ZS D ca base ad n np μ s H locs) (hl : lv_has ls 9 [(0, .ref (ad 0 0)), (1, .int a1), (2, .int a2), (3, .int a3), (4, .int a4)]) : W p l e ({ frames := 2, cells := 0, slots := 0, locals := 49 } : Room) s m args below meth c H locs 0 0 (MQ below (ZQ D ca base ad n np (zpi post)) args s 0 0 (zB base)) (F0 m 89 ls [.int s3, .int s2, .int s1, .ref (ad 0 0)]) := by
  unfold b_X5_uses_89 at h
  refine z_cVi (As := [.int s1, .int s2, .int s3]) hC hZ (zF_0 _) rfl zy_X5_goes (c_X5_goes l h) km_X5_115 rfl ⟨rfl, rfl⟩ ⟨Nat.le_of_ble_eq_true rfl, Nat.le_of_ble_eq_true rfl⟩ hl.1 rfl (Nat.le_of_ble_eq_true rfl) dX5_uses_89 ⟨Nat.le_of_ble_eq_true rfl, Nat.le_of_ble_eq_true rfl⟩ (fun r9 μ8 H locs h hZ => ?_)
  refine lv_if_ne (tgt := 97) hC.1 hC.2.1 dX5_uses_92 (by decide) (fun c10 => ?_) (fun c10 => ?_)
  · have h := h.1 c10
    refine lv_aload_n hC.1 hC.2.1 dX5_uses_97 rfl (lv_at hl 0 rfl) ?_
    refine gX5_9 hC hZ kf_X5_29 dX5_uses_98 ?_
    refine lv_iconst (v := 5) hC.1 hC.2.1 dX5_uses_101 (by decide) ?_
    refine lv_iload_n hC.1 hC.2.1 dX5_uses_102 rfl (lv_at hl 1 rfl) ?_
    refine lv_imul hC.1 hC.2.1 dX5_uses_103 ?_
    refine lv_iload_n hC.1 hC.2.1 dX5_uses_104 rfl (lv_at hl 2 rfl) ?_
    refine lv_iadd hC.1 hC.2.1 dX5_uses_105 ?_
    refine lv_iload_n hC.1 hC.2.1 dX5_uses_106 rfl (lv_at hl 3 rfl) ?_
    obtain ⟨q11, h⟩ := h
    refine aS_6 hC hZ q11 dX5_uses_107 (fun μ12 H locs eμ12 hZ => ?_)
    have h := h μ12 eμ12
    refine lv_aload_n hC.1 hC.2.1 dX5_uses_108 rfl (lv_at hl 0 rfl) ?_
    refine gX5_10 hC hZ kf_X5_32 dX5_uses_109 ?_
    refine lv_iconst (v := 5) hC.1 hC.2.1 dX5_uses_112 (by decide) ?_
    refine lv_iload_n hC.1 hC.2.1 dX5_uses_113 rfl (lv_at hl 1 rfl) ?_
    refine lv_imul hC.1 hC.2.1 dX5_uses_114 ?_
    refine lv_iload_n hC.1 hC.2.1 dX5_uses_115 rfl (lv_at hl 2 rfl) ?_
    refine lv_iadd hC.1 hC.2.1 dX5_uses_116 ?_
    refine lv_iload hC.1 hC.2.1 dX5_uses_117 (lv_at hl 4 rfl) ?_
    refine aS_7 hC hZ q11 dX5_uses_119 (fun μ13 H locs eμ13 hZ => ?_)
    have h := h μ13 eμ13
    refine lv_iconst (v := 0) hC.1 hC.2.1 dX5_uses_120 (by decide) ?_
    refine lv_istore (lv' := [(7, .int 0), (0, .ref (ad 0 0)), (1, .int a1), (2, .int a2), (3, .int a3), (4, .int a4)]) hC.1 hC.2.1 dX5_uses_121 hl (by decide) rfl (fun ls hl => ?_)
    refine lv_iconst (v := 0) hC.1 hC.2.1 dX5_uses_123 (by decide) ?_
    refine lv_istore (lv' := [(8, .int 0), (7, .int 0), (0, .ref (ad 0 0)), (1, .int a1), (2, .int a2), (3, .int a3), (4, .int a4)]) hC.1 hC.2.1 dX5_uses_124 hl (by decide) rfl (fun ls hl => ?_)
    obtain ⟨fuel, h⟩ := h
    exact t_X5_uses_126 (l := l) hC hr _ _ _ _ _ _ _ _ _ _ _ h hZ (lv_sub hl [2, 3, 1, 0] rfl)
  · have h := h.2 c10
    refine lv_iconst (v := 0) hC.1 hC.2.1 dX5_uses_95 (by decide) ?_
    exact z_iret hC hr hZ h dX5_uses_96 (Nat.le_of_ble_eq_true rfl) (Nat.le_of_ble_eq_true rfl)
def b_X5_uses_88 (post : Int32 → Mem → Prop) (a1 : Int32) (a2 : Int32) (a3 : Int32) (a4 : Int32) (s1 : Int32) (s2 : Int32) (μ : Mem) : Prop := b_X5_uses_89 post a1 a2 a3 a4 s1 s2 (0 : Int32) μ
set_option maxRecDepth 100000 in
set_option maxHeartbeats 4000000 in
theorem t_X5_uses_88 {p : Program} {l : Launch} {e : Env} {s : State} {m : MethodId} {args : Array Value} {below : List Frame} {meth : Method} {c : Code} {D : va_G} {ca : Nat → ClassId} {base : Nat} {ad : Nat → Nat → Nat} {n np : Nat} {post : Int32 → Mem → Prop} (hC : ZC p m meth c s RX5 cX5_uses 9) (hr : meth.sig.returnType = (some FieldType.int)) (a1 : Int32) (a2 : Int32) (a3 : Int32) (a4 : Int32) (s1 : Int32) (s2 : Int32) (μ : Mem) (H : Heap) (locs : List Loc) (ls : Array Slot) (h : b_X5_uses_88 post a1 a2 a3 a4 s1 s2 μ) (hZ : ZS D ca base ad n np μ s H locs) (hl : lv_has ls 9 [(0, .ref (ad 0 0)), (1, .int a1), (2, .int a2), (3, .int a3), (4, .int a4)]) : W p l e ({ frames := 2, cells := 0, slots := 0, locals := 49 } : Room) s m args below meth c H locs 0 0 (MQ below (ZQ D ca base ad n np (zpi post)) args s 0 0 (zB base)) (F0 m 88 ls [.int s2, .int s1, .ref (ad 0 0)]) := by
  unfold b_X5_uses_88 at h
  refine lv_iconst (v := 0) hC.1 hC.2.1 dX5_uses_88 (by decide) ?_
  exact t_X5_uses_89 (l := l) hC hr _ _ _ _ _ _ _ _ _ _ _ h hZ (lv_sub hl [0, 1, 2, 3, 4] rfl)
def b_X5_uses_46 (post : Int32 → Mem → Prop) (a1 : Int32) (a2 : Int32) (a3 : Int32) (a4 : Int32) (v5 : Int32) (s0 : Int32) (μ : Mem) : Prop := ((v5 = 0 → b_X5_uses_88 post a1 a2 a3 a4 v5 s0 μ) ∧ (¬ v5 = 0 → ((s0 = 0 → b_X5_uses_88 post a1 a2 a3 a4 v5 s0 μ) ∧ (¬ s0 = 0 → (vp_in a1 10 ∧ ((¬ (μ 3 0 a1.toNatClampNeg) = 0 → b_X5_uses_88 post a1 a2 a3 a4 v5 s0 μ) ∧ ((μ 3 0 a1.toNatClampNeg) = 0 → (w_X5_ages (fun (r21 : Int32) (μ20 : Mem) => ((r21 = 0 → b_X5_uses_88 post a1 a2 a3 a4 v5 s0 μ20) ∧ (¬ r21 = 0 → b_X5_uses_89 post a1 a2 a3 a4 v5 s0 (1 : Int32) μ20))) a1 a2 a3 a4 μ))))))))
set_option maxRecDepth 100000 in
set_option maxHeartbeats 4000000 in
theorem t_X5_uses_46 {p : Program} {l : Launch} {e : Env} {s : State} {m : MethodId} {args : Array Value} {below : List Frame} {meth : Method} {c : Code} {D : va_G} {ca : Nat → ClassId} {base : Nat} {ad : Nat → Nat → Nat} {n np : Nat} {post : Int32 → Mem → Prop} (hC : ZC p m meth c s RX5 cX5_uses 9) (hr : meth.sig.returnType = (some FieldType.int)) (a1 : Int32) (a2 : Int32) (a3 : Int32) (a4 : Int32) (v5 : Int32) (s0 : Int32) (μ : Mem) (H : Heap) (locs : List Loc) (ls : Array Slot) (h : b_X5_uses_46 post a1 a2 a3 a4 v5 s0 μ) (hZ : ZS D ca base ad n np μ s H locs) (hl : lv_has ls 9 [(0, .ref (ad 0 0)), (1, .int a1), (2, .int a2), (3, .int a3), (4, .int a4), (5, .int v5)]) : W p l e ({ frames := 2, cells := 0, slots := 0, locals := 49 } : Room) s m args below meth c H locs 0 0 (MQ below (ZQ D ca base ad n np (zpi post)) args s 0 0 (zB base)) (F0 m 46 ls [.int s0]) := by
  unfold b_X5_uses_46 at h
  refine lv_istore (lv' := [(6, .int s0), (0, .ref (ad 0 0)), (1, .int a1), (2, .int a2), (3, .int a3), (4, .int a4), (5, .int v5)]) hC.1 hC.2.1 dX5_uses_46 hl (by decide) rfl (fun ls hl => ?_)
  refine lv_aload_n hC.1 hC.2.1 dX5_uses_48 rfl (lv_at hl 1 rfl) ?_
  refine lv_iload hC.1 hC.2.1 dX5_uses_49 (lv_at hl 6 rfl) ?_
  refine lv_iload hC.1 hC.2.1 dX5_uses_51 (lv_at hl 0 rfl) ?_
  refine lv_iload hC.1 hC.2.1 dX5_uses_53 (lv_at hl 6 rfl) ?_
  refine lv_if_eq (tgt := 88) hC.1 hC.2.1 dX5_uses_55 (by decide) (fun c7 => ?_) (fun c7 => ?_)
  · have h := h.1 c7
    exact t_X5_uses_88 (l := l) hC hr _ _ _ _ _ _ _ _ _ _ h hZ (lv_sub hl [1, 2, 3, 4, 5] rfl)
  · have h := h.2 c7
    refine lv_iload hC.1 hC.2.1 dX5_uses_58 (lv_at hl 0 rfl) ?_
    refine lv_if_eq (tgt := 88) hC.1 hC.2.1 dX5_uses_60 (by decide) (fun c17 => ?_) (fun c17 => ?_)
    · have h := h.1 c17
      exact t_X5_uses_88 (l := l) hC hr _ _ _ _ _ _ _ _ _ _ h hZ (lv_sub hl [1, 2, 3, 4, 5] rfl)
    · have h := h.2 c17
      refine lv_aload_n hC.1 hC.2.1 dX5_uses_63 rfl (lv_at hl 1 rfl) ?_
      refine gX5_6 hC hZ kf_X5_20 dX5_uses_64 ?_
      refine lv_iload_n hC.1 hC.2.1 dX5_uses_67 rfl (lv_at hl 2 rfl) ?_
      obtain ⟨q18, h⟩ := h
      refine aL_3 hC hZ q18 dX5_uses_68 ?_
      refine lv_if_ne (tgt := 88) hC.1 hC.2.1 dX5_uses_69 (by decide) (fun c19 => ?_) (fun c19 => ?_)
      · have h := h.1 c19
        exact t_X5_uses_88 (l := l) hC hr _ _ _ _ _ _ _ _ _ _ h hZ (lv_sub hl [1, 2, 3, 4, 5] rfl)
      · have h := h.2 c19
        refine lv_aload_n hC.1 hC.2.1 dX5_uses_72 rfl (lv_at hl 1 rfl) ?_
        refine lv_iload_n hC.1 hC.2.1 dX5_uses_73 rfl (lv_at hl 2 rfl) ?_
        refine lv_iload_n hC.1 hC.2.1 dX5_uses_74 rfl (lv_at hl 3 rfl) ?_
        refine lv_iload_n hC.1 hC.2.1 dX5_uses_75 rfl (lv_at hl 4 rfl) ?_
        refine lv_iload hC.1 hC.2.1 dX5_uses_76 (lv_at hl 5 rfl) ?_
        refine z_cVi (As := [.int a1, .int a2, .int a3, .int a4]) hC hZ (zF_0 _) rfl zy_X5_ages (c_X5_ages l h) km_X5_136 rfl ⟨rfl, rfl⟩ ⟨Nat.le_of_ble_eq_true rfl, Nat.le_of_ble_eq_true rfl⟩ hl.1 rfl (Nat.le_of_ble_eq_true rfl) dX5_uses_78 ⟨Nat.le_of_ble_eq_true rfl, Nat.le_of_ble_eq_true rfl⟩ (fun r21 μ20 H locs h hZ => ?_)
        refine lv_if_eq (tgt := 88) hC.1 hC.2.1 dX5_uses_81 (by decide) (fun c22 => ?_) (fun c22 => ?_)
        · have h := h.1 c22
          exact t_X5_uses_88 (l := l) hC hr _ _ _ _ _ _ _ _ _ _ h hZ (lv_sub hl [1, 2, 3, 4, 5] rfl)
        · have h := h.2 c22
          refine lv_iconst (v := 1) hC.1 hC.2.1 dX5_uses_84 (by decide) ?_
          refine lv_goto (tgt := 89) hC.1 hC.2.1 dX5_uses_85 (by decide) ?_
          exact t_X5_uses_89 (l := l) hC hr _ _ _ _ _ _ _ _ _ _ _ h hZ (lv_sub hl [1, 2, 3, 4, 5] rfl)
def b_X5_uses_45 (post : Int32 → Mem → Prop) (a1 : Int32) (a2 : Int32) (a3 : Int32) (a4 : Int32) (v5 : Int32) (μ : Mem) : Prop := b_X5_uses_46 post a1 a2 a3 a4 v5 (0 : Int32) μ
set_option maxRecDepth 100000 in
set_option maxHeartbeats 4000000 in
theorem t_X5_uses_45 {p : Program} {l : Launch} {e : Env} {s : State} {m : MethodId} {args : Array Value} {below : List Frame} {meth : Method} {c : Code} {D : va_G} {ca : Nat → ClassId} {base : Nat} {ad : Nat → Nat → Nat} {n np : Nat} {post : Int32 → Mem → Prop} (hC : ZC p m meth c s RX5 cX5_uses 9) (hr : meth.sig.returnType = (some FieldType.int)) (a1 : Int32) (a2 : Int32) (a3 : Int32) (a4 : Int32) (v5 : Int32) (μ : Mem) (H : Heap) (locs : List Loc) (ls : Array Slot) (h : b_X5_uses_45 post a1 a2 a3 a4 v5 μ) (hZ : ZS D ca base ad n np μ s H locs) (hl : lv_has ls 9 [(0, .ref (ad 0 0)), (1, .int a1), (2, .int a2), (3, .int a3), (4, .int a4), (5, .int v5)]) : W p l e ({ frames := 2, cells := 0, slots := 0, locals := 49 } : Room) s m args below meth c H locs 0 0 (MQ below (ZQ D ca base ad n np (zpi post)) args s 0 0 (zB base)) (F0 m 45 ls []) := by
  unfold b_X5_uses_45 at h
  refine lv_iconst (v := 0) hC.1 hC.2.1 dX5_uses_45 (by decide) ?_
  exact t_X5_uses_46 (l := l) hC hr _ _ _ _ _ _ _ _ _ _ h hZ (lv_sub hl [0, 1, 2, 3, 4, 5] rfl)
def b_X5_uses_20 (post : Int32 → Mem → Prop) (a1 : Int32) (a2 : Int32) (a3 : Int32) (a4 : Int32) (s0 : Int32) (μ : Mem) : Prop := (w_X5_in (fun (r5 : Int32) (μ4 : Mem) => ((r5 = 0 → b_X5_uses_45 post a1 a2 a3 a4 s0 μ4) ∧ (¬ r5 = 0 → (w_X5_in (fun (r24 : Int32) (μ23 : Mem) => ((r24 = 0 → b_X5_uses_45 post a1 a2 a3 a4 s0 μ23) ∧ (¬ r24 = 0 → b_X5_uses_46 post a1 a2 a3 a4 s0 (1 : Int32) μ23))) a4 a3 (3 : Int32) μ4)))) a3 (0 : Int32) (3 : Int32) μ)
set_option maxRecDepth 100000 in
set_option maxHeartbeats 4000000 in
theorem t_X5_uses_20 {p : Program} {l : Launch} {e : Env} {s : State} {m : MethodId} {args : Array Value} {below : List Frame} {meth : Method} {c : Code} {D : va_G} {ca : Nat → ClassId} {base : Nat} {ad : Nat → Nat → Nat} {n np : Nat} {post : Int32 → Mem → Prop} (hC : ZC p m meth c s RX5 cX5_uses 9) (hr : meth.sig.returnType = (some FieldType.int)) (a1 : Int32) (a2 : Int32) (a3 : Int32) (a4 : Int32) (s0 : Int32) (μ : Mem) (H : Heap) (locs : List Loc) (ls : Array Slot) (h : b_X5_uses_20 post a1 a2 a3 a4 s0 μ) (hZ : ZS D ca base ad n np μ s H locs) (hl : lv_has ls 9 [(0, .ref (ad 0 0)), (1, .int a1), (2, .int a2), (3, .int a3), (4, .int a4)]) : W p l e ({ frames := 2, cells := 0, slots := 0, locals := 49 } : Room) s m args below meth c H locs 0 0 (MQ below (ZQ D ca base ad n np (zpi post)) args s 0 0 (zB base)) (F0 m 20 ls [.int s0]) := by
  unfold b_X5_uses_20 at h
  refine lv_istore (lv' := [(5, .int s0), (0, .ref (ad 0 0)), (1, .int a1), (2, .int a2), (3, .int a3), (4, .int a4)]) hC.1 hC.2.1 dX5_uses_20 hl (by decide) rfl (fun ls hl => ?_)
  refine lv_iload_n hC.1 hC.2.1 dX5_uses_22 rfl (lv_at hl 4 rfl) ?_
  refine lv_iconst (v := 0) hC.1 hC.2.1 dX5_uses_23 (by decide) ?_
  refine lv_iconst (v := 3) hC.1 hC.2.1 dX5_uses_24 (by decide) ?_
  refine z_cSi (As := [.int a3, .int 0, .int 3]) hC hZ zy_X5_in (c_X5_in l h) km_X5_81 rfl ⟨rfl, rfl⟩ ⟨Nat.le_of_ble_eq_true rfl, Nat.le_of_ble_eq_true rfl⟩ hl.1 rfl (Nat.le_of_ble_eq_true rfl) dX5_uses_25 ⟨Nat.le_of_ble_eq_true rfl, Nat.le_of_ble_eq_true rfl⟩ (fun r5 μ4 H locs h hZ => ?_)
  refine lv_if_eq (tgt := 45) hC.1 hC.2.1 dX5_uses_28 (by decide) (fun c6 => ?_) (fun c6 => ?_)
  · have h := h.1 c6
    exact t_X5_uses_45 (l := l) hC hr _ _ _ _ _ _ _ _ _ h hZ (lv_sub hl [1, 2, 3, 4, 5, 0] rfl)
  · have h := h.2 c6
    refine lv_iload hC.1 hC.2.1 dX5_uses_31 (lv_at hl 5 rfl) ?_
    refine lv_iload_n hC.1 hC.2.1 dX5_uses_33 rfl (lv_at hl 4 rfl) ?_
    refine lv_iconst (v := 3) hC.1 hC.2.1 dX5_uses_34 (by decide) ?_
    refine z_cSi (As := [.int a4, .int a3, .int 3]) hC hZ zy_X5_in (c_X5_in l h) km_X5_81 rfl ⟨rfl, rfl⟩ ⟨Nat.le_of_ble_eq_true rfl, Nat.le_of_ble_eq_true rfl⟩ hl.1 rfl (Nat.le_of_ble_eq_true rfl) dX5_uses_35 ⟨Nat.le_of_ble_eq_true rfl, Nat.le_of_ble_eq_true rfl⟩ (fun r24 μ23 H locs h hZ => ?_)
    refine lv_if_eq (tgt := 45) hC.1 hC.2.1 dX5_uses_38 (by decide) (fun c25 => ?_) (fun c25 => ?_)
    · have h := h.1 c25
      exact t_X5_uses_45 (l := l) hC hr _ _ _ _ _ _ _ _ _ h hZ (lv_sub hl [1, 2, 3, 4, 5, 0] rfl)
    · have h := h.2 c25
      refine lv_iconst (v := 1) hC.1 hC.2.1 dX5_uses_41 (by decide) ?_
      refine lv_goto (tgt := 46) hC.1 hC.2.1 dX5_uses_42 (by decide) ?_
      exact t_X5_uses_46 (l := l) hC hr _ _ _ _ _ _ _ _ _ _ h hZ (lv_sub hl [1, 2, 3, 4, 5, 0] rfl)
def b_X5_uses_19 (post : Int32 → Mem → Prop) (a1 : Int32) (a2 : Int32) (a3 : Int32) (a4 : Int32) (μ : Mem) : Prop := b_X5_uses_20 post a1 a2 a3 a4 (0 : Int32) μ
set_option maxRecDepth 100000 in
set_option maxHeartbeats 4000000 in
theorem t_X5_uses_19 {p : Program} {l : Launch} {e : Env} {s : State} {m : MethodId} {args : Array Value} {below : List Frame} {meth : Method} {c : Code} {D : va_G} {ca : Nat → ClassId} {base : Nat} {ad : Nat → Nat → Nat} {n np : Nat} {post : Int32 → Mem → Prop} (hC : ZC p m meth c s RX5 cX5_uses 9) (hr : meth.sig.returnType = (some FieldType.int)) (a1 : Int32) (a2 : Int32) (a3 : Int32) (a4 : Int32) (μ : Mem) (H : Heap) (locs : List Loc) (ls : Array Slot) (h : b_X5_uses_19 post a1 a2 a3 a4 μ) (hZ : ZS D ca base ad n np μ s H locs) (hl : lv_has ls 9 [(0, .ref (ad 0 0)), (1, .int a1), (2, .int a2), (3, .int a3), (4, .int a4)]) : W p l e ({ frames := 2, cells := 0, slots := 0, locals := 49 } : Room) s m args below meth c H locs 0 0 (MQ below (ZQ D ca base ad n np (zpi post)) args s 0 0 (zB base)) (F0 m 19 ls []) := by
  unfold b_X5_uses_19 at h
  refine lv_iconst (v := 0) hC.1 hC.2.1 dX5_uses_19 (by decide) ?_
  exact t_X5_uses_20 (l := l) hC hr _ _ _ _ _ _ _ _ _ h hZ (lv_sub hl [0, 1, 2, 3, 4] rfl)
def w_X5_uses (post : Int32 → Mem → Prop) (a1 : Int32) (a2 : Int32) (a3 : Int32) (a4 : Int32) (μ : Mem) : Prop := (w_X5_isScene (fun (r2 : Int32) (μ1 : Mem) => ((r2 = 0 → b_X5_uses_19 post a1 a2 a3 a4 μ1) ∧ (¬ r2 = 0 → (w_X5_isProp (fun (r27 : Int32) (μ26 : Mem) => ((r27 = 0 → b_X5_uses_19 post a1 a2 a3 a4 μ26) ∧ (¬ r27 = 0 → b_X5_uses_20 post a1 a2 a3 a4 (1 : Int32) μ26))) a2 μ1)))) a1 μ)
set_option maxRecDepth 100000 in
set_option maxHeartbeats 4000000 in
theorem c_X5_uses (l : Launch) {D : va_G} {ca : Nat → ClassId} {base : Nat} {ad : Nat → Nat → Nat} {n np : Nat} {μ : Mem} {post : Int32 → Mem → Prop} {a1 : Int32} {a2 : Int32} {a3 : Int32} {a4 : Int32} (h : w_X5_uses post a1 a2 a3 a4 μ) : ZMet l yX5_uses cX5_uses 9 (some FieldType.int) ({ frames := 2, cells := 0, slots := 0, locals := 49 } : Room) 0 0 D ca base ad n np [.ref (ad 0 0), .int a1, .int a2, .int a3, .int a4] μ (zpi post) := by
  unfold ZMet
  refine Met.ofW (cc := cX5_uses) (maxL := 9) (ret := (some FieldType.int)) (by decide) rfl ?_
  intro p e s m args below meth c s₁ B hml hv
  obtain ⟨rfl, hU⟩ := hv
  have hZ := hU.toS
  have hC : ZC p m meth c s RX5 cX5_uses 9 := ⟨B.exec, B.bytes, hml, findClass_of_methodNamed B.named, B.notSynchronized⟩
  have hr := B.returns
  have key : W p l e ({ frames := 2, cells := 0, slots := 0, locals := 49 } : Room) s m (([.ref (ad 0 0), .int a1, .int a2, .int a3, .int a4] : List Value).toArray) below meth c s.heap [] 0 0 (MQ below (ZQ D ca base ad n np (zpi post)) (([.ref (ad 0 0), .int a1, .int a2, .int a3, .int a4] : List Value).toArray) s 0 0 (zB base)) (entryFrame m (([.ref (ad 0 0), .int a1, .int a2, .int a3, .int a4] : List Value).toArray) 9) := by
    have hl := lv_entry ([.ref (ad 0 0), .int a1, .int a2, .int a3, .int a4]) (n := 9) (Nat.le_of_ble_eq_true rfl)
    rw [lg_entry_eq]
    generalize (lg_sl ([.ref (ad 0 0), .int a1, .int a2, .int a3, .int a4]) ++ List.replicate (9 - (lg_sl ([.ref (ad 0 0), .int a1, .int a2, .int a3, .int a4])).length) Slot.unset).toArray = ls at hl ⊢
    have hl : lv_has ls 9 [(0, .ref (ad 0 0)), (1, .int a1), (2, .int a2), (3, .int a3), (4, .int a4)] := hl
    unfold w_X5_uses at h
    refine lv_aload_n hC.1 hC.2.1 dX5_uses_0 rfl (lv_at hl 0 rfl) ?_
    refine lv_iload_n hC.1 hC.2.1 dX5_uses_1 rfl (lv_at hl 1 rfl) ?_
    refine z_cVi (As := [.int a1]) hC hZ (zF_0 _) rfl zy_X5_isScene (c_X5_isScene l h) km_X5_123 rfl ⟨rfl, rfl⟩ ⟨Nat.le_of_ble_eq_true rfl, Nat.le_of_ble_eq_true rfl⟩ hl.1 rfl (Nat.le_of_ble_eq_true rfl) dX5_uses_2 ⟨Nat.le_of_ble_eq_true rfl, Nat.le_of_ble_eq_true rfl⟩ (fun r2 μ1 H locs h hZ => ?_)
    refine lv_if_eq (tgt := 19) hC.1 hC.2.1 dX5_uses_5 (by decide) (fun c3 => ?_) (fun c3 => ?_)
    · have h := h.1 c3
      exact t_X5_uses_19 (l := l) hC hr _ _ _ _  _ _ _ _ h hZ (lv_sub hl [0, 1, 2, 3, 4] rfl)
    · have h := h.2 c3
      refine lv_iload_n hC.1 hC.2.1 dX5_uses_8 rfl (lv_at hl 2 rfl) ?_
      refine z_cSi (As := [.int a2]) hC hZ zy_X5_isProp (c_X5_isProp l h) km_X5_133 rfl ⟨rfl, rfl⟩ ⟨Nat.le_of_ble_eq_true rfl, Nat.le_of_ble_eq_true rfl⟩ hl.1 rfl (Nat.le_of_ble_eq_true rfl) dX5_uses_9 ⟨Nat.le_of_ble_eq_true rfl, Nat.le_of_ble_eq_true rfl⟩ (fun r27 μ26 H locs h hZ => ?_)
      refine lv_if_eq (tgt := 19) hC.1 hC.2.1 dX5_uses_12 (by decide) (fun c28 => ?_) (fun c28 => ?_)
      · have h := h.1 c28
        exact t_X5_uses_19 (l := l) hC hr _ _ _ _  _ _ _ _ h hZ (lv_sub hl [0, 1, 2, 3, 4] rfl)
      · have h := h.2 c28
        refine lv_iconst (v := 1) hC.1 hC.2.1 dX5_uses_15 (by decide) ?_
        refine lv_goto (tgt := 20) hC.1 hC.2.1 dX5_uses_16 (by decide) ?_
        exact t_X5_uses_20 (l := l) hC hr _ _ _ _ _ _ _ _ _ h hZ (lv_sub hl [0, 1, 2, 3, 4] rfl)
  exact key
def b_X5_cut_26 (post : Int32 → Mem → Prop) (a1 : Int32) (s1 : Int32) (s2 : Int32) (μ : Mem) : Prop := (w_X5_goes (fun (r5 : Int32) (μ4 : Mem) => ((¬ r5 = 0 → (vp_in a1 10 ∧ ∀ μ8 : Mem, μ8 = zst μ4 3 0 a1.toNatClampNeg 2 → (vp_in (μ8 4 0 a1.toNatClampNeg) 30 ∧ ∀ μ10 : Mem, μ10 = zst μ8 8 0 ((μ8 4 0 a1.toNatClampNeg).toNatClampNeg) (-1) → post (μ10 4 0 a1.toNatClampNeg) μ10))) ∧ (r5 = 0 → post 0 μ4))) s1 s2 (1 : Int32) μ)
set_option maxRecDepth 100000 in
set_option maxHeartbeats 4000000 in
theorem t_X5_cut_26 {p : Program} {l : Launch} {e : Env} {s : State} {m : MethodId} {args : Array Value} {below : List Frame} {meth : Method} {c : Code} {D : va_G} {ca : Nat → ClassId} {base : Nat} {ad : Nat → Nat → Nat} {n np : Nat} {post : Int32 → Mem → Prop} (hC : ZC p m meth c s RX5 cX5_cut 3) (hr : meth.sig.returnType = (some FieldType.int)) (a1 : Int32) (s1 : Int32) (s2 : Int32) (μ : Mem) (H : Heap) (locs : List Loc) (ls : Array Slot) (h : b_X5_cut_26 post a1 s1 s2 μ) (hZ : ZS D ca base ad n np μ s H locs) (hl : lv_has ls 3 [(0, .ref (ad 0 0)), (1, .int a1)]) : W p l e ({ frames := 2, cells := 0, slots := 0, locals := 43 } : Room) s m args below meth c H locs 0 0 (MQ below (ZQ D ca base ad n np (zpi post)) args s 0 0 (zB base)) (F0 m 26 ls [.int s2, .int s1, .ref (ad 0 0)]) := by
  unfold b_X5_cut_26 at h
  refine lv_iconst (v := 1) hC.1 hC.2.1 dX5_cut_26 (by decide) ?_
  refine z_cVi (As := [.int s1, .int s2, .int 1]) hC hZ (zF_0 _) rfl zy_X5_goes (c_X5_goes l h) km_X5_115 rfl ⟨rfl, rfl⟩ ⟨Nat.le_of_ble_eq_true rfl, Nat.le_of_ble_eq_true rfl⟩ hl.1 rfl (Nat.le_of_ble_eq_true rfl) dX5_cut_27 ⟨Nat.le_of_ble_eq_true rfl, Nat.le_of_ble_eq_true rfl⟩ (fun r5 μ4 H locs h hZ => ?_)
  refine lv_if_ne (tgt := 35) hC.1 hC.2.1 dX5_cut_30 (by decide) (fun c6 => ?_) (fun c6 => ?_)
  · have h := h.1 c6
    refine lv_aload_n hC.1 hC.2.1 dX5_cut_35 rfl (lv_at hl 0 rfl) ?_
    refine gX5_6 hC hZ kf_X5_20 dX5_cut_36 ?_
    refine lv_iload_n hC.1 hC.2.1 dX5_cut_39 rfl (lv_at hl 1 rfl) ?_
    refine lv_iconst (v := 2) hC.1 hC.2.1 dX5_cut_40 (by decide) ?_
    obtain ⟨q7, h⟩ := h
    refine aS_3 hC hZ q7 dX5_cut_41 (fun μ8 H locs eμ8 hZ => ?_)
    have h := h μ8 eμ8
    refine lv_aload_n hC.1 hC.2.1 dX5_cut_42 rfl (lv_at hl 0 rfl) ?_
    refine gX5_11 hC hZ kf_X5_35 dX5_cut_43 ?_
    refine lv_aload_n hC.1 hC.2.1 dX5_cut_46 rfl (lv_at hl 0 rfl) ?_
    refine gX5_7 hC hZ kf_X5_23 dX5_cut_47 ?_
    refine lv_iload_n hC.1 hC.2.1 dX5_cut_50 rfl (lv_at hl 1 rfl) ?_
    refine aL_4 hC hZ q7 dX5_cut_51 ?_
    refine lv_iconst (v := (-1)) hC.1 hC.2.1 dX5_cut_52 (by decide) ?_
    obtain ⟨q9, h⟩ := h
    refine aS_8 hC hZ q9 dX5_cut_53 (fun μ10 H locs eμ10 hZ => ?_)
    have h := h μ10 eμ10
    refine lv_aload_n hC.1 hC.2.1 dX5_cut_54 rfl (lv_at hl 0 rfl) ?_
    refine gX5_7 hC hZ kf_X5_23 dX5_cut_55 ?_
    refine lv_iload_n hC.1 hC.2.1 dX5_cut_58 rfl (lv_at hl 1 rfl) ?_
    refine aL_4 hC hZ q7 dX5_cut_59 ?_
    exact z_iret hC hr hZ h dX5_cut_60 (Nat.le_of_ble_eq_true rfl) (Nat.le_of_ble_eq_true rfl)
  · have h := h.2 c6
    refine lv_iconst (v := 0) hC.1 hC.2.1 dX5_cut_33 (by decide) ?_
    exact z_iret hC hr hZ h dX5_cut_34 (Nat.le_of_ble_eq_true rfl) (Nat.le_of_ble_eq_true rfl)
def b_X5_cut_25 (post : Int32 → Mem → Prop) (a1 : Int32) (s1 : Int32) (μ : Mem) : Prop := b_X5_cut_26 post a1 s1 (0 : Int32) μ
set_option maxRecDepth 100000 in
set_option maxHeartbeats 4000000 in
theorem t_X5_cut_25 {p : Program} {l : Launch} {e : Env} {s : State} {m : MethodId} {args : Array Value} {below : List Frame} {meth : Method} {c : Code} {D : va_G} {ca : Nat → ClassId} {base : Nat} {ad : Nat → Nat → Nat} {n np : Nat} {post : Int32 → Mem → Prop} (hC : ZC p m meth c s RX5 cX5_cut 3) (hr : meth.sig.returnType = (some FieldType.int)) (a1 : Int32) (s1 : Int32) (μ : Mem) (H : Heap) (locs : List Loc) (ls : Array Slot) (h : b_X5_cut_25 post a1 s1 μ) (hZ : ZS D ca base ad n np μ s H locs) (hl : lv_has ls 3 [(0, .ref (ad 0 0)), (1, .int a1)]) : W p l e ({ frames := 2, cells := 0, slots := 0, locals := 43 } : Room) s m args below meth c H locs 0 0 (MQ below (ZQ D ca base ad n np (zpi post)) args s 0 0 (zB base)) (F0 m 25 ls [.int s1, .ref (ad 0 0)]) := by
  unfold b_X5_cut_25 at h
  refine lv_iconst (v := 0) hC.1 hC.2.1 dX5_cut_25 (by decide) ?_
  exact t_X5_cut_26 (l := l) hC hr _ _ _ _ _ _ _ h hZ (lv_sub hl [0, 1] rfl)
def w_X5_cut (post : Int32 → Mem → Prop) (a1 : Int32) (μ : Mem) : Prop := (w_X5_isScene (fun (r2 : Int32) (μ1 : Mem) => ((r2 = 0 → b_X5_cut_25 post a1 r2 μ1) ∧ (¬ r2 = 0 → (vp_in a1 10 ∧ ((¬ (μ1 3 0 a1.toNatClampNeg) = 0 → b_X5_cut_25 post a1 r2 μ1) ∧ ((μ1 3 0 a1.toNatClampNeg) = 0 → b_X5_cut_26 post a1 r2 (1 : Int32) μ1)))))) a1 μ)
set_option maxRecDepth 100000 in
set_option maxHeartbeats 4000000 in
theorem c_X5_cut (l : Launch) {D : va_G} {ca : Nat → ClassId} {base : Nat} {ad : Nat → Nat → Nat} {n np : Nat} {μ : Mem} {post : Int32 → Mem → Prop} {a1 : Int32} (h : w_X5_cut post a1 μ) : ZMet l yX5_cut cX5_cut 3 (some FieldType.int) ({ frames := 2, cells := 0, slots := 0, locals := 43 } : Room) 0 0 D ca base ad n np [.ref (ad 0 0), .int a1] μ (zpi post) := by
  unfold ZMet
  refine Met.ofW (cc := cX5_cut) (maxL := 3) (ret := (some FieldType.int)) (by decide) rfl ?_
  intro p e s m args below meth c s₁ B hml hv
  obtain ⟨rfl, hU⟩ := hv
  have hZ := hU.toS
  have hC : ZC p m meth c s RX5 cX5_cut 3 := ⟨B.exec, B.bytes, hml, findClass_of_methodNamed B.named, B.notSynchronized⟩
  have hr := B.returns
  have key : W p l e ({ frames := 2, cells := 0, slots := 0, locals := 43 } : Room) s m (([.ref (ad 0 0), .int a1] : List Value).toArray) below meth c s.heap [] 0 0 (MQ below (ZQ D ca base ad n np (zpi post)) (([.ref (ad 0 0), .int a1] : List Value).toArray) s 0 0 (zB base)) (entryFrame m (([.ref (ad 0 0), .int a1] : List Value).toArray) 3) := by
    have hl := lv_entry ([.ref (ad 0 0), .int a1]) (n := 3) (Nat.le_of_ble_eq_true rfl)
    rw [lg_entry_eq]
    generalize (lg_sl ([.ref (ad 0 0), .int a1]) ++ List.replicate (3 - (lg_sl ([.ref (ad 0 0), .int a1])).length) Slot.unset).toArray = ls at hl ⊢
    have hl : lv_has ls 3 [(0, .ref (ad 0 0)), (1, .int a1)] := hl
    unfold w_X5_cut at h
    refine lv_aload_n hC.1 hC.2.1 dX5_cut_0 rfl (lv_at hl 0 rfl) ?_
    refine lv_iload_n hC.1 hC.2.1 dX5_cut_1 rfl (lv_at hl 1 rfl) ?_
    refine z_cVi (As := [.int a1]) hC hZ (zF_0 _) rfl zy_X5_isScene (c_X5_isScene l h) km_X5_123 rfl ⟨rfl, rfl⟩ ⟨Nat.le_of_ble_eq_true rfl, Nat.le_of_ble_eq_true rfl⟩ hl.1 rfl (Nat.le_of_ble_eq_true rfl) dX5_cut_2 ⟨Nat.le_of_ble_eq_true rfl, Nat.le_of_ble_eq_true rfl⟩ (fun r2 μ1 H locs h hZ => ?_)
    refine lv_istore_n (lv' := [(2, .int r2), (0, .ref (ad 0 0)), (1, .int a1)]) hC.1 hC.2.1 dX5_cut_5 rfl hl (by decide) rfl (fun ls hl => ?_)
    refine lv_aload_n hC.1 hC.2.1 dX5_cut_6 rfl (lv_at hl 1 rfl) ?_
    refine lv_iload_n hC.1 hC.2.1 dX5_cut_7 rfl (lv_at hl 0 rfl) ?_
    refine lv_iload_n hC.1 hC.2.1 dX5_cut_8 rfl (lv_at hl 0 rfl) ?_
    refine lv_if_eq (tgt := 25) hC.1 hC.2.1 dX5_cut_9 (by decide) (fun c3 => ?_) (fun c3 => ?_)
    · have h := h.1 c3
      exact t_X5_cut_25 (l := l) hC hr _ _ _ _ _ _ h hZ (lv_sub hl [1, 2] rfl)
    · have h := h.2 c3
      refine lv_aload_n hC.1 hC.2.1 dX5_cut_12 rfl (lv_at hl 1 rfl) ?_
      refine gX5_6 hC hZ kf_X5_20 dX5_cut_13 ?_
      refine lv_iload_n hC.1 hC.2.1 dX5_cut_16 rfl (lv_at hl 2 rfl) ?_
      obtain ⟨q11, h⟩ := h
      refine aL_3 hC hZ q11 dX5_cut_17 ?_
      refine lv_if_ne (tgt := 25) hC.1 hC.2.1 dX5_cut_18 (by decide) (fun c12 => ?_) (fun c12 => ?_)
      · have h := h.1 c12
        exact t_X5_cut_25 (l := l) hC hr _ _ _ _ _ _ h hZ (lv_sub hl [1, 2] rfl)
      · have h := h.2 c12
        refine lv_iconst (v := 1) hC.1 hC.2.1 dX5_cut_21 (by decide) ?_
        refine lv_goto (tgt := 26) hC.1 hC.2.1 dX5_cut_22 (by decide) ?_
        exact t_X5_cut_26 (l := l) hC hr _ _ _ _ _ _ _ h hZ (lv_sub hl [1, 2] rfl)
  exact key
def w_X5_swaps (post : Mem → Prop) (a1 : Int32) (a2 : Int32) (μ : Mem) : Prop := (vp_in a1 30 ∧ (vp_in a2 30 ∧ (w_X5_plans (fun (μ3 : Mem) => (w_X5_plans (fun (μ5 : Mem) => post μ5) (μ 8 0 a1.toNatClampNeg) a2 μ3)) (μ 8 0 a2.toNatClampNeg) a1 μ)))
set_option maxRecDepth 100000 in
set_option maxHeartbeats 4000000 in
theorem c_X5_swaps (l : Launch) {D : va_G} {ca : Nat → ClassId} {base : Nat} {ad : Nat → Nat → Nat} {n np : Nat} {μ : Mem} {post : Mem → Prop} {a1 : Int32} {a2 : Int32} (h : w_X5_swaps post a1 a2 μ) : ZMet l yX5_swaps cX5_swaps 4 none ({ frames := 1, cells := 0, slots := 0, locals := 22 } : Room) 0 0 D ca base ad n np [.ref (ad 0 0), .int a1, .int a2] μ (zpv post) := by
  unfold ZMet
  refine Met.ofW (cc := cX5_swaps) (maxL := 4) (ret := none) (by decide) rfl ?_
  intro p e s m args below meth c s₁ B hml hv
  obtain ⟨rfl, hU⟩ := hv
  have hZ := hU.toS
  have hC : ZC p m meth c s RX5 cX5_swaps 4 := ⟨B.exec, B.bytes, hml, findClass_of_methodNamed B.named, B.notSynchronized⟩
  have hr := B.returns
  have key : W p l e ({ frames := 1, cells := 0, slots := 0, locals := 22 } : Room) s m (([.ref (ad 0 0), .int a1, .int a2] : List Value).toArray) below meth c s.heap [] 0 0 (MQ below (ZQ D ca base ad n np (zpv post)) (([.ref (ad 0 0), .int a1, .int a2] : List Value).toArray) s 0 0 (zB base)) (entryFrame m (([.ref (ad 0 0), .int a1, .int a2] : List Value).toArray) 4) := by
    have hl := lv_entry ([.ref (ad 0 0), .int a1, .int a2]) (n := 4) (Nat.le_of_ble_eq_true rfl)
    rw [lg_entry_eq]
    generalize (lg_sl ([.ref (ad 0 0), .int a1, .int a2]) ++ List.replicate (4 - (lg_sl ([.ref (ad 0 0), .int a1, .int a2])).length) Slot.unset).toArray = ls at hl ⊢
    have hl : lv_has ls 4 [(0, .ref (ad 0 0)), (1, .int a1), (2, .int a2)] := hl
    unfold w_X5_swaps at h
    refine lv_aload_n hC.1 hC.2.1 dX5_swaps_0 rfl (lv_at hl 0 rfl) ?_
    refine gX5_11 hC hZ kf_X5_35 dX5_swaps_1 ?_
    refine lv_iload_n hC.1 hC.2.1 dX5_swaps_4 rfl (lv_at hl 1 rfl) ?_
    obtain ⟨q1, h⟩ := h
    refine aL_8 hC hZ q1 dX5_swaps_5 ?_
    refine lv_istore_n (lv' := [(3, .int (μ 8 0 a1.toNatClampNeg)), (0, .ref (ad 0 0)), (1, .int a1), (2, .int a2)]) hC.1 hC.2.1 dX5_swaps_6 rfl hl (by decide) rfl (fun ls hl => ?_)
    refine lv_aload_n hC.1 hC.2.1 dX5_swaps_7 rfl (lv_at hl 1 rfl) ?_
    refine lv_aload_n hC.1 hC.2.1 dX5_swaps_8 rfl (lv_at hl 1 rfl) ?_
    refine gX5_11 hC hZ kf_X5_35 dX5_swaps_9 ?_
    refine lv_iload_n hC.1 hC.2.1 dX5_swaps_12 rfl (lv_at hl 3 rfl) ?_
    obtain ⟨q2, h⟩ := h
    refine aL_8 hC hZ q2 dX5_swaps_13 ?_
    refine lv_iload_n hC.1 hC.2.1 dX5_swaps_14 rfl (lv_at hl 2 rfl) ?_
    refine z_cVv (As := [.int (μ 8 0 a2.toNatClampNeg), .int a1]) hC hZ (zF_0 _) rfl zy_X5_plans (c_X5_plans l h) km_X5_119 rfl ⟨rfl, rfl⟩ ⟨Nat.le_of_ble_eq_true rfl, Nat.le_of_ble_eq_true rfl⟩ hl.1 rfl (Nat.le_of_ble_eq_true rfl) dX5_swaps_15 ⟨Nat.le_of_ble_eq_true rfl, Nat.le_of_ble_eq_true rfl⟩ (fun μ3 H locs h hZ => ?_)
    refine lv_aload_n hC.1 hC.2.1 dX5_swaps_18 rfl (lv_at hl 1 rfl) ?_
    refine lv_iload_n hC.1 hC.2.1 dX5_swaps_19 rfl (lv_at hl 0 rfl) ?_
    refine lv_iload_n hC.1 hC.2.1 dX5_swaps_20 rfl (lv_at hl 3 rfl) ?_
    refine z_cVv (As := [.int (μ 8 0 a1.toNatClampNeg), .int a2]) hC hZ (zF_0 _) rfl zy_X5_plans (c_X5_plans l h) km_X5_119 rfl ⟨rfl, rfl⟩ ⟨Nat.le_of_ble_eq_true rfl, Nat.le_of_ble_eq_true rfl⟩ hl.1 rfl (Nat.le_of_ble_eq_true rfl) dX5_swaps_21 ⟨Nat.le_of_ble_eq_true rfl, Nat.le_of_ble_eq_true rfl⟩ (fun μ5 H locs h hZ => ?_)
    exact z_vret hC hr hZ h dX5_swaps_24 (Nat.le_of_ble_eq_true rfl) (Nat.le_of_ble_eq_true rfl)
  exact key
def b_X5_swap_22 (post : Int32 → Mem → Prop) (a1 : Int32) (a2 : Int32) (s1 : Int32) (μ : Mem) : Prop := (w_X5_goes (fun (r5 : Int32) (μ4 : Mem) => ((¬ r5 = 0 → (w_X5_swaps (fun (μ7 : Mem) => (w_X5_costs (fun (r10 : Int32) (μ9 : Mem) => post r10 μ9) μ7)) a1 a2 μ4)) ∧ (r5 = 0 → post 0 μ4))) s1 (1 : Int32) (1 : Int32) μ)
set_option maxRecDepth 100000 in
set_option maxHeartbeats 4000000 in
theorem t_X5_swap_22 {p : Program} {l : Launch} {e : Env} {s : State} {m : MethodId} {args : Array Value} {below : List Frame} {meth : Method} {c : Code} {D : va_G} {ca : Nat → ClassId} {base : Nat} {ad : Nat → Nat → Nat} {n np : Nat} {post : Int32 → Mem → Prop} (hC : ZC p m meth c s RX5 cX5_swap 3) (hr : meth.sig.returnType = (some FieldType.int)) (a1 : Int32) (a2 : Int32) (s1 : Int32) (μ : Mem) (H : Heap) (locs : List Loc) (ls : Array Slot) (h : b_X5_swap_22 post a1 a2 s1 μ) (hZ : ZS D ca base ad n np μ s H locs) (hl : lv_has ls 3 [(0, .ref (ad 0 0)), (1, .int a1), (2, .int a2)]) : W p l e ({ frames := 3, cells := 0, slots := 0, locals := 73 } : Room) s m args below meth c H locs 0 0 (MQ below (ZQ D ca base ad n np (zpi post)) args s 0 0 (zB base)) (F0 m 22 ls [.int s1, .ref (ad 0 0)]) := by
  unfold b_X5_swap_22 at h
  refine lv_iconst (v := 1) hC.1 hC.2.1 dX5_swap_22 (by decide) ?_
  refine lv_iconst (v := 1) hC.1 hC.2.1 dX5_swap_23 (by decide) ?_
  refine z_cVi (As := [.int s1, .int 1, .int 1]) hC hZ (zF_0 _) rfl zy_X5_goes (c_X5_goes l h) km_X5_115 rfl ⟨rfl, rfl⟩ ⟨Nat.le_of_ble_eq_true rfl, Nat.le_of_ble_eq_true rfl⟩ hl.1 rfl (Nat.le_of_ble_eq_true rfl) dX5_swap_24 ⟨Nat.le_of_ble_eq_true rfl, Nat.le_of_ble_eq_true rfl⟩ (fun r5 μ4 H locs h hZ => ?_)
  refine lv_if_ne (tgt := 32) hC.1 hC.2.1 dX5_swap_27 (by decide) (fun c6 => ?_) (fun c6 => ?_)
  · have h := h.1 c6
    refine lv_aload_n hC.1 hC.2.1 dX5_swap_32 rfl (lv_at hl 0 rfl) ?_
    refine lv_iload_n hC.1 hC.2.1 dX5_swap_33 rfl (lv_at hl 1 rfl) ?_
    refine lv_iload_n hC.1 hC.2.1 dX5_swap_34 rfl (lv_at hl 2 rfl) ?_
    refine z_cVv (As := [.int a1, .int a2]) hC hZ (zF_0 _) rfl zy_X5_swaps (c_X5_swaps l h) km_X5_143 rfl ⟨rfl, rfl⟩ ⟨Nat.le_of_ble_eq_true rfl, Nat.le_of_ble_eq_true rfl⟩ hl.1 rfl (Nat.le_of_ble_eq_true rfl) dX5_swap_35 ⟨Nat.le_of_ble_eq_true rfl, Nat.le_of_ble_eq_true rfl⟩ (fun μ7 H locs h hZ => ?_)
    refine lv_aload_n hC.1 hC.2.1 dX5_swap_38 rfl (lv_at hl 0 rfl) ?_
    refine z_cVi (As := []) hC hZ (zF_0 _) rfl zy_X5_costs (c_X5_costs l h) km_X5_146 rfl ⟨rfl, rfl⟩ ⟨Nat.le_of_ble_eq_true rfl, Nat.le_of_ble_eq_true rfl⟩ hl.1 rfl (Nat.le_of_ble_eq_true rfl) dX5_swap_39 ⟨Nat.le_of_ble_eq_true rfl, Nat.le_of_ble_eq_true rfl⟩ (fun r10 μ9 H locs h hZ => ?_)
    exact z_iret hC hr hZ h dX5_swap_42 (Nat.le_of_ble_eq_true rfl) (Nat.le_of_ble_eq_true rfl)
  · have h := h.2 c6
    refine lv_iconst (v := 0) hC.1 hC.2.1 dX5_swap_30 (by decide) ?_
    exact z_iret hC hr hZ h dX5_swap_31 (Nat.le_of_ble_eq_true rfl) (Nat.le_of_ble_eq_true rfl)
def b_X5_swap_21 (post : Int32 → Mem → Prop) (a1 : Int32) (a2 : Int32) (μ : Mem) : Prop := b_X5_swap_22 post a1 a2 (0 : Int32) μ
set_option maxRecDepth 100000 in
set_option maxHeartbeats 4000000 in
theorem t_X5_swap_21 {p : Program} {l : Launch} {e : Env} {s : State} {m : MethodId} {args : Array Value} {below : List Frame} {meth : Method} {c : Code} {D : va_G} {ca : Nat → ClassId} {base : Nat} {ad : Nat → Nat → Nat} {n np : Nat} {post : Int32 → Mem → Prop} (hC : ZC p m meth c s RX5 cX5_swap 3) (hr : meth.sig.returnType = (some FieldType.int)) (a1 : Int32) (a2 : Int32) (μ : Mem) (H : Heap) (locs : List Loc) (ls : Array Slot) (h : b_X5_swap_21 post a1 a2 μ) (hZ : ZS D ca base ad n np μ s H locs) (hl : lv_has ls 3 [(0, .ref (ad 0 0)), (1, .int a1), (2, .int a2)]) : W p l e ({ frames := 3, cells := 0, slots := 0, locals := 73 } : Room) s m args below meth c H locs 0 0 (MQ below (ZQ D ca base ad n np (zpi post)) args s 0 0 (zB base)) (F0 m 21 ls [.ref (ad 0 0)]) := by
  unfold b_X5_swap_21 at h
  refine lv_iconst (v := 0) hC.1 hC.2.1 dX5_swap_21 (by decide) ?_
  exact t_X5_swap_22 (l := l) hC hr _ _ _ _ _ _ _ h hZ (lv_sub hl [0, 1, 2] rfl)
def w_X5_swap (post : Int32 → Mem → Prop) (a1 : Int32) (a2 : Int32) (μ : Mem) : Prop := (w_X5_isAhead (fun (r2 : Int32) (μ1 : Mem) => ((r2 = 0 → b_X5_swap_21 post a1 a2 μ1) ∧ (¬ r2 = 0 → (w_X5_isAhead (fun (r12 : Int32) (μ11 : Mem) => ((r12 = 0 → b_X5_swap_21 post a1 a2 μ11) ∧ (¬ r12 = 0 → b_X5_swap_22 post a1 a2 (1 : Int32) μ11))) a2 μ1)))) a1 μ)
set_option maxRecDepth 100000 in
set_option maxHeartbeats 4000000 in
theorem c_X5_swap (l : Launch) {D : va_G} {ca : Nat → ClassId} {base : Nat} {ad : Nat → Nat → Nat} {n np : Nat} {μ : Mem} {post : Int32 → Mem → Prop} {a1 : Int32} {a2 : Int32} (h : w_X5_swap post a1 a2 μ) : ZMet l yX5_swap cX5_swap 3 (some FieldType.int) ({ frames := 3, cells := 0, slots := 0, locals := 73 } : Room) 0 0 D ca base ad n np [.ref (ad 0 0), .int a1, .int a2] μ (zpi post) := by
  unfold ZMet
  refine Met.ofW (cc := cX5_swap) (maxL := 3) (ret := (some FieldType.int)) (by decide) rfl ?_
  intro p e s m args below meth c s₁ B hml hv
  obtain ⟨rfl, hU⟩ := hv
  have hZ := hU.toS
  have hC : ZC p m meth c s RX5 cX5_swap 3 := ⟨B.exec, B.bytes, hml, findClass_of_methodNamed B.named, B.notSynchronized⟩
  have hr := B.returns
  have key : W p l e ({ frames := 3, cells := 0, slots := 0, locals := 73 } : Room) s m (([.ref (ad 0 0), .int a1, .int a2] : List Value).toArray) below meth c s.heap [] 0 0 (MQ below (ZQ D ca base ad n np (zpi post)) (([.ref (ad 0 0), .int a1, .int a2] : List Value).toArray) s 0 0 (zB base)) (entryFrame m (([.ref (ad 0 0), .int a1, .int a2] : List Value).toArray) 3) := by
    have hl := lv_entry ([.ref (ad 0 0), .int a1, .int a2]) (n := 3) (Nat.le_of_ble_eq_true rfl)
    rw [lg_entry_eq]
    generalize (lg_sl ([.ref (ad 0 0), .int a1, .int a2]) ++ List.replicate (3 - (lg_sl ([.ref (ad 0 0), .int a1, .int a2])).length) Slot.unset).toArray = ls at hl ⊢
    have hl : lv_has ls 3 [(0, .ref (ad 0 0)), (1, .int a1), (2, .int a2)] := hl
    unfold w_X5_swap at h
    refine lv_aload_n hC.1 hC.2.1 dX5_swap_0 rfl (lv_at hl 0 rfl) ?_
    refine lv_aload_n hC.1 hC.2.1 dX5_swap_1 rfl (lv_at hl 0 rfl) ?_
    refine lv_iload_n hC.1 hC.2.1 dX5_swap_2 rfl (lv_at hl 1 rfl) ?_
    refine z_cVi (As := [.int a1]) hC hZ (zF_0 _) rfl zy_X5_isAhead (c_X5_isAhead l h) km_X5_140 rfl ⟨rfl, rfl⟩ ⟨Nat.le_of_ble_eq_true rfl, Nat.le_of_ble_eq_true rfl⟩ hl.1 rfl (Nat.le_of_ble_eq_true rfl) dX5_swap_3 ⟨Nat.le_of_ble_eq_true rfl, Nat.le_of_ble_eq_true rfl⟩ (fun r2 μ1 H locs h hZ => ?_)
    refine lv_if_eq (tgt := 21) hC.1 hC.2.1 dX5_swap_6 (by decide) (fun c3 => ?_) (fun c3 => ?_)
    · have h := h.1 c3
      exact t_X5_swap_21 (l := l) hC hr _ _  _ _ _ _ h hZ (lv_sub hl [0, 1, 2] rfl)
    · have h := h.2 c3
      refine lv_aload_n hC.1 hC.2.1 dX5_swap_9 rfl (lv_at hl 0 rfl) ?_
      refine lv_iload_n hC.1 hC.2.1 dX5_swap_10 rfl (lv_at hl 2 rfl) ?_
      refine z_cVi (As := [.int a2]) hC hZ (zF_0 _) rfl zy_X5_isAhead (c_X5_isAhead l h) km_X5_140 rfl ⟨rfl, rfl⟩ ⟨Nat.le_of_ble_eq_true rfl, Nat.le_of_ble_eq_true rfl⟩ hl.1 rfl (Nat.le_of_ble_eq_true rfl) dX5_swap_11 ⟨Nat.le_of_ble_eq_true rfl, Nat.le_of_ble_eq_true rfl⟩ (fun r12 μ11 H locs h hZ => ?_)
      refine lv_if_eq (tgt := 21) hC.1 hC.2.1 dX5_swap_14 (by decide) (fun c13 => ?_) (fun c13 => ?_)
      · have h := h.1 c13
        exact t_X5_swap_21 (l := l) hC hr _ _  _ _ _ _ h hZ (lv_sub hl [0, 1, 2] rfl)
      · have h := h.2 c13
        refine lv_iconst (v := 1) hC.1 hC.2.1 dX5_swap_17 (by decide) ?_
        refine lv_goto (tgt := 22) hC.1 hC.2.1 dX5_swap_18 (by decide) ?_
        exact t_X5_swap_22 (l := l) hC hr _ _ _ _ _ _ _ h hZ (lv_sub hl [0, 1, 2] rfl)
  exact key
