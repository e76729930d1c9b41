def b_X4_sceneNumbered_22 (n np : Nat) (post : Int32 → Mem → Prop) (xpost : String → Mem → Prop) (a1 : Int32) (μ : Mem) : Prop := xpost "java/lang/IndexOutOfBoundsException" μ
set_option maxRecDepth 100000 in
set_option maxHeartbeats 4000000 in
theorem t_X4_sceneNumbered_22 {p : Program} {l : Launch} {e : Env} {s : State} {m : MethodId} {args : Array Value} {below : List Frame} {meth : Method} {c : Code} {D : va_G} {ca : Nat → ClassId} {base : Nat} {ad : Nat → Nat → Nat} {n np : Nat} {post : Int32 → Mem → Prop} {xpost : String → Mem → Prop} (hC : ZC p m meth c s RX4 cX4_sceneNumbered 2) (hnx : ∀ x ∈ c.exceptionTable.toList, False) (hst : l.stackTraces = false) (hr : meth.sig.returnType = (some (FieldType.object "BacklotPlanner$Scene"))) (a1 : Int32) (μ : Mem) (H : Heap) (locs : List Loc) (ls : Array Slot) (h : b_X4_sceneNumbered_22 n np post xpost a1 μ) (hZ : ZS D ca base ad n np μ s H locs) (hl : lv_has ls 2 []) : W p l e ({ frames := 6, cells := 1, slots := 6, locals := 82 } : Room) s m args below meth c H locs 0 0 (vx_MQ below (ZQ D ca base ad n np (zpr ad 70 post)) (ZX D ca base ad n np xpost) args s 1 6 (zB base)) (F0 m 22 ls []) := by
  unfold b_X4_sceneNumbered_22 at h
  exact z_throw_ioo hC hnx hst hZ hl.1 zs_244 dX4_sceneNumbered_22 dX4_sceneNumbered_25 dX4_sceneNumbered_26 dX4_sceneNumbered_28 dX4_sceneNumbered_31 (Nat.le_of_ble_eq_true rfl) (Nat.le_of_ble_eq_true rfl) (Nat.le_of_ble_eq_true rfl) (Nat.le_of_ble_eq_true rfl) (Nat.le_of_ble_eq_true rfl) (Nat.le_of_ble_eq_true rfl) h
def w_X4_sceneNumbered (n np : Nat) (post : Int32 → Mem → Prop) (xpost : String → Mem → Prop) (a1 : Int32) (μ : Mem) : Prop := ((a1 < 0 → b_X4_sceneNumbered_22 n np post xpost a1 μ) ∧ (¬ a1 < 0 → ((10 ≤ a1 → b_X4_sceneNumbered_22 n np post xpost a1 μ) ∧ (¬ 10 ≤ a1 → (vp_in a1 10 ∧ ((¬ (μ 31 0 a1.toNatClampNeg) < 0 → post (μ 31 0 a1.toNatClampNeg) μ) ∧ ((μ 31 0 a1.toNatClampNeg) < 0 → b_X4_sceneNumbered_22 n np post xpost a1 μ)))))))
set_option maxRecDepth 100000 in
set_option maxHeartbeats 4000000 in
theorem c_X4_sceneNumbered (l : Launch) (hst : l.stackTraces = false) {D : va_G} {ca : Nat → ClassId} {base : Nat} {ad : Nat → Nat → Nat} {n np : Nat} {μ : Mem} {post : Int32 → Mem → Prop} {xpost : String → Mem → Prop} {a1 : Int32} (h : w_X4_sceneNumbered n np post xpost a1 μ) : ZXMet l yX4_sceneNumbered cX4_sceneNumbered 2 (some (FieldType.object "BacklotPlanner$Scene")) ({ frames := 6, cells := 1, slots := 6, locals := 82 } : Room) 1 6 D ca base ad n np [.ref (ad 30 0), .int a1] μ (zpr ad 70 post) xpost := by
  unfold ZXMet
  refine vx_ofW (cc := cX4_sceneNumbered) (maxL := 2) (ret := (some (FieldType.object "BacklotPlanner$Scene"))) (by decide) rfl ?_
  intro p e s m args below meth c s₁ B hml hnx hv
  obtain ⟨rfl, hU⟩ := hv
  have hZ := hU.toS
  have hC : ZC p m meth c s RX4 cX4_sceneNumbered 2 := ⟨B.exec, B.bytes, hml, findClass_of_methodNamed B.named, B.notSynchronized⟩
  have hr := B.returns
  have key : W p l e ({ frames := 6, cells := 1, slots := 6, locals := 82 } : Room) s m (([.ref (ad 30 0), .int a1] : List Value).toArray) below meth c s.heap [] 0 0 (vx_MQ below (ZQ D ca base ad n np (zpr ad 70 post)) (ZX D ca base ad n np xpost) (([.ref (ad 30 0), .int a1] : List Value).toArray) s 1 6 (zB base)) (entryFrame m (([.ref (ad 30 0), .int a1] : List Value).toArray) 2) := by
    have hl := lv_entry ([.ref (ad 30 0), .int a1]) (n := 2) (Nat.le_of_ble_eq_true rfl)
    rw [lg_entry_eq]
    generalize (lg_sl ([.ref (ad 30 0), .int a1]) ++ List.replicate (2 - (lg_sl ([.ref (ad 30 0), .int a1])).length) Slot.unset).toArray = ls at hl ⊢
    have hl : lv_has ls 2 [(0, .ref (ad 30 0)), (1, .int a1)] := hl
    unfold w_X4_sceneNumbered at h
    refine lv_iload_n hC.1 hC.2.1 dX4_sceneNumbered_0 rfl (lv_at hl 1 rfl) ?_
    refine lv_if_lt (tgt := 22) hC.1 hC.2.1 dX4_sceneNumbered_1 (by decide) (fun c1 => ?_) (fun c1 => ?_)
    · have h := h.1 c1
      exact t_X4_sceneNumbered_22 (l := l) hC hnx hst hr _  _ _ _ _ h hZ (lv_sub hl [] rfl)
    · have h := h.2 c1
      refine lv_iload_n hC.1 hC.2.1 dX4_sceneNumbered_4 rfl (lv_at hl 1 rfl) ?_
      refine lv_aload_n hC.1 hC.2.1 dX4_sceneNumbered_5 rfl (lv_at hl 0 rfl) ?_
      refine gX4_0 hC hZ kf_X4_11 dX4_sceneNumbered_6 ?_
      refine aN_31 hC hZ dX4_sceneNumbered_9 ?_
      refine lv_icmp_ge (tgt := 22) hC.1 hC.2.1 dX4_sceneNumbered_10 (by decide) (fun c2 => ?_) (fun c2 => ?_)
      · have h := h.1 c2
        exact t_X4_sceneNumbered_22 (l := l) hC hnx hst hr _  _ _ _ _ h hZ (lv_sub hl [] rfl)
      · have h := h.2 c2
        refine lv_aload_n hC.1 hC.2.1 dX4_sceneNumbered_13 rfl (lv_at hl 0 rfl) ?_
        refine gX4_0 hC hZ kf_X4_11 dX4_sceneNumbered_14 ?_
        refine lv_iload_n hC.1 hC.2.1 dX4_sceneNumbered_17 rfl (lv_at hl 1 rfl) ?_
        obtain ⟨q3, h⟩ := h
        refine aL_31 hC hZ q3 dX4_sceneNumbered_18 ?_
        refine z_ifnonnullq (tgt := 32) hC dX4_sceneNumbered_19 (by decide) (fun c4 => ?_) (fun c4 => ?_)
        · have h := h.1 c4
          refine lv_aload_n hC.1 hC.2.1 dX4_sceneNumbered_32 rfl (lv_at hl 0 rfl) ?_
          refine gX4_0 hC hZ kf_X4_11 dX4_sceneNumbered_33 ?_
          refine lv_iload_n hC.1 hC.2.1 dX4_sceneNumbered_36 rfl (lv_at hl 1 rfl) ?_
          refine aL_31 hC hZ q3 dX4_sceneNumbered_37 ?_
          exact vx_ret (z_aret hC hr (Or.inl ⟨_, rfl⟩) hZ h dX4_sceneNumbered_38 (Nat.le_of_ble_eq_true rfl) (Nat.le_of_ble_eq_true rfl))
        · have h := h.2 c4
          exact t_X4_sceneNumbered_22 (l := l) hC hnx hst hr _  _ _ _ _ h hZ (lv_sub hl [] rfl)
  exact key
def b_X4_requireActor_9 (n np : Nat) (post : Mem → Prop) (xpost : String → Mem → Prop) (a1 : Int32) (μ : Mem) : Prop := xpost "java/lang/IndexOutOfBoundsException" μ
set_option maxRecDepth 100000 in
set_option maxHeartbeats 4000000 in
theorem t_X4_requireActor_9 {p : Program} {l : Launch} {e : Env} {s : State} {m : MethodId} {args : Array Value} {below : List Frame} {meth : Method} {c : Code} {D : va_G} {ca : Nat → ClassId} {base : Nat} {ad : Nat → Nat → Nat} {n np : Nat} {post : Mem → Prop} {xpost : String → Mem → Prop} (hC : ZC p m meth c s RX4 cX4_requireActor 1) (hnx : ∀ x ∈ c.exceptionTable.toList, False) (hst : l.stackTraces = false) (hr : meth.sig.returnType = none) (a1 : Int32) (μ : Mem) (H : Heap) (locs : List Loc) (ls : Array Slot) (h : b_X4_requireActor_9 n np post xpost a1 μ) (hZ : ZS D ca base ad n np μ s H locs) (hl : lv_has ls 1 []) : W p l e ({ frames := 6, cells := 1, slots := 6, locals := 82 } : Room) s m args below meth c H locs 0 0 (vx_MQ below (ZQ D ca base ad n np (zpv post)) (ZX D ca base ad n np xpost) args s 1 6 (zB base)) (F0 m 9 ls []) := by
  unfold b_X4_requireActor_9 at h
  exact z_throw_ioo hC hnx hst hZ hl.1 zs_249 dX4_requireActor_9 dX4_requireActor_12 dX4_requireActor_13 dX4_requireActor_15 dX4_requireActor_18 (Nat.le_of_ble_eq_true rfl) (Nat.le_of_ble_eq_true rfl) (Nat.le_of_ble_eq_true rfl) (Nat.le_of_ble_eq_true rfl) (Nat.le_of_ble_eq_true rfl) (Nat.le_of_ble_eq_true rfl) h
def w_X4_requireActor (n np : Nat) (post : Mem → Prop) (xpost : String → Mem → Prop) (a1 : Int32) (μ : Mem) : Prop := ((a1 < 0 → b_X4_requireActor_9 n np post xpost a1 μ) ∧ (¬ a1 < 0 → ((a1 < 5 → post μ) ∧ (¬ a1 < 5 → b_X4_requireActor_9 n np post xpost a1 μ))))
set_option maxRecDepth 100000 in
set_option maxHeartbeats 4000000 in
theorem c_X4_requireActor (l : Launch) (hst : l.stackTraces = false) {D : va_G} {ca : Nat → ClassId} {base : Nat} {ad : Nat → Nat → Nat} {n np : Nat} {μ : Mem} {post : Mem → Prop} {xpost : String → Mem → Prop} {a1 : Int32} (h : w_X4_requireActor n np post xpost a1 μ) : ZXMet l yX4_requireActor cX4_requireActor 1 none ({ frames := 6, cells := 1, slots := 6, locals := 82 } : Room) 1 6 D ca base ad n np [.int a1] μ (zpv post) xpost := by
  unfold ZXMet
  refine vx_ofW (cc := cX4_requireActor) (maxL := 1) (ret := none) (by decide) rfl ?_
  intro p e s m args below meth c s₁ B hml hnx hv
  obtain ⟨rfl, hU⟩ := hv
  have hZ := hU.toS
  have hC : ZC p m meth c s RX4 cX4_requireActor 1 := ⟨B.exec, B.bytes, hml, findClass_of_methodNamed B.named, B.notSynchronized⟩
  have hr := B.returns
  have key : W p l e ({ frames := 6, cells := 1, slots := 6, locals := 82 } : Room) s m (([.int a1] : List Value).toArray) below meth c s.heap [] 0 0 (vx_MQ below (ZQ D ca base ad n np (zpv post)) (ZX D ca base ad n np xpost) (([.int a1] : List Value).toArray) s 1 6 (zB base)) (entryFrame m (([.int a1] : List Value).toArray) 1) := by
    have hl := lv_entry ([.int a1]) (n := 1) (Nat.le_of_ble_eq_true rfl)
    rw [lg_entry_eq]
    generalize (lg_sl ([.int a1]) ++ List.replicate (1 - (lg_sl ([.int a1])).length) Slot.unset).toArray = ls at hl ⊢
    have hl : lv_has ls 1 [(0, .int a1)] := hl
    unfold w_X4_requireActor at h
    refine lv_iload_n hC.1 hC.2.1 dX4_requireActor_0 rfl (lv_at hl 0 rfl) ?_
    refine lv_if_lt (tgt := 9) hC.1 hC.2.1 dX4_requireActor_1 (by decide) (fun c1 => ?_) (fun c1 => ?_)
    · have h := h.1 c1
      exact t_X4_requireActor_9 (l := l) hC hnx hst hr _  _ _ _ _ h hZ (lv_sub hl [] rfl)
    · have h := h.2 c1
      refine lv_iload_n hC.1 hC.2.1 dX4_requireActor_4 rfl (lv_at hl 0 rfl) ?_
      refine lv_iconst (v := 5) hC.1 hC.2.1 dX4_requireActor_5 (by decide) ?_
      refine lv_icmp_lt (tgt := 19) hC.1 hC.2.1 dX4_requireActor_6 (by decide) (fun c2 => ?_) (fun c2 => ?_)
      · have h := h.1 c2
        exact vx_ret (z_vret hC hr hZ h dX4_requireActor_19 (Nat.le_of_ble_eq_true rfl) (Nat.le_of_ble_eq_true rfl))
      · have h := h.2 c2
        exact t_X4_requireActor_9 (l := l) hC hnx hst hr _  _ _ _ _ h hZ (lv_sub hl [] rfl)
  exact key
def w_X4_requirePlanned (n np : Nat) (post : Mem → Prop) (xpost : String → Mem → Prop) (i1 : Nat) (μ : Mem) : Prop := (i1 < n ∧ (((μ 70 i1 6) = 0 → post μ) ∧ (¬ (μ 70 i1 6) = 0 → xpost "java/lang/IllegalStateException" μ)))
set_option maxRecDepth 100000 in
set_option maxHeartbeats 4000000 in
theorem c_X4_requirePlanned (l : Launch) (hst : l.stackTraces = false) {D : va_G} {ca : Nat → ClassId} {base : Nat} {ad : Nat → Nat → Nat} {n np : Nat} {μ : Mem} {post : Mem → Prop} {xpost : String → Mem → Prop} {i1 : Nat} (h : w_X4_requirePlanned n np post xpost i1 μ) : ZXMet l yX4_requirePlanned cX4_requirePlanned 1 none ({ frames := 6, cells := 1, slots := 6, locals := 82 } : Room) 1 6 D ca base ad n np [.ref (ad 70 i1)] μ (zpv post) xpost := by
  unfold ZXMet
  refine vx_ofW (cc := cX4_requirePlanned) (maxL := 1) (ret := none) (by decide) rfl ?_
  intro p e s m args below meth c s₁ B hml hnx hv
  obtain ⟨rfl, hU⟩ := hv
  have hZ := hU.toS
  have hC : ZC p m meth c s RX4 cX4_requirePlanned 1 := ⟨B.exec, B.bytes, hml, findClass_of_methodNamed B.named, B.notSynchronized⟩
  have hr := B.returns
  have key : W p l e ({ frames := 6, cells := 1, slots := 6, locals := 82 } : Room) s m (([.ref (ad 70 i1)] : List Value).toArray) below meth c s.heap [] 0 0 (vx_MQ below (ZQ D ca base ad n np (zpv post)) (ZX D ca base ad n np xpost) (([.ref (ad 70 i1)] : List Value).toArray) s 1 6 (zB base)) (entryFrame m (([.ref (ad 70 i1)] : List Value).toArray) 1) := by
    have hl := lv_entry ([.ref (ad 70 i1)]) (n := 1) (Nat.le_of_ble_eq_true rfl)
    rw [lg_entry_eq]
    generalize (lg_sl ([.ref (ad 70 i1)]) ++ List.replicate (1 - (lg_sl ([.ref (ad 70 i1)])).length) Slot.unset).toArray = ls at hl ⊢
    have hl : lv_has ls 1 [(0, .ref (ad 70 i1))] := hl
    unfold w_X4_requirePlanned at h
    refine lv_aload_n hC.1 hC.2.1 dX4_requirePlanned_0 rfl (lv_at hl 0 rfl) ?_
    obtain ⟨q1, h⟩ := h
    refine gX2_6 hC hZ q1 kf_X4_128 dX4_requirePlanned_1 ?_
    refine lv_if_eq (tgt := 17) hC.1 hC.2.1 dX4_requirePlanned_4 (by decide) (fun c2 => ?_) (fun c2 => ?_)
    · have h := h.1 c2
      exact vx_ret (z_vret hC hr hZ h dX4_requirePlanned_17 (Nat.le_of_ble_eq_true rfl) (Nat.le_of_ble_eq_true rfl))
    · have h := h.2 c2
      exact z_throw_ise hC hnx hst hZ hl.1 zs_255 dX4_requirePlanned_7 dX4_requirePlanned_10 dX4_requirePlanned_11 dX4_requirePlanned_13 dX4_requirePlanned_16 (Nat.le_of_ble_eq_true rfl) (Nat.le_of_ble_eq_true rfl) (Nat.le_of_ble_eq_true rfl) (Nat.le_of_ble_eq_true rfl) (Nat.le_of_ble_eq_true rfl) (Nat.le_of_ble_eq_true rfl) h
  exact key
def b_X4_plays_22 (n np : Nat) (post : Int32 → Mem → Prop) (xpost : String → Mem → Prop) (a1 : Int32) (a2 : Int32) (a3 : Int32) (μ : Mem) : Prop := xpost "java/lang/IllegalArgumentException" μ
set_option maxRecDepth 100000 in
set_option maxHeartbeats 4000000 in
theorem t_X4_plays_22 {p : Program} {l : Launch} {e : Env} {s : State} {m : MethodId} {args : Array Value} {below : List Frame} {meth : Method} {c : Code} {D : va_G} {ca : Nat → ClassId} {base : Nat} {ad : Nat → Nat → Nat} {n np : Nat} {post : Int32 → Mem → Prop} {xpost : String → Mem → Prop} (hC : ZC p m meth c s RX4 cX4_plays 5) (hnx : ∀ x ∈ c.exceptionTable.toList, False) (hst : l.stackTraces = false) (hr : meth.sig.returnType = (some FieldType.int)) (a1 : Int32) (a2 : Int32) (a3 : Int32) (μ : Mem) (H : Heap) (locs : List Loc) (ls : Array Slot) (h : b_X4_plays_22 n np post xpost a1 a2 a3 μ) (hZ : ZS D ca base ad n np μ s H locs) (hl : lv_has ls 5 []) : W p l e ({ frames := 7, cells := 3, slots := 18, locals := 103 } : Room) s m args below meth c H locs 2 12 (vx_MQ below (ZQ D ca base ad n np (zpi post)) (ZX D ca base ad n np xpost) args s 3 18 (zB base)) (F0 m 22 ls []) := by
  unfold b_X4_plays_22 at h
  exact z_throw_iae hC hnx hst hZ hl.1 zs_88 dX4_plays_22 dX4_plays_25 dX4_plays_26 dX4_plays_28 dX4_plays_31 (Nat.le_of_ble_eq_true rfl) (Nat.le_of_ble_eq_true rfl) (Nat.le_of_ble_eq_true rfl) (Nat.le_of_ble_eq_true rfl) (Nat.le_of_ble_eq_true rfl) (Nat.le_of_ble_eq_true rfl) h
def w_X4_plays (n np : Nat) (post : Int32 → Mem → Prop) (xpost : String → Mem → Prop) (a1 : Int32) (a2 : Int32) (a3 : Int32) (μ : Mem) : Prop := (w_X4_sceneNumbered n np (fun (r2 : Int32) (μ1 : Mem) => (w_X4_requireActor n np (fun (μ3 : Mem) => ((a3 < (-1) → b_X4_plays_22 n np post xpost a1 a2 a3 μ3) ∧ (¬ a3 < (-1) → ((a3 ≤ 20 → (¬ r2 < 0 ∧ w_X4_requirePlanned n np (fun (μ8 : Mem) => (r2.toNatClampNeg < n ∧ (vp_in a2 5 ∧ ∀ μ12 : Mem, μ12 = zst μ8 71 r2.toNatClampNeg a2.toNatClampNeg a3 → (w_X2_countActors n np (fun (r14 : Int32) (μ13 : Mem) => post r14 μ13) r2.toNatClampNeg μ12)))) xpost r2.toNatClampNeg μ3)) ∧ (¬ a3 ≤ 20 → b_X4_plays_22 n np post xpost a1 a2 a3 μ3))))) xpost a2 μ1)) xpost a1 μ)
set_option maxRecDepth 100000 in
set_option maxHeartbeats 4000000 in
theorem c_X4_plays (l : Launch) (hst : l.stackTraces = false) {D : va_G} {ca : Nat → ClassId} {base : Nat} {ad : Nat → Nat → Nat} {n np : Nat} {μ : Mem} {post : Int32 → Mem → Prop} {xpost : String → Mem → Prop} {a1 : Int32} {a2 : Int32} {a3 : Int32} (h : w_X4_plays n np post xpost a1 a2 a3 μ) : ZXMet l yX4_plays cX4_plays 5 (some FieldType.int) ({ frames := 7, cells := 3, slots := 18, locals := 103 } : Room) 3 18 D ca base ad n np [.ref (ad 30 0), .int a1, .int a2, .int a3] μ (zpi post) xpost := by
  unfold ZXMet
  refine vx_ofW (cc := cX4_plays) (maxL := 5) (ret := (some FieldType.int)) (by decide) rfl ?_
  intro p e s m args below meth c s₁ B hml hnx hv
  obtain ⟨rfl, hU⟩ := hv
  have hZ := hU.toS
  have hC : ZC p m meth c s RX4 cX4_plays 5 := ⟨B.exec, B.bytes, hml, findClass_of_methodNamed B.named, B.notSynchronized⟩
  have hr := B.returns
  have key : W p l e ({ frames := 7, cells := 3, slots := 18, locals := 103 } : Room) s m (([.ref (ad 30 0), .int a1, .int a2, .int a3] : List Value).toArray) below meth c s.heap [] 0 0 (vx_MQ below (ZQ D ca base ad n np (zpi post)) (ZX D ca base ad n np xpost) (([.ref (ad 30 0), .int a1, .int a2, .int a3] : List Value).toArray) s 3 18 (zB base)) (entryFrame m (([.ref (ad 30 0), .int a1, .int a2, .int a3] : List Value).toArray) 5) := by
    have hl := lv_entry ([.ref (ad 30 0), .int a1, .int a2, .int a3]) (n := 5) (Nat.le_of_ble_eq_true rfl)
    rw [lg_entry_eq]
    generalize (lg_sl ([.ref (ad 30 0), .int a1, .int a2, .int a3]) ++ List.replicate (5 - (lg_sl ([.ref (ad 30 0), .int a1, .int a2, .int a3])).length) Slot.unset).toArray = ls at hl ⊢
    have hl : lv_has ls 5 [(0, .ref (ad 30 0)), (1, .int a1), (2, .int a2), (3, .int a3)] := hl
    unfold w_X4_plays at h
    refine lv_aload_n hC.1 hC.2.1 dX4_plays_0 rfl (lv_at hl 0 rfl) ?_
    refine lv_iload_n hC.1 hC.2.1 dX4_plays_1 rfl (lv_at hl 1 rfl) ?_
    refine z_cVXq (As := [.int a1]) hC hZ (zF_30 _) rfl zy_X4_sceneNumbered (c_X4_sceneNumbered l hst h) km_X4_80 rfl ⟨rfl, rfl⟩ ⟨Nat.le_of_ble_eq_true rfl, Nat.le_of_ble_eq_true rfl⟩ hl.1 rfl (Nat.le_of_ble_eq_true rfl) dX4_plays_2 ⟨Nat.le_of_ble_eq_true rfl, Nat.le_of_ble_eq_true rfl⟩ (fun E ce q9 u H locs hx hZ hce hcv hcl => z_xout hC hnx hZ hx hce hcv hcl (Nat.le_of_ble_eq_true rfl) (Nat.le_of_ble_eq_true rfl)) (fun r2 μ1 H locs h hZ => ?_)
    refine z_astoreq (lv' := [(4, va_rf (zr ad 70 r2)), (0, .ref (ad 30 0)), (1, .int a1), (2, .int a2), (3, .int a3)]) hC dX4_plays_5 hl (by decide) rfl (fun ls hl => ?_)
    refine lv_iload_n hC.1 hC.2.1 dX4_plays_7 rfl (lv_at hl 3 rfl) ?_
    refine z_cSXv (As := [.int a2]) hC hZ zy_X4_requireActor (c_X4_requireActor l hst h) km_X4_84 rfl ⟨rfl, rfl⟩ ⟨Nat.le_of_ble_eq_true rfl, Nat.le_of_ble_eq_true rfl⟩ hl.1 rfl (Nat.le_of_ble_eq_true rfl) dX4_plays_8 ⟨Nat.le_of_ble_eq_true rfl, Nat.le_of_ble_eq_true rfl⟩ (fun E ce q9 u H locs hx hZ hce hcv hcl => z_xout hC hnx hZ hx hce hcv hcl (Nat.le_of_ble_eq_true rfl) (Nat.le_of_ble_eq_true rfl)) (fun μ3 H locs h hZ => ?_)
    refine lv_iload_n hC.1 hC.2.1 dX4_plays_11 rfl (lv_at hl 4 rfl) ?_
    refine lv_iconst (v := (-1)) hC.1 hC.2.1 dX4_plays_12 (by decide) ?_
    refine lv_icmp_lt (tgt := 22) hC.1 hC.2.1 dX4_plays_13 (by decide) (fun c5 => ?_) (fun c5 => ?_)
    · have h := h.1 c5
      exact t_X4_plays_22 (l := l) hC hnx hst hr _ _ _  _ _ _ _ h hZ (lv_sub hl [] rfl)
    · have h := h.2 c5
      refine lv_iload_n hC.1 hC.2.1 dX4_plays_16 rfl (lv_at hl 4 rfl) ?_
      refine lv_bipush (v := 20) hC.1 hC.2.1 dX4_plays_17 (by decide) ?_
      refine lv_icmp_le (tgt := 32) hC.1 hC.2.1 dX4_plays_19 (by decide) (fun c6 => ?_) (fun c6 => ?_)
      · have h := h.1 c6
        refine z_aloadq hC dX4_plays_32 (lv_at hl 0 rfl) ?_
        obtain ⟨q7, h⟩ := h
        refine z_df0 q7 ?_
        refine z_cSXv (As := [.ref (ad 70 r2.toNatClampNeg)]) hC hZ zy_X4_requirePlanned (c_X4_requirePlanned l hst h) km_X4_90 rfl ⟨rfl, rfl⟩ ⟨Nat.le_of_ble_eq_true rfl, Nat.le_of_ble_eq_true rfl⟩ hl.1 rfl (Nat.le_of_ble_eq_true rfl) dX4_plays_34 ⟨Nat.le_of_ble_eq_true rfl, Nat.le_of_ble_eq_true rfl⟩ (fun E ce q9 u H locs hx hZ hce hcv hcl => z_xout hC hnx hZ hx hce hcv hcl (Nat.le_of_ble_eq_true rfl) (Nat.le_of_ble_eq_true rfl)) (fun μ8 H locs h hZ => ?_)
        refine z_aloadq hC dX4_plays_37 (lv_at hl 0 rfl) ?_
        refine z_df0 q7 ?_
        obtain ⟨q10, h⟩ := h
        refine gX2_3 hC hZ q10 kf_X4_94 dX4_plays_39 ?_
        refine lv_iload_n hC.1 hC.2.1 dX4_plays_42 rfl (lv_at hl 3 rfl) ?_
        refine lv_iload_n hC.1 hC.2.1 dX4_plays_43 rfl (lv_at hl 4 rfl) ?_
        obtain ⟨q11, h⟩ := h
        refine aS_71 hC hZ q10 q11 dX4_plays_44 (fun μ12 H locs eμ12 hZ => ?_)
        have h := h μ12 eμ12
        refine z_aloadq hC dX4_plays_45 (lv_at hl 0 rfl) ?_
        refine z_df0 q7 ?_
        refine z_cVi (As := []) hC hZ (zF_70 q10 _) rfl zy_X2_countActors (c_X2_countActors l h) km_X4_97 rfl ⟨rfl, rfl⟩ ⟨Nat.le_of_ble_eq_true rfl, Nat.le_of_ble_eq_true rfl⟩ hl.1 rfl (Nat.le_of_ble_eq_true rfl) dX4_plays_47 ⟨Nat.le_of_ble_eq_true rfl, Nat.le_of_ble_eq_true rfl⟩ (fun r14 μ13 H locs h hZ => ?_)
        exact vx_ret (z_iret hC hr hZ h dX4_plays_50 (Nat.le_of_ble_eq_true rfl) (Nat.le_of_ble_eq_true rfl))
      · have h := h.2 c6
        exact t_X4_plays_22 (l := l) hC hnx hst hr _ _ _  _ _ _ _ h hZ (lv_sub hl [] rfl)
  exact key
def b_X4_requireProp_9 (n np : Nat) (post : Mem → Prop) (xpost : String → Mem → Prop) (a1 : Int32) (μ : Mem) : Prop := xpost "java/lang/IndexOutOfBoundsException" μ
set_option maxRecDepth 100000 in
set_option maxHeartbeats 4000000 in
theorem t_X4_requireProp_9 {p : Program} {l : Launch} {e : Env} {s : State} {m : MethodId} {args : Array Value} {below : List Frame} {meth : Method} {c : Code} {D : va_G} {ca : Nat → ClassId} {base : Nat} {ad : Nat → Nat → Nat} {n np : Nat} {post : Mem → Prop} {xpost : String → Mem → Prop} (hC : ZC p m meth c s RX4 cX4_requireProp 1) (hnx : ∀ x ∈ c.exceptionTable.toList, False) (hst : l.stackTraces = false) (hr : meth.sig.returnType = none) (a1 : Int32) (μ : Mem) (H : Heap) (locs : List Loc) (ls : Array Slot) (h : b_X4_requireProp_9 n np post xpost a1 μ) (hZ : ZS D ca base ad n np μ s H locs) (hl : lv_has ls 1 []) : W p l e ({ frames := 6, cells := 1, slots := 6, locals := 82 } : Room) s m args below meth c H locs 0 0 (vx_MQ below (ZQ D ca base ad n np (zpv post)) (ZX D ca base ad n np xpost) args s 1 6 (zB base)) (F0 m 9 ls []) := by
  unfold b_X4_requireProp_9 at h
  exact z_throw_ioo hC hnx hst hZ hl.1 zs_251 dX4_requireProp_9 dX4_requireProp_12 dX4_requireProp_13 dX4_requireProp_15 dX4_requireProp_18 (Nat.le_of_ble_eq_true rfl) (Nat.le_of_ble_eq_true rfl) (Nat.le_of_ble_eq_true rfl) (Nat.le_of_ble_eq_true rfl) (Nat.le_of_ble_eq_true rfl) (Nat.le_of_ble_eq_true rfl) h
def w_X4_requireProp (n np : Nat) (post : Mem → Prop) (xpost : String → Mem → Prop) (a1 : Int32) (μ : Mem) : Prop := ((a1 < 0 → b_X4_requireProp_9 n np post xpost a1 μ) ∧ (¬ a1 < 0 → ((a1 < 5 → post μ) ∧ (¬ a1 < 5 → b_X4_requireProp_9 n np post xpost a1 μ))))
set_option maxRecDepth 100000 in
set_option maxHeartbeats 4000000 in
theorem c_X4_requireProp (l : Launch) (hst : l.stackTraces = false) {D : va_G} {ca : Nat → ClassId} {base : Nat} {ad : Nat → Nat → Nat} {n np : Nat} {μ : Mem} {post : Mem → Prop} {xpost : String → Mem → Prop} {a1 : Int32} (h : w_X4_requireProp n np post xpost a1 μ) : ZXMet l yX4_requireProp cX4_requireProp 1 none ({ frames := 6, cells := 1, slots := 6, locals := 82 } : Room) 1 6 D ca base ad n np [.int a1] μ (zpv post) xpost := by
  unfold ZXMet
  refine vx_ofW (cc := cX4_requireProp) (maxL := 1) (ret := none) (by decide) rfl ?_
  intro p e s m args below meth c s₁ B hml hnx hv
  obtain ⟨rfl, hU⟩ := hv
  have hZ := hU.toS
  have hC : ZC p m meth c s RX4 cX4_requireProp 1 := ⟨B.exec, B.bytes, hml, findClass_of_methodNamed B.named, B.notSynchronized⟩
  have hr := B.returns
  have key : W p l e ({ frames := 6, cells := 1, slots := 6, locals := 82 } : Room) s m (([.int a1] : List Value).toArray) below meth c s.heap [] 0 0 (vx_MQ below (ZQ D ca base ad n np (zpv post)) (ZX D ca base ad n np xpost) (([.int a1] : List Value).toArray) s 1 6 (zB base)) (entryFrame m (([.int a1] : List Value).toArray) 1) := by
    have hl := lv_entry ([.int a1]) (n := 1) (Nat.le_of_ble_eq_true rfl)
    rw [lg_entry_eq]
    generalize (lg_sl ([.int a1]) ++ List.replicate (1 - (lg_sl ([.int a1])).length) Slot.unset).toArray = ls at hl ⊢
    have hl : lv_has ls 1 [(0, .int a1)] := hl
    unfold w_X4_requireProp at h
    refine lv_iload_n hC.1 hC.2.1 dX4_requireProp_0 rfl (lv_at hl 0 rfl) ?_
    refine lv_if_lt (tgt := 9) hC.1 hC.2.1 dX4_requireProp_1 (by decide) (fun c1 => ?_) (fun c1 => ?_)
    · have h := h.1 c1
      exact t_X4_requireProp_9 (l := l) hC hnx hst hr _  _ _ _ _ h hZ (lv_sub hl [] rfl)
    · have h := h.2 c1
      refine lv_iload_n hC.1 hC.2.1 dX4_requireProp_4 rfl (lv_at hl 0 rfl) ?_
      refine lv_iconst (v := 5) hC.1 hC.2.1 dX4_requireProp_5 (by decide) ?_
      refine lv_icmp_lt (tgt := 19) hC.1 hC.2.1 dX4_requireProp_6 (by decide) (fun c2 => ?_) (fun c2 => ?_)
      · have h := h.1 c2
        exact vx_ret (z_vret hC hr hZ h dX4_requireProp_19 (Nat.le_of_ble_eq_true rfl) (Nat.le_of_ble_eq_true rfl))
      · have h := h.2 c2
        exact t_X4_requireProp_9 (l := l) hC hnx hst hr _  _ _ _ _ h hZ (lv_sub hl [] rfl)
  exact key
def b_X4_agesForwards_91 (n np : Nat) (post : Int32 → Mem → Prop) (k14 : Int32 → Int32 → Mem → Prop) (a1 : Int32) (a2 : Int32) (a3 : Int32) (a4 : Int32) (v6 : Int32) (v7 : Int32) (μ : Mem) : Prop := k14 v6 (v7 + 1) μ
set_option maxRecDepth 100000 in
set_option maxHeartbeats 4000000 in
theorem t_X4_agesForwards_91 {p : Program} {l : Launch} {e : Env} {s : State} {m : MethodId} {args : Array Value} {below : List Frame} {meth : Method} {c : Code} {D : va_G} {ca : Nat → ClassId} {base : Nat} {ad : Nat → Nat → Nat} {n np : Nat} {post : Int32 → Mem → Prop} {k14 : Int32 → Int32 → Mem → Prop} (hC : ZC p m meth c s RX4 cX4_agesForwards 9) (hr : meth.sig.returnType = (some FieldType.boolean)) (a1 : Int32) (a2 : Int32) (a3 : Int32) (a4 : Int32) (hk14 : ∀ (v6 : Int32) (v7 : Int32) (μ : Mem) (H : Heap) (locs : List Loc) (ls : Array Slot), k14 v6 v7 μ → ZS D ca base ad n np μ s H locs → lv_has ls 9 [(1, .int a1), (2, .int a2), (3, .int a3), (4, .int a4), (5, .ref (ad 31 0)), (6, .int v6), (7, .int v7)] → W p l e ({ frames := 1, cells := 0, slots := 0, locals := 21 } : Room) s m args below meth c H locs 0 0 (MQ below (ZQ D ca base ad n np (zpi post)) args s 0 0 (zB base)) (F0 m 14 ls [])) (v6 : Int32) (v7 : Int32) (μ : Mem) (H : Heap) (locs : List Loc) (ls : Array Slot) (h : b_X4_agesForwards_91 n np post k14 a1 a2 a3 a4 v6 v7 μ) (hZ : ZS D ca base ad n np μ s H locs) (hl : lv_has ls 9 [(1, .int a1), (2, .int a2), (3, .int a3), (4, .int a4), (5, .ref (ad 31 0)), (6, .int v6), (7, .int v7)]) : W p l e ({ frames := 1, cells := 0, slots := 0, locals := 21 } : Room) s m args below meth c H locs 0 0 (MQ below (ZQ D ca base ad n np (zpi post)) args s 0 0 (zB base)) (F0 m 91 ls []) := by
  unfold b_X4_agesForwards_91 at h
  refine lv_iinc (v := v7 + 1) (lv' := [(7, .int (v7 + 1)), (1, .int a1), (2, .int a2), (3, .int a3), (4, .int a4), (5, .ref (ad 31 0)), (6, .int v6)]) hC.1 hC.2.1 dX4_agesForwards_91 hl (k := 6) rfl rfl (by decide) rfl (fun ls hl => ?_)
  refine lv_goto (tgt := 14) hC.1 hC.2.1 dX4_agesForwards_94 (by decide) ?_
  exact hk14 _ _ _ _ _ _ h hZ (lv_sub hl [1, 2, 3, 4, 5, 6, 0] rfl)
def lb_X4_agesForwards_14 (n np : Nat) (post : Int32 → Mem → Prop) (k14 : Int32 → Int32 → Mem → Prop) (a1 : Int32) (a2 : Int32) (a3 : Int32) (a4 : Int32) (v6 : Int32) (v7 : Int32) (μ : Mem) : Prop := ((v6 ≤ v7 → post 1 μ) ∧ (¬ v6 ≤ v7 → (vp_in v7 10 ∧ (((μ 31 0 v7.toNatClampNeg) < 0 → b_X4_agesForwards_91 n np post k14 a1 a2 a3 a4 v6 v7 μ) ∧ (¬ (μ 31 0 v7.toNatClampNeg) < 0 → (((μ 31 0 v7.toNatClampNeg).toNatClampNeg) < n ∧ (((μ 70 ((μ 31 0 v7.toNatClampNeg).toNatClampNeg) 0) = a1 → b_X4_agesForwards_91 n np post k14 a1 a2 a3 a4 v6 v7 μ) ∧ (¬ (μ 70 ((μ 31 0 v7.toNatClampNeg).toNatClampNeg) 0) = a1 → (w_X2_ages n np (fun (r7 : Int32) (μ6 : Mem) => ((¬ r7 = 0 → ((a1 ≤ (μ6 70 ((μ 31 0 v7.toNatClampNeg).toNatClampNeg) 0) → (vp_in a2 5 ∧ ((a4 ≤ (μ6 72 ((μ 31 0 v7.toNatClampNeg).toNatClampNeg) a2.toNatClampNeg) → b_X4_agesForwards_91 n np post k14 a1 a2 a3 a4 v6 v7 μ6) ∧ (¬ a4 ≤ (μ6 72 ((μ 31 0 v7.toNatClampNeg).toNatClampNeg) a2.toNatClampNeg) → post 0 μ6)))) ∧ (¬ a1 ≤ (μ6 70 ((μ 31 0 v7.toNatClampNeg).toNatClampNeg) 0) → (vp_in a2 5 ∧ (((μ6 73 ((μ 31 0 v7.toNatClampNeg).toNatClampNeg) a2.toNatClampNeg) ≤ a3 → b_X4_agesForwards_91 n np post k14 a1 a2 a3 a4 v6 v7 μ6) ∧ (¬ (μ6 73 ((μ 31 0 v7.toNatClampNeg).toNatClampNeg) a2.toNatClampNeg) ≤ a3 → post 0 μ6)))))) ∧ (r7 = 0 → b_X4_agesForwards_91 n np post k14 a1 a2 a3 a4 v6 v7 μ6))) ((μ 31 0 v7.toNatClampNeg).toNatClampNeg) a2 μ)))))))))
def l_X4_agesForwards_14 (n np : Nat) (post : Int32 → Mem → Prop) (a1 : Int32) (a2 : Int32) (a3 : Int32) (a4 : Int32) : Nat → Int32 → Int32 → Mem → Prop
  | 0 => fun _ _ _ => False
  | fuel + 1 => lb_X4_agesForwards_14 n np post (l_X4_agesForwards_14 n np post a1 a2 a3 a4 fuel) a1 a2 a3 a4 
set_option maxRecDepth 100000 in
set_option maxHeartbeats 4000000 in
theorem t_X4_agesForwards_14 {p : Program} {l : Launch} {e : Env} {s : State} {m : MethodId} {args : Array Value} {below : List Frame} {meth : Method} {c : Code} {D : va_G} {ca : Nat → ClassId} {base : Nat} {ad : Nat → Nat → Nat} {n np : Nat} {post : Int32 → Mem → Prop} (hC : ZC p m meth c s RX4 cX4_agesForwards 9) (hr : meth.sig.returnType = (some FieldType.boolean)) (a1 : Int32) (a2 : Int32) (a3 : Int32) (a4 : Int32) : ∀ (fuel : Nat) (v6 : Int32) (v7 : Int32) (μ : Mem) (H : Heap) (locs : List Loc) (ls : Array Slot), l_X4_agesForwards_14 n np post a1 a2 a3 a4 fuel v6 v7 μ → ZS D ca base ad n np μ s H locs → lv_has ls 9 [(1, .int a1), (2, .int a2), (3, .int a3), (4, .int a4), (5, .ref (ad 31 0)), (6, .int v6), (7, .int v7)] → W p l e ({ frames := 1, cells := 0, slots := 0, locals := 21 } : Room) s m args below meth c H locs 0 0 (MQ below (ZQ D ca base ad n np (zpi post)) args s 0 0 (zB base)) (F0 m 14 ls []) := by
  intro fuel
  induction fuel with
  | zero => exact fun _ _ _ _ _ _ h => h.elim
  | succ fuel hk14 =>
    intro v6 v7 μ H locs ls h hZ hl
    have h : lb_X4_agesForwards_14 n np post (l_X4_agesForwards_14 n np post a1 a2 a3 a4 fuel) a1 a2 a3 a4 v6 v7 μ := h
    unfold lb_X4_agesForwards_14 at h
    refine lv_iload hC.1 hC.2.1 dX4_agesForwards_14 (lv_at hl 6 rfl) ?_
    refine lv_iload hC.1 hC.2.1 dX4_agesForwards_16 (lv_at hl 5 rfl) ?_
    refine lv_icmp_ge (tgt := 97) hC.1 hC.2.1 dX4_agesForwards_18 (by decide) (fun c1 => ?_) (fun c1 => ?_)
    · have h := h.1 c1
      refine lv_iconst (v := 1) hC.1 hC.2.1 dX4_agesForwards_97 (by decide) ?_
      exact z_bret hC hr hZ (by decide) h dX4_agesForwards_98 (Nat.le_of_ble_eq_true rfl) (Nat.le_of_ble_eq_true rfl)
    · have h := h.2 c1
      refine lv_aload hC.1 hC.2.1 dX4_agesForwards_21 (lv_at hl 4 rfl) ?_
      refine lv_iload hC.1 hC.2.1 dX4_agesForwards_23 (lv_at hl 6 rfl) ?_
      obtain ⟨q2, h⟩ := h
      refine aL_31 hC hZ q2 dX4_agesForwards_25 ?_
      refine z_astoreq (lv' := [(8, va_rf (zr ad 70 (μ 31 0 v7.toNatClampNeg))), (1, .int a1), (2, .int a2), (3, .int a3), (4, .int a4), (5, .ref (ad 31 0)), (6, .int v6), (7, .int v7)]) hC dX4_agesForwards_26 hl (by decide) rfl (fun ls hl => ?_)
      refine z_aloadq hC dX4_agesForwards_28 (lv_at hl 0 rfl) ?_
      refine z_ifnullq (tgt := 91) hC dX4_agesForwards_30 (by decide) (fun c3 => ?_) (fun c3 => ?_)
      · have h := h.1 c3
        exact t_X4_agesForwards_91 (l := l) hC hr _ _ _ _ hk14 _ _ _ _ _ _ h hZ (lv_sub hl [1, 2, 3, 4, 5, 6, 7] rfl)
      · have h := h.2 c3
        refine z_aloadq hC dX4_agesForwards_33 (lv_at hl 0 rfl) ?_
        refine z_df0 c3 ?_
        obtain ⟨q4, h⟩ := h
        refine gX2_0 hC hZ q4 kf_X4_77 dX4_agesForwards_35 ?_
        refine lv_iload_n hC.1 hC.2.1 dX4_agesForwards_38 rfl (lv_at hl 1 rfl) ?_
        refine lv_icmp_eq (tgt := 91) hC.1 hC.2.1 dX4_agesForwards_39 (by decide) (fun c5 => ?_) (fun c5 => ?_)
        · have h := h.1 c5
          exact t_X4_agesForwards_91 (l := l) hC hr _ _ _ _ hk14 _ _ _ _ _ _ h hZ (lv_sub hl [1, 2, 3, 4, 5, 6, 7] rfl)
        · have h := h.2 c5
          refine z_aloadq hC dX4_agesForwards_42 (lv_at hl 0 rfl) ?_
          refine lv_iload_n hC.1 hC.2.1 dX4_agesForwards_44 rfl (lv_at hl 2 rfl) ?_
          refine z_df1 c3 ?_
          refine z_cVi (As := [.int a2]) hC hZ (zF_70 q4 _) rfl zy_X2_ages (c_X2_ages l h) km_X4_236 rfl ⟨rfl, rfl⟩ ⟨Nat.le_of_ble_eq_true rfl, Nat.le_of_ble_eq_true rfl⟩ hl.1 rfl (Nat.le_of_ble_eq_true rfl) dX4_agesForwards_45 ⟨Nat.le_of_ble_eq_true rfl, Nat.le_of_ble_eq_true rfl⟩ (fun r7 μ6 H locs h hZ => ?_)
          refine lv_if_ne (tgt := 54) hC.1 hC.2.1 dX4_agesForwards_48 (by decide) (fun c8 => ?_) (fun c8 => ?_)
          · have h := h.1 c8
            refine z_aloadq hC dX4_agesForwards_54 (lv_at hl 0 rfl) ?_
            refine z_df0 c3 ?_
            refine gX2_0 hC hZ q4 kf_X4_77 dX4_agesForwards_56 ?_
            refine lv_iload_n hC.1 hC.2.1 dX4_agesForwards_59 rfl (lv_at hl 1 rfl) ?_
            refine lv_icmp_ge (tgt := 77) hC.1 hC.2.1 dX4_agesForwards_60 (by decide) (fun c9 => ?_) (fun c9 => ?_)
            · have h := h.1 c9
              refine z_aloadq hC dX4_agesForwards_77 (lv_at hl 0 rfl) ?_
              refine z_df0 c3 ?_
              refine gX2_4 hC hZ q4 kf_X4_111 dX4_agesForwards_79 ?_
              refine lv_iload_n hC.1 hC.2.1 dX4_agesForwards_82 rfl (lv_at hl 2 rfl) ?_
              obtain ⟨q10, h⟩ := h
              refine aL_72 hC hZ q4 q10 dX4_agesForwards_83 ?_
              refine lv_iload hC.1 hC.2.1 dX4_agesForwards_84 (lv_at hl 4 rfl) ?_
              refine lv_icmp_ge (tgt := 91) hC.1 hC.2.1 dX4_agesForwards_86 (by decide) (fun c11 => ?_) (fun c11 => ?_)
              · have h := h.1 c11
                exact t_X4_agesForwards_91 (l := l) hC hr _ _ _ _ hk14 _ _ _ _ _ _ h hZ (lv_sub hl [1, 2, 3, 4, 5, 6, 7] rfl)
              · have h := h.2 c11
                refine lv_iconst (v := 0) hC.1 hC.2.1 dX4_agesForwards_89 (by decide) ?_
                exact z_bret hC hr hZ (by decide) h dX4_agesForwards_90 (Nat.le_of_ble_eq_true rfl) (Nat.le_of_ble_eq_true rfl)
            · have h := h.2 c9
              refine z_aloadq hC dX4_agesForwards_63 (lv_at hl 0 rfl) ?_
              refine z_df0 c3 ?_
              refine gX2_5 hC hZ q4 kf_X4_114 dX4_agesForwards_65 ?_
              refine lv_iload_n hC.1 hC.2.1 dX4_agesForwards_68 rfl (lv_at hl 2 rfl) ?_
              obtain ⟨q12, h⟩ := h
              refine aL_73 hC hZ q4 q12 dX4_agesForwards_69 ?_
              refine lv_iload_n hC.1 hC.2.1 dX4_agesForwards_70 rfl (lv_at hl 3 rfl) ?_
              refine lv_icmp_le (tgt := 91) hC.1 hC.2.1 dX4_agesForwards_71 (by decide) (fun c13 => ?_) (fun c13 => ?_)
              · have h := h.1 c13
                exact t_X4_agesForwards_91 (l := l) hC hr _ _ _ _ hk14 _ _ _ _ _ _ h hZ (lv_sub hl [1, 2, 3, 4, 5, 6, 7] rfl)
              · have h := h.2 c13
                refine lv_goto (tgt := 89) hC.1 hC.2.1 dX4_agesForwards_74 (by decide) ?_
                refine lv_iconst (v := 0) hC.1 hC.2.1 dX4_agesForwards_89 (by decide) ?_
                exact z_bret hC hr hZ (by decide) h dX4_agesForwards_90 (Nat.le_of_ble_eq_true rfl) (Nat.le_of_ble_eq_true rfl)
          · have h := h.2 c8
            refine lv_goto (tgt := 91) hC.1 hC.2.1 dX4_agesForwards_51 (by decide) ?_
            exact t_X4_agesForwards_91 (l := l) hC hr _ _ _ _ hk14 _ _ _ _ _ _ h hZ (lv_sub hl [1, 2, 3, 4, 5, 6, 7] rfl)
def w_X4_agesForwards (n np : Nat) (post : Int32 → Mem → Prop) (a1 : Int32) (a2 : Int32) (a3 : Int32) (a4 : Int32) (μ : Mem) : Prop := (∃ fuel : Nat, l_X4_agesForwards_14 n np post a1 a2 a3 a4 fuel (10 : Int32) (0 : Int32) μ)
set_option maxRecDepth 100000 in
set_option maxHeartbeats 4000000 in
theorem c_X4_agesForwards (l : Launch) {D : va_G} {ca : Nat → ClassId} {base : Nat} {ad : Nat → Nat → Nat} {n np : Nat} {μ : Mem} {post : Int32 → Mem → Prop} {a1 : Int32} {a2 : Int32} {a3 : Int32} {a4 : Int32} (h : w_X4_agesForwards n np post a1 a2 a3 a4 μ) : ZMet l yX4_agesForwards cX4_agesForwards 9 (some FieldType.boolean) ({ frames := 1, cells := 0, slots := 0, locals := 21 } : Room) 0 0 D ca base ad n np [.ref (ad 30 0), .int a1, .int a2, .int a3, .int a4] μ (zpi post) := by
  unfold ZMet
  refine Met.ofW (cc := cX4_agesForwards) (maxL := 9) (ret := (some FieldType.boolean)) (by decide) rfl ?_
  intro p e s m args below meth c s₁ B hml hv
  obtain ⟨rfl, hU⟩ := hv
  have hZ := hU.toS
  have hC : ZC p m meth c s RX4 cX4_agesForwards 9 := ⟨B.exec, B.bytes, hml, findClass_of_methodNamed B.named, B.notSynchronized⟩
  have hr := B.returns
  have key : W p l e ({ frames := 1, cells := 0, slots := 0, locals := 21 } : Room) s m (([.ref (ad 30 0), .int a1, .int a2, .int a3, .int a4] : List Value).toArray) below meth c s.heap [] 0 0 (MQ below (ZQ D ca base ad n np (zpi post)) (([.ref (ad 30 0), .int a1, .int a2, .int a3, .int a4] : List Value).toArray) s 0 0 (zB base)) (entryFrame m (([.ref (ad 30 0), .int a1, .int a2, .int a3, .int a4] : List Value).toArray) 9) := by
    have hl := lv_entry ([.ref (ad 30 0), .int a1, .int a2, .int a3, .int a4]) (n := 9) (Nat.le_of_ble_eq_true rfl)
    rw [lg_entry_eq]
    generalize (lg_sl ([.ref (ad 30 0), .int a1, .int a2, .int a3, .int a4]) ++ List.replicate (9 - (lg_sl ([.ref (ad 30 0), .int a1, .int a2, .int a3, .int a4])).length) Slot.unset).toArray = ls at hl ⊢
    have hl : lv_has ls 9 [(0, .ref (ad 30 0)), (1, .int a1), (2, .int a2), (3, .int a3), (4, .int a4)] := hl
    unfold w_X4_agesForwards at h
    refine lv_aload_n hC.1 hC.2.1 dX4_agesForwards_0 rfl (lv_at hl 0 rfl) ?_
    refine gX4_0 hC hZ kf_X4_11 dX4_agesForwards_1 ?_
    refine lv_astore (lv' := [(5, .ref (ad 31 0)), (0, .ref (ad 30 0)), (1, .int a1), (2, .int a2), (3, .int a3), (4, .int a4)]) hC.1 hC.2.1 dX4_agesForwards_4 hl (by decide) rfl (fun ls hl => ?_)
    refine lv_aload hC.1 hC.2.1 dX4_agesForwards_6 (lv_at hl 0 rfl) ?_
    refine aN_31 hC hZ dX4_agesForwards_8 ?_
    refine lv_istore (lv' := [(6, .int 10), (5, .ref (ad 31 0)), (0, .ref (ad 30 0)), (1, .int a1), (2, .int a2), (3, .int a3), (4, .int a4)]) hC.1 hC.2.1 dX4_agesForwards_9 hl (by decide) rfl (fun ls hl => ?_)
    refine lv_iconst (v := 0) hC.1 hC.2.1 dX4_agesForwards_11 (by decide) ?_
    refine lv_istore (lv' := [(7, .int 0), (6, .int 10), (5, .ref (ad 31 0)), (0, .ref (ad 30 0)), (1, .int a1), (2, .int a2), (3, .int a3), (4, .int a4)]) hC.1 hC.2.1 dX4_agesForwards_12 hl (by decide) rfl (fun ls hl => ?_)
    obtain ⟨fuel, h⟩ := h
    exact t_X4_agesForwards_14 (l := l) hC hr _ _ _ _ _ _ _ _ _ _ _ h hZ (lv_sub hl [4, 5, 6, 7, 2, 1, 0] rfl)
  exact key
def b_X4_uses_32 (n np : Nat) (post : Int32 → Mem → Prop) (xpost : String → Mem → Prop) (a1 : Int32) (a2 : Int32) (a3 : Int32) (a4 : Int32) (μ : Mem) : Prop := xpost "java/lang/IllegalArgumentException" μ
set_option maxRecDepth 100000 in
set_option maxHeartbeats 4000000 in
theorem t_X4_uses_32 {p : Program} {l : Launch} {e : Env} {s : State} {m : MethodId} {args : Array Value} {below : List Frame} {meth : Method} {c : Code} {D : va_G} {ca : Nat → ClassId} {base : Nat} {ad : Nat → Nat → Nat} {n np : Nat} {post : Int32 → Mem → Prop} {xpost : String → Mem → Prop} (hC : ZC p m meth c s RX4 cX4_uses 6) (hnx : ∀ x ∈ c.exceptionTable.toList, False) (hst : l.stackTraces = false) (hr : meth.sig.returnType = (some FieldType.int)) (a1 : Int32) (a2 : Int32) (a3 : Int32) (a4 : Int32) (μ : Mem) (H : Heap) (locs : List Loc) (ls : Array Slot) (h : b_X4_uses_32 n np post xpost a1 a2 a3 a4 μ) (hZ : ZS D ca base ad n np μ s H locs) (hl : lv_has ls 6 []) : W p l e ({ frames := 7, cells := 4, slots := 24, locals := 103 } : Room) s m args below meth c H locs 2 12 (vx_MQ below (ZQ D ca base ad n np (zpi post)) (ZX D ca base ad n np xpost) args s 4 24 (zB base)) (F0 m 32 ls []) := by
  unfold b_X4_uses_32 at h
  exact z_throw_iae hC hnx hst hZ hl.1 zs_103 dX4_uses_32 dX4_uses_35 dX4_uses_36 dX4_uses_38 dX4_uses_41 (Nat.le_of_ble_eq_true rfl) (Nat.le_of_ble_eq_true rfl) (Nat.le_of_ble_eq_true rfl) (Nat.le_of_ble_eq_true rfl) (Nat.le_of_ble_eq_true rfl) (Nat.le_of_ble_eq_true rfl) h
def w_X4_uses (n np : Nat) (post : Int32 → Mem → Prop) (xpost : String → Mem → Prop) (a1 : Int32) (a2 : Int32) (a3 : Int32) (a4 : Int32) (μ : Mem) : Prop := (w_X4_sceneNumbered n np (fun (r2 : Int32) (μ1 : Mem) => (w_X4_requireProp n np (fun (μ3 : Mem) => ((a3 < 0 → b_X4_uses_32 n np post xpost a1 a2 a3 a4 μ3) ∧ (¬ a3 < 0 → ((4 ≤ a3 → b_X4_uses_32 n np post xpost a1 a2 a3 a4 μ3) ∧ (¬ 4 ≤ a3 → ((a4 < a3 → b_X4_uses_32 n np post xpost a1 a2 a3 a4 μ3) ∧ (¬ a4 < a3 → ((a4 < 4 → (¬ r2 < 0 ∧ w_X4_requirePlanned n np (fun (μ10 : Mem) => (w_X4_agesForwards n np (fun (r13 : Int32) (μ12 : Mem) => ((¬ r13 = 0 → (r2.toNatClampNeg < n ∧ (vp_in a2 5 ∧ ∀ μ17 : Mem, μ17 = zst μ12 72 r2.toNatClampNeg a2.toNatClampNeg a3 → (∀ μ18 : Mem, μ18 = zst μ17 73 r2.toNatClampNeg a2.toNatClampNeg a4 → (w_X2_countProps n np (fun (r20 : Int32) (μ19 : Mem) => post r20 μ19) r2.toNatClampNeg μ18))))) ∧ (r13 = 0 → xpost "java/lang/IllegalStateException" μ12))) a1 a2 a3 a4 μ10)) xpost r2.toNatClampNeg μ3)) ∧ (¬ a4 < 4 → b_X4_uses_32 n np post xpost a1 a2 a3 a4 μ3))))))))) xpost a2 μ1)) xpost a1 μ)
set_option maxRecDepth 100000 in
set_option maxHeartbeats 4000000 in
theorem c_X4_uses (l : Launch) (hst : l.stackTraces = false) {D : va_G} {ca : Nat → ClassId} {base : Nat} {ad : Nat → Nat → Nat} {n np : Nat} {μ : Mem} {post : Int32 → Mem → Prop} {xpost : String → Mem → Prop} {a1 : Int32} {a2 : Int32} {a3 : Int32} {a4 : Int32} (h : w_X4_uses n np post xpost a1 a2 a3 a4 μ) : ZXMet l yX4_uses cX4_uses 6 (some FieldType.int) ({ frames := 7, cells := 4, slots := 24, locals := 103 } : Room) 4 24 D ca base ad n np [.ref (ad 30 0), .int a1, .int a2, .int a3, .int a4] μ (zpi post) xpost := by
  unfold ZXMet
  refine vx_ofW (cc := cX4_uses) (maxL := 6) (ret := (some FieldType.int)) (by decide) rfl ?_
  intro p e s m args below meth c s₁ B hml hnx hv
  obtain ⟨rfl, hU⟩ := hv
  have hZ := hU.toS
  have hC : ZC p m meth c s RX4 cX4_uses 6 := ⟨B.exec, B.bytes, hml, findClass_of_methodNamed B.named, B.notSynchronized⟩
  have hr := B.returns
  have key : W p l e ({ frames := 7, cells := 4, slots := 24, locals := 103 } : Room) s m (([.ref (ad 30 0), .int a1, .int a2, .int a3, .int a4] : List Value).toArray) below meth c s.heap [] 0 0 (vx_MQ below (ZQ D ca base ad n np (zpi post)) (ZX D ca base ad n np xpost) (([.ref (ad 30 0), .int a1, .int a2, .int a3, .int a4] : List Value).toArray) s 4 24 (zB base)) (entryFrame m (([.ref (ad 30 0), .int a1, .int a2, .int a3, .int a4] : List Value).toArray) 6) := by
    have hl := lv_entry ([.ref (ad 30 0), .int a1, .int a2, .int a3, .int a4]) (n := 6) (Nat.le_of_ble_eq_true rfl)
    rw [lg_entry_eq]
    generalize (lg_sl ([.ref (ad 30 0), .int a1, .int a2, .int a3, .int a4]) ++ List.replicate (6 - (lg_sl ([.ref (ad 30 0), .int a1, .int a2, .int a3, .int a4])).length) Slot.unset).toArray = ls at hl ⊢
    have hl : lv_has ls 6 [(0, .ref (ad 30 0)), (1, .int a1), (2, .int a2), (3, .int a3), (4, .int a4)] := hl
    unfold w_X4_uses at h
    refine lv_aload_n hC.1 hC.2.1 dX4_uses_0 rfl (lv_at hl 0 rfl) ?_
    refine lv_iload_n hC.1 hC.2.1 dX4_uses_1 rfl (lv_at hl 1 rfl) ?_
    refine z_cVXq (As := [.int a1]) hC hZ (zF_30 _) rfl zy_X4_sceneNumbered (c_X4_sceneNumbered l hst h) km_X4_80 rfl ⟨rfl, rfl⟩ ⟨Nat.le_of_ble_eq_true rfl, Nat.le_of_ble_eq_true rfl⟩ hl.1 rfl (Nat.le_of_ble_eq_true rfl) dX4_uses_2 ⟨Nat.le_of_ble_eq_true rfl, Nat.le_of_ble_eq_true rfl⟩ (fun E ce q9 u H locs hx hZ hce hcv hcl => z_xout hC hnx hZ hx hce hcv hcl (Nat.le_of_ble_eq_true rfl) (Nat.le_of_ble_eq_true rfl)) (fun r2 μ1 H locs h hZ => ?_)
    refine z_astoreq (lv' := [(5, va_rf (zr ad 70 r2)), (0, .ref (ad 30 0)), (1, .int a1), (2, .int a2), (3, .int a3), (4, .int a4)]) hC dX4_uses_5 hl (by decide) rfl (fun ls hl => ?_)
    refine lv_iload_n hC.1 hC.2.1 dX4_uses_7 rfl (lv_at hl 3 rfl) ?_
    refine z_cSXv (As := [.int a2]) hC hZ zy_X4_requireProp (c_X4_requireProp l hst h) km_X4_100 rfl ⟨rfl, rfl⟩ ⟨Nat.le_of_ble_eq_true rfl, Nat.le_of_ble_eq_true rfl⟩ hl.1 rfl (Nat.le_of_ble_eq_true rfl) dX4_uses_8 ⟨Nat.le_of_ble_eq_true rfl, Nat.le_of_ble_eq_true rfl⟩ (fun E ce q9 u H locs hx hZ hce hcv hcl => z_xout hC hnx hZ hx hce hcv hcl (Nat.le_of_ble_eq_true rfl) (Nat.le_of_ble_eq_true rfl)) (fun μ3 H locs h hZ => ?_)
    refine lv_iload_n hC.1 hC.2.1 dX4_uses_11 rfl (lv_at hl 4 rfl) ?_
    refine lv_if_lt (tgt := 32) hC.1 hC.2.1 dX4_uses_12 (by decide) (fun c5 => ?_) (fun c5 => ?_)
    · have h := h.1 c5
      exact t_X4_uses_32 (l := l) hC hnx hst hr _ _ _ _  _ _ _ _ h hZ (lv_sub hl [] rfl)
    · have h := h.2 c5
      refine lv_iload_n hC.1 hC.2.1 dX4_uses_15 rfl (lv_at hl 4 rfl) ?_
      refine lv_iconst (v := 4) hC.1 hC.2.1 dX4_uses_16 (by decide) ?_
      refine lv_icmp_ge (tgt := 32) hC.1 hC.2.1 dX4_uses_17 (by decide) (fun c6 => ?_) (fun c6 => ?_)
      · have h := h.1 c6
        exact t_X4_uses_32 (l := l) hC hnx hst hr _ _ _ _  _ _ _ _ h hZ (lv_sub hl [] rfl)
      · have h := h.2 c6
        refine lv_iload hC.1 hC.2.1 dX4_uses_20 (lv_at hl 5 rfl) ?_
        refine lv_iload_n hC.1 hC.2.1 dX4_uses_22 rfl (lv_at hl 4 rfl) ?_
        refine lv_icmp_lt (tgt := 32) hC.1 hC.2.1 dX4_uses_23 (by decide) (fun c7 => ?_) (fun c7 => ?_)
        · have h := h.1 c7
          exact t_X4_uses_32 (l := l) hC hnx hst hr _ _ _ _  _ _ _ _ h hZ (lv_sub hl [] rfl)
        · have h := h.2 c7
          refine lv_iload hC.1 hC.2.1 dX4_uses_26 (lv_at hl 5 rfl) ?_
          refine lv_iconst (v := 4) hC.1 hC.2.1 dX4_uses_28 (by decide) ?_
          refine lv_icmp_lt (tgt := 42) hC.1 hC.2.1 dX4_uses_29 (by decide) (fun c8 => ?_) (fun c8 => ?_)
          · have h := h.1 c8
            refine z_aloadq hC dX4_uses_42 (lv_at hl 0 rfl) ?_
            obtain ⟨q9, h⟩ := h
            refine z_df0 q9 ?_
            refine z_cSXv (As := [.ref (ad 70 r2.toNatClampNeg)]) hC hZ zy_X4_requirePlanned (c_X4_requirePlanned l hst h) km_X4_90 rfl ⟨rfl, rfl⟩ ⟨Nat.le_of_ble_eq_true rfl, Nat.le_of_ble_eq_true rfl⟩ hl.1 rfl (Nat.le_of_ble_eq_true rfl) dX4_uses_44 ⟨Nat.le_of_ble_eq_true rfl, Nat.le_of_ble_eq_true rfl⟩ (fun E ce q9 u H locs hx hZ hce hcv hcl => z_xout hC hnx hZ hx hce hcv hcl (Nat.le_of_ble_eq_true rfl) (Nat.le_of_ble_eq_true rfl)) (fun μ10 H locs h hZ => ?_)
            refine lv_aload_n hC.1 hC.2.1 dX4_uses_47 rfl (lv_at hl 1 rfl) ?_
            refine lv_iload_n hC.1 hC.2.1 dX4_uses_48 rfl (lv_at hl 2 rfl) ?_
            refine lv_iload_n hC.1 hC.2.1 dX4_uses_49 rfl (lv_at hl 3 rfl) ?_
            refine lv_iload_n hC.1 hC.2.1 dX4_uses_50 rfl (lv_at hl 4 rfl) ?_
            refine lv_iload hC.1 hC.2.1 dX4_uses_51 (lv_at hl 5 rfl) ?_
            refine z_cVi (As := [.int a1, .int a2, .int a3, .int a4]) hC hZ (zF_30 _) rfl zy_X4_agesForwards (c_X4_agesForwards l h) km_X4_105 rfl ⟨rfl, rfl⟩ ⟨Nat.le_of_ble_eq_true rfl, Nat.le_of_ble_eq_true rfl⟩ hl.1 rfl (Nat.le_of_ble_eq_true rfl) dX4_uses_53 ⟨Nat.le_of_ble_eq_true rfl, Nat.le_of_ble_eq_true rfl⟩ (fun r13 μ12 H locs h hZ => ?_)
            refine lv_if_ne (tgt := 69) hC.1 hC.2.1 dX4_uses_56 (by decide) (fun c14 => ?_) (fun c14 => ?_)
            · have h := h.1 c14
              refine z_aloadq hC dX4_uses_69 (lv_at hl 0 rfl) ?_
              refine z_df0 q9 ?_
              obtain ⟨q15, h⟩ := h
              refine gX2_4 hC hZ q15 kf_X4_111 dX4_uses_71 ?_
              refine lv_iload_n hC.1 hC.2.1 dX4_uses_74 rfl (lv_at hl 3 rfl) ?_
              refine lv_iload_n hC.1 hC.2.1 dX4_uses_75 rfl (lv_at hl 4 rfl) ?_
              obtain ⟨q16, h⟩ := h
              refine aS_72 hC hZ q15 q16 dX4_uses_76 (fun μ17 H locs eμ17 hZ => ?_)
              have h := h μ17 eμ17
              refine z_aloadq hC dX4_uses_77 (lv_at hl 0 rfl) ?_
              refine z_df0 q9 ?_
              refine gX2_5 hC hZ q15 kf_X4_114 dX4_uses_79 ?_
              refine lv_iload_n hC.1 hC.2.1 dX4_uses_82 rfl (lv_at hl 3 rfl) ?_
              refine lv_iload hC.1 hC.2.1 dX4_uses_83 (lv_at hl 5 rfl) ?_
              refine aS_73 hC hZ q15 q16 dX4_uses_85 (fun μ18 H locs eμ18 hZ => ?_)
              have h := h μ18 eμ18
              refine z_aloadq hC dX4_uses_86 (lv_at hl 0 rfl) ?_
              refine z_df0 q9 ?_
              refine z_cVi (As := []) hC hZ (zF_70 q15 _) rfl zy_X2_countProps (c_X2_countProps l h) km_X4_117 rfl ⟨rfl, rfl⟩ ⟨Nat.le_of_ble_eq_true rfl, Nat.le_of_ble_eq_true rfl⟩ hl.1 rfl (Nat.le_of_ble_eq_true rfl) dX4_uses_88 ⟨Nat.le_of_ble_eq_true rfl, Nat.le_of_ble_eq_true rfl⟩ (fun r20 μ19 H locs h hZ => ?_)
              exact vx_ret (z_iret hC hr hZ h dX4_uses_91 (Nat.le_of_ble_eq_true rfl) (Nat.le_of_ble_eq_true rfl))
            · have h := h.2 c14
              exact z_throw_ise hC hnx hst hZ hl.1 zs_109 dX4_uses_59 dX4_uses_62 dX4_uses_63 dX4_uses_65 dX4_uses_68 (Nat.le_of_ble_eq_true rfl) (Nat.le_of_ble_eq_true rfl) (Nat.le_of_ble_eq_true rfl) (Nat.le_of_ble_eq_true rfl) (Nat.le_of_ble_eq_true rfl) (Nat.le_of_ble_eq_true rfl) h
          · have h := h.2 c8
            exact t_X4_uses_32 (l := l) hC hnx hst hr _ _ _ _  _ _ _ _ h hZ (lv_sub hl [] rfl)
  exact key
def lb_X4_plannedDay_2 (n np : Nat) (post : Int32 → Mem → Prop) (k2 : Int32 → Mem → Prop) (a1 : Int32) (v2 : Int32) (μ : Mem) : Prop := ((30 ≤ v2 → post (-1) μ) ∧ (¬ 30 ≤ v2 → (vp_in v2 30 ∧ ((¬ (μ 32 0 v2.toNatClampNeg) < 0 → (μ 32 0 v2.toNatClampNeg).toNatClampNeg < n) ∧ (¬ a1 < 0 → a1.toNatClampNeg < n) ∧ (¬ zeqr (μ 32 0 v2.toNatClampNeg) a1 → k2 (v2 + 1) μ) ∧ (zeqr (μ 32 0 v2.toNatClampNeg) a1 → post v2 μ)))))
def l_X4_plannedDay_2 (n np : Nat) (post : Int32 → Mem → Prop) (a1 : Int32) : Nat → Int32 → Mem → Prop
  | 0 => fun _ _ => False
  | fuel + 1 => lb_X4_plannedDay_2 n np post (l_X4_plannedDay_2 n np post a1 fuel) a1 
set_option maxRecDepth 100000 in
set_option maxHeartbeats 4000000 in
theorem t_X4_plannedDay_2 {p : Program} {l : Launch} {e : Env} {s : State} {m : MethodId} {args : Array Value} {below : List Frame} {meth : Method} {c : Code} {D : va_G} {ca : Nat → ClassId} {base : Nat} {ad : Nat → Nat → Nat} {n np : Nat} {post : Int32 → Mem → Prop} (hC : ZC p m meth c s RX4 cX4_plannedDay 3) (hr : meth.sig.returnType = (some FieldType.int)) (a1 : Int32) : ∀ (fuel : Nat) (v2 : Int32) (μ : Mem) (H : Heap) (locs : List Loc) (ls : Array Slot), l_X4_plannedDay_2 n np post a1 fuel v2 μ → ZS D ca base ad n np μ s H locs → lv_has ls 3 [(0, .ref (ad 30 0)), (1, va_rf (zr ad 70 a1)), (2, .int v2)] → W p l e ({ frames := 0, cells := 0, slots := 0, locals := 0 } : Room) s m args below meth c H locs 0 0 (MQ below (ZQ D ca base ad n np (zpi post)) args s 0 0 (zB base)) (F0 m 2 ls []) := by
  intro fuel
  induction fuel with
  | zero => exact fun _ _ _ _ _ h => h.elim
  | succ fuel hk2 =>
    intro v2 μ H locs ls h hZ hl
    have h : lb_X4_plannedDay_2 n np post (l_X4_plannedDay_2 n np post a1 fuel) a1 v2 μ := h
    unfold lb_X4_plannedDay_2 at h
    refine lv_iload_n hC.1 hC.2.1 dX4_plannedDay_2 rfl (lv_at hl 2 rfl) ?_
    refine lv_bipush (v := 30) hC.1 hC.2.1 dX4_plannedDay_3 (by decide) ?_
    refine lv_icmp_ge (tgt := 26) hC.1 hC.2.1 dX4_plannedDay_5 (by decide) (fun c1 => ?_) (fun c1 => ?_)
    · have h := h.1 c1
      refine lv_iconst (v := (-1)) hC.1 hC.2.1 dX4_plannedDay_26 (by decide) ?_
      exact z_iret hC hr hZ h dX4_plannedDay_27 (Nat.le_of_ble_eq_true rfl) (Nat.le_of_ble_eq_true rfl)
    · have h := h.2 c1
      refine lv_aload_n hC.1 hC.2.1 dX4_plannedDay_8 rfl (lv_at hl 0 rfl) ?_
      refine gX4_1 hC hZ kf_X4_15 dX4_plannedDay_9 ?_
      refine lv_iload_n hC.1 hC.2.1 dX4_plannedDay_12 rfl (lv_at hl 2 rfl) ?_
      obtain ⟨q2, h⟩ := h
      refine aL_32 hC hZ q2 dX4_plannedDay_13 ?_
      refine z_aload_nq hC dX4_plannedDay_14 rfl (lv_at hl 1 rfl) ?_
      obtain ⟨q3, h⟩ := h
      obtain ⟨q4, h⟩ := h
      refine z_acmpne (tgt := 20) hC hZ q3 q4 dX4_plannedDay_15 (by decide) (fun c5 => ?_) (fun c5 => ?_)
      · have h := h.1 c5
        refine lv_iinc (v := v2 + 1) (lv' := [(2, .int (v2 + 1)), (0, .ref (ad 30 0)), (1, va_rf (zr ad 70 a1))]) hC.1 hC.2.1 dX4_plannedDay_20 hl (k := 2) rfl rfl (by decide) (by simp [zcat]) (fun ls hl => ?_)
        refine lv_goto (tgt := 2) hC.1 hC.2.1 dX4_plannedDay_23 (by decide) ?_
        exact hk2 _ _ _ _ _ h hZ (lv_sub hl [1, 2, 0] rfl)
      · have h := h.2 c5
        refine lv_iload_n hC.1 hC.2.1 dX4_plannedDay_18 rfl (lv_at hl 2 rfl) ?_
        exact z_iret hC hr hZ h dX4_plannedDay_19 (Nat.le_of_ble_eq_true rfl) (Nat.le_of_ble_eq_true rfl)
def w_X4_plannedDay (n np : Nat) (post : Int32 → Mem → Prop) (a1 : Int32) (μ : Mem) : Prop := (∃ fuel : Nat, l_X4_plannedDay_2 n np post a1 fuel (0 : Int32) μ)
set_option maxRecDepth 100000 in
set_option maxHeartbeats 4000000 in
theorem c_X4_plannedDay (l : Launch) {D : va_G} {ca : Nat → ClassId} {base : Nat} {ad : Nat → Nat → Nat} {n np : Nat} {μ : Mem} {post : Int32 → Mem → Prop} {a1 : Int32} (h : w_X4_plannedDay n np post a1 μ) : ZMet l yX4_plannedDay cX4_plannedDay 3 (some FieldType.int) ({ frames := 0, cells := 0, slots := 0, locals := 0 } : Room) 0 0 D ca base ad n np [.ref (ad 30 0), va_rf (zr ad 70 a1)] μ (zpi post) := by
  unfold ZMet
  refine Met.ofW (cc := cX4_plannedDay) (maxL := 3) (ret := (some FieldType.int)) (by decide) rfl ?_
  intro p e s m args below meth c s₁ B hml hv
  obtain ⟨rfl, hU⟩ := hv
  have hZ := hU.toS
  have hC : ZC p m meth c s RX4 cX4_plannedDay 3 := ⟨B.exec, B.bytes, hml, findClass_of_methodNamed B.named, B.notSynchronized⟩
  have hr := B.returns
  have key : W p l e ({ frames := 0, cells := 0, slots := 0, locals := 0 } : Room) s m (([.ref (ad 30 0), va_rf (zr ad 70 a1)] : List Value).toArray) below meth c s.heap [] 0 0 (MQ below (ZQ D ca base ad n np (zpi post)) (([.ref (ad 30 0), va_rf (zr ad 70 a1)] : List Value).toArray) s 0 0 (zB base)) (entryFrame m (([.ref (ad 30 0), va_rf (zr ad 70 a1)] : List Value).toArray) 3) := by
    obtain ⟨ls, hls, hl⟩ : ∃ ls : Array Slot, entryFrame m ([.ref (ad 30 0), va_rf (zr ad 70 a1)]).toArray 3 = F0 m 0 ls [] ∧ lv_has ls 3 [(0, .ref (ad 30 0)), (1, va_rf (zr ad 70 a1))] := by
      cases zr ad 70 a1 with
      | none => exact ⟨_, lg_entry_eq m ([.ref (ad 30 0), .null]) 3, lv_entry ([.ref (ad 30 0), .null]) (n := 3) (Nat.le_of_ble_eq_true rfl)⟩
      | some a => exact ⟨_, lg_entry_eq m ([.ref (ad 30 0), .ref a]) 3, lv_entry ([.ref (ad 30 0), .ref a]) (n := 3) (Nat.le_of_ble_eq_true rfl)⟩
    rw [hls]
    unfold w_X4_plannedDay at h
    refine lv_iconst (v := 0) hC.1 hC.2.1 dX4_plannedDay_0 (by decide) ?_
    refine lv_istore_n (i := 2) (lv' := [(2, .int 0), (0, .ref (ad 30 0)), (1, va_rf (zr ad 70 a1))]) hC.1 hC.2.1 dX4_plannedDay_1 rfl hl (by decide) (by simp [zcat]) (fun ls hl => ?_)
    obtain ⟨fuel, h⟩ := h
    exact t_X4_plannedDay_2 (l := l) hC hr _ _ _ _ _ _ _ h hZ (lv_sub hl [1, 2, 0] rfl)
  exact key
def w_X4_cut (n np : Nat) (post : Int32 → Mem → Prop) (xpost : String → Mem → Prop) (a1 : Int32) (μ : Mem) : Prop := (w_X4_sceneNumbered n np (fun (r2 : Int32) (μ1 : Mem) => (¬ r2 < 0 ∧ w_X4_requirePlanned n np (fun (μ4 : Mem) => (w_X4_plannedDay n np (fun (r7 : Int32) (μ6 : Mem) => (w_X4_put n np (fun (μ8 : Mem) => (r2.toNatClampNeg < n ∧ ∀ μ11 : Mem, μ11 = zst μ8 70 r2.toNatClampNeg 6 2 → post r7 μ11)) r7 (-1 : Int32) μ6)) r2 μ4)) xpost r2.toNatClampNeg μ1)) xpost a1 μ)
set_option maxRecDepth 100000 in
set_option maxHeartbeats 4000000 in
theorem c_X4_cut (l : Launch) (hst : l.stackTraces = false) {D : va_G} {ca : Nat → ClassId} {base : Nat} {ad : Nat → Nat → Nat} {n np : Nat} {μ : Mem} {post : Int32 → Mem → Prop} {xpost : String → Mem → Prop} {a1 : Int32} (h : w_X4_cut n np post xpost a1 μ) : ZXMet l yX4_cut cX4_cut 4 (some FieldType.int) ({ frames := 7, cells := 2, slots := 12, locals := 103 } : Room) 2 12 D ca base ad n np [.ref (ad 30 0), .int a1] μ (zpi post) xpost := by
  unfold ZXMet
  refine vx_ofW (cc := cX4_cut) (maxL := 4) (ret := (some FieldType.int)) (by decide) rfl ?_
  intro p e s m args below meth c s₁ B hml hnx hv
  obtain ⟨rfl, hU⟩ := hv
  have hZ := hU.toS
  have hC : ZC p m meth c s RX4 cX4_cut 4 := ⟨B.exec, B.bytes, hml, findClass_of_methodNamed B.named, B.notSynchronized⟩
  have hr := B.returns
  have key : W p l e ({ frames := 7, cells := 2, slots := 12, locals := 103 } : Room) s m (([.ref (ad 30 0), .int a1] : List Value).toArray) below meth c s.heap [] 0 0 (vx_MQ below (ZQ D ca base ad n np (zpi post)) (ZX D ca base ad n np xpost) (([.ref (ad 30 0), .int a1] : List Value).toArray) s 2 12 (zB base)) (entryFrame m (([.ref (ad 30 0), .int a1] : List Value).toArray) 4) := by
    have hl := lv_entry ([.ref (ad 30 0), .int a1]) (n := 4) (Nat.le_of_ble_eq_true rfl)
    rw [lg_entry_eq]
    generalize (lg_sl ([.ref (ad 30 0), .int a1]) ++ List.replicate (4 - (lg_sl ([.ref (ad 30 0), .int a1])).length) Slot.unset).toArray = ls at hl ⊢
    have hl : lv_has ls 4 [(0, .ref (ad 30 0)), (1, .int a1)] := hl
    unfold w_X4_cut at h
    refine lv_aload_n hC.1 hC.2.1 dX4_cut_0 rfl (lv_at hl 0 rfl) ?_
    refine lv_iload_n hC.1 hC.2.1 dX4_cut_1 rfl (lv_at hl 1 rfl) ?_
    refine z_cVXq (As := [.int a1]) hC hZ (zF_30 _) rfl zy_X4_sceneNumbered (c_X4_sceneNumbered l hst h) km_X4_80 rfl ⟨rfl, rfl⟩ ⟨Nat.le_of_ble_eq_true rfl, Nat.le_of_ble_eq_true rfl⟩ hl.1 rfl (Nat.le_of_ble_eq_true rfl) dX4_cut_2 ⟨Nat.le_of_ble_eq_true rfl, Nat.le_of_ble_eq_true rfl⟩ (fun E ce q9 u H locs hx hZ hce hcv hcl => z_xout hC hnx hZ hx hce hcv hcl (Nat.le_of_ble_eq_true rfl) (Nat.le_of_ble_eq_true rfl)) (fun r2 μ1 H locs h hZ => ?_)
    refine z_astore_nq (lv' := [(2, va_rf (zr ad 70 r2)), (0, .ref (ad 30 0)), (1, .int a1)]) hC dX4_cut_5 rfl hl (by decide) rfl (fun ls hl => ?_)
    refine z_aload_nq hC dX4_cut_6 rfl (lv_at hl 0 rfl) ?_
    obtain ⟨q3, h⟩ := h
    refine z_df0 q3 ?_
    refine z_cSXv (As := [.ref (ad 70 r2.toNatClampNeg)]) hC hZ zy_X4_requirePlanned (c_X4_requirePlanned l hst h) km_X4_90 rfl ⟨rfl, rfl⟩ ⟨Nat.le_of_ble_eq_true rfl, Nat.le_of_ble_eq_true rfl⟩ hl.1 rfl (Nat.le_of_ble_eq_true rfl) dX4_cut_7 ⟨Nat.le_of_ble_eq_true rfl, Nat.le_of_ble_eq_true rfl⟩ (fun E ce q9 u H locs hx hZ hce hcv hcl => z_xout hC hnx hZ hx hce hcv hcl (Nat.le_of_ble_eq_true rfl) (Nat.le_of_ble_eq_true rfl)) (fun μ4 H locs h hZ => ?_)
    refine lv_aload_n hC.1 hC.2.1 dX4_cut_10 rfl (lv_at hl 1 rfl) ?_
    refine z_aload_nq hC dX4_cut_11 rfl (lv_at hl 0 rfl) ?_
    refine z_cVi (As := [va_rf (zr ad 70 r2)]) hC hZ (zF_30 _) rfl zy_X4_plannedDay (c_X4_plannedDay l h) km_X4_120 rfl ⟨rfl, rfl⟩ ⟨Nat.le_of_ble_eq_true rfl, Nat.le_of_ble_eq_true rfl⟩ hl.1 rfl (Nat.le_of_ble_eq_true rfl) dX4_cut_12 ⟨Nat.le_of_ble_eq_true rfl, Nat.le_of_ble_eq_true rfl⟩ (fun r7 μ6 H locs h hZ => ?_)
    refine lv_istore_n (i := 3) (lv' := [(3, .int r7), (2, va_rf (zr ad 70 r2)), (0, .ref (ad 30 0)), (1, .int a1)]) hC.1 hC.2.1 dX4_cut_15 rfl hl (by decide) (by simp [zcat]) (fun ls hl => ?_)
    refine lv_aload_n hC.1 hC.2.1 dX4_cut_16 rfl (lv_at hl 2 rfl) ?_
    refine gX4_1 hC hZ kf_X4_15 dX4_cut_17 ?_
    refine lv_iload_n hC.1 hC.2.1 dX4_cut_20 rfl (lv_at hl 0 rfl) ?_
    refine z_null hC ad 70 dX4_cut_21 ?_
    refine z_cSv (As := [.ref (ad 32 0), .int r7, va_rf (zr ad 70 (-1))]) hC hZ zy_X4_put (c_X4_put l h) km_X4_124 rfl ⟨rfl, rfl⟩ ⟨Nat.le_of_ble_eq_true rfl, Nat.le_of_ble_eq_true rfl⟩ hl.1 rfl (Nat.le_of_ble_eq_true rfl) dX4_cut_22 ⟨Nat.le_of_ble_eq_true rfl, Nat.le_of_ble_eq_true rfl⟩ (fun μ8 H locs h hZ => ?_)
    refine z_aload_nq hC dX4_cut_25 rfl (lv_at hl 1 rfl) ?_
    refine lv_iconst (v := 2) hC.1 hC.2.1 dX4_cut_26 (by decide) ?_
    refine z_df1 q3 ?_
    obtain ⟨q10, h⟩ := h
    refine pX2_6 hC hZ q10 kf_X4_128 dX4_cut_27 (fun μ11 H locs eμ11 hZ => ?_)
    have h := h μ11 eμ11
    refine lv_iload_n hC.1 hC.2.1 dX4_cut_30 rfl (lv_at hl 0 rfl) ?_
    exact vx_ret (z_iret hC hr hZ h dX4_cut_31 (Nat.le_of_ble_eq_true rfl) (Nat.le_of_ble_eq_true rfl))
  exact key
def w_X4_swapDays (n np : Nat) (post : Mem → Prop) (a1 : Int32) (a2 : Int32) (μ : Mem) : Prop := (w_X4_exchange n np (fun (μ1 : Mem) => post μ1) a1 a2 μ)
set_option maxRecDepth 100000 in
set_option maxHeartbeats 4000000 in
theorem c_X4_swapDays (l : Launch) {D : va_G} {ca : Nat → ClassId} {base : Nat} {ad : Nat → Nat → Nat} {n np : Nat} {μ : Mem} {post : Mem → Prop} {a1 : Int32} {a2 : Int32} (h : w_X4_swapDays n np post a1 a2 μ) : ZMet l yX4_swapDays cX4_swapDays 3 none ({ frames := 1, cells := 0, slots := 0, locals := 23 } : Room) 0 0 D ca base ad n np [.ref (ad 30 0), .int a1, .int a2] μ (zpv post) := by
  unfold ZMet
  refine Met.ofW (cc := cX4_swapDays) (maxL := 3) (ret := none) (by decide) rfl ?_
  intro p e s m args below meth c s₁ B hml hv
  obtain ⟨rfl, hU⟩ := hv
  have hZ := hU.toS
  have hC : ZC p m meth c s RX4 cX4_swapDays 3 := ⟨B.exec, B.bytes, hml, findClass_of_methodNamed B.named, B.notSynchronized⟩
  have hr := B.returns
  have key : W p l e ({ frames := 1, cells := 0, slots := 0, locals := 23 } : Room) s m (([.ref (ad 30 0), .int a1, .int a2] : List Value).toArray) below meth c s.heap [] 0 0 (MQ below (ZQ D ca base ad n np (zpv post)) (([.ref (ad 30 0), .int a1, .int a2] : List Value).toArray) s 0 0 (zB base)) (entryFrame m (([.ref (ad 30 0), .int a1, .int a2] : List Value).toArray) 3) := by
    have hl := lv_entry ([.ref (ad 30 0), .int a1, .int a2]) (n := 3) (Nat.le_of_ble_eq_true rfl)
    rw [lg_entry_eq]
    generalize (lg_sl ([.ref (ad 30 0), .int a1, .int a2]) ++ List.replicate (3 - (lg_sl ([.ref (ad 30 0), .int a1, .int a2])).length) Slot.unset).toArray = ls at hl ⊢
    have hl : lv_has ls 3 [(0, .ref (ad 30 0)), (1, .int a1), (2, .int a2)] := hl
    unfold w_X4_swapDays at h
    refine lv_aload_n hC.1 hC.2.1 dX4_swapDays_0 rfl (lv_at hl 0 rfl) ?_
    refine gX4_1 hC hZ kf_X4_15 dX4_swapDays_1 ?_
    refine lv_iload_n hC.1 hC.2.1 dX4_swapDays_4 rfl (lv_at hl 1 rfl) ?_
    refine lv_iload_n hC.1 hC.2.1 dX4_swapDays_5 rfl (lv_at hl 2 rfl) ?_
    refine z_cSv (As := [.ref (ad 32 0), .int a1, .int a2]) hC hZ zy_X4_exchange (c_X4_exchange l h) km_X4_257 rfl ⟨rfl, rfl⟩ ⟨Nat.le_of_ble_eq_true rfl, Nat.le_of_ble_eq_true rfl⟩ hl.1 rfl (Nat.le_of_ble_eq_true rfl) dX4_swapDays_6 ⟨Nat.le_of_ble_eq_true rfl, Nat.le_of_ble_eq_true rfl⟩ (fun μ1 H locs h hZ => ?_)
    exact z_vret hC hr hZ h dX4_swapDays_9 (Nat.le_of_ble_eq_true rfl) (Nat.le_of_ble_eq_true rfl)
  exact key
def b_X4_isPermitted_51 (n np : Nat) (post : Int32 → Mem → Prop) (k21 : Int32 → Int32 → Mem → Prop) (i1 : Nat) (a2 : Int32) (v4 : Int32) (v5 : Int32) (μ : Mem) : Prop := k21 v4 (v5 + 1) μ
set_option maxRecDepth 100000 in
set_option maxHeartbeats 4000000 in
theorem t_X4_isPermitted_51 {p : Program} {l : Launch} {e : Env} {s : State} {m : MethodId} {args : Array Value} {below : List Frame} {meth : Method} {c : Code} {D : va_G} {ca : Nat → ClassId} {base : Nat} {ad : Nat → Nat → Nat} {n np : Nat} {post : Int32 → Mem → Prop} {k21 : Int32 → Int32 → Mem → Prop} (hC : ZC p m meth c s RX4 cX4_isPermitted 7) (hr : meth.sig.returnType = (some FieldType.boolean)) (i1 : Nat) (a2 : Int32) (hk21 : ∀ (v4 : Int32) (v5 : Int32) (μ : Mem) (H : Heap) (locs : List Loc) (ls : Array Slot), k21 v4 v5 μ → ZS D ca base ad n np μ s H locs → lv_has ls 7 [(1, .ref (ad 70 i1)), (2, .int a2), (3, .ref (ad 33 0)), (4, .int v4), (5, .int v5)] → W p l e ({ frames := 1, cells := 0, slots := 0, locals := 22 } : Room) s m args below meth c H locs 0 0 (MQ below (ZQ D ca base ad n np (zpi post)) args s 0 0 (zB base)) (F0 m 21 ls [])) (v4 : Int32) (v5 : Int32) (μ : Mem) (H : Heap) (locs : List Loc) (ls : Array Slot) (h : b_X4_isPermitted_51 n np post k21 i1 a2 v4 v5 μ) (hZ : ZS D ca base ad n np μ s H locs) (hl : lv_has ls 7 [(1, .ref (ad 70 i1)), (2, .int a2), (3, .ref (ad 33 0)), (4, .int v4), (5, .int v5)]) : W p l e ({ frames := 1, cells := 0, slots := 0, locals := 22 } : Room) s m args below meth c H locs 0 0 (MQ below (ZQ D ca base ad n np (zpi post)) args s 0 0 (zB base)) (F0 m 51 ls []) := by
  unfold b_X4_isPermitted_51 at h
  refine lv_iinc (v := v5 + 1) (lv' := [(5, .int (v5 + 1)), (1, .ref (ad 70 i1)), (2, .int a2), (3, .ref (ad 33 0)), (4, .int v4)]) hC.1 hC.2.1 dX4_isPermitted_51 hl (k := 4) rfl rfl (by decide) rfl (fun ls hl => ?_)
  refine lv_goto (tgt := 21) hC.1 hC.2.1 dX4_isPermitted_54 (by decide) ?_
  exact hk21 _ _ _ _ _ _ h hZ (lv_sub hl [1, 2, 3, 4, 0] rfl)
def lb_X4_isPermitted_21 (n np : Nat) (post : Int32 → Mem → Prop) (k21 : Int32 → Int32 → Mem → Prop) (i1 : Nat) (a2 : Int32) (v4 : Int32) (v5 : Int32) (μ : Mem) : Prop := ((v4 ≤ v5 → post 0 μ) ∧ (¬ v4 ≤ v5 → (vp_in v5 20 ∧ (((μ 33 0 v5.toNatClampNeg) < 0 → b_X4_isPermitted_51 n np post k21 i1 a2 v4 v5 μ) ∧ (¬ (μ 33 0 v5.toNatClampNeg) < 0 → (((μ 33 0 v5.toNatClampNeg).toNatClampNeg) < np ∧ w_X1_covers n np (fun (r8 : Int32) (μ7 : Mem) => ((r8 = 0 → b_X4_isPermitted_51 n np post k21 i1 a2 v4 v5 μ7) ∧ (¬ r8 = 0 → post 1 μ7))) ((μ 33 0 v5.toNatClampNeg).toNatClampNeg) i1 a2 μ))))))
def l_X4_isPermitted_21 (n np : Nat) (post : Int32 → Mem → Prop) (i1 : Nat) (a2 : Int32) : Nat → Int32 → Int32 → Mem → Prop
  | 0 => fun _ _ _ => False
  | fuel + 1 => lb_X4_isPermitted_21 n np post (l_X4_isPermitted_21 n np post i1 a2 fuel) i1 a2 
set_option maxRecDepth 100000 in
set_option maxHeartbeats 4000000 in
theorem t_X4_isPermitted_21 {p : Program} {l : Launch} {e : Env} {s : State} {m : MethodId} {args : Array Value} {below : List Frame} {meth : Method} {c : Code} {D : va_G} {ca : Nat → ClassId} {base : Nat} {ad : Nat → Nat → Nat} {n np : Nat} {post : Int32 → Mem → Prop} (hC : ZC p m meth c s RX4 cX4_isPermitted 7) (hr : meth.sig.returnType = (some FieldType.boolean)) (i1 : Nat) (a2 : Int32) : ∀ (fuel : Nat) (v4 : Int32) (v5 : Int32) (μ : Mem) (H : Heap) (locs : List Loc) (ls : Array Slot), l_X4_isPermitted_21 n np post i1 a2 fuel v4 v5 μ → ZS D ca base ad n np μ s H locs → lv_has ls 7 [(1, .ref (ad 70 i1)), (2, .int a2), (3, .ref (ad 33 0)), (4, .int v4), (5, .int v5)] → W p l e ({ frames := 1, cells := 0, slots := 0, locals := 22 } : Room) s m args below meth c H locs 0 0 (MQ below (ZQ D ca base ad n np (zpi post)) args s 0 0 (zB base)) (F0 m 21 ls []) := by
  intro fuel
  induction fuel with
  | zero => exact fun _ _ _ _ _ _ h => h.elim
  | succ fuel hk21 =>
    intro v4 v5 μ H locs ls h hZ hl
    have h : lb_X4_isPermitted_21 n np post (l_X4_isPermitted_21 n np post i1 a2 fuel) i1 a2 v4 v5 μ := h
    unfold lb_X4_isPermitted_21 at h
    refine lv_iload hC.1 hC.2.1 dX4_isPermitted_21 (lv_at hl 4 rfl) ?_
    refine lv_iload hC.1 hC.2.1 dX4_isPermitted_23 (lv_at hl 3 rfl) ?_
    refine lv_icmp_ge (tgt := 57) hC.1 hC.2.1 dX4_isPermitted_25 (by decide) (fun c3 => ?_) (fun c3 => ?_)
    · have h := h.1 c3
      refine lv_iconst (v := 0) hC.1 hC.2.1 dX4_isPermitted_57 (by decide) ?_
      exact z_bret hC hr hZ (by decide) h dX4_isPermitted_58 (Nat.le_of_ble_eq_true rfl) (Nat.le_of_ble_eq_true rfl)
    · have h := h.2 c3
      refine lv_aload_n hC.1 hC.2.1 dX4_isPermitted_28 rfl (lv_at hl 2 rfl) ?_
      refine lv_iload hC.1 hC.2.1 dX4_isPermitted_29 (lv_at hl 4 rfl) ?_
      obtain ⟨q4, h⟩ := h
      refine aL_33 hC hZ q4 dX4_isPermitted_31 ?_
      refine z_astoreq (lv' := [(6, va_rf (zr ad 80 (μ 33 0 v5.toNatClampNeg))), (1, .ref (ad 70 i1)), (2, .int a2), (3, .ref (ad 33 0)), (4, .int v4), (5, .int v5)]) hC dX4_isPermitted_32 hl (by decide) rfl (fun ls hl => ?_)
      refine z_aloadq hC dX4_isPermitted_34 (lv_at hl 0 rfl) ?_
      refine z_ifnullq (tgt := 51) hC dX4_isPermitted_36 (by decide) (fun c5 => ?_) (fun c5 => ?_)
      · have h := h.1 c5
        exact t_X4_isPermitted_51 (l := l) hC hr _ _ hk21 _ _ _ _ _ _ h hZ (lv_sub hl [1, 2, 3, 4, 5] rfl)
      · have h := h.2 c5
        refine z_aloadq hC dX4_isPermitted_39 (lv_at hl 0 rfl) ?_
        refine lv_aload_n hC.1 hC.2.1 dX4_isPermitted_41 rfl (lv_at hl 1 rfl) ?_
        refine lv_iload_n hC.1 hC.2.1 dX4_isPermitted_42 rfl (lv_at hl 2 rfl) ?_
        refine z_df2 c5 ?_
        obtain ⟨q6, h⟩ := h
        refine z_cVi (As := [.ref (ad 70 i1), .int a2]) hC hZ (zF_80 q6 _) rfl zy_X1_covers (c_X1_covers l h) km_X4_283 rfl ⟨rfl, rfl⟩ ⟨Nat.le_of_ble_eq_true rfl, Nat.le_of_ble_eq_true rfl⟩ hl.1 rfl (Nat.le_of_ble_eq_true rfl) dX4_isPermitted_43 ⟨Nat.le_of_ble_eq_true rfl, Nat.le_of_ble_eq_true rfl⟩ (fun r8 μ7 H locs h hZ => ?_)
        refine lv_if_eq (tgt := 51) hC.1 hC.2.1 dX4_isPermitted_46 (by decide) (fun c9 => ?_) (fun c9 => ?_)
        · have h := h.1 c9
          exact t_X4_isPermitted_51 (l := l) hC hr _ _ hk21 _ _ _ _ _ _ h hZ (lv_sub hl [1, 2, 3, 4, 5] rfl)
        · have h := h.2 c9
          refine lv_iconst (v := 1) hC.1 hC.2.1 dX4_isPermitted_49 (by decide) ?_
          exact z_bret hC hr hZ (by decide) h dX4_isPermitted_50 (Nat.le_of_ble_eq_true rfl) (Nat.le_of_ble_eq_true rfl)
def w_X4_isPermitted (n np : Nat) (post : Int32 → Mem → Prop) (i1 : Nat) (a2 : Int32) (μ : Mem) : Prop := (i1 < n ∧ ((¬ (μ 70 i1 2) = 0 → (∃ fuel : Nat, l_X4_isPermitted_21 n np post i1 a2 fuel (20 : Int32) (0 : Int32) μ)) ∧ ((μ 70 i1 2) = 0 → post 1 μ)))
set_option maxRecDepth 100000 in
set_option maxHeartbeats 4000000 in
theorem c_X4_isPermitted (l : Launch) {D : va_G} {ca : Nat → ClassId} {base : Nat} {ad : Nat → Nat → Nat} {n np : Nat} {μ : Mem} {post : Int32 → Mem → Prop} {i1 : Nat} {a2 : Int32} (h : w_X4_isPermitted n np post i1 a2 μ) : ZMet l yX4_isPermitted cX4_isPermitted 7 (some FieldType.boolean) ({ frames := 1, cells := 0, slots := 0, locals := 22 } : Room) 0 0 D ca base ad n np [.ref (ad 30 0), .ref (ad 70 i1), .int a2] μ (zpi post) := by
  unfold ZMet
  refine Met.ofW (cc := cX4_isPermitted) (maxL := 7) (ret := (some FieldType.boolean)) (by decide) rfl ?_
  intro p e s m args below meth c s₁ B hml hv
  obtain ⟨rfl, hU⟩ := hv
  have hZ := hU.toS
  have hC : ZC p m meth c s RX4 cX4_isPermitted 7 := ⟨B.exec, B.bytes, hml, findClass_of_methodNamed B.named, B.notSynchronized⟩
  have hr := B.returns
  have key : W p l e ({ frames := 1, cells := 0, slots := 0, locals := 22 } : Room) s m (([.ref (ad 30 0), .ref (ad 70 i1), .int a2] : List Value).toArray) below meth c s.heap [] 0 0 (MQ below (ZQ D ca base ad n np (zpi post)) (([.ref (ad 30 0), .ref (ad 70 i1), .int a2] : List Value).toArray) s 0 0 (zB base)) (entryFrame m (([.ref (ad 30 0), .ref (ad 70 i1), .int a2] : List Value).toArray) 7) := by
    have hl := lv_entry ([.ref (ad 30 0), .ref (ad 70 i1), .int a2]) (n := 7) (Nat.le_of_ble_eq_true rfl)
    rw [lg_entry_eq]
    generalize (lg_sl ([.ref (ad 30 0), .ref (ad 70 i1), .int a2]) ++ List.replicate (7 - (lg_sl ([.ref (ad 30 0), .ref (ad 70 i1), .int a2])).length) Slot.unset).toArray = ls at hl ⊢
    have hl : lv_has ls 7 [(0, .ref (ad 30 0)), (1, .ref (ad 70 i1)), (2, .int a2)] := hl
    unfold w_X4_isPermitted at h
    refine lv_aload_n hC.1 hC.2.1 dX4_isPermitted_0 rfl (lv_at hl 1 rfl) ?_
    obtain ⟨q1, h⟩ := h
    refine gX2_2 hC hZ q1 kf_X4_280 dX4_isPermitted_1 ?_
    refine lv_if_ne (tgt := 9) hC.1 hC.2.1 dX4_isPermitted_4 (by decide) (fun c2 => ?_) (fun c2 => ?_)
    · have h := h.1 c2
      refine lv_aload_n hC.1 hC.2.1 dX4_isPermitted_9 rfl (lv_at hl 0 rfl) ?_
      refine gX4_2 hC hZ kf_X4_20 dX4_isPermitted_10 ?_
      refine lv_astore_n (lv' := [(3, .ref (ad 33 0)), (0, .ref (ad 30 0)), (1, .ref (ad 70 i1)), (2, .int a2)]) hC.1 hC.2.1 dX4_isPermitted_13 rfl hl (by decide) rfl (fun ls hl => ?_)
      refine lv_aload_n hC.1 hC.2.1 dX4_isPermitted_14 rfl (lv_at hl 0 rfl) ?_
      refine aN_33 hC hZ dX4_isPermitted_15 ?_
      refine lv_istore (lv' := [(4, .int 20), (3, .ref (ad 33 0)), (0, .ref (ad 30 0)), (1, .ref (ad 70 i1)), (2, .int a2)]) hC.1 hC.2.1 dX4_isPermitted_16 hl (by decide) rfl (fun ls hl => ?_)
      refine lv_iconst (v := 0) hC.1 hC.2.1 dX4_isPermitted_18 (by decide) ?_
      refine lv_istore (lv' := [(5, .int 0), (4, .int 20), (3, .ref (ad 33 0)), (0, .ref (ad 30 0)), (1, .ref (ad 70 i1)), (2, .int a2)]) hC.1 hC.2.1 dX4_isPermitted_19 hl (by decide) rfl (fun ls hl => ?_)
      obtain ⟨fuel, h⟩ := h
      exact t_X4_isPermitted_21 (l := l) hC hr _ _ _ _ _ _ _ _ _ h hZ (lv_sub hl [4, 5, 2, 1, 0] rfl)
    · have h := h.2 c2
      refine lv_iconst (v := 1) hC.1 hC.2.1 dX4_isPermitted_7 (by decide) ?_
      exact z_bret hC hr hZ (by decide) h dX4_isPermitted_8 (Nat.le_of_ble_eq_true rfl) (Nat.le_of_ble_eq_true rfl)
  exact key
def w_X4_isAwayOn (n np : Nat) (post : Int32 → Mem → Prop) (a1 : Int32) (a2 : Int32) (μ : Mem) : Prop := (vp_in a1 5 ∧ (((((μ 34 0 a1.toNatClampNeg) >>> (a2 &&& 31)) &&& 1) = 0 → post 0 μ) ∧ (¬ (((μ 34 0 a1.toNatClampNeg) >>> (a2 &&& 31)) &&& 1) = 0 → post 1 μ)))
set_option maxRecDepth 100000 in
set_option maxHeartbeats 4000000 in
theorem c_X4_isAwayOn (l : Launch) {D : va_G} {ca : Nat → ClassId} {base : Nat} {ad : Nat → Nat → Nat} {n np : Nat} {μ : Mem} {post : Int32 → Mem → Prop} {a1 : Int32} {a2 : Int32} (h : w_X4_isAwayOn n np post a1 a2 μ) : ZMet l yX4_isAwayOn cX4_isAwayOn 3 (some FieldType.boolean) ({ frames := 0, cells := 0, slots := 0, locals := 0 } : Room) 0 0 D ca base ad n np [.ref (ad 30 0), .int a1, .int a2] μ (zpi post) := by
  unfold ZMet
  refine Met.ofW (cc := cX4_isAwayOn) (maxL := 3) (ret := (some FieldType.boolean)) (by decide) rfl ?_
  intro p e s m args below meth c s₁ B hml hv
  obtain ⟨rfl, hU⟩ := hv
  have hZ := hU.toS
  have hC : ZC p m meth c s RX4 cX4_isAwayOn 3 := ⟨B.exec, B.bytes, hml, findClass_of_methodNamed B.named, B.notSynchronized⟩
  have hr := B.returns
  have key : W p l e ({ frames := 0, cells := 0, slots := 0, locals := 0 } : Room) s m (([.ref (ad 30 0), .int a1, .int a2] : List Value).toArray) below meth c s.heap [] 0 0 (MQ below (ZQ D ca base ad n np (zpi post)) (([.ref (ad 30 0), .int a1, .int a2] : List Value).toArray) s 0 0 (zB base)) (entryFrame m (([.ref (ad 30 0), .int a1, .int a2] : List Value).toArray) 3) := by
    have hl := lv_entry ([.ref (ad 30 0), .int a1, .int a2]) (n := 3) (Nat.le_of_ble_eq_true rfl)
    rw [lg_entry_eq]
    generalize (lg_sl ([.ref (ad 30 0), .int a1, .int a2]) ++ List.replicate (3 - (lg_sl ([.ref (ad 30 0), .int a1, .int a2])).length) Slot.unset).toArray = ls at hl ⊢
    have hl : lv_has ls 3 [(0, .ref (ad 30 0)), (1, .int a1), (2, .int a2)] := hl
    unfold w_X4_isAwayOn at h
    refine lv_aload_n hC.1 hC.2.1 dX4_isAwayOn_0 rfl (lv_at hl 0 rfl) ?_
    refine gX4_3 hC hZ kf_X4_24 dX4_isAwayOn_1 ?_
    refine lv_iload_n hC.1 hC.2.1 dX4_isAwayOn_4 rfl (lv_at hl 1 rfl) ?_
    obtain ⟨q1, h⟩ := h
    refine aL_34 hC hZ q1 dX4_isAwayOn_5 ?_
    refine lv_iload_n hC.1 hC.2.1 dX4_isAwayOn_6 rfl (lv_at hl 2 rfl) ?_
    refine lv_ishr hC.1 hC.2.1 dX4_isAwayOn_7 ?_
    refine lv_iconst (v := 1) hC.1 hC.2.1 dX4_isAwayOn_8 (by decide) ?_
    refine lv_iand hC.1 hC.2.1 dX4_isAwayOn_9 ?_
    refine lv_if_eq (tgt := 17) hC.1 hC.2.1 dX4_isAwayOn_10 (by decide) (fun c2 => ?_) (fun c2 => ?_)
    · have h := h.1 c2
      refine lv_iconst (v := 0) hC.1 hC.2.1 dX4_isAwayOn_17 (by decide) ?_
      exact z_bret hC hr hZ (by decide) h dX4_isAwayOn_18 (Nat.le_of_ble_eq_true rfl) (Nat.le_of_ble_eq_true rfl)
    · have h := h.2 c2
      refine lv_iconst (v := 1) hC.1 hC.2.1 dX4_isAwayOn_13 (by decide) ?_
      refine lv_goto (tgt := 18) hC.1 hC.2.1 dX4_isAwayOn_14 (by decide) ?_
      exact z_bret hC hr hZ (by decide) h dX4_isAwayOn_18 (Nat.le_of_ble_eq_true rfl) (Nat.le_of_ble_eq_true rfl)
  exact key
def b_X4_isCastThere_29 (n np : Nat) (post : Int32 → Mem → Prop) (k2 : Int32 → Mem → Prop) (i1 : Nat) (a2 : Int32) (v3 : Int32) (μ : Mem) : Prop := k2 (v3 + 1) μ
set_option maxRecDepth 100000 in
set_option maxHeartbeats 4000000 in
theorem t_X4_isCastThere_29 {p : Program} {l : Launch} {e : Env} {s : State} {m : MethodId} {args : Array Value} {below : List Frame} {meth : Method} {c : Code} {D : va_G} {ca : Nat → ClassId} {base : Nat} {ad : Nat → Nat → Nat} {n np : Nat} {post : Int32 → Mem → Prop} {k2 : Int32 → Mem → Prop} (hC : ZC p m meth c s RX4 cX4_isCastThere 4) (hr : meth.sig.returnType = (some FieldType.boolean)) (i1 : Nat) (a2 : Int32) (hk2 : ∀ (v3 : Int32) (μ : Mem) (H : Heap) (locs : List Loc) (ls : Array Slot), k2 v3 μ → ZS D ca base ad n np μ s H locs → lv_has ls 4 [(0, .ref (ad 30 0)), (1, .ref (ad 70 i1)), (2, .int a2), (3, .int v3)] → W p l e ({ frames := 1, cells := 0, slots := 0, locals := 22 } : Room) s m args below meth c H locs 0 0 (MQ below (ZQ D ca base ad n np (zpi post)) args s 0 0 (zB base)) (F0 m 2 ls [])) (v3 : Int32) (μ : Mem) (H : Heap) (locs : List Loc) (ls : Array Slot) (h : b_X4_isCastThere_29 n np post k2 i1 a2 v3 μ) (hZ : ZS D ca base ad n np μ s H locs) (hl : lv_has ls 4 [(0, .ref (ad 30 0)), (1, .ref (ad 70 i1)), (2, .int a2), (3, .int v3)]) : W p l e ({ frames := 1, cells := 0, slots := 0, locals := 22 } : Room) s m args below meth c H locs 0 0 (MQ below (ZQ D ca base ad n np (zpi post)) args s 0 0 (zB base)) (F0 m 29 ls []) := by
  unfold b_X4_isCastThere_29 at h
  refine lv_iinc (v := v3 + 1) (lv' := [(3, .int (v3 + 1)), (0, .ref (ad 30 0)), (1, .ref (ad 70 i1)), (2, .int a2)]) hC.1 hC.2.1 dX4_isCastThere_29 hl (k := 3) rfl rfl (by decide) rfl (fun ls hl => ?_)
  refine lv_goto (tgt := 2) hC.1 hC.2.1 dX4_isCastThere_32 (by decide) ?_
  exact hk2 _ _ _ _ _ h hZ (lv_sub hl [1, 2, 3, 0] rfl)
def lb_X4_isCastThere_2 (n np : Nat) (post : Int32 → Mem → Prop) (k2 : Int32 → Mem → Prop) (i1 : Nat) (a2 : Int32) (v3 : Int32) (μ : Mem) : Prop := ((5 ≤ v3 → post 1 μ) ∧ (¬ 5 ≤ v3 → (i1 < n ∧ (vp_in v3 5 ∧ (((μ 71 i1 v3.toNatClampNeg) = (-2) → b_X4_isCastThere_29 n np post k2 i1 a2 v3 μ) ∧ (¬ (μ 71 i1 v3.toNatClampNeg) = (-2) → (w_X4_isAwayOn n np (fun (r6 : Int32) (μ5 : Mem) => ((r6 = 0 → b_X4_isCastThere_29 n np post k2 i1 a2 v3 μ5) ∧ (¬ r6 = 0 → post 0 μ5))) v3 a2 μ)))))))
def l_X4_isCastThere_2 (n np : Nat) (post : Int32 → Mem → Prop) (i1 : Nat) (a2 : Int32) : Nat → Int32 → Mem → Prop
  | 0 => fun _ _ => False
  | fuel + 1 => lb_X4_isCastThere_2 n np post (l_X4_isCastThere_2 n np post i1 a2 fuel) i1 a2 
set_option maxRecDepth 100000 in
set_option maxHeartbeats 4000000 in
theorem t_X4_isCastThere_2 {p : Program} {l : Launch} {e : Env} {s : State} {m : MethodId} {args : Array Value} {below : List Frame} {meth : Method} {c : Code} {D : va_G} {ca : Nat → ClassId} {base : Nat} {ad : Nat → Nat → Nat} {n np : Nat} {post : Int32 → Mem → Prop} (hC : ZC p m meth c s RX4 cX4_isCastThere 4) (hr : meth.sig.returnType = (some FieldType.boolean)) (i1 : Nat) (a2 : Int32) : ∀ (fuel : Nat) (v3 : Int32) (μ : Mem) (H : Heap) (locs : List Loc) (ls : Array Slot), l_X4_isCastThere_2 n np post i1 a2 fuel v3 μ → ZS D ca base ad n np μ s H locs → lv_has ls 4 [(0, .ref (ad 30 0)), (1, .ref (ad 70 i1)), (2, .int a2), (3, .int v3)] → W p l e ({ frames := 1, cells := 0, slots := 0, locals := 22 } : Room) s m args below meth c H locs 0 0 (MQ below (ZQ D ca base ad n np (zpi post)) args s 0 0 (zB base)) (F0 m 2 ls []) := by
  intro fuel
  induction fuel with
  | zero => exact fun _ _ _ _ _ h => h.elim
  | succ fuel hk2 =>
    intro v3 μ H locs ls h hZ hl
    have h : lb_X4_isCastThere_2 n np post (l_X4_isCastThere_2 n np post i1 a2 fuel) i1 a2 v3 μ := h
    unfold lb_X4_isCastThere_2 at h
    refine lv_iload_n hC.1 hC.2.1 dX4_isCastThere_2 rfl (lv_at hl 3 rfl) ?_
    refine lv_iconst (v := 5) hC.1 hC.2.1 dX4_isCastThere_3 (by decide) ?_
    refine lv_icmp_ge (tgt := 35) hC.1 hC.2.1 dX4_isCastThere_4 (by decide) (fun c1 => ?_) (fun c1 => ?_)
    · have h := h.1 c1
      refine lv_iconst (v := 1) hC.1 hC.2.1 dX4_isCastThere_35 (by decide) ?_
      exact z_bret hC hr hZ (by decide) h dX4_isCastThere_36 (Nat.le_of_ble_eq_true rfl) (Nat.le_of_ble_eq_true rfl)
    · have h := h.2 c1
      refine lv_aload_n hC.1 hC.2.1 dX4_isCastThere_7 rfl (lv_at hl 1 rfl) ?_
      obtain ⟨q2, h⟩ := h
      refine gX2_3 hC hZ q2 kf_X4_94 dX4_isCastThere_8 ?_
      refine lv_iload_n hC.1 hC.2.1 dX4_isCastThere_11 rfl (lv_at hl 3 rfl) ?_
      obtain ⟨q3, h⟩ := h
      refine aL_71 hC hZ q2 q3 dX4_isCastThere_12 ?_
      refine lv_bipush (v := (-2)) hC.1 hC.2.1 dX4_isCastThere_13 (by decide) ?_
      refine lv_icmp_eq (tgt := 29) hC.1 hC.2.1 dX4_isCastThere_15 (by decide) (fun c4 => ?_) (fun c4 => ?_)
      · have h := h.1 c4
        exact t_X4_isCastThere_29 (l := l) hC hr _ _ hk2 _ _ _ _ _ h hZ (lv_sub hl [0, 1, 2, 3] rfl)
      · have h := h.2 c4
        refine lv_aload_n hC.1 hC.2.1 dX4_isCastThere_18 rfl (lv_at hl 0 rfl) ?_
        refine lv_iload_n hC.1 hC.2.1 dX4_isCastThere_19 rfl (lv_at hl 3 rfl) ?_
        refine lv_iload_n hC.1 hC.2.1 dX4_isCastThere_20 rfl (lv_at hl 2 rfl) ?_
        refine z_cVi (As := [.int v3, .int a2]) hC hZ (zF_30 _) rfl zy_X4_isAwayOn (c_X4_isAwayOn l h) km_X4_163 rfl ⟨rfl, rfl⟩ ⟨Nat.le_of_ble_eq_true rfl, Nat.le_of_ble_eq_true rfl⟩ hl.1 rfl (Nat.le_of_ble_eq_true rfl) dX4_isCastThere_21 ⟨Nat.le_of_ble_eq_true rfl, Nat.le_of_ble_eq_true rfl⟩ (fun r6 μ5 H locs h hZ => ?_)
        refine lv_if_eq (tgt := 29) hC.1 hC.2.1 dX4_isCastThere_24 (by decide) (fun c7 => ?_) (fun c7 => ?_)
        · have h := h.1 c7
          exact t_X4_isCastThere_29 (l := l) hC hr _ _ hk2 _ _ _ _ _ h hZ (lv_sub hl [0, 1, 2, 3] rfl)
        · have h := h.2 c7
          refine lv_iconst (v := 0) hC.1 hC.2.1 dX4_isCastThere_27 (by decide) ?_
          exact z_bret hC hr hZ (by decide) h dX4_isCastThere_28 (Nat.le_of_ble_eq_true rfl) (Nat.le_of_ble_eq_true rfl)
def w_X4_isCastThere (n np : Nat) (post : Int32 → Mem → Prop) (i1 : Nat) (a2 : Int32) (μ : Mem) : Prop := (∃ fuel : Nat, l_X4_isCastThere_2 n np post i1 a2 fuel (0 : Int32) μ)
set_option maxRecDepth 100000 in
set_option maxHeartbeats 4000000 in
theorem c_X4_isCastThere (l : Launch) {D : va_G} {ca : Nat → ClassId} {base : Nat} {ad : Nat → Nat → Nat} {n np : Nat} {μ : Mem} {post : Int32 → Mem → Prop} {i1 : Nat} {a2 : Int32} (h : w_X4_isCastThere n np post i1 a2 μ) : ZMet l yX4_isCastThere cX4_isCastThere 4 (some FieldType.boolean) ({ frames := 1, cells := 0, slots := 0, locals := 22 } : Room) 0 0 D ca base ad n np [.ref (ad 30 0), .ref (ad 70 i1), .int a2] μ (zpi post) := by
  unfold ZMet
  refine Met.ofW (cc := cX4_isCastThere) (maxL := 4) (ret := (some FieldType.boolean)) (by decide) rfl ?_
  intro p e s m args below meth c s₁ B hml hv
  obtain ⟨rfl, hU⟩ := hv
  have hZ := hU.toS
  have hC : ZC p m meth c s RX4 cX4_isCastThere 4 := ⟨B.exec, B.bytes, hml, findClass_of_methodNamed B.named, B.notSynchronized⟩
  have hr := B.returns
  have key : W p l e ({ frames := 1, cells := 0, slots := 0, locals := 22 } : Room) s m (([.ref (ad 30 0), .ref (ad 70 i1), .int a2] : List Value).toArray) below meth c s.heap [] 0 0 (MQ below (ZQ D ca base ad n np (zpi post)) (([.ref (ad 30 0), .ref (ad 70 i1), .int a2] : List Value).toArray) s 0 0 (zB base)) (entryFrame m (([.ref (ad 30 0), .ref (ad 70 i1), .int a2] : List Value).toArray) 4) := by
    have hl := lv_entry ([.ref (ad 30 0), .ref (ad 70 i1), .int a2]) (n := 4) (Nat.le_of_ble_eq_true rfl)
    rw [lg_entry_eq]
    generalize (lg_sl ([.ref (ad 30 0), .ref (ad 70 i1), .int a2]) ++ List.replicate (4 - (lg_sl ([.ref (ad 30 0), .ref (ad 70 i1), .int a2])).length) Slot.unset).toArray = ls at hl ⊢
    have hl : lv_has ls 4 [(0, .ref (ad 30 0)), (1, .ref (ad 70 i1)), (2, .int a2)] := hl
    unfold w_X4_isCastThere at h
    refine lv_iconst (v := 0) hC.1 hC.2.1 dX4_isCastThere_0 (by decide) ?_
    refine lv_istore_n (lv' := [(3, .int 0), (0, .ref (ad 30 0)), (1, .ref (ad 70 i1)), (2, .int a2)]) hC.1 hC.2.1 dX4_isCastThere_1 rfl hl (by decide) rfl (fun ls hl => ?_)
    obtain ⟨fuel, h⟩ := h
    exact t_X4_isCastThere_2 (l := l) hC hr _ _ _ _ _ _ _ _ h hZ (lv_sub hl [1, 2, 3, 0] rfl)
  exact key
def w_X4_allows (n np : Nat) (post : Int32 → Mem → Prop) (i1 : Nat) (a2 : Int32) (μ : Mem) : Prop := (w_X4_isPermitted n np (fun (r2 : Int32) (μ1 : Mem) => ((r2 = 0 → post 0 μ1) ∧ (¬ r2 = 0 → (w_X4_isCastThere n np (fun (r5 : Int32) (μ4 : Mem) => ((r5 = 0 → post 0 μ4) ∧ (¬ r5 = 0 → post 1 μ4))) i1 a2 μ1)))) i1 a2 μ)
set_option maxRecDepth 100000 in
set_option maxHeartbeats 4000000 in
theorem c_X4_allows (l : Launch) {D : va_G} {ca : Nat → ClassId} {base : Nat} {ad : Nat → Nat → Nat} {n np : Nat} {μ : Mem} {post : Int32 → Mem → Prop} {i1 : Nat} {a2 : Int32} (h : w_X4_allows n np post i1 a2 μ) : ZMet l yX4_allows cX4_allows 3 (some FieldType.boolean) ({ frames := 2, cells := 0, slots := 0, locals := 48 } : Room) 0 0 D ca base ad n np [.ref (ad 30 0), .ref (ad 70 i1), .int a2] μ (zpi post) := by
  unfold ZMet
  refine Met.ofW (cc := cX4_allows) (maxL := 3) (ret := (some FieldType.boolean)) (by decide) rfl ?_
  intro p e s m args below meth c s₁ B hml hv
  obtain ⟨rfl, hU⟩ := hv
  have hZ := hU.toS
  have hC : ZC p m meth c s RX4 cX4_allows 3 := ⟨B.exec, B.bytes, hml, findClass_of_methodNamed B.named, B.notSynchronized⟩
  have hr := B.returns
  have key : W p l e ({ frames := 2, cells := 0, slots := 0, locals := 48 } : Room) s m (([.ref (ad 30 0), .ref (ad 70 i1), .int a2] : List Value).toArray) below meth c s.heap [] 0 0 (MQ below (ZQ D ca base ad n np (zpi post)) (([.ref (ad 30 0), .ref (ad 70 i1), .int a2] : List Value).toArray) s 0 0 (zB base)) (entryFrame m (([.ref (ad 30 0), .ref (ad 70 i1), .int a2] : List Value).toArray) 3) := by
    have hl := lv_entry ([.ref (ad 30 0), .ref (ad 70 i1), .int a2]) (n := 3) (Nat.le_of_ble_eq_true rfl)
    rw [lg_entry_eq]
    generalize (lg_sl ([.ref (ad 30 0), .ref (ad 70 i1), .int a2]) ++ List.replicate (3 - (lg_sl ([.ref (ad 30 0), .ref (ad 70 i1), .int a2])).length) Slot.unset).toArray = ls at hl ⊢
    have hl : lv_has ls 3 [(0, .ref (ad 30 0)), (1, .ref (ad 70 i1)), (2, .int a2)] := hl
    unfold w_X4_allows at h
    refine lv_aload_n hC.1 hC.2.1 dX4_allows_0 rfl (lv_at hl 0 rfl) ?_
    refine lv_aload_n hC.1 hC.2.1 dX4_allows_1 rfl (lv_at hl 1 rfl) ?_
    refine lv_iload_n hC.1 hC.2.1 dX4_allows_2 rfl (lv_at hl 2 rfl) ?_
    refine z_cVi (As := [.ref (ad 70 i1), .int a2]) hC hZ (zF_30 _) rfl zy_X4_isPermitted (c_X4_isPermitted l h) km_X4_274 rfl ⟨rfl, rfl⟩ ⟨Nat.le_of_ble_eq_true rfl, Nat.le_of_ble_eq_true rfl⟩ hl.1 rfl (Nat.le_of_ble_eq_true rfl) dX4_allows_3 ⟨Nat.le_of_ble_eq_true rfl, Nat.le_of_ble_eq_true rfl⟩ (fun r2 μ1 H locs h hZ => ?_)
    refine lv_if_eq (tgt := 22) hC.1 hC.2.1 dX4_allows_6 (by decide) (fun c3 => ?_) (fun c3 => ?_)
    · have h := h.1 c3
      refine lv_iconst (v := 0) hC.1 hC.2.1 dX4_allows_22 (by decide) ?_
      exact z_bret hC hr hZ (by decide) h dX4_allows_23 (Nat.le_of_ble_eq_true rfl) (Nat.le_of_ble_eq_true rfl)
    · have h := h.2 c3
      refine lv_aload_n hC.1 hC.2.1 dX4_allows_9 rfl (lv_at hl 0 rfl) ?_
      refine lv_aload_n hC.1 hC.2.1 dX4_allows_10 rfl (lv_at hl 1 rfl) ?_
      refine lv_iload_n hC.1 hC.2.1 dX4_allows_11 rfl (lv_at hl 2 rfl) ?_
      refine z_cVi (As := [.ref (ad 70 i1), .int a2]) hC hZ (zF_30 _) rfl zy_X4_isCastThere (c_X4_isCastThere l h) km_X4_277 rfl ⟨rfl, rfl⟩ ⟨Nat.le_of_ble_eq_true rfl, Nat.le_of_ble_eq_true rfl⟩ hl.1 rfl (Nat.le_of_ble_eq_true rfl) dX4_allows_12 ⟨Nat.le_of_ble_eq_true rfl, Nat.le_of_ble_eq_true rfl⟩ (fun r5 μ4 H locs h hZ => ?_)
      refine lv_if_eq (tgt := 22) hC.1 hC.2.1 dX4_allows_15 (by decide) (fun c6 => ?_) (fun c6 => ?_)
      · have h := h.1 c6
        refine lv_iconst (v := 0) hC.1 hC.2.1 dX4_allows_22 (by decide) ?_
        exact z_bret hC hr hZ (by decide) h dX4_allows_23 (Nat.le_of_ble_eq_true rfl) (Nat.le_of_ble_eq_true rfl)
      · have h := h.2 c6
        refine lv_iconst (v := 1) hC.1 hC.2.1 dX4_allows_18 (by decide) ?_
        refine lv_goto (tgt := 23) hC.1 hC.2.1 dX4_allows_19 (by decide) ?_
        exact z_bret hC hr hZ (by decide) h dX4_allows_23 (Nat.le_of_ble_eq_true rfl) (Nat.le_of_ble_eq_true rfl)
  exact key
def b_X4_planCost_82 (n np : Nat) (post : Int32 → Mem → Prop) (k23 : Int32 → Int32 → Int32 → Mem → Prop) (v1 : Int32) (v2 : Int32) (v3 : Int32) (μ : Mem) : Prop := k23 v1 v2 (v3 + 1) μ
set_option maxRecDepth 100000 in
set_option maxHeartbeats 4000000 in
theorem t_X4_planCost_82 {p : Program} {l : Launch} {e : Env} {s : State} {m : MethodId} {args : Array Value} {below : List Frame} {meth : Method} {c : Code} {D : va_G} {ca : Nat → ClassId} {base : Nat} {ad : Nat → Nat → Nat} {n np : Nat} {post : Int32 → Mem → Prop} {k23 : Int32 → Int32 → Int32 → Mem → Prop} (hC : ZC p m meth c s RX4 cX4_planCost 5) (hr : meth.sig.returnType = (some FieldType.int)) (hk23 : ∀ (v1 : Int32) (v2 : Int32) (v3 : Int32) (μ : Mem) (H : Heap) (locs : List Loc) (ls : Array Slot), k23 v1 v2 v3 μ → ZS D ca base ad n np μ s H locs → lv_has ls 5 [(0, .ref (ad 30 0)), (1, .int v1), (2, .int v2), (3, .int v3)] → W p l e ({ frames := 3, cells := 0, slots := 0, locals := 70 } : Room) s m args below meth c H locs 0 0 (MQ below (ZQ D ca base ad n np (zpi post)) args s 0 0 (zB base)) (F0 m 23 ls [])) (v1 : Int32) (v2 : Int32) (v3 : Int32) (μ : Mem) (H : Heap) (locs : List Loc) (ls : Array Slot) (h : b_X4_planCost_82 n np post k23 v1 v2 v3 μ) (hZ : ZS D ca base ad n np μ s H locs) (hl : lv_has ls 5 [(0, .ref (ad 30 0)), (1, .int v1), (2, .int v2), (3, .int v3)]) : W p l e ({ frames := 3, cells := 0, slots := 0, locals := 70 } : Room) s m args below meth c H locs 0 0 (MQ below (ZQ D ca base ad n np (zpi post)) args s 0 0 (zB base)) (F0 m 82 ls []) := by
  unfold b_X4_planCost_82 at h
  refine lv_iinc (v := v3 + 1) (lv' := [(3, .int (v3 + 1)), (0, .ref (ad 30 0)), (1, .int v1), (2, .int v2)]) hC.1 hC.2.1 dX4_planCost_82 hl (k := 3) rfl rfl (by decide) rfl (fun ls hl => ?_)
  refine lv_goto (tgt := 23) hC.1 hC.2.1 dX4_planCost_85 (by decide) ?_
  exact hk23 _ _ _ _ _ _ _ h hZ (lv_sub hl [1, 2, 3, 0] rfl)
def lb_X4_planCost_23 (n np : Nat) (post : Int32 → Mem → Prop) (k23 : Int32 → Int32 → Int32 → Mem → Prop) (v1 : Int32) (v2 : Int32) (v3 : Int32) (μ : Mem) : Prop := ((30 ≤ v3 → post v1 μ) ∧ (¬ 30 ≤ v3 → (vp_in v3 30 ∧ ((¬ (μ 32 0 v3.toNatClampNeg) < 0 → (w_X3_growBeards n np (fun (μ6 : Mem) => (w_X3_film n np (fun (r9 : Int32) (μ8 : Mem) => (w_X4_allows n np (fun (r11 : Int32) (μ10 : Mem) => ((¬ r11 = 0 → b_X4_planCost_82 n np post k23 (v1 + r9) v3 v3 μ10) ∧ (r11 = 0 → b_X4_planCost_82 n np post k23 ((v1 + r9) + 20) v3 v3 μ10))) ((μ 32 0 v3.toNatClampNeg).toNatClampNeg) v3 μ8)) 1 ((μ 32 0 v3.toNatClampNeg).toNatClampNeg) μ6)) 1 (v3 - v2) μ)) ∧ ((μ 32 0 v3.toNatClampNeg) < 0 → b_X4_planCost_82 n np post k23 v1 v2 v3 μ)))))
def l_X4_planCost_23 (n np : Nat) (post : Int32 → Mem → Prop) : Nat → Int32 → Int32 → Int32 → Mem → Prop
  | 0 => fun _ _ _ _ => False
  | fuel + 1 => lb_X4_planCost_23 n np post (l_X4_planCost_23 n np post fuel) 
set_option maxRecDepth 100000 in
set_option maxHeartbeats 4000000 in
theorem t_X4_planCost_23 {p : Program} {l : Launch} {e : Env} {s : State} {m : MethodId} {args : Array Value} {below : List Frame} {meth : Method} {c : Code} {D : va_G} {ca : Nat → ClassId} {base : Nat} {ad : Nat → Nat → Nat} {n np : Nat} {post : Int32 → Mem → Prop} (hC : ZC p m meth c s RX4 cX4_planCost 5) (hr : meth.sig.returnType = (some FieldType.int)) : ∀ (fuel : Nat) (v1 : Int32) (v2 : Int32) (v3 : Int32) (μ : Mem) (H : Heap) (locs : List Loc) (ls : Array Slot), l_X4_planCost_23 n np post fuel v1 v2 v3 μ → ZS D ca base ad n np μ s H locs → lv_has ls 5 [(0, .ref (ad 30 0)), (1, .int v1), (2, .int v2), (3, .int v3)] → W p l e ({ frames := 3, cells := 0, slots := 0, locals := 70 } : Room) s m args below meth c H locs 0 0 (MQ below (ZQ D ca base ad n np (zpi post)) args s 0 0 (zB base)) (F0 m 23 ls []) := by
  intro fuel
  induction fuel with
  | zero => exact fun _ _ _ _ _ _ _ h => h.elim
  | succ fuel hk23 =>
    intro v1 v2 v3 μ H locs ls h hZ hl
    have h : lb_X4_planCost_23 n np post (l_X4_planCost_23 n np post fuel) v1 v2 v3 μ := h
    unfold lb_X4_planCost_23 at h
    refine lv_iload_n hC.1 hC.2.1 dX4_planCost_23 rfl (lv_at hl 3 rfl) ?_
    refine lv_bipush (v := 30) hC.1 hC.2.1 dX4_planCost_24 (by decide) ?_
    refine lv_icmp_ge (tgt := 88) hC.1 hC.2.1 dX4_planCost_26 (by decide) (fun c3 => ?_) (fun c3 => ?_)
    · have h := h.1 c3
      refine lv_iload_n hC.1 hC.2.1 dX4_planCost_88 rfl (lv_at hl 1 rfl) ?_
      exact z_iret hC hr hZ h dX4_planCost_89 (Nat.le_of_ble_eq_true rfl) (Nat.le_of_ble_eq_true rfl)
    · have h := h.2 c3
      refine lv_aload_n hC.1 hC.2.1 dX4_planCost_29 rfl (lv_at hl 0 rfl) ?_
      refine gX4_1 hC hZ kf_X4_15 dX4_planCost_30 ?_
      refine lv_iload_n hC.1 hC.2.1 dX4_planCost_33 rfl (lv_at hl 3 rfl) ?_
      obtain ⟨q4, h⟩ := h
      refine aL_32 hC hZ q4 dX4_planCost_34 ?_
      refine z_astoreq (lv' := [(4, va_rf (zr ad 70 (μ 32 0 v3.toNatClampNeg))), (0, .ref (ad 30 0)), (1, .int v1), (2, .int v2), (3, .int v3)]) hC dX4_planCost_35 hl (by decide) rfl (fun ls hl => ?_)
      refine z_aloadq hC dX4_planCost_37 (lv_at hl 0 rfl) ?_
      refine z_ifnonnullq (tgt := 45) hC dX4_planCost_39 (by decide) (fun c5 => ?_) (fun c5 => ?_)
      · have h := h.1 c5
        refine lv_aload_n hC.1 hC.2.1 dX4_planCost_45 rfl (lv_at hl 1 rfl) ?_
        refine gX4_5 hC hZ kf_X4_35 dX4_planCost_46 ?_
        refine lv_iload_n hC.1 hC.2.1 dX4_planCost_49 rfl (lv_at hl 4 rfl) ?_
        refine lv_iload_n hC.1 hC.2.1 dX4_planCost_50 rfl (lv_at hl 3 rfl) ?_
        refine lv_isub hC.1 hC.2.1 dX4_planCost_51 ?_
        refine z_cVv (As := [.int (v3 - v2)]) hC hZ (zF_40 (by decide) _) rfl zy_X3_growBeards (c_X3_growBeards l h) km_X4_196 rfl ⟨rfl, rfl⟩ ⟨Nat.le_of_ble_eq_true rfl, Nat.le_of_ble_eq_true rfl⟩ hl.1 rfl (Nat.le_of_ble_eq_true rfl) dX4_planCost_52 ⟨Nat.le_of_ble_eq_true rfl, Nat.le_of_ble_eq_true rfl⟩ (fun μ6 H locs h hZ => ?_)
        refine lv_iload_n hC.1 hC.2.1 dX4_planCost_55 rfl (lv_at hl 4 rfl) ?_
        refine lv_istore_n (lv' := [(2, .int v3), (4, va_rf (zr ad 70 (μ 32 0 v3.toNatClampNeg))), (0, .ref (ad 30 0)), (1, .int v1), (3, .int v3)]) hC.1 hC.2.1 dX4_planCost_56 rfl hl (by decide) rfl (fun ls hl => ?_)
        refine lv_iload_n hC.1 hC.2.1 dX4_planCost_57 rfl (lv_at hl 3 rfl) ?_
        refine lv_aload_n hC.1 hC.2.1 dX4_planCost_58 rfl (lv_at hl 2 rfl) ?_
        refine gX4_5 hC hZ kf_X4_35 dX4_planCost_59 ?_
        refine z_aloadq hC dX4_planCost_62 (lv_at hl 1 rfl) ?_
        refine z_df0 c5 ?_
        refine z_cVi (As := [.ref (ad 70 ((μ 32 0 v3.toNatClampNeg).toNatClampNeg))]) hC hZ (zF_40 (by decide) _) rfl zy_X3_film (c_X3_film l h) km_X4_187 rfl ⟨rfl, rfl⟩ ⟨Nat.le_of_ble_eq_true rfl, Nat.le_of_ble_eq_true rfl⟩ hl.1 rfl (Nat.le_of_ble_eq_true rfl) dX4_planCost_64 ⟨Nat.le_of_ble_eq_true rfl, Nat.le_of_ble_eq_true rfl⟩ (fun r9 μ8 H locs h hZ => ?_)
        refine lv_iadd hC.1 hC.2.1 dX4_planCost_67 ?_
        refine lv_istore_n (lv' := [(1, .int (v1 + r9)), (2, .int v3), (4, va_rf (zr ad 70 (μ 32 0 v3.toNatClampNeg))), (0, .ref (ad 30 0)), (3, .int v3)]) hC.1 hC.2.1 dX4_planCost_68 rfl hl (by decide) rfl (fun ls hl => ?_)
        refine lv_aload_n hC.1 hC.2.1 dX4_planCost_69 rfl (lv_at hl 3 rfl) ?_
        refine z_aloadq hC dX4_planCost_70 (lv_at hl 2 rfl) ?_
        refine lv_iload_n hC.1 hC.2.1 dX4_planCost_72 rfl (lv_at hl 4 rfl) ?_
        refine z_df1 c5 ?_
        refine z_cVi (As := [.ref (ad 70 ((μ 32 0 v3.toNatClampNeg).toNatClampNeg)), .int v3]) hC hZ (zF_30 _) rfl zy_X4_allows (c_X4_allows l h) km_X4_183 rfl ⟨rfl, rfl⟩ ⟨Nat.le_of_ble_eq_true rfl, Nat.le_of_ble_eq_true rfl⟩ hl.1 rfl (Nat.le_of_ble_eq_true rfl) dX4_planCost_73 ⟨Nat.le_of_ble_eq_true rfl, Nat.le_of_ble_eq_true rfl⟩ (fun r11 μ10 H locs h hZ => ?_)
        refine lv_if_ne (tgt := 82) hC.1 hC.2.1 dX4_planCost_76 (by decide) (fun c12 => ?_) (fun c12 => ?_)
        · have h := h.1 c12
          exact t_X4_planCost_82 (l := l) hC hr hk23 _ _ _ _ _ _ _ h hZ (lv_sub hl [3, 0, 1, 4] rfl)
        · have h := h.2 c12
          refine lv_iinc (v := (v1 + r9) + 20) (lv' := [(1, .int ((v1 + r9) + 20)), (2, .int v3), (4, va_rf (zr ad 70 (μ 32 0 v3.toNatClampNeg))), (0, .ref (ad 30 0)), (3, .int v3)]) hC.1 hC.2.1 dX4_planCost_79 hl (k := 0) rfl rfl (by decide) rfl (fun ls hl => ?_)
          exact t_X4_planCost_82 (l := l) hC hr hk23 _ _ _ _ _ _ _ h hZ (lv_sub hl [3, 0, 1, 4] rfl)
      · have h := h.2 c5
        refine lv_goto (tgt := 82) hC.1 hC.2.1 dX4_planCost_42 (by decide) ?_
        exact t_X4_planCost_82 (l := l) hC hr hk23 _ _ _ _ _ _ _ h hZ (lv_sub hl [1, 2, 3, 4] rfl)
def w_X4_planCost (n np : Nat) (post : Int32 → Mem → Prop) (μ : Mem) : Prop := (w_X3_copy n np (fun (μ1 : Mem) => (∃ fuel : Nat, l_X4_planCost_23 n np post fuel (0 : Int32) (μ1 30 0 9) (μ1 30 0 9) μ1)) 1 0 μ)
set_option maxRecDepth 100000 in
set_option maxHeartbeats 4000000 in
theorem c_X4_planCost (l : Launch) {D : va_G} {ca : Nat → ClassId} {base : Nat} {ad : Nat → Nat → Nat} {n np : Nat} {μ : Mem} {post : Int32 → Mem → Prop} (h : w_X4_planCost n np post μ) : ZMet l yX4_planCost cX4_planCost 5 (some FieldType.int) ({ frames := 3, cells := 0, slots := 0, locals := 70 } : Room) 0 0 D ca base ad n np [.ref (ad 30 0)] μ (zpi post) := by
  unfold ZMet
  refine Met.ofW (cc := cX4_planCost) (maxL := 5) (ret := (some FieldType.int)) (by decide) rfl ?_
  intro p e s m args below meth c s₁ B hml hv
  obtain ⟨rfl, hU⟩ := hv
  have hZ := hU.toS
  have hC : ZC p m meth c s RX4 cX4_planCost 5 := ⟨B.exec, B.bytes, hml, findClass_of_methodNamed B.named, B.notSynchronized⟩
  have hr := B.returns
  have key : W p l e ({ frames := 3, cells := 0, slots := 0, locals := 70 } : Room) s m (([.ref (ad 30 0)] : List Value).toArray) below meth c s.heap [] 0 0 (MQ below (ZQ D ca base ad n np (zpi post)) (([.ref (ad 30 0)] : List Value).toArray) s 0 0 (zB base)) (entryFrame m (([.ref (ad 30 0)] : List Value).toArray) 5) := by
    have hl := lv_entry ([.ref (ad 30 0)]) (n := 5) (Nat.le_of_ble_eq_true rfl)
    rw [lg_entry_eq]
    generalize (lg_sl ([.ref (ad 30 0)]) ++ List.replicate (5 - (lg_sl ([.ref (ad 30 0)])).length) Slot.unset).toArray = ls at hl ⊢
    have hl : lv_has ls 5 [(0, .ref (ad 30 0))] := hl
    unfold w_X4_planCost at h
    refine lv_aload_n hC.1 hC.2.1 dX4_planCost_0 rfl (lv_at hl 0 rfl) ?_
    refine gX4_5 hC hZ kf_X4_35 dX4_planCost_1 ?_
    refine lv_aload_n hC.1 hC.2.1 dX4_planCost_4 rfl (lv_at hl 0 rfl) ?_
    refine gX4_4 hC hZ kf_X4_31 dX4_planCost_5 ?_
    refine z_cVv (As := [.ref (ad 40 0)]) hC hZ (zF_40 (by decide) _) rfl zy_X3_copy (c_X3_copy l h) km_X4_261 rfl ⟨rfl, rfl⟩ ⟨Nat.le_of_ble_eq_true rfl, Nat.le_of_ble_eq_true rfl⟩ hl.1 rfl (Nat.le_of_ble_eq_true rfl) dX4_planCost_8 ⟨Nat.le_of_ble_eq_true rfl, Nat.le_of_ble_eq_true rfl⟩ (fun μ1 H locs h hZ => ?_)
    refine lv_iconst (v := 0) hC.1 hC.2.1 dX4_planCost_11 (by decide) ?_
    refine lv_istore_n (lv' := [(1, .int 0), (0, .ref (ad 30 0))]) hC.1 hC.2.1 dX4_planCost_12 rfl hl (by decide) rfl (fun ls hl => ?_)
    refine lv_aload_n hC.1 hC.2.1 dX4_planCost_13 rfl (lv_at hl 1 rfl) ?_
    refine gX4_9 hC hZ kf_X4_52 dX4_planCost_14 ?_
    refine lv_istore_n (lv' := [(2, .int (μ1 30 0 9)), (1, .int 0), (0, .ref (ad 30 0))]) hC.1 hC.2.1 dX4_planCost_17 rfl hl (by decide) rfl (fun ls hl => ?_)
    refine lv_aload_n hC.1 hC.2.1 dX4_planCost_18 rfl (lv_at hl 2 rfl) ?_
    refine gX4_9 hC hZ kf_X4_52 dX4_planCost_19 ?_
    refine lv_istore_n (lv' := [(3, .int (μ1 30 0 9)), (2, .int (μ1 30 0 9)), (1, .int 0), (0, .ref (ad 30 0))]) hC.1 hC.2.1 dX4_planCost_22 rfl hl (by decide) rfl (fun ls hl => ?_)
    obtain ⟨fuel, h⟩ := h
    exact t_X4_planCost_23 (l := l) hC hr _ _ _ _ _ _ _ _ h hZ (lv_sub hl [3, 2, 1, 0] rfl)
  exact key
def b_X4_swap_28 (n np : Nat) (post : Int32 → Mem → Prop) (xpost : String → Mem → Prop) (a1 : Int32) (a2 : Int32) (μ : Mem) : Prop := xpost "java/lang/IllegalArgumentException" μ
set_option maxRecDepth 100000 in
set_option maxHeartbeats 4000000 in
theorem t_X4_swap_28 {p : Program} {l : Launch} {e : Env} {s : State} {m : MethodId} {args : Array Value} {below : List Frame} {meth : Method} {c : Code} {D : va_G} {ca : Nat → ClassId} {base : Nat} {ad : Nat → Nat → Nat} {n np : Nat} {post : Int32 → Mem → Prop} {xpost : String → Mem → Prop} (hC : ZC p m meth c s RX4 cX4_swap 3) (hnx : ∀ x ∈ c.exceptionTable.toList, False) (hst : l.stackTraces = false) (hr : meth.sig.returnType = (some FieldType.int)) (a1 : Int32) (a2 : Int32) (μ : Mem) (H : Heap) (locs : List Loc) (ls : Array Slot) (h : b_X4_swap_28 n np post xpost a1 a2 μ) (hZ : ZS D ca base ad n np μ s H locs) (hl : lv_has ls 3 []) : W p l e ({ frames := 6, cells := 1, slots := 6, locals := 94 } : Room) s m args below meth c H locs 0 0 (vx_MQ below (ZQ D ca base ad n np (zpi post)) (ZX D ca base ad n np xpost) args s 1 6 (zB base)) (F0 m 28 ls []) := by
  unfold b_X4_swap_28 at h
  exact z_throw_iae hC hnx hst hZ hl.1 zs_131 dX4_swap_28 dX4_swap_31 dX4_swap_32 dX4_swap_34 dX4_swap_37 (Nat.le_of_ble_eq_true rfl) (Nat.le_of_ble_eq_true rfl) (Nat.le_of_ble_eq_true rfl) (Nat.le_of_ble_eq_true rfl) (Nat.le_of_ble_eq_true rfl) (Nat.le_of_ble_eq_true rfl) h
def w_X4_swap (n np : Nat) (post : Int32 → Mem → Prop) (xpost : String → Mem → Prop) (a1 : Int32) (a2 : Int32) (μ : Mem) : Prop := ((a1 < (μ 30 0 9) → b_X4_swap_28 n np post xpost a1 a2 μ) ∧ (¬ a1 < (μ 30 0 9) → ((30 ≤ a1 → b_X4_swap_28 n np post xpost a1 a2 μ) ∧ (¬ 30 ≤ a1 → ((a2 < (μ 30 0 9) → b_X4_swap_28 n np post xpost a1 a2 μ) ∧ (¬ a2 < (μ 30 0 9) → ((a2 < 30 → (w_X4_swapDays n np (fun (μ5 : Mem) => (w_X4_planCost n np (fun (r8 : Int32) (μ7 : Mem) => post r8 μ7) μ5)) a1 a2 μ)) ∧ (¬ a2 < 30 → b_X4_swap_28 n np post xpost a1 a2 μ))))))))
set_option maxRecDepth 100000 in
set_option maxHeartbeats 4000000 in
theorem c_X4_swap (l : Launch) (hst : l.stackTraces = false) {D : va_G} {ca : Nat → ClassId} {base : Nat} {ad : Nat → Nat → Nat} {n np : Nat} {μ : Mem} {post : Int32 → Mem → Prop} {xpost : String → Mem → Prop} {a1 : Int32} {a2 : Int32} (h : w_X4_swap n np post xpost a1 a2 μ) : ZXMet l yX4_swap cX4_swap 3 (some FieldType.int) ({ frames := 6, cells := 1, slots := 6, locals := 94 } : Room) 1 6 D ca base ad n np [.ref (ad 30 0), .int a1, .int a2] μ (zpi post) xpost := by
  unfold ZXMet
  refine vx_ofW (cc := cX4_swap) (maxL := 3) (ret := (some FieldType.int)) (by decide) rfl ?_
  intro p e s m args below meth c s₁ B hml hnx hv
  obtain ⟨rfl, hU⟩ := hv
  have hZ := hU.toS
  have hC : ZC p m meth c s RX4 cX4_swap 3 := ⟨B.exec, B.bytes, hml, findClass_of_methodNamed B.named, B.notSynchronized⟩
  have hr := B.returns
  have key : W p l e ({ frames := 6, cells := 1, slots := 6, locals := 94 } : Room) s m (([.ref (ad 30 0), .int a1, .int a2] : List Value).toArray) below meth c s.heap [] 0 0 (vx_MQ below (ZQ D ca base ad n np (zpi post)) (ZX D ca base ad n np xpost) (([.ref (ad 30 0), .int a1, .int a2] : List Value).toArray) s 1 6 (zB base)) (entryFrame m (([.ref (ad 30 0), .int a1, .int a2] : List Value).toArray) 3) := by
    have hl := lv_entry ([.ref (ad 30 0), .int a1, .int a2]) (n := 3) (Nat.le_of_ble_eq_true rfl)
    rw [lg_entry_eq]
    generalize (lg_sl ([.ref (ad 30 0), .int a1, .int a2]) ++ List.replicate (3 - (lg_sl ([.ref (ad 30 0), .int a1, .int a2])).length) Slot.unset).toArray = ls at hl ⊢
    have hl : lv_has ls 3 [(0, .ref (ad 30 0)), (1, .int a1), (2, .int a2)] := hl
    unfold w_X4_swap at h
    refine lv_iload_n hC.1 hC.2.1 dX4_swap_0 rfl (lv_at hl 1 rfl) ?_
    refine lv_aload_n hC.1 hC.2.1 dX4_swap_1 rfl (lv_at hl 0 rfl) ?_
    refine gX4_9 hC hZ kf_X4_52 dX4_swap_2 ?_
    refine lv_icmp_lt (tgt := 28) hC.1 hC.2.1 dX4_swap_5 (by decide) (fun c1 => ?_) (fun c1 => ?_)
    · have h := h.1 c1
      exact t_X4_swap_28 (l := l) hC hnx hst hr _ _  _ _ _ _ h hZ (lv_sub hl [] rfl)
    · have h := h.2 c1
      refine lv_iload_n hC.1 hC.2.1 dX4_swap_8 rfl (lv_at hl 1 rfl) ?_
      refine lv_bipush (v := 30) hC.1 hC.2.1 dX4_swap_9 (by decide) ?_
      refine lv_icmp_ge (tgt := 28) hC.1 hC.2.1 dX4_swap_11 (by decide) (fun c2 => ?_) (fun c2 => ?_)
      · have h := h.1 c2
        exact t_X4_swap_28 (l := l) hC hnx hst hr _ _  _ _ _ _ h hZ (lv_sub hl [] rfl)
      · have h := h.2 c2
        refine lv_iload_n hC.1 hC.2.1 dX4_swap_14 rfl (lv_at hl 2 rfl) ?_
        refine lv_aload_n hC.1 hC.2.1 dX4_swap_15 rfl (lv_at hl 0 rfl) ?_
        refine gX4_9 hC hZ kf_X4_52 dX4_swap_16 ?_
        refine lv_icmp_lt (tgt := 28) hC.1 hC.2.1 dX4_swap_19 (by decide) (fun c3 => ?_) (fun c3 => ?_)
        · have h := h.1 c3
          exact t_X4_swap_28 (l := l) hC hnx hst hr _ _  _ _ _ _ h hZ (lv_sub hl [] rfl)
        · have h := h.2 c3
          refine lv_iload_n hC.1 hC.2.1 dX4_swap_22 rfl (lv_at hl 2 rfl) ?_
          refine lv_bipush (v := 30) hC.1 hC.2.1 dX4_swap_23 (by decide) ?_
          refine lv_icmp_lt (tgt := 38) hC.1 hC.2.1 dX4_swap_25 (by decide) (fun c4 => ?_) (fun c4 => ?_)
          · have h := h.1 c4
            refine lv_aload_n hC.1 hC.2.1 dX4_swap_38 rfl (lv_at hl 0 rfl) ?_
            refine lv_iload_n hC.1 hC.2.1 dX4_swap_39 rfl (lv_at hl 1 rfl) ?_
            refine lv_iload_n hC.1 hC.2.1 dX4_swap_40 rfl (lv_at hl 2 rfl) ?_
            refine z_cVv (As := [.int a1, .int a2]) hC hZ (zF_30 _) rfl zy_X4_swapDays (c_X4_swapDays l h) km_X4_133 rfl ⟨rfl, rfl⟩ ⟨Nat.le_of_ble_eq_true rfl, Nat.le_of_ble_eq_true rfl⟩ hl.1 rfl (Nat.le_of_ble_eq_true rfl) dX4_swap_41 ⟨Nat.le_of_ble_eq_true rfl, Nat.le_of_ble_eq_true rfl⟩ (fun μ5 H locs h hZ => ?_)
            refine lv_aload_n hC.1 hC.2.1 dX4_swap_44 rfl (lv_at hl 0 rfl) ?_
            refine z_cVi (As := []) hC hZ (zF_30 _) rfl zy_X4_planCost (c_X4_planCost l h) km_X4_137 rfl ⟨rfl, rfl⟩ ⟨Nat.le_of_ble_eq_true rfl, Nat.le_of_ble_eq_true rfl⟩ hl.1 rfl (Nat.le_of_ble_eq_true rfl) dX4_swap_45 ⟨Nat.le_of_ble_eq_true rfl, Nat.le_of_ble_eq_true rfl⟩ (fun r8 μ7 H locs h hZ => ?_)
            exact vx_ret (z_iret hC hr hZ h dX4_swap_48 (Nat.le_of_ble_eq_true rfl) (Nat.le_of_ble_eq_true rfl))
          · have h := h.2 c4
            exact t_X4_swap_28 (l := l) hC hnx hst hr _ _  _ _ _ _ h hZ (lv_sub hl [] rfl)
  exact key
def b_X4_permitNumbered_22 (n np : Nat) (post : Int32 → Mem → Prop) (xpost : String → Mem → Prop) (a1 : Int32) (μ : Mem) : Prop := xpost "java/lang/IndexOutOfBoundsException" μ
set_option maxRecDepth 100000 in
set_option maxHeartbeats 4000000 in
theorem t_X4_permitNumbered_22 {p : Program} {l : Launch} {e : Env} {s : State} {m : MethodId} {args : Array Value} {below : List Frame} {meth : Method} {c : Code} {D : va_G} {ca : Nat → ClassId} {base : Nat} {ad : Nat → Nat → Nat} {n np : Nat} {post : Int32 → Mem → Prop} {xpost : String → Mem → Prop} (hC : ZC p m meth c s RX4 cX4_permitNumbered 2) (hnx : ∀ x ∈ c.exceptionTable.toList, False) (hst : l.stackTraces = false) (hr : meth.sig.returnType = (some (FieldType.object "BacklotPlanner$Permit"))) (a1 : Int32) (μ : Mem) (H : Heap) (locs : List Loc) (ls : Array Slot) (h : b_X4_permitNumbered_22 n np post xpost a1 μ) (hZ : ZS D ca base ad n np μ s H locs) (hl : lv_has ls 2 []) : W p l e ({ frames := 6, cells := 1, slots := 6, locals := 82 } : Room) s m args below meth c H locs 0 0 (vx_MQ below (ZQ D ca base ad n np (zpr ad 80 post)) (ZX D ca base ad n np xpost) args s 1 6 (zB base)) (F0 m 22 ls []) := by
  unfold b_X4_permitNumbered_22 at h
  exact z_throw_ioo hC hnx hst hZ hl.1 zs_247 dX4_permitNumbered_22 dX4_permitNumbered_25 dX4_permitNumbered_26 dX4_permitNumbered_28 dX4_permitNumbered_31 (Nat.le_of_ble_eq_true rfl) (Nat.le_of_ble_eq_true rfl) (Nat.le_of_ble_eq_true rfl) (Nat.le_of_ble_eq_true rfl) (Nat.le_of_ble_eq_true rfl) (Nat.le_of_ble_eq_true rfl) h
def w_X4_permitNumbered (n np : Nat) (post : Int32 → Mem → Prop) (xpost : String → Mem → Prop) (a1 : Int32) (μ : Mem) : Prop := ((a1 < 0 → b_X4_permitNumbered_22 n np post xpost a1 μ) ∧ (¬ a1 < 0 → ((20 ≤ a1 → b_X4_permitNumbered_22 n np post xpost a1 μ) ∧ (¬ 20 ≤ a1 → (vp_in a1 20 ∧ ((¬ (μ 33 0 a1.toNatClampNeg) < 0 → post (μ 33 0 a1.toNatClampNeg) μ) ∧ ((μ 33 0 a1.toNatClampNeg) < 0 → b_X4_permitNumbered_22 n np post xpost a1 μ)))))))
set_option maxRecDepth 100000 in
set_option maxHeartbeats 4000000 in
theorem c_X4_permitNumbered (l : Launch) (hst : l.stackTraces = false) {D : va_G} {ca : Nat → ClassId} {base : Nat} {ad : Nat → Nat → Nat} {n np : Nat} {μ : Mem} {post : Int32 → Mem → Prop} {xpost : String → Mem → Prop} {a1 : Int32} (h : w_X4_permitNumbered n np post xpost a1 μ) : ZXMet l yX4_permitNumbered cX4_permitNumbered 2 (some (FieldType.object "BacklotPlanner$Permit")) ({ frames := 6, cells := 1, slots := 6, locals := 82 } : Room) 1 6 D ca base ad n np [.ref (ad 30 0), .int a1] μ (zpr ad 80 post) xpost := by
  unfold ZXMet
  refine vx_ofW (cc := cX4_permitNumbered) (maxL := 2) (ret := (some (FieldType.object "BacklotPlanner$Permit"))) (by decide) rfl ?_
  intro p e s m args below meth c s₁ B hml hnx hv
  obtain ⟨rfl, hU⟩ := hv
  have hZ := hU.toS
  have hC : ZC p m meth c s RX4 cX4_permitNumbered 2 := ⟨B.exec, B.bytes, hml, findClass_of_methodNamed B.named, B.notSynchronized⟩
  have hr := B.returns
  have key : W p l e ({ frames := 6, cells := 1, slots := 6, locals := 82 } : Room) s m (([.ref (ad 30 0), .int a1] : List Value).toArray) below meth c s.heap [] 0 0 (vx_MQ below (ZQ D ca base ad n np (zpr ad 80 post)) (ZX D ca base ad n np xpost) (([.ref (ad 30 0), .int a1] : List Value).toArray) s 1 6 (zB base)) (entryFrame m (([.ref (ad 30 0), .int a1] : List Value).toArray) 2) := by
    have hl := lv_entry ([.ref (ad 30 0), .int a1]) (n := 2) (Nat.le_of_ble_eq_true rfl)
    rw [lg_entry_eq]
    generalize (lg_sl ([.ref (ad 30 0), .int a1]) ++ List.replicate (2 - (lg_sl ([.ref (ad 30 0), .int a1])).length) Slot.unset).toArray = ls at hl ⊢
    have hl : lv_has ls 2 [(0, .ref (ad 30 0)), (1, .int a1)] := hl
    unfold w_X4_permitNumbered at h
    refine lv_iload_n hC.1 hC.2.1 dX4_permitNumbered_0 rfl (lv_at hl 1 rfl) ?_
    refine lv_if_lt (tgt := 22) hC.1 hC.2.1 dX4_permitNumbered_1 (by decide) (fun c1 => ?_) (fun c1 => ?_)
    · have h := h.1 c1
      exact t_X4_permitNumbered_22 (l := l) hC hnx hst hr _  _ _ _ _ h hZ (lv_sub hl [] rfl)
    · have h := h.2 c1
      refine lv_iload_n hC.1 hC.2.1 dX4_permitNumbered_4 rfl (lv_at hl 1 rfl) ?_
      refine lv_aload_n hC.1 hC.2.1 dX4_permitNumbered_5 rfl (lv_at hl 0 rfl) ?_
      refine gX4_2 hC hZ kf_X4_20 dX4_permitNumbered_6 ?_
      refine aN_33 hC hZ dX4_permitNumbered_9 ?_
      refine lv_icmp_ge (tgt := 22) hC.1 hC.2.1 dX4_permitNumbered_10 (by decide) (fun c2 => ?_) (fun c2 => ?_)
      · have h := h.1 c2
        exact t_X4_permitNumbered_22 (l := l) hC hnx hst hr _  _ _ _ _ h hZ (lv_sub hl [] rfl)
      · have h := h.2 c2
        refine lv_aload_n hC.1 hC.2.1 dX4_permitNumbered_13 rfl (lv_at hl 0 rfl) ?_
        refine gX4_2 hC hZ kf_X4_20 dX4_permitNumbered_14 ?_
        refine lv_iload_n hC.1 hC.2.1 dX4_permitNumbered_17 rfl (lv_at hl 1 rfl) ?_
        obtain ⟨q3, h⟩ := h
        refine aL_33 hC hZ q3 dX4_permitNumbered_18 ?_
        refine z_ifnonnullq (tgt := 32) hC dX4_permitNumbered_19 (by decide) (fun c4 => ?_) (fun c4 => ?_)
        · have h := h.1 c4
          refine lv_aload_n hC.1 hC.2.1 dX4_permitNumbered_32 rfl (lv_at hl 0 rfl) ?_
          refine gX4_2 hC hZ kf_X4_20 dX4_permitNumbered_33 ?_
          refine lv_iload_n hC.1 hC.2.1 dX4_permitNumbered_36 rfl (lv_at hl 1 rfl) ?_
          refine aL_33 hC hZ q3 dX4_permitNumbered_37 ?_
          exact vx_ret (z_aret hC hr (Or.inl ⟨_, rfl⟩) hZ h dX4_permitNumbered_38 (Nat.le_of_ble_eq_true rfl) (Nat.le_of_ble_eq_true rfl))
        · have h := h.2 c4
          exact t_X4_permitNumbered_22 (l := l) hC hnx hst hr _  _ _ _ _ h hZ (lv_sub hl [] rfl)
  exact key
def w_X4_isFree (n np : Nat) (post : Int32 → Mem → Prop) (a1 : Int32) (a2 : Int32) (μ : Mem) : Prop := ((a1 < 0 → post 1 μ) ∧ (¬ a1 < 0 → (w_X4_allows n np (fun (r3 : Int32) (μ2 : Mem) => ((r3 = 0 → post 0 μ2) ∧ (¬ r3 = 0 → post 1 μ2))) a1.toNatClampNeg a2 μ)))
set_option maxRecDepth 100000 in
set_option maxHeartbeats 4000000 in
theorem c_X4_isFree (l : Launch) {D : va_G} {ca : Nat → ClassId} {base : Nat} {ad : Nat → Nat → Nat} {n np : Nat} {μ : Mem} {post : Int32 → Mem → Prop} {a1 : Int32} {a2 : Int32} (h : w_X4_isFree n np post a1 a2 μ) : ZMet l yX4_isFree cX4_isFree 3 (some FieldType.boolean) ({ frames := 3, cells := 0, slots := 0, locals := 70 } : Room) 0 0 D ca base ad n np [.ref (ad 30 0), va_rf (zr ad 70 a1), .int a2] μ (zpi post) := by
  unfold ZMet
  refine Met.ofW (cc := cX4_isFree) (maxL := 3) (ret := (some FieldType.boolean)) (by decide) rfl ?_
  intro p e s m args below meth c s₁ B hml hv
  obtain ⟨rfl, hU⟩ := hv
  have hZ := hU.toS
  have hC : ZC p m meth c s RX4 cX4_isFree 3 := ⟨B.exec, B.bytes, hml, findClass_of_methodNamed B.named, B.notSynchronized⟩
  have hr := B.returns
  have key : W p l e ({ frames := 3, cells := 0, slots := 0, locals := 70 } : Room) s m (([.ref (ad 30 0), va_rf (zr ad 70 a1), .int a2] : List Value).toArray) below meth c s.heap [] 0 0 (MQ below (ZQ D ca base ad n np (zpi post)) (([.ref (ad 30 0), va_rf (zr ad 70 a1), .int a2] : List Value).toArray) s 0 0 (zB base)) (entryFrame m (([.ref (ad 30 0), va_rf (zr ad 70 a1), .int a2] : List Value).toArray) 3) := by
    obtain ⟨ls, hls, hl⟩ : ∃ ls : Array Slot, entryFrame m ([.ref (ad 30 0), va_rf (zr ad 70 a1), .int a2]).toArray 3 = F0 m 0 ls [] ∧ lv_has ls 3 [(0, .ref (ad 30 0)), (1, va_rf (zr ad 70 a1)), (2, .int a2)] := by
      cases zr ad 70 a1 with
      | none => exact ⟨_, lg_entry_eq m ([.ref (ad 30 0), .null, .int a2]) 3, lv_entry ([.ref (ad 30 0), .null, .int a2]) (n := 3) (Nat.le_of_ble_eq_true rfl)⟩
      | some a => exact ⟨_, lg_entry_eq m ([.ref (ad 30 0), .ref a, .int a2]) 3, lv_entry ([.ref (ad 30 0), .ref a, .int a2]) (n := 3) (Nat.le_of_ble_eq_true rfl)⟩
    rw [hls]
    unfold w_X4_isFree at h
    refine z_aload_nq hC dX4_isFree_0 rfl (lv_at hl 1 rfl) ?_
    refine z_ifnullq (tgt := 13) hC dX4_isFree_1 (by decide) (fun c1 => ?_) (fun c1 => ?_)
    · have h := h.1 c1
      refine lv_iconst (v := 1) hC.1 hC.2.1 dX4_isFree_13 (by decide) ?_
      refine lv_goto (tgt := 18) hC.1 hC.2.1 dX4_isFree_14 (by decide) ?_
      exact z_bret hC hr hZ (by decide) h dX4_isFree_18 (Nat.le_of_ble_eq_true rfl) (Nat.le_of_ble_eq_true rfl)
    · have h := h.2 c1
      refine lv_aload_n hC.1 hC.2.1 dX4_isFree_4 rfl (lv_at hl 0 rfl) ?_
      refine z_aload_nq hC dX4_isFree_5 rfl (lv_at hl 1 rfl) ?_
      refine lv_iload_n hC.1 hC.2.1 dX4_isFree_6 rfl (lv_at hl 2 rfl) ?_
      refine z_df1 c1 ?_
      refine z_cVi (As := [.ref (ad 70 a1.toNatClampNeg), .int a2]) hC hZ (zF_30 _) rfl zy_X4_allows (c_X4_allows l h) km_X4_183 rfl ⟨rfl, rfl⟩ ⟨Nat.le_of_ble_eq_true rfl, Nat.le_of_ble_eq_true rfl⟩ hl.1 rfl (Nat.le_of_ble_eq_true rfl) dX4_isFree_7 ⟨Nat.le_of_ble_eq_true rfl, Nat.le_of_ble_eq_true rfl⟩ (fun r3 μ2 H locs h hZ => ?_)
      refine lv_if_eq (tgt := 17) hC.1 hC.2.1 dX4_isFree_10 (by decide) (fun c4 => ?_) (fun c4 => ?_)
      · have h := h.1 c4
        refine lv_iconst (v := 0) hC.1 hC.2.1 dX4_isFree_17 (by decide) ?_
        exact z_bret hC hr hZ (by decide) h dX4_isFree_18 (Nat.le_of_ble_eq_true rfl) (Nat.le_of_ble_eq_true rfl)
      · have h := h.2 c4
        refine lv_iconst (v := 1) hC.1 hC.2.1 dX4_isFree_13 (by decide) ?_
        refine lv_goto (tgt := 18) hC.1 hC.2.1 dX4_isFree_14 (by decide) ?_
        exact z_bret hC hr hZ (by decide) h dX4_isFree_18 (Nat.le_of_ble_eq_true rfl) (Nat.le_of_ble_eq_true rfl)
  exact key
def w_X4_isRefusedOn (n np : Nat) (post : Int32 → Mem → Prop) (a1 : Int32) (μ : Mem) : Prop := (vp_in a1 30 ∧ (w_X4_isFree n np (fun (r3 : Int32) (μ2 : Mem) => ((¬ r3 = 0 → post 0 μ2) ∧ (r3 = 0 → post 1 μ2))) (μ 32 0 a1.toNatClampNeg) a1 μ))
set_option maxRecDepth 100000 in
set_option maxHeartbeats 4000000 in
theorem c_X4_isRefusedOn (l : Launch) {D : va_G} {ca : Nat → ClassId} {base : Nat} {ad : Nat → Nat → Nat} {n np : Nat} {μ : Mem} {post : Int32 → Mem → Prop} {a1 : Int32} (h : w_X4_isRefusedOn n np post a1 μ) : ZMet l yX4_isRefusedOn cX4_isRefusedOn 2 (some FieldType.boolean) ({ frames := 4, cells := 0, slots := 0, locals := 92 } : Room) 0 0 D ca base ad n np [.ref (ad 30 0), .int a1] μ (zpi post) := by
  unfold ZMet
  refine Met.ofW (cc := cX4_isRefusedOn) (maxL := 2) (ret := (some FieldType.boolean)) (by decide) rfl ?_
  intro p e s m args below meth c s₁ B hml hv
  obtain ⟨rfl, hU⟩ := hv
  have hZ := hU.toS
  have hC : ZC p m meth c s RX4 cX4_isRefusedOn 2 := ⟨B.exec, B.bytes, hml, findClass_of_methodNamed B.named, B.notSynchronized⟩
  have hr := B.returns
  have key : W p l e ({ frames := 4, cells := 0, slots := 0, locals := 92 } : Room) s m (([.ref (ad 30 0), .int a1] : List Value).toArray) below meth c s.heap [] 0 0 (MQ below (ZQ D ca base ad n np (zpi post)) (([.ref (ad 30 0), .int a1] : List Value).toArray) s 0 0 (zB base)) (entryFrame m (([.ref (ad 30 0), .int a1] : List Value).toArray) 2) := by
    have hl := lv_entry ([.ref (ad 30 0), .int a1]) (n := 2) (Nat.le_of_ble_eq_true rfl)
    rw [lg_entry_eq]
    generalize (lg_sl ([.ref (ad 30 0), .int a1]) ++ List.replicate (2 - (lg_sl ([.ref (ad 30 0), .int a1])).length) Slot.unset).toArray = ls at hl ⊢
    have hl : lv_has ls 2 [(0, .ref (ad 30 0)), (1, .int a1)] := hl
    unfold w_X4_isRefusedOn at h
    refine lv_aload_n hC.1 hC.2.1 dX4_isRefusedOn_0 rfl (lv_at hl 0 rfl) ?_
    refine lv_aload_n hC.1 hC.2.1 dX4_isRefusedOn_1 rfl (lv_at hl 0 rfl) ?_
    refine gX4_1 hC hZ kf_X4_15 dX4_isRefusedOn_2 ?_
    refine lv_iload_n hC.1 hC.2.1 dX4_isRefusedOn_5 rfl (lv_at hl 1 rfl) ?_
    obtain ⟨q1, h⟩ := h
    refine aL_32 hC hZ q1 dX4_isRefusedOn_6 ?_
    refine lv_iload_n hC.1 hC.2.1 dX4_isRefusedOn_7 rfl (lv_at hl 1 rfl) ?_
    refine z_cVi (As := [va_rf (zr ad 70 (μ 32 0 a1.toNatClampNeg)), .int a1]) hC hZ (zF_30 _) rfl zy_X4_isFree (c_X4_isFree l h) km_X4_271 rfl ⟨rfl, rfl⟩ ⟨Nat.le_of_ble_eq_true rfl, Nat.le_of_ble_eq_true rfl⟩ hl.1 rfl (Nat.le_of_ble_eq_true rfl) dX4_isRefusedOn_8 ⟨Nat.le_of_ble_eq_true rfl, Nat.le_of_ble_eq_true rfl⟩ (fun r3 μ2 H locs h hZ => ?_)
    refine lv_if_ne (tgt := 18) hC.1 hC.2.1 dX4_isRefusedOn_11 (by decide) (fun c4 => ?_) (fun c4 => ?_)
    · have h := h.1 c4
      refine lv_iconst (v := 0) hC.1 hC.2.1 dX4_isRefusedOn_18 (by decide) ?_
      exact z_bret hC hr hZ (by decide) h dX4_isRefusedOn_19 (Nat.le_of_ble_eq_true rfl) (Nat.le_of_ble_eq_true rfl)
    · have h := h.2 c4
      refine lv_iconst (v := 1) hC.1 hC.2.1 dX4_isRefusedOn_14 (by decide) ?_
      refine lv_goto (tgt := 19) hC.1 hC.2.1 dX4_isRefusedOn_15 (by decide) ?_
      exact z_bret hC hr hZ (by decide) h dX4_isRefusedOn_19 (Nat.le_of_ble_eq_true rfl) (Nat.le_of_ble_eq_true rfl)
  exact key
