def w_X5_thrown (post : Int32 → Mem → Prop) (μ : Mem) : Prop := post (μ 0 0 25) μ
set_option maxRecDepth 100000 in
set_option maxHeartbeats 4000000 in
theorem c_X5_thrown (l : Launch) {D : va_G} {ca : Nat → ClassId} {base : Nat} {ad : Nat → Nat → Nat} {n np : Nat} {μ : Mem} {post : Int32 → Mem → Prop} (h : w_X5_thrown post μ) : ZMet l yX5_thrown cX5_thrown 1 (some FieldType.int) ({ frames := 0, cells := 0, slots := 0, locals := 0 } : Room) 0 0 D ca base ad n np [.ref (ad 0 0)] μ (zpi post) := by
  unfold ZMet
  refine Met.ofW (cc := cX5_thrown) (maxL := 1) (ret := (some FieldType.int)) (by decide) rfl ?_
  intro p e s m args below meth c s₁ B hml hv
  obtain ⟨rfl, hU⟩ := hv
  have hZ := hU.toS
  have hC : ZC p m meth c s RX5 cX5_thrown 1 := ⟨B.exec, B.bytes, hml, findClass_of_methodNamed B.named, B.notSynchronized⟩
  have hr := B.returns
  have key : W p l e ({ frames := 0, cells := 0, slots := 0, locals := 0 } : Room) s m (([.ref (ad 0 0)] : List Value).toArray) below meth c s.heap [] 0 0 (MQ below (ZQ D ca base ad n np (zpi post)) (([.ref (ad 0 0)] : List Value).toArray) s 0 0 (zB base)) (entryFrame m (([.ref (ad 0 0)] : List Value).toArray) 1) := by
    have hl := lv_entry ([.ref (ad 0 0)]) (n := 1) (Nat.le_of_ble_eq_true rfl)
    rw [lg_entry_eq]
    generalize (lg_sl ([.ref (ad 0 0)]) ++ List.replicate (1 - (lg_sl ([.ref (ad 0 0)])).length) Slot.unset).toArray = ls at hl ⊢
    have hl : lv_has ls 1 [(0, .ref (ad 0 0))] := hl
    unfold w_X5_thrown at h
    refine lv_aload_n hC.1 hC.2.1 dX5_thrown_0 rfl (lv_at hl 0 rfl) ?_
    refine gX5_25 hC hZ kf_X5_75 dX5_thrown_1 ?_
    exact z_iret hC hr hZ h dX5_thrown_4 (Nat.le_of_ble_eq_true rfl) (Nat.le_of_ble_eq_true rfl)
  exact key
def w_X5_in (post : Int32 → Mem → Prop) (a1 : Int32) (a2 : Int32) (a3 : Int32) (μ : Mem) : Prop := ((a1 < a2 → post 0 μ) ∧ (¬ a1 < a2 → ((a3 < a1 → post 0 μ) ∧ (¬ a3 < a1 → post 1 μ))))
set_option maxRecDepth 100000 in
set_option maxHeartbeats 4000000 in
theorem c_X5_in (l : Launch) {D : va_G} {ca : Nat → ClassId} {base : Nat} {ad : Nat → Nat → Nat} {n np : Nat} {μ : Mem} {post : Int32 → Mem → Prop} {a1 : Int32} {a2 : Int32} {a3 : Int32} (h : w_X5_in post a1 a2 a3 μ) : ZMet l yX5_in cX5_in 3 (some FieldType.boolean) ({ frames := 0, cells := 0, slots := 0, locals := 0 } : Room) 0 0 D ca base ad n np [.int a1, .int a2, .int a3] μ (zpi post) := by
  unfold ZMet
  refine Met.ofW (cc := cX5_in) (maxL := 3) (ret := (some FieldType.boolean)) (by decide) rfl ?_
  intro p e s m args below meth c s₁ B hml hv
  obtain ⟨rfl, hU⟩ := hv
  have hZ := hU.toS
  have hC : ZC p m meth c s RX5 cX5_in 3 := ⟨B.exec, B.bytes, hml, findClass_of_methodNamed B.named, B.notSynchronized⟩
  have hr := B.returns
  have key : W p l e ({ frames := 0, cells := 0, slots := 0, locals := 0 } : Room) s m (([.int a1, .int a2, .int a3] : List Value).toArray) below meth c s.heap [] 0 0 (MQ below (ZQ D ca base ad n np (zpi post)) (([.int a1, .int a2, .int a3] : List Value).toArray) s 0 0 (zB base)) (entryFrame m (([.int a1, .int a2, .int a3] : List Value).toArray) 3) := by
    have hl := lv_entry ([.int a1, .int a2, .int a3]) (n := 3) (Nat.le_of_ble_eq_true rfl)
    rw [lg_entry_eq]
    generalize (lg_sl ([.int a1, .int a2, .int a3]) ++ List.replicate (3 - (lg_sl ([.int a1, .int a2, .int a3])).length) Slot.unset).toArray = ls at hl ⊢
    have hl : lv_has ls 3 [(0, .int a1), (1, .int a2), (2, .int a3)] := hl
    unfold w_X5_in at h
    refine lv_iload_n hC.1 hC.2.1 dX5_in_0 rfl (lv_at hl 0 rfl) ?_
    refine lv_iload_n hC.1 hC.2.1 dX5_in_1 rfl (lv_at hl 1 rfl) ?_
    refine lv_icmp_lt (tgt := 14) hC.1 hC.2.1 dX5_in_2 (by decide) (fun c1 => ?_) (fun c1 => ?_)
    · have h := h.1 c1
      refine lv_iconst (v := 0) hC.1 hC.2.1 dX5_in_14 (by decide) ?_
      exact z_bret hC hr hZ (by decide) h dX5_in_15 (Nat.le_of_ble_eq_true rfl) (Nat.le_of_ble_eq_true rfl)
    · have h := h.2 c1
      refine lv_iload_n hC.1 hC.2.1 dX5_in_5 rfl (lv_at hl 0 rfl) ?_
      refine lv_iload_n hC.1 hC.2.1 dX5_in_6 rfl (lv_at hl 2 rfl) ?_
      refine lv_icmp_gt (tgt := 14) hC.1 hC.2.1 dX5_in_7 (by decide) (fun c2 => ?_) (fun c2 => ?_)
      · have h := h.1 c2
        refine lv_iconst (v := 0) hC.1 hC.2.1 dX5_in_14 (by decide) ?_
        exact z_bret hC hr hZ (by decide) h dX5_in_15 (Nat.le_of_ble_eq_true rfl) (Nat.le_of_ble_eq_true rfl)
      · have h := h.2 c2
        refine lv_iconst (v := 1) hC.1 hC.2.1 dX5_in_10 (by decide) ?_
        refine lv_goto (tgt := 15) hC.1 hC.2.1 dX5_in_11 (by decide) ?_
        exact z_bret hC hr hZ (by decide) h dX5_in_15 (Nat.le_of_ble_eq_true rfl) (Nat.le_of_ble_eq_true rfl)
  exact key
def b_X5_goes_26 (post : Int32 → Mem → Prop) (a1 : Int32) (a2 : Int32) (a3 : Int32) (s1 : Int32) (μ : Mem) : Prop := (∀ μ4 : Mem, μ4 = zst μ 0 0 25 s1 → ((¬ (μ4 0 0 25) = 0 → post 0 μ4) ∧ ((μ4 0 0 25) = 0 → post 1 μ4)))
set_option maxRecDepth 100000 in
set_option maxHeartbeats 4000000 in
theorem t_X5_goes_26 {p : Program} {l : Launch} {e : Env} {s : State} {m : MethodId} {args : Array Value} {below : List Frame} {meth : Method} {c : Code} {D : va_G} {ca : Nat → ClassId} {base : Nat} {ad : Nat → Nat → Nat} {n np : Nat} {post : Int32 → Mem → Prop} (hC : ZC p m meth c s RX5 cX5_goes 4) (hr : meth.sig.returnType = (some FieldType.boolean)) (a1 : Int32) (a2 : Int32) (a3 : Int32) (s1 : Int32) (μ : Mem) (H : Heap) (locs : List Loc) (ls : Array Slot) (h : b_X5_goes_26 post a1 a2 a3 s1 μ) (hZ : ZS D ca base ad n np μ s H locs) (hl : lv_has ls 4 [(0, .ref (ad 0 0))]) : W p l e ({ frames := 0, cells := 0, slots := 0, locals := 0 } : Room) s m args below meth c H locs 0 0 (MQ below (ZQ D ca base ad n np (zpi post)) args s 0 0 (zB base)) (F0 m 26 ls [.int s1, .ref (ad 0 0)]) := by
  unfold b_X5_goes_26 at h
  refine pX5_25 hC hZ kf_X5_75 dX5_goes_26 (fun μ4 H locs eμ4 hZ => ?_)
  have h := h μ4 eμ4
  refine lv_aload_n hC.1 hC.2.1 dX5_goes_29 rfl (lv_at hl 0 rfl) ?_
  refine gX5_25 hC hZ kf_X5_75 dX5_goes_30 ?_
  refine lv_if_ne (tgt := 40) hC.1 hC.2.1 dX5_goes_33 (by decide) (fun c5 => ?_) (fun c5 => ?_)
  · have h := h.1 c5
    refine lv_iconst (v := 0) hC.1 hC.2.1 dX5_goes_40 (by decide) ?_
    exact z_bret hC hr hZ (by decide) h dX5_goes_41 (Nat.le_of_ble_eq_true rfl) (Nat.le_of_ble_eq_true rfl)
  · have h := h.2 c5
    refine lv_iconst (v := 1) hC.1 hC.2.1 dX5_goes_36 (by decide) ?_
    refine lv_goto (tgt := 41) hC.1 hC.2.1 dX5_goes_37 (by decide) ?_
    exact z_bret hC hr hZ (by decide) h dX5_goes_41 (Nat.le_of_ble_eq_true rfl) (Nat.le_of_ble_eq_true rfl)
def w_X5_goes (post : Int32 → Mem → Prop) (a1 : Int32) (a2 : Int32) (a3 : Int32) (μ : Mem) : Prop := ((¬ a1 = 0 → ((¬ a2 = 0 → ((¬ a3 = 0 → b_X5_goes_26 post a1 a2 a3 (0 : Int32) μ) ∧ (a3 = 0 → b_X5_goes_26 post a1 a2 a3 (3 : Int32) μ))) ∧ (a2 = 0 → b_X5_goes_26 post a1 a2 a3 (2 : Int32) μ))) ∧ (a1 = 0 → b_X5_goes_26 post a1 a2 a3 (1 : Int32) μ))
set_option maxRecDepth 100000 in
set_option maxHeartbeats 4000000 in
theorem c_X5_goes (l : Launch) {D : va_G} {ca : Nat → ClassId} {base : Nat} {ad : Nat → Nat → Nat} {n np : Nat} {μ : Mem} {post : Int32 → Mem → Prop} {a1 : Int32} {a2 : Int32} {a3 : Int32} (h : w_X5_goes post a1 a2 a3 μ) : ZMet l yX5_goes cX5_goes 4 (some FieldType.boolean) ({ frames := 0, cells := 0, slots := 0, locals := 0 } : Room) 0 0 D ca base ad n np [.ref (ad 0 0), .int a1, .int a2, .int a3] μ (zpi post) := by
  unfold ZMet
  refine Met.ofW (cc := cX5_goes) (maxL := 4) (ret := (some FieldType.boolean)) (by decide) rfl ?_
  intro p e s m args below meth c s₁ B hml hv
  obtain ⟨rfl, hU⟩ := hv
  have hZ := hU.toS
  have hC : ZC p m meth c s RX5 cX5_goes 4 := ⟨B.exec, B.bytes, hml, findClass_of_methodNamed B.named, B.notSynchronized⟩
  have hr := B.returns
  have key : W p l e ({ frames := 0, cells := 0, slots := 0, locals := 0 } : Room) s m (([.ref (ad 0 0), .int a1, .int a2, .int a3] : List Value).toArray) below meth c s.heap [] 0 0 (MQ below (ZQ D ca base ad n np (zpi post)) (([.ref (ad 0 0), .int a1, .int a2, .int a3] : List Value).toArray) s 0 0 (zB base)) (entryFrame m (([.ref (ad 0 0), .int a1, .int a2, .int a3] : List Value).toArray) 4) := by
    have hl := lv_entry ([.ref (ad 0 0), .int a1, .int a2, .int a3]) (n := 4) (Nat.le_of_ble_eq_true rfl)
    rw [lg_entry_eq]
    generalize (lg_sl ([.ref (ad 0 0), .int a1, .int a2, .int a3]) ++ List.replicate (4 - (lg_sl ([.ref (ad 0 0), .int a1, .int a2, .int a3])).length) Slot.unset).toArray = ls at hl ⊢
    have hl : lv_has ls 4 [(0, .ref (ad 0 0)), (1, .int a1), (2, .int a2), (3, .int a3)] := hl
    unfold w_X5_goes at h
    refine lv_aload_n hC.1 hC.2.1 dX5_goes_0 rfl (lv_at hl 0 rfl) ?_
    refine lv_iload_n hC.1 hC.2.1 dX5_goes_1 rfl (lv_at hl 1 rfl) ?_
    refine lv_if_ne (tgt := 9) hC.1 hC.2.1 dX5_goes_2 (by decide) (fun c1 => ?_) (fun c1 => ?_)
    · have h := h.1 c1
      refine lv_iload_n hC.1 hC.2.1 dX5_goes_9 rfl (lv_at hl 2 rfl) ?_
      refine lv_if_ne (tgt := 17) hC.1 hC.2.1 dX5_goes_10 (by decide) (fun c2 => ?_) (fun c2 => ?_)
      · have h := h.1 c2
        refine lv_iload_n hC.1 hC.2.1 dX5_goes_17 rfl (lv_at hl 3 rfl) ?_
        refine lv_if_ne (tgt := 25) hC.1 hC.2.1 dX5_goes_18 (by decide) (fun c3 => ?_) (fun c3 => ?_)
        · have h := h.1 c3
          refine lv_iconst (v := 0) hC.1 hC.2.1 dX5_goes_25 (by decide) ?_
          exact t_X5_goes_26 (l := l) hC hr _ _ _ _ _ _ _ _ h hZ (lv_sub hl [0] rfl)
        · have h := h.2 c3
          refine lv_iconst (v := 3) hC.1 hC.2.1 dX5_goes_21 (by decide) ?_
          refine lv_goto (tgt := 26) hC.1 hC.2.1 dX5_goes_22 (by decide) ?_
          exact t_X5_goes_26 (l := l) hC hr _ _ _ _ _ _ _ _ h hZ (lv_sub hl [0] rfl)
      · have h := h.2 c2
        refine lv_iconst (v := 2) hC.1 hC.2.1 dX5_goes_13 (by decide) ?_
        refine lv_goto (tgt := 26) hC.1 hC.2.1 dX5_goes_14 (by decide) ?_
        exact t_X5_goes_26 (l := l) hC hr _ _ _ _ _ _ _ _ h hZ (lv_sub hl [0] rfl)
    · have h := h.2 c1
      refine lv_iconst (v := 1) hC.1 hC.2.1 dX5_goes_5 (by decide) ?_
      refine lv_goto (tgt := 26) hC.1 hC.2.1 dX5_goes_6 (by decide) ?_
      exact t_X5_goes_26 (l := l) hC hr _ _ _ _ _ _ _ _ h hZ (lv_sub hl [0] rfl)
  exact key
def w_X5_told (post : Int32 → Mem → Prop) (a1 : Int32) (μ : Mem) : Prop := (∀ μ1 : Mem, μ1 = zst μ 0 0 25 0 → post a1 μ1)
set_option maxRecDepth 100000 in
set_option maxHeartbeats 4000000 in
theorem c_X5_told (l : Launch) {D : va_G} {ca : Nat → ClassId} {base : Nat} {ad : Nat → Nat → Nat} {n np : Nat} {μ : Mem} {post : Int32 → Mem → Prop} {a1 : Int32} (h : w_X5_told post a1 μ) : ZMet l yX5_told cX5_told 2 (some FieldType.int) ({ frames := 0, cells := 0, slots := 0, locals := 0 } : Room) 0 0 D ca base ad n np [.ref (ad 0 0), .int a1] μ (zpi post) := by
  unfold ZMet
  refine Met.ofW (cc := cX5_told) (maxL := 2) (ret := (some FieldType.int)) (by decide) rfl ?_
  intro p e s m args below meth c s₁ B hml hv
  obtain ⟨rfl, hU⟩ := hv
  have hZ := hU.toS
  have hC : ZC p m meth c s RX5 cX5_told 2 := ⟨B.exec, B.bytes, hml, findClass_of_methodNamed B.named, B.notSynchronized⟩
  have hr := B.returns
  have key : W p l e ({ frames := 0, cells := 0, slots := 0, locals := 0 } : Room) s m (([.ref (ad 0 0), .int a1] : List Value).toArray) below meth c s.heap [] 0 0 (MQ below (ZQ D ca base ad n np (zpi post)) (([.ref (ad 0 0), .int a1] : List Value).toArray) s 0 0 (zB base)) (entryFrame m (([.ref (ad 0 0), .int a1] : List Value).toArray) 2) := by
    have hl := lv_entry ([.ref (ad 0 0), .int a1]) (n := 2) (Nat.le_of_ble_eq_true rfl)
    rw [lg_entry_eq]
    generalize (lg_sl ([.ref (ad 0 0), .int a1]) ++ List.replicate (2 - (lg_sl ([.ref (ad 0 0), .int a1])).length) Slot.unset).toArray = ls at hl ⊢
    have hl : lv_has ls 2 [(0, .ref (ad 0 0)), (1, .int a1)] := hl
    unfold w_X5_told at h
    refine lv_aload_n hC.1 hC.2.1 dX5_told_0 rfl (lv_at hl 0 rfl) ?_
    refine lv_iconst (v := 0) hC.1 hC.2.1 dX5_told_1 (by decide) ?_
    refine pX5_25 hC hZ kf_X5_75 dX5_told_2 (fun μ1 H locs eμ1 hZ => ?_)
    have h := h μ1 eμ1
    refine lv_iload_n hC.1 hC.2.1 dX5_told_5 rfl (lv_at hl 1 rfl) ?_
    exact z_iret hC hr hZ h dX5_told_6 (Nat.le_of_ble_eq_true rfl) (Nat.le_of_ble_eq_true rfl)
  exact key
def w_X5_isScene (post : Int32 → Mem → Prop) (a1 : Int32) (μ : Mem) : Prop := (w_X5_in (fun (r2 : Int32) (μ1 : Mem) => ((r2 = 0 ∨ r2 = 1) ∧ post r2 μ1)) a1 (0 : Int32) ((μ 0 0 3) - 1) μ)
set_option maxRecDepth 100000 in
set_option maxHeartbeats 4000000 in
theorem c_X5_isScene (l : Launch) {D : va_G} {ca : Nat → ClassId} {base : Nat} {ad : Nat → Nat → Nat} {n np : Nat} {μ : Mem} {post : Int32 → Mem → Prop} {a1 : Int32} (h : w_X5_isScene post a1 μ) : ZMet l yX5_isScene cX5_isScene 2 (some FieldType.boolean) ({ frames := 1, cells := 0, slots := 0, locals := 22 } : Room) 0 0 D ca base ad n np [.ref (ad 0 0), .int a1] μ (zpi post) := by
  unfold ZMet
  refine Met.ofW (cc := cX5_isScene) (maxL := 2) (ret := (some FieldType.boolean)) (by decide) rfl ?_
  intro p e s m args below meth c s₁ B hml hv
  obtain ⟨rfl, hU⟩ := hv
  have hZ := hU.toS
  have hC : ZC p m meth c s RX5 cX5_isScene 2 := ⟨B.exec, B.bytes, hml, findClass_of_methodNamed B.named, B.notSynchronized⟩
  have hr := B.returns
  have key : W p l e ({ frames := 1, cells := 0, slots := 0, locals := 22 } : Room) s m (([.ref (ad 0 0), .int a1] : List Value).toArray) below meth c s.heap [] 0 0 (MQ below (ZQ D ca base ad n np (zpi post)) (([.ref (ad 0 0), .int a1] : List Value).toArray) s 0 0 (zB base)) (entryFrame m (([.ref (ad 0 0), .int a1] : List Value).toArray) 2) := by
    have hl := lv_entry ([.ref (ad 0 0), .int a1]) (n := 2) (Nat.le_of_ble_eq_true rfl)
    rw [lg_entry_eq]
    generalize (lg_sl ([.ref (ad 0 0), .int a1]) ++ List.replicate (2 - (lg_sl ([.ref (ad 0 0), .int a1])).length) Slot.unset).toArray = ls at hl ⊢
    have hl : lv_has ls 2 [(0, .ref (ad 0 0)), (1, .int a1)] := hl
    unfold w_X5_isScene at h
    refine lv_iload_n hC.1 hC.2.1 dX5_isScene_0 rfl (lv_at hl 1 rfl) ?_
    refine lv_iconst (v := 0) hC.1 hC.2.1 dX5_isScene_1 (by decide) ?_
    refine lv_aload_n hC.1 hC.2.1 dX5_isScene_2 rfl (lv_at hl 0 rfl) ?_
    refine gX5_3 hC hZ kf_X5_78 dX5_isScene_3 ?_
    refine lv_iconst (v := 1) hC.1 hC.2.1 dX5_isScene_6 (by decide) ?_
    refine lv_isub hC.1 hC.2.1 dX5_isScene_7 ?_
    refine z_cSi (As := [.int a1, .int 0, .int ((μ 0 0 3) - 1)]) hC hZ zy_X5_in (c_X5_in l h) km_X5_81 rfl ⟨rfl, rfl⟩ ⟨Nat.le_of_ble_eq_true rfl, Nat.le_of_ble_eq_true rfl⟩ hl.1 rfl (Nat.le_of_ble_eq_true rfl) dX5_isScene_8 ⟨Nat.le_of_ble_eq_true rfl, Nat.le_of_ble_eq_true rfl⟩ (fun r2 μ1 H locs h hZ => ?_)
    obtain ⟨q3, h⟩ := h
    exact z_bret hC hr hZ q3 h dX5_isScene_11 (Nat.le_of_ble_eq_true rfl) (Nat.le_of_ble_eq_true rfl)
  exact key
def w_X5_isActor (post : Int32 → Mem → Prop) (a1 : Int32) (μ : Mem) : Prop := (w_X5_in (fun (r2 : Int32) (μ1 : Mem) => ((r2 = 0 ∨ r2 = 1) ∧ post r2 μ1)) a1 (0 : Int32) (4 : Int32) μ)
set_option maxRecDepth 100000 in
set_option maxHeartbeats 4000000 in
theorem c_X5_isActor (l : Launch) {D : va_G} {ca : Nat → ClassId} {base : Nat} {ad : Nat → Nat → Nat} {n np : Nat} {μ : Mem} {post : Int32 → Mem → Prop} {a1 : Int32} (h : w_X5_isActor post a1 μ) : ZMet l yX5_isActor cX5_isActor 1 (some FieldType.boolean) ({ frames := 1, cells := 0, slots := 0, locals := 22 } : Room) 0 0 D ca base ad n np [.int a1] μ (zpi post) := by
  unfold ZMet
  refine Met.ofW (cc := cX5_isActor) (maxL := 1) (ret := (some FieldType.boolean)) (by decide) rfl ?_
  intro p e s m args below meth c s₁ B hml hv
  obtain ⟨rfl, hU⟩ := hv
  have hZ := hU.toS
  have hC : ZC p m meth c s RX5 cX5_isActor 1 := ⟨B.exec, B.bytes, hml, findClass_of_methodNamed B.named, B.notSynchronized⟩
  have hr := B.returns
  have key : W p l e ({ frames := 1, cells := 0, slots := 0, locals := 22 } : Room) s m (([.int a1] : List Value).toArray) below meth c s.heap [] 0 0 (MQ below (ZQ D ca base ad n np (zpi post)) (([.int a1] : List Value).toArray) s 0 0 (zB base)) (entryFrame m (([.int a1] : List Value).toArray) 1) := by
    have hl := lv_entry ([.int a1]) (n := 1) (Nat.le_of_ble_eq_true rfl)
    rw [lg_entry_eq]
    generalize (lg_sl ([.int a1]) ++ List.replicate (1 - (lg_sl ([.int a1])).length) Slot.unset).toArray = ls at hl ⊢
    have hl : lv_has ls 1 [(0, .int a1)] := hl
    unfold w_X5_isActor at h
    refine lv_iload_n hC.1 hC.2.1 dX5_isActor_0 rfl (lv_at hl 0 rfl) ?_
    refine lv_iconst (v := 0) hC.1 hC.2.1 dX5_isActor_1 (by decide) ?_
    refine lv_iconst (v := 4) hC.1 hC.2.1 dX5_isActor_2 (by decide) ?_
    refine z_cSi (As := [.int a1, .int 0, .int 4]) hC hZ zy_X5_in (c_X5_in l h) km_X5_81 rfl ⟨rfl, rfl⟩ ⟨Nat.le_of_ble_eq_true rfl, Nat.le_of_ble_eq_true rfl⟩ hl.1 rfl (Nat.le_of_ble_eq_true rfl) dX5_isActor_3 ⟨Nat.le_of_ble_eq_true rfl, Nat.le_of_ble_eq_true rfl⟩ (fun r2 μ1 H locs h hZ => ?_)
    obtain ⟨q3, h⟩ := h
    exact z_bret hC hr hZ q3 h dX5_isActor_6 (Nat.le_of_ble_eq_true rfl) (Nat.le_of_ble_eq_true rfl)
  exact key
def w_X5_isProp (post : Int32 → Mem → Prop) (a1 : Int32) (μ : Mem) : Prop := (w_X5_in (fun (r2 : Int32) (μ1 : Mem) => ((r2 = 0 ∨ r2 = 1) ∧ post r2 μ1)) a1 (0 : Int32) (4 : Int32) μ)
set_option maxRecDepth 100000 in
set_option maxHeartbeats 4000000 in
theorem c_X5_isProp (l : Launch) {D : va_G} {ca : Nat → ClassId} {base : Nat} {ad : Nat → Nat → Nat} {n np : Nat} {μ : Mem} {post : Int32 → Mem → Prop} {a1 : Int32} (h : w_X5_isProp post a1 μ) : ZMet l yX5_isProp cX5_isProp 1 (some FieldType.boolean) ({ frames := 1, cells := 0, slots := 0, locals := 22 } : Room) 0 0 D ca base ad n np [.int a1] μ (zpi post) := by
  unfold ZMet
  refine Met.ofW (cc := cX5_isProp) (maxL := 1) (ret := (some FieldType.boolean)) (by decide) rfl ?_
  intro p e s m args below meth c s₁ B hml hv
  obtain ⟨rfl, hU⟩ := hv
  have hZ := hU.toS
  have hC : ZC p m meth c s RX5 cX5_isProp 1 := ⟨B.exec, B.bytes, hml, findClass_of_methodNamed B.named, B.notSynchronized⟩
  have hr := B.returns
  have key : W p l e ({ frames := 1, cells := 0, slots := 0, locals := 22 } : Room) s m (([.int a1] : List Value).toArray) below meth c s.heap [] 0 0 (MQ below (ZQ D ca base ad n np (zpi post)) (([.int a1] : List Value).toArray) s 0 0 (zB base)) (entryFrame m (([.int a1] : List Value).toArray) 1) := by
    have hl := lv_entry ([.int a1]) (n := 1) (Nat.le_of_ble_eq_true rfl)
    rw [lg_entry_eq]
    generalize (lg_sl ([.int a1]) ++ List.replicate (1 - (lg_sl ([.int a1])).length) Slot.unset).toArray = ls at hl ⊢
    have hl : lv_has ls 1 [(0, .int a1)] := hl
    unfold w_X5_isProp at h
    refine lv_iload_n hC.1 hC.2.1 dX5_isProp_0 rfl (lv_at hl 0 rfl) ?_
    refine lv_iconst (v := 0) hC.1 hC.2.1 dX5_isProp_1 (by decide) ?_
    refine lv_iconst (v := 4) hC.1 hC.2.1 dX5_isProp_2 (by decide) ?_
    refine z_cSi (As := [.int a1, .int 0, .int 4]) hC hZ zy_X5_in (c_X5_in l h) km_X5_81 rfl ⟨rfl, rfl⟩ ⟨Nat.le_of_ble_eq_true rfl, Nat.le_of_ble_eq_true rfl⟩ hl.1 rfl (Nat.le_of_ble_eq_true rfl) dX5_isProp_3 ⟨Nat.le_of_ble_eq_true rfl, Nat.le_of_ble_eq_true rfl⟩ (fun r2 μ1 H locs h hZ => ?_)
    obtain ⟨q3, h⟩ := h
    exact z_bret hC hr hZ q3 h dX5_isProp_6 (Nat.le_of_ble_eq_true rfl) (Nat.le_of_ble_eq_true rfl)
  exact key
def w_X5_isDay (post : Int32 → Mem → Prop) (a1 : Int32) (μ : Mem) : Prop := (w_X5_in (fun (r2 : Int32) (μ1 : Mem) => ((r2 = 0 ∨ r2 = 1) ∧ post r2 μ1)) a1 (0 : Int32) (29 : Int32) μ)
set_option maxRecDepth 100000 in
set_option maxHeartbeats 4000000 in
theorem c_X5_isDay (l : Launch) {D : va_G} {ca : Nat → ClassId} {base : Nat} {ad : Nat → Nat → Nat} {n np : Nat} {μ : Mem} {post : Int32 → Mem → Prop} {a1 : Int32} (h : w_X5_isDay post a1 μ) : ZMet l yX5_isDay cX5_isDay 1 (some FieldType.boolean) ({ frames := 1, cells := 0, slots := 0, locals := 22 } : Room) 0 0 D ca base ad n np [.int a1] μ (zpi post) := by
  unfold ZMet
  refine Met.ofW (cc := cX5_isDay) (maxL := 1) (ret := (some FieldType.boolean)) (by decide) rfl ?_
  intro p e s m args below meth c s₁ B hml hv
  obtain ⟨rfl, hU⟩ := hv
  have hZ := hU.toS
  have hC : ZC p m meth c s RX5 cX5_isDay 1 := ⟨B.exec, B.bytes, hml, findClass_of_methodNamed B.named, B.notSynchronized⟩
  have hr := B.returns
  have key : W p l e ({ frames := 1, cells := 0, slots := 0, locals := 22 } : Room) s m (([.int a1] : List Value).toArray) below meth c s.heap [] 0 0 (MQ below (ZQ D ca base ad n np (zpi post)) (([.int a1] : List Value).toArray) s 0 0 (zB base)) (entryFrame m (([.int a1] : List Value).toArray) 1) := by
    have hl := lv_entry ([.int a1]) (n := 1) (Nat.le_of_ble_eq_true rfl)
    rw [lg_entry_eq]
    generalize (lg_sl ([.int a1]) ++ List.replicate (1 - (lg_sl ([.int a1])).length) Slot.unset).toArray = ls at hl ⊢
    have hl : lv_has ls 1 [(0, .int a1)] := hl
    unfold w_X5_isDay at h
    refine lv_iload_n hC.1 hC.2.1 dX5_isDay_0 rfl (lv_at hl 0 rfl) ?_
    refine lv_iconst (v := 0) hC.1 hC.2.1 dX5_isDay_1 (by decide) ?_
    refine lv_bipush (v := 29) hC.1 hC.2.1 dX5_isDay_2 (by decide) ?_
    refine z_cSi (As := [.int a1, .int 0, .int 29]) hC hZ zy_X5_in (c_X5_in l h) km_X5_81 rfl ⟨rfl, rfl⟩ ⟨Nat.le_of_ble_eq_true rfl, Nat.le_of_ble_eq_true rfl⟩ hl.1 rfl (Nat.le_of_ble_eq_true rfl) dX5_isDay_4 ⟨Nat.le_of_ble_eq_true rfl, Nat.le_of_ble_eq_true rfl⟩ (fun r2 μ1 H locs h hZ => ?_)
    obtain ⟨q3, h⟩ := h
    exact z_bret hC hr hZ q3 h dX5_isDay_7 (Nat.le_of_ble_eq_true rfl) (Nat.le_of_ble_eq_true rfl)
  exact key
def w_X5_isAhead (post : Int32 → Mem → Prop) (a1 : Int32) (μ : Mem) : Prop := (w_X5_in (fun (r2 : Int32) (μ1 : Mem) => ((r2 = 0 ∨ r2 = 1) ∧ post r2 μ1)) a1 (μ 0 0 0) (29 : Int32) μ)
set_option maxRecDepth 100000 in
set_option maxHeartbeats 4000000 in
theorem c_X5_isAhead (l : Launch) {D : va_G} {ca : Nat → ClassId} {base : Nat} {ad : Nat → Nat → Nat} {n np : Nat} {μ : Mem} {post : Int32 → Mem → Prop} {a1 : Int32} (h : w_X5_isAhead post a1 μ) : ZMet l yX5_isAhead cX5_isAhead 2 (some FieldType.boolean) ({ frames := 1, cells := 0, slots := 0, locals := 22 } : Room) 0 0 D ca base ad n np [.ref (ad 0 0), .int a1] μ (zpi post) := by
  unfold ZMet
  refine Met.ofW (cc := cX5_isAhead) (maxL := 2) (ret := (some FieldType.boolean)) (by decide) rfl ?_
  intro p e s m args below meth c s₁ B hml hv
  obtain ⟨rfl, hU⟩ := hv
  have hZ := hU.toS
  have hC : ZC p m meth c s RX5 cX5_isAhead 2 := ⟨B.exec, B.bytes, hml, findClass_of_methodNamed B.named, B.notSynchronized⟩
  have hr := B.returns
  have key : W p l e ({ frames := 1, cells := 0, slots := 0, locals := 22 } : Room) s m (([.ref (ad 0 0), .int a1] : List Value).toArray) below meth c s.heap [] 0 0 (MQ below (ZQ D ca base ad n np (zpi post)) (([.ref (ad 0 0), .int a1] : List Value).toArray) s 0 0 (zB base)) (entryFrame m (([.ref (ad 0 0), .int a1] : List Value).toArray) 2) := by
    have hl := lv_entry ([.ref (ad 0 0), .int a1]) (n := 2) (Nat.le_of_ble_eq_true rfl)
    rw [lg_entry_eq]
    generalize (lg_sl ([.ref (ad 0 0), .int a1]) ++ List.replicate (2 - (lg_sl ([.ref (ad 0 0), .int a1])).length) Slot.unset).toArray = ls at hl ⊢
    have hl : lv_has ls 2 [(0, .ref (ad 0 0)), (1, .int a1)] := hl
    unfold w_X5_isAhead at h
    refine lv_iload_n hC.1 hC.2.1 dX5_isAhead_0 rfl (lv_at hl 1 rfl) ?_
    refine lv_aload_n hC.1 hC.2.1 dX5_isAhead_1 rfl (lv_at hl 0 rfl) ?_
    refine gX5_0 hC hZ kf_X5_85 dX5_isAhead_2 ?_
    refine lv_bipush (v := 29) hC.1 hC.2.1 dX5_isAhead_5 (by decide) ?_
    refine z_cSi (As := [.int a1, .int (μ 0 0 0), .int 29]) hC hZ zy_X5_in (c_X5_in l h) km_X5_81 rfl ⟨rfl, rfl⟩ ⟨Nat.le_of_ble_eq_true rfl, Nat.le_of_ble_eq_true rfl⟩ hl.1 rfl (Nat.le_of_ble_eq_true rfl) dX5_isAhead_7 ⟨Nat.le_of_ble_eq_true rfl, Nat.le_of_ble_eq_true rfl⟩ (fun r2 μ1 H locs h hZ => ?_)
    obtain ⟨q3, h⟩ := h
    exact z_bret hC hr hZ q3 h dX5_isAhead_10 (Nat.le_of_ble_eq_true rfl) (Nat.le_of_ble_eq_true rfl)
  exact key
def lb_X5_lays_27 (post : Mem → Prop) (k27 : Int32 → Mem → Prop) (v1 : Int32) (μ : Mem) : Prop := ((20 ≤ v1 → post μ) ∧ (¬ 20 ≤ v1 → (vp_in v1 20 ∧ (∀ μ4 : Mem, μ4 = zst μ 18 0 v1.toNatClampNeg (μ 16 0 v1.toNatClampNeg) → k27 (v1 + 1) μ4))))
def l_X5_lays_27 (post : Mem → Prop) : Nat → Int32 → Mem → Prop
  | 0 => fun _ _ => False
  | fuel + 1 => lb_X5_lays_27 post (l_X5_lays_27 post fuel) 
set_option maxRecDepth 100000 in
set_option maxHeartbeats 4000000 in
theorem t_X5_lays_27 {p : Program} {l : Launch} {e : Env} {s : State} {m : MethodId} {args : Array Value} {below : List Frame} {meth : Method} {c : Code} {D : va_G} {ca : Nat → ClassId} {base : Nat} {ad : Nat → Nat → Nat} {n np : Nat} {post : Mem → Prop} (hC : ZC p m meth c s RX5 cX5_lays 2) (hr : meth.sig.returnType = none) : ∀ (fuel : Nat) (v1 : Int32) (μ : Mem) (H : Heap) (locs : List Loc) (ls : Array Slot), l_X5_lays_27 post fuel v1 μ → ZS D ca base ad n np μ s H locs → lv_has ls 2 [(0, .ref (ad 0 0)), (1, .int v1)] → W p l e ({ frames := 0, cells := 0, slots := 0, locals := 0 } : Room) s m args below meth c H locs 0 0 (MQ below (ZQ D ca base ad n np (zpv post)) args s 0 0 (zB base)) (F0 m 27 ls []) := by
  intro fuel
  induction fuel with
  | zero => exact fun _ _ _ _ _ h => h.elim
  | succ fuel hk27 =>
    intro v1 μ H locs ls h hZ hl
    have h : lb_X5_lays_27 post (l_X5_lays_27 post fuel) v1 μ := h
    unfold lb_X5_lays_27 at h
    refine lv_iload_n hC.1 hC.2.1 dX5_lays_27 rfl (lv_at hl 1 rfl) ?_
    refine lv_bipush (v := 20) hC.1 hC.2.1 dX5_lays_28 (by decide) ?_
    refine lv_icmp_ge (tgt := 51) hC.1 hC.2.1 dX5_lays_30 (by decide) (fun c2 => ?_) (fun c2 => ?_)
    · have h := h.1 c2
      exact z_vret hC hr hZ h dX5_lays_51 (Nat.le_of_ble_eq_true rfl) (Nat.le_of_ble_eq_true rfl)
    · have h := h.2 c2
      refine lv_aload_n hC.1 hC.2.1 dX5_lays_33 rfl (lv_at hl 0 rfl) ?_
      refine gX5_22 hC hZ kf_X5_66 dX5_lays_34 ?_
      refine lv_iload_n hC.1 hC.2.1 dX5_lays_37 rfl (lv_at hl 1 rfl) ?_
      refine lv_aload_n hC.1 hC.2.1 dX5_lays_38 rfl (lv_at hl 0 rfl) ?_
      refine gX5_20 hC hZ kf_X5_60 dX5_lays_39 ?_
      refine lv_iload_n hC.1 hC.2.1 dX5_lays_42 rfl (lv_at hl 1 rfl) ?_
      obtain ⟨q3, h⟩ := h
      refine aL_16 hC hZ q3 dX5_lays_43 ?_
      refine aS_18 hC hZ q3 dX5_lays_44 (fun μ4 H locs eμ4 hZ => ?_)
      have h := h μ4 eμ4
      refine lv_iinc (v := v1 + 1) (lv' := [(1, .int (v1 + 1)), (0, .ref (ad 0 0))]) hC.1 hC.2.1 dX5_lays_45 hl (k := 1) rfl rfl (by decide) rfl (fun ls hl => ?_)
      refine lv_goto (tgt := 27) hC.1 hC.2.1 dX5_lays_48 (by decide) ?_
      exact hk27 _ _ _ _ _ h hZ (lv_sub hl [1, 0] rfl)
def lb_X5_lays_2 (post : Mem → Prop) (k2 : Int32 → Mem → Prop) (v1 : Int32) (μ : Mem) : Prop := ((5 ≤ v1 → (∃ fuel : Nat, l_X5_lays_27 post fuel (0 : Int32) μ)) ∧ (¬ 5 ≤ v1 → (vp_in v1 5 ∧ (∀ μ6 : Mem, μ6 = zst μ 17 0 v1.toNatClampNeg (μ 15 0 v1.toNatClampNeg) → k2 (v1 + 1) μ6))))
def l_X5_lays_2 (post : Mem → Prop) : Nat → Int32 → Mem → Prop
  | 0 => fun _ _ => False
  | fuel + 1 => lb_X5_lays_2 post (l_X5_lays_2 post fuel) 
set_option maxRecDepth 100000 in
set_option maxHeartbeats 4000000 in
theorem t_X5_lays_2 {p : Program} {l : Launch} {e : Env} {s : State} {m : MethodId} {args : Array Value} {below : List Frame} {meth : Method} {c : Code} {D : va_G} {ca : Nat → ClassId} {base : Nat} {ad : Nat → Nat → Nat} {n np : Nat} {post : Mem → Prop} (hC : ZC p m meth c s RX5 cX5_lays 2) (hr : meth.sig.returnType = none) : ∀ (fuel : Nat) (v1 : Int32) (μ : Mem) (H : Heap) (locs : List Loc) (ls : Array Slot), l_X5_lays_2 post fuel v1 μ → ZS D ca base ad n np μ s H locs → lv_has ls 2 [(0, .ref (ad 0 0)), (1, .int v1)] → W p l e ({ frames := 0, cells := 0, slots := 0, locals := 0 } : Room) s m args below meth c H locs 0 0 (MQ below (ZQ D ca base ad n np (zpv post)) args s 0 0 (zB base)) (F0 m 2 ls []) := by
  intro fuel
  induction fuel with
  | zero => exact fun _ _ _ _ _ h => h.elim
  | succ fuel hk2 =>
    intro v1 μ H locs ls h hZ hl
    have h : lb_X5_lays_2 post (l_X5_lays_2 post fuel) v1 μ := h
    unfold lb_X5_lays_2 at h
    refine lv_iload_n hC.1 hC.2.1 dX5_lays_2 rfl (lv_at hl 1 rfl) ?_
    refine lv_iconst (v := 5) hC.1 hC.2.1 dX5_lays_3 (by decide) ?_
    refine lv_icmp_ge (tgt := 25) hC.1 hC.2.1 dX5_lays_4 (by decide) (fun c1 => ?_) (fun c1 => ?_)
    · have h := h.1 c1
      refine lv_iconst (v := 0) hC.1 hC.2.1 dX5_lays_25 (by decide) ?_
      refine lv_istore_n (lv' := [(1, .int 0), (0, .ref (ad 0 0))]) hC.1 hC.2.1 dX5_lays_26 rfl hl (by decide) rfl (fun ls hl => ?_)
      obtain ⟨fuel, h⟩ := h
      exact t_X5_lays_27 (l := l) hC hr _ _ _ _ _ _ h hZ (lv_sub hl [1, 0] rfl)
    · have h := h.2 c1
      refine lv_aload_n hC.1 hC.2.1 dX5_lays_7 rfl (lv_at hl 0 rfl) ?_
      refine gX5_21 hC hZ kf_X5_63 dX5_lays_8 ?_
      refine lv_iload_n hC.1 hC.2.1 dX5_lays_11 rfl (lv_at hl 1 rfl) ?_
      refine lv_aload_n hC.1 hC.2.1 dX5_lays_12 rfl (lv_at hl 0 rfl) ?_
      refine gX5_19 hC hZ kf_X5_57 dX5_lays_13 ?_
      refine lv_iload_n hC.1 hC.2.1 dX5_lays_16 rfl (lv_at hl 1 rfl) ?_
      obtain ⟨q5, h⟩ := h
      refine aL_15 hC hZ q5 dX5_lays_17 ?_
      refine aS_17 hC hZ q5 dX5_lays_18 (fun μ6 H locs eμ6 hZ => ?_)
      have h := h μ6 eμ6
      refine lv_iinc (v := v1 + 1) (lv' := [(1, .int (v1 + 1)), (0, .ref (ad 0 0))]) hC.1 hC.2.1 dX5_lays_19 hl (k := 1) rfl rfl (by decide) rfl (fun ls hl => ?_)
      refine lv_goto (tgt := 2) hC.1 hC.2.1 dX5_lays_22 (by decide) ?_
      exact hk2 _ _ _ _ _ h hZ (lv_sub hl [1, 0] rfl)
def w_X5_lays (post : Mem → Prop) (μ : Mem) : Prop := (∃ fuel : Nat, l_X5_lays_2 post fuel (0 : Int32) μ)
set_option maxRecDepth 100000 in
set_option maxHeartbeats 4000000 in
theorem c_X5_lays (l : Launch) {D : va_G} {ca : Nat → ClassId} {base : Nat} {ad : Nat → Nat → Nat} {n np : Nat} {μ : Mem} {post : Mem → Prop} (h : w_X5_lays post μ) : ZMet l yX5_lays cX5_lays 2 none ({ frames := 0, cells := 0, slots := 0, locals := 0 } : Room) 0 0 D ca base ad n np [.ref (ad 0 0)] μ (zpv post) := by
  unfold ZMet
  refine Met.ofW (cc := cX5_lays) (maxL := 2) (ret := none) (by decide) rfl ?_
  intro p e s m args below meth c s₁ B hml hv
  obtain ⟨rfl, hU⟩ := hv
  have hZ := hU.toS
  have hC : ZC p m meth c s RX5 cX5_lays 2 := ⟨B.exec, B.bytes, hml, findClass_of_methodNamed B.named, B.notSynchronized⟩
  have hr := B.returns
  have key : W p l e ({ frames := 0, cells := 0, slots := 0, locals := 0 } : Room) s m (([.ref (ad 0 0)] : List Value).toArray) below meth c s.heap [] 0 0 (MQ below (ZQ D ca base ad n np (zpv post)) (([.ref (ad 0 0)] : List Value).toArray) s 0 0 (zB base)) (entryFrame m (([.ref (ad 0 0)] : List Value).toArray) 2) := by
    have hl := lv_entry ([.ref (ad 0 0)]) (n := 2) (Nat.le_of_ble_eq_true rfl)
    rw [lg_entry_eq]
    generalize (lg_sl ([.ref (ad 0 0)]) ++ List.replicate (2 - (lg_sl ([.ref (ad 0 0)])).length) Slot.unset).toArray = ls at hl ⊢
    have hl : lv_has ls 2 [(0, .ref (ad 0 0))] := hl
    unfold w_X5_lays at h
    refine lv_iconst (v := 0) hC.1 hC.2.1 dX5_lays_0 (by decide) ?_
    refine lv_istore_n (lv' := [(1, .int 0), (0, .ref (ad 0 0))]) hC.1 hC.2.1 dX5_lays_1 rfl hl (by decide) rfl (fun ls hl => ?_)
    obtain ⟨fuel, h⟩ := h
    exact t_X5_lays_2 (l := l) hC hr _ _ _ _ _ _ h hZ (lv_sub hl [1, 0] rfl)
  exact key
def lb_X5_keeps_27 (post : Mem → Prop) (k27 : Int32 → Mem → Prop) (v1 : Int32) (μ : Mem) : Prop := ((20 ≤ v1 → post μ) ∧ (¬ 20 ≤ v1 → (vp_in v1 20 ∧ (∀ μ4 : Mem, μ4 = zst μ 16 0 v1.toNatClampNeg (μ 18 0 v1.toNatClampNeg) → k27 (v1 + 1) μ4))))
def l_X5_keeps_27 (post : Mem → Prop) : Nat → Int32 → Mem → Prop
  | 0 => fun _ _ => False
  | fuel + 1 => lb_X5_keeps_27 post (l_X5_keeps_27 post fuel) 
set_option maxRecDepth 100000 in
set_option maxHeartbeats 4000000 in
theorem t_X5_keeps_27 {p : Program} {l : Launch} {e : Env} {s : State} {m : MethodId} {args : Array Value} {below : List Frame} {meth : Method} {c : Code} {D : va_G} {ca : Nat → ClassId} {base : Nat} {ad : Nat → Nat → Nat} {n np : Nat} {post : Mem → Prop} (hC : ZC p m meth c s RX5 cX5_keeps 2) (hr : meth.sig.returnType = none) : ∀ (fuel : Nat) (v1 : Int32) (μ : Mem) (H : Heap) (locs : List Loc) (ls : Array Slot), l_X5_keeps_27 post fuel v1 μ → ZS D ca base ad n np μ s H locs → lv_has ls 2 [(0, .ref (ad 0 0)), (1, .int v1)] → W p l e ({ frames := 0, cells := 0, slots := 0, locals := 0 } : Room) s m args below meth c H locs 0 0 (MQ below (ZQ D ca base ad n np (zpv post)) args s 0 0 (zB base)) (F0 m 27 ls []) := by
  intro fuel
  induction fuel with
  | zero => exact fun _ _ _ _ _ h => h.elim
  | succ fuel hk27 =>
    intro v1 μ H locs ls h hZ hl
    have h : lb_X5_keeps_27 post (l_X5_keeps_27 post fuel) v1 μ := h
    unfold lb_X5_keeps_27 at h
    refine lv_iload_n hC.1 hC.2.1 dX5_keeps_27 rfl (lv_at hl 1 rfl) ?_
    refine lv_bipush (v := 20) hC.1 hC.2.1 dX5_keeps_28 (by decide) ?_
    refine lv_icmp_ge (tgt := 51) hC.1 hC.2.1 dX5_keeps_30 (by decide) (fun c2 => ?_) (fun c2 => ?_)
    · have h := h.1 c2
      exact z_vret hC hr hZ h dX5_keeps_51 (Nat.le_of_ble_eq_true rfl) (Nat.le_of_ble_eq_true rfl)
    · have h := h.2 c2
      refine lv_aload_n hC.1 hC.2.1 dX5_keeps_33 rfl (lv_at hl 0 rfl) ?_
      refine gX5_20 hC hZ kf_X5_60 dX5_keeps_34 ?_
      refine lv_iload_n hC.1 hC.2.1 dX5_keeps_37 rfl (lv_at hl 1 rfl) ?_
      refine lv_aload_n hC.1 hC.2.1 dX5_keeps_38 rfl (lv_at hl 0 rfl) ?_
      refine gX5_22 hC hZ kf_X5_66 dX5_keeps_39 ?_
      refine lv_iload_n hC.1 hC.2.1 dX5_keeps_42 rfl (lv_at hl 1 rfl) ?_
      obtain ⟨q3, h⟩ := h
      refine aL_18 hC hZ q3 dX5_keeps_43 ?_
      refine aS_16 hC hZ q3 dX5_keeps_44 (fun μ4 H locs eμ4 hZ => ?_)
      have h := h μ4 eμ4
      refine lv_iinc (v := v1 + 1) (lv' := [(1, .int (v1 + 1)), (0, .ref (ad 0 0))]) hC.1 hC.2.1 dX5_keeps_45 hl (k := 1) rfl rfl (by decide) rfl (fun ls hl => ?_)
      refine lv_goto (tgt := 27) hC.1 hC.2.1 dX5_keeps_48 (by decide) ?_
      exact hk27 _ _ _ _ _ h hZ (lv_sub hl [1, 0] rfl)
def lb_X5_keeps_2 (post : Mem → Prop) (k2 : Int32 → Mem → Prop) (v1 : Int32) (μ : Mem) : Prop := ((5 ≤ v1 → (∃ fuel : Nat, l_X5_keeps_27 post fuel (0 : Int32) μ)) ∧ (¬ 5 ≤ v1 → (vp_in v1 5 ∧ (∀ μ6 : Mem, μ6 = zst μ 15 0 v1.toNatClampNeg (μ 17 0 v1.toNatClampNeg) → k2 (v1 + 1) μ6))))
def l_X5_keeps_2 (post : Mem → Prop) : Nat → Int32 → Mem → Prop
  | 0 => fun _ _ => False
  | fuel + 1 => lb_X5_keeps_2 post (l_X5_keeps_2 post fuel) 
set_option maxRecDepth 100000 in
set_option maxHeartbeats 4000000 in
theorem t_X5_keeps_2 {p : Program} {l : Launch} {e : Env} {s : State} {m : MethodId} {args : Array Value} {below : List Frame} {meth : Method} {c : Code} {D : va_G} {ca : Nat → ClassId} {base : Nat} {ad : Nat → Nat → Nat} {n np : Nat} {post : Mem → Prop} (hC : ZC p m meth c s RX5 cX5_keeps 2) (hr : meth.sig.returnType = none) : ∀ (fuel : Nat) (v1 : Int32) (μ : Mem) (H : Heap) (locs : List Loc) (ls : Array Slot), l_X5_keeps_2 post fuel v1 μ → ZS D ca base ad n np μ s H locs → lv_has ls 2 [(0, .ref (ad 0 0)), (1, .int v1)] → W p l e ({ frames := 0, cells := 0, slots := 0, locals := 0 } : Room) s m args below meth c H locs 0 0 (MQ below (ZQ D ca base ad n np (zpv post)) args s 0 0 (zB base)) (F0 m 2 ls []) := by
  intro fuel
  induction fuel with
  | zero => exact fun _ _ _ _ _ h => h.elim
  | succ fuel hk2 =>
    intro v1 μ H locs ls h hZ hl
    have h : lb_X5_keeps_2 post (l_X5_keeps_2 post fuel) v1 μ := h
    unfold lb_X5_keeps_2 at h
    refine lv_iload_n hC.1 hC.2.1 dX5_keeps_2 rfl (lv_at hl 1 rfl) ?_
    refine lv_iconst (v := 5) hC.1 hC.2.1 dX5_keeps_3 (by decide) ?_
    refine lv_icmp_ge (tgt := 25) hC.1 hC.2.1 dX5_keeps_4 (by decide) (fun c1 => ?_) (fun c1 => ?_)
    · have h := h.1 c1
      refine lv_iconst (v := 0) hC.1 hC.2.1 dX5_keeps_25 (by decide) ?_
      refine lv_istore_n (lv' := [(1, .int 0), (0, .ref (ad 0 0))]) hC.1 hC.2.1 dX5_keeps_26 rfl hl (by decide) rfl (fun ls hl => ?_)
      obtain ⟨fuel, h⟩ := h
      exact t_X5_keeps_27 (l := l) hC hr _ _ _ _ _ _ h hZ (lv_sub hl [1, 0] rfl)
    · have h := h.2 c1
      refine lv_aload_n hC.1 hC.2.1 dX5_keeps_7 rfl (lv_at hl 0 rfl) ?_
      refine gX5_19 hC hZ kf_X5_57 dX5_keeps_8 ?_
      refine lv_iload_n hC.1 hC.2.1 dX5_keeps_11 rfl (lv_at hl 1 rfl) ?_
      refine lv_aload_n hC.1 hC.2.1 dX5_keeps_12 rfl (lv_at hl 0 rfl) ?_
      refine gX5_21 hC hZ kf_X5_63 dX5_keeps_13 ?_
      refine lv_iload_n hC.1 hC.2.1 dX5_keeps_16 rfl (lv_at hl 1 rfl) ?_
      obtain ⟨q5, h⟩ := h
      refine aL_17 hC hZ q5 dX5_keeps_17 ?_
      refine aS_15 hC hZ q5 dX5_keeps_18 (fun μ6 H locs eμ6 hZ => ?_)
      have h := h μ6 eμ6
      refine lv_iinc (v := v1 + 1) (lv' := [(1, .int (v1 + 1)), (0, .ref (ad 0 0))]) hC.1 hC.2.1 dX5_keeps_19 hl (k := 1) rfl rfl (by decide) rfl (fun ls hl => ?_)
      refine lv_goto (tgt := 2) hC.1 hC.2.1 dX5_keeps_22 (by decide) ?_
      exact hk2 _ _ _ _ _ h hZ (lv_sub hl [1, 0] rfl)
def w_X5_keeps (post : Mem → Prop) (μ : Mem) : Prop := (∃ fuel : Nat, l_X5_keeps_2 post fuel (0 : Int32) μ)
set_option maxRecDepth 100000 in
set_option maxHeartbeats 4000000 in
theorem c_X5_keeps (l : Launch) {D : va_G} {ca : Nat → ClassId} {base : Nat} {ad : Nat → Nat → Nat} {n np : Nat} {μ : Mem} {post : Mem → Prop} (h : w_X5_keeps post μ) : ZMet l yX5_keeps cX5_keeps 2 none ({ frames := 0, cells := 0, slots := 0, locals := 0 } : Room) 0 0 D ca base ad n np [.ref (ad 0 0)] μ (zpv post) := by
  unfold ZMet
  refine Met.ofW (cc := cX5_keeps) (maxL := 2) (ret := none) (by decide) rfl ?_
  intro p e s m args below meth c s₁ B hml hv
  obtain ⟨rfl, hU⟩ := hv
  have hZ := hU.toS
  have hC : ZC p m meth c s RX5 cX5_keeps 2 := ⟨B.exec, B.bytes, hml, findClass_of_methodNamed B.named, B.notSynchronized⟩
  have hr := B.returns
  have key : W p l e ({ frames := 0, cells := 0, slots := 0, locals := 0 } : Room) s m (([.ref (ad 0 0)] : List Value).toArray) below meth c s.heap [] 0 0 (MQ below (ZQ D ca base ad n np (zpv post)) (([.ref (ad 0 0)] : List Value).toArray) s 0 0 (zB base)) (entryFrame m (([.ref (ad 0 0)] : List Value).toArray) 2) := by
    have hl := lv_entry ([.ref (ad 0 0)]) (n := 2) (Nat.le_of_ble_eq_true rfl)
    rw [lg_entry_eq]
    generalize (lg_sl ([.ref (ad 0 0)]) ++ List.replicate (2 - (lg_sl ([.ref (ad 0 0)])).length) Slot.unset).toArray = ls at hl ⊢
    have hl : lv_has ls 2 [(0, .ref (ad 0 0))] := hl
    unfold w_X5_keeps at h
    refine lv_iconst (v := 0) hC.1 hC.2.1 dX5_keeps_0 (by decide) ?_
    refine lv_istore_n (lv' := [(1, .int 0), (0, .ref (ad 0 0))]) hC.1 hC.2.1 dX5_keeps_1 rfl hl (by decide) rfl (fun ls hl => ?_)
    obtain ⟨fuel, h⟩ := h
    exact t_X5_keeps_2 (l := l) hC hr _ _ _ _ _ _ h hZ (lv_sub hl [1, 0] rfl)
  exact key
def b_X5_grows_30 (post : Mem → Prop) (k2 : Int32 → Mem → Prop) (v1 : Int32) (s1 : Int32) (s2 : Int32) (s3 : Int32) (μ : Mem) : Prop := (vp_in s1 5 ∧ ∀ μ5 : Mem, μ5 = zst μ 17 0 s1.toNatClampNeg (s2 + s3) → k2 (v1 + 1) μ5)
set_option maxRecDepth 100000 in
set_option maxHeartbeats 4000000 in
theorem t_X5_grows_30 {p : Program} {l : Launch} {e : Env} {s : State} {m : MethodId} {args : Array Value} {below : List Frame} {meth : Method} {c : Code} {D : va_G} {ca : Nat → ClassId} {base : Nat} {ad : Nat → Nat → Nat} {n np : Nat} {post : Mem → Prop} {k2 : Int32 → Mem → Prop} (hC : ZC p m meth c s RX5 cX5_grows 2) (hr : meth.sig.returnType = none) (hk2 : ∀ (v1 : Int32) (μ : Mem) (H : Heap) (locs : List Loc) (ls : Array Slot), k2 v1 μ → ZS D ca base ad n np μ s H locs → lv_has ls 2 [(0, .ref (ad 0 0)), (1, .int v1)] → W p l e ({ frames := 0, cells := 0, slots := 0, locals := 0 } : Room) s m args below meth c H locs 0 0 (MQ below (ZQ D ca base ad n np (zpv post)) args s 0 0 (zB base)) (F0 m 2 ls [])) (v1 : Int32) (s1 : Int32) (s2 : Int32) (s3 : Int32) (μ : Mem) (H : Heap) (locs : List Loc) (ls : Array Slot) (h : b_X5_grows_30 post k2 v1 s1 s2 s3 μ) (hZ : ZS D ca base ad n np μ s H locs) (hl : lv_has ls 2 [(0, .ref (ad 0 0)), (1, .int v1)]) : W p l e ({ frames := 0, cells := 0, slots := 0, locals := 0 } : Room) s m args below meth c H locs 0 0 (MQ below (ZQ D ca base ad n np (zpv post)) args s 0 0 (zB base)) (F0 m 30 ls [.int s3, .int s2, .int s1, .ref (ad 17 0)]) := by
  unfold b_X5_grows_30 at h
  refine lv_iadd hC.1 hC.2.1 dX5_grows_30 ?_
  obtain ⟨q4, h⟩ := h
  refine aS_17 hC hZ q4 dX5_grows_31 (fun μ5 H locs eμ5 hZ => ?_)
  have h := h μ5 eμ5
  refine lv_iinc (v := v1 + 1) (lv' := [(1, .int (v1 + 1)), (0, .ref (ad 0 0))]) hC.1 hC.2.1 dX5_grows_32 hl (k := 1) rfl rfl (by decide) rfl (fun ls hl => ?_)
  refine lv_goto (tgt := 2) hC.1 hC.2.1 dX5_grows_35 (by decide) ?_
  exact hk2 _ _ _ _ _ h hZ (lv_sub hl [1, 0] rfl)
def lb_X5_grows_2 (post : Mem → Prop) (k2 : Int32 → Mem → Prop) (v1 : Int32) (μ : Mem) : Prop := ((5 ≤ v1 → post μ) ∧ (¬ 5 ≤ v1 → (vp_in v1 5 ∧ ((20 ≤ (μ 17 0 v1.toNatClampNeg) → b_X5_grows_30 post k2 v1 v1 (μ 17 0 v1.toNatClampNeg) (0 : Int32) μ) ∧ (¬ 20 ≤ (μ 17 0 v1.toNatClampNeg) → b_X5_grows_30 post k2 v1 v1 (μ 17 0 v1.toNatClampNeg) (1 : Int32) μ)))))
def l_X5_grows_2 (post : Mem → Prop) : Nat → Int32 → Mem → Prop
  | 0 => fun _ _ => False
  | fuel + 1 => lb_X5_grows_2 post (l_X5_grows_2 post fuel) 
set_option maxRecDepth 100000 in
set_option maxHeartbeats 4000000 in
theorem t_X5_grows_2 {p : Program} {l : Launch} {e : Env} {s : State} {m : MethodId} {args : Array Value} {below : List Frame} {meth : Method} {c : Code} {D : va_G} {ca : Nat → ClassId} {base : Nat} {ad : Nat → Nat → Nat} {n np : Nat} {post : Mem → Prop} (hC : ZC p m meth c s RX5 cX5_grows 2) (hr : meth.sig.returnType = none) : ∀ (fuel : Nat) (v1 : Int32) (μ : Mem) (H : Heap) (locs : List Loc) (ls : Array Slot), l_X5_grows_2 post fuel v1 μ → ZS D ca base ad n np μ s H locs → lv_has ls 2 [(0, .ref (ad 0 0)), (1, .int v1)] → W p l e ({ frames := 0, cells := 0, slots := 0, locals := 0 } : Room) s m args below meth c H locs 0 0 (MQ below (ZQ D ca base ad n np (zpv post)) args s 0 0 (zB base)) (F0 m 2 ls []) := by
  intro fuel
  induction fuel with
  | zero => exact fun _ _ _ _ _ h => h.elim
  | succ fuel hk2 =>
    intro v1 μ H locs ls h hZ hl
    have h : lb_X5_grows_2 post (l_X5_grows_2 post fuel) v1 μ := h
    unfold lb_X5_grows_2 at h
    refine lv_iload_n hC.1 hC.2.1 dX5_grows_2 rfl (lv_at hl 1 rfl) ?_
    refine lv_iconst (v := 5) hC.1 hC.2.1 dX5_grows_3 (by decide) ?_
    refine lv_icmp_ge (tgt := 38) hC.1 hC.2.1 dX5_grows_4 (by decide) (fun c1 => ?_) (fun c1 => ?_)
    · have h := h.1 c1
      exact z_vret hC hr hZ h dX5_grows_38 (Nat.le_of_ble_eq_true rfl) (Nat.le_of_ble_eq_true rfl)
    · have h := h.2 c1
      refine lv_aload_n hC.1 hC.2.1 dX5_grows_7 rfl (lv_at hl 0 rfl) ?_
      refine gX5_21 hC hZ kf_X5_63 dX5_grows_8 ?_
      refine lv_iload_n hC.1 hC.2.1 dX5_grows_11 rfl (lv_at hl 1 rfl) ?_
      refine lv_dup2_11 hC.1 hC.2.1 dX5_grows_12 rfl rfl ?_
      obtain ⟨q2, h⟩ := h
      refine aL_17 hC hZ q2 dX5_grows_13 ?_
      refine lv_aload_n hC.1 hC.2.1 dX5_grows_14 rfl (lv_at hl 0 rfl) ?_
      refine gX5_21 hC hZ kf_X5_63 dX5_grows_15 ?_
      refine lv_iload_n hC.1 hC.2.1 dX5_grows_18 rfl (lv_at hl 1 rfl) ?_
      refine aL_17 hC hZ q2 dX5_grows_19 ?_
      refine lv_bipush (v := 20) hC.1 hC.2.1 dX5_grows_20 (by decide) ?_
      refine lv_icmp_ge (tgt := 29) hC.1 hC.2.1 dX5_grows_22 (by decide) (fun c3 => ?_) (fun c3 => ?_)
      · have h := h.1 c3
        refine lv_iconst (v := 0) hC.1 hC.2.1 dX5_grows_29 (by decide) ?_
        exact t_X5_grows_30 (l := l) hC hr hk2 _ _ _ _ _ _ _ _ h hZ (lv_sub hl [0, 1] rfl)
      · have h := h.2 c3
        refine lv_iconst (v := 1) hC.1 hC.2.1 dX5_grows_25 (by decide) ?_
        refine lv_goto (tgt := 30) hC.1 hC.2.1 dX5_grows_26 (by decide) ?_
        exact t_X5_grows_30 (l := l) hC hr hk2 _ _ _ _ _ _ _ _ h hZ (lv_sub hl [0, 1] rfl)
def w_X5_grows (post : Mem → Prop) (μ : Mem) : Prop := (∃ fuel : Nat, l_X5_grows_2 post fuel (0 : Int32) μ)
set_option maxRecDepth 100000 in
set_option maxHeartbeats 4000000 in
theorem c_X5_grows (l : Launch) {D : va_G} {ca : Nat → ClassId} {base : Nat} {ad : Nat → Nat → Nat} {n np : Nat} {μ : Mem} {post : Mem → Prop} (h : w_X5_grows post μ) : ZMet l yX5_grows cX5_grows 2 none ({ frames := 0, cells := 0, slots := 0, locals := 0 } : Room) 0 0 D ca base ad n np [.ref (ad 0 0)] μ (zpv post) := by
  unfold ZMet
  refine Met.ofW (cc := cX5_grows) (maxL := 2) (ret := none) (by decide) rfl ?_
  intro p e s m args below meth c s₁ B hml hv
  obtain ⟨rfl, hU⟩ := hv
  have hZ := hU.toS
  have hC : ZC p m meth c s RX5 cX5_grows 2 := ⟨B.exec, B.bytes, hml, findClass_of_methodNamed B.named, B.notSynchronized⟩
  have hr := B.returns
  have key : W p l e ({ frames := 0, cells := 0, slots := 0, locals := 0 } : Room) s m (([.ref (ad 0 0)] : List Value).toArray) below meth c s.heap [] 0 0 (MQ below (ZQ D ca base ad n np (zpv post)) (([.ref (ad 0 0)] : List Value).toArray) s 0 0 (zB base)) (entryFrame m (([.ref (ad 0 0)] : List Value).toArray) 2) := by
    have hl := lv_entry ([.ref (ad 0 0)]) (n := 2) (Nat.le_of_ble_eq_true rfl)
    rw [lg_entry_eq]
    generalize (lg_sl ([.ref (ad 0 0)]) ++ List.replicate (2 - (lg_sl ([.ref (ad 0 0)])).length) Slot.unset).toArray = ls at hl ⊢
    have hl : lv_has ls 2 [(0, .ref (ad 0 0))] := hl
    unfold w_X5_grows at h
    refine lv_iconst (v := 0) hC.1 hC.2.1 dX5_grows_0 (by decide) ?_
    refine lv_istore_n (lv' := [(1, .int 0), (0, .ref (ad 0 0))]) hC.1 hC.2.1 dX5_grows_1 rfl hl (by decide) rfl (fun ls hl => ?_)
    obtain ⟨fuel, h⟩ := h
    exact t_X5_grows_2 (l := l) hC hr _ _ _ _ _ _ h hZ (lv_sub hl [1, 0] rfl)
  exact key
def b_X5_servesActor_30 (post : Int32 → Mem → Prop) (a1 : Int32) (a2 : Int32) (v3 : Int32) (s1 : Int32) (s2 : Int32) (μ : Mem) : Prop := (vp_in s1 5 ∧ ∀ μ5 : Mem, μ5 = zst μ 17 0 s1.toNatClampNeg s2 → (vp_in a2 5 ∧ ((v3 ≤ (μ5 17 0 a2.toNatClampNeg) → post 0 μ5) ∧ (¬ v3 ≤ (μ5 17 0 a2.toNatClampNeg) → post 3 μ5))))
set_option maxRecDepth 100000 in
set_option maxHeartbeats 4000000 in
theorem t_X5_servesActor_30 {p : Program} {l : Launch} {e : Env} {s : State} {m : MethodId} {args : Array Value} {below : List Frame} {meth : Method} {c : Code} {D : va_G} {ca : Nat → ClassId} {base : Nat} {ad : Nat → Nat → Nat} {n np : Nat} {post : Int32 → Mem → Prop} (hC : ZC p m meth c s RX5 cX5_servesActor 4) (hr : meth.sig.returnType = (some FieldType.int)) (a1 : Int32) (a2 : Int32) (v3 : Int32) (s1 : Int32) (s2 : Int32) (μ : Mem) (H : Heap) (locs : List Loc) (ls : Array Slot) (h : b_X5_servesActor_30 post a1 a2 v3 s1 s2 μ) (hZ : ZS D ca base ad n np μ s H locs) (hl : lv_has ls 4 [(0, .ref (ad 0 0)), (2, .int a2), (3, .int v3)]) : W p l e ({ frames := 0, cells := 0, slots := 0, locals := 0 } : Room) s m args below meth c H locs 0 0 (MQ below (ZQ D ca base ad n np (zpi post)) args s 0 0 (zB base)) (F0 m 30 ls [.int s2, .int s1, .ref (ad 17 0)]) := by
  unfold b_X5_servesActor_30 at h
  obtain ⟨q4, h⟩ := h
  refine aS_17 hC hZ q4 dX5_servesActor_30 (fun μ5 H locs eμ5 hZ => ?_)
  have h := h μ5 eμ5
  refine lv_iload_n hC.1 hC.2.1 dX5_servesActor_31 rfl (lv_at hl 2 rfl) ?_
  refine lv_aload_n hC.1 hC.2.1 dX5_servesActor_32 rfl (lv_at hl 0 rfl) ?_
  refine gX5_21 hC hZ kf_X5_63 dX5_servesActor_33 ?_
  refine lv_iload_n hC.1 hC.2.1 dX5_servesActor_36 rfl (lv_at hl 1 rfl) ?_
  obtain ⟨q6, h⟩ := h
  refine aL_17 hC hZ q6 dX5_servesActor_37 ?_
  refine lv_icmp_le (tgt := 45) hC.1 hC.2.1 dX5_servesActor_38 (by decide) (fun c7 => ?_) (fun c7 => ?_)
  · have h := h.1 c7
    refine lv_iconst (v := 0) hC.1 hC.2.1 dX5_servesActor_45 (by decide) ?_
    exact z_iret hC hr hZ h dX5_servesActor_46 (Nat.le_of_ble_eq_true rfl) (Nat.le_of_ble_eq_true rfl)
  · have h := h.2 c7
    refine lv_iconst (v := 3) hC.1 hC.2.1 dX5_servesActor_41 (by decide) ?_
    refine lv_goto (tgt := 46) hC.1 hC.2.1 dX5_servesActor_42 (by decide) ?_
    exact z_iret hC hr hZ h dX5_servesActor_46 (Nat.le_of_ble_eq_true rfl) (Nat.le_of_ble_eq_true rfl)
def w_X5_servesActor (post : Int32 → Mem → Prop) (a1 : Int32) (a2 : Int32) (μ : Mem) : Prop := (vp_in ((5 * a1) + a2) 50 ∧ ((¬ (μ 5 0 ((5 * a1) + a2).toNatClampNeg) = 0 → (vp_in a2 5 ∧ b_X5_servesActor_30 post a1 a2 (μ 5 0 ((5 * a1) + a2).toNatClampNeg) a2 (μ 17 0 a2.toNatClampNeg) μ)) ∧ ((μ 5 0 ((5 * a1) + a2).toNatClampNeg) = 0 → b_X5_servesActor_30 post a1 a2 (μ 5 0 ((5 * a1) + a2).toNatClampNeg) a2 (0 : Int32) μ)))
set_option maxRecDepth 100000 in
set_option maxHeartbeats 4000000 in
theorem c_X5_servesActor (l : Launch) {D : va_G} {ca : Nat → ClassId} {base : Nat} {ad : Nat → Nat → Nat} {n np : Nat} {μ : Mem} {post : Int32 → Mem → Prop} {a1 : Int32} {a2 : Int32} (h : w_X5_servesActor post a1 a2 μ) : ZMet l yX5_servesActor cX5_servesActor 4 (some FieldType.int) ({ frames := 0, cells := 0, slots := 0, locals := 0 } : Room) 0 0 D ca base ad n np [.ref (ad 0 0), .int a1, .int a2] μ (zpi post) := by
  unfold ZMet
  refine Met.ofW (cc := cX5_servesActor) (maxL := 4) (ret := (some FieldType.int)) (by decide) rfl ?_
  intro p e s m args below meth c s₁ B hml hv
  obtain ⟨rfl, hU⟩ := hv
  have hZ := hU.toS
  have hC : ZC p m meth c s RX5 cX5_servesActor 4 := ⟨B.exec, B.bytes, hml, findClass_of_methodNamed B.named, B.notSynchronized⟩
  have hr := B.returns
  have key : W p l e ({ frames := 0, cells := 0, slots := 0, locals := 0 } : Room) s m (([.ref (ad 0 0), .int a1, .int a2] : List Value).toArray) below meth c s.heap [] 0 0 (MQ below (ZQ D ca base ad n np (zpi post)) (([.ref (ad 0 0), .int a1, .int a2] : List Value).toArray) s 0 0 (zB base)) (entryFrame m (([.ref (ad 0 0), .int a1, .int a2] : List Value).toArray) 4) := by
    have hl := lv_entry ([.ref (ad 0 0), .int a1, .int a2]) (n := 4) (Nat.le_of_ble_eq_true rfl)
    rw [lg_entry_eq]
    generalize (lg_sl ([.ref (ad 0 0), .int a1, .int a2]) ++ List.replicate (4 - (lg_sl ([.ref (ad 0 0), .int a1, .int a2])).length) Slot.unset).toArray = ls at hl ⊢
    have hl : lv_has ls 4 [(0, .ref (ad 0 0)), (1, .int a1), (2, .int a2)] := hl
    unfold w_X5_servesActor at h
    refine lv_aload_n hC.1 hC.2.1 dX5_servesActor_0 rfl (lv_at hl 0 rfl) ?_
    refine gX5_8 hC hZ kf_X5_26 dX5_servesActor_1 ?_
    refine lv_iconst (v := 5) hC.1 hC.2.1 dX5_servesActor_4 (by decide) ?_
    refine lv_iload_n hC.1 hC.2.1 dX5_servesActor_5 rfl (lv_at hl 1 rfl) ?_
    refine lv_imul hC.1 hC.2.1 dX5_servesActor_6 ?_
    refine lv_iload_n hC.1 hC.2.1 dX5_servesActor_7 rfl (lv_at hl 2 rfl) ?_
    refine lv_iadd hC.1 hC.2.1 dX5_servesActor_8 ?_
    obtain ⟨q1, h⟩ := h
    refine aL_5 hC hZ q1 dX5_servesActor_9 ?_
    refine lv_istore_n (lv' := [(3, .int (μ 5 0 ((5 * a1) + a2).toNatClampNeg)), (0, .ref (ad 0 0)), (1, .int a1), (2, .int a2)]) hC.1 hC.2.1 dX5_servesActor_10 rfl hl (by decide) rfl (fun ls hl => ?_)
    refine lv_aload_n hC.1 hC.2.1 dX5_servesActor_11 rfl (lv_at hl 1 rfl) ?_
    refine gX5_21 hC hZ kf_X5_63 dX5_servesActor_12 ?_
    refine lv_iload_n hC.1 hC.2.1 dX5_servesActor_15 rfl (lv_at hl 3 rfl) ?_
    refine lv_iload_n hC.1 hC.2.1 dX5_servesActor_16 rfl (lv_at hl 0 rfl) ?_
    refine lv_if_ne (tgt := 24) hC.1 hC.2.1 dX5_servesActor_17 (by decide) (fun c2 => ?_) (fun c2 => ?_)
    · have h := h.1 c2
      refine lv_aload_n hC.1 hC.2.1 dX5_servesActor_24 rfl (lv_at hl 1 rfl) ?_
      refine gX5_21 hC hZ kf_X5_63 dX5_servesActor_25 ?_
      refine lv_iload_n hC.1 hC.2.1 dX5_servesActor_28 rfl (lv_at hl 3 rfl) ?_
      obtain ⟨q3, h⟩ := h
      refine aL_17 hC hZ q3 dX5_servesActor_29 ?_
      exact t_X5_servesActor_30 (l := l) hC hr _ _ _ _ _ _ _ _ _ h hZ (lv_sub hl [1, 3, 0] rfl)
    · have h := h.2 c2
      refine lv_iconst (v := 0) hC.1 hC.2.1 dX5_servesActor_20 (by decide) ?_
      refine lv_goto (tgt := 30) hC.1 hC.2.1 dX5_servesActor_21 (by decide) ?_
      exact t_X5_servesActor_30 (l := l) hC hr _ _ _ _ _ _ _ _ _ h hZ (lv_sub hl [1, 3, 0] rfl)
  exact key
def b_X5_servesProp_83 (post : Int32 → Mem → Prop) (a1 : Int32) (a2 : Int32) (v5 : Int32) (μ : Mem) : Prop := (vp_in ((5 * a1) + a2) 50 ∧ (vp_in ((4 * a2) + (μ 7 0 ((5 * a1) + a2).toNatClampNeg)) 20 ∧ (∀ μ8 : Mem, μ8 = zst μ 18 0 (((4 * a2) + (μ 7 0 ((5 * a1) + a2).toNatClampNeg)).toNatClampNeg) ((μ 18 0 ((4 * a2) + (μ 7 0 ((5 * a1) + a2).toNatClampNeg)).toNatClampNeg) + 1) → post v5 μ8)))
set_option maxRecDepth 100000 in
set_option maxHeartbeats 4000000 in
theorem t_X5_servesProp_83 {p : Program} {l : Launch} {e : Env} {s : State} {m : MethodId} {args : Array Value} {below : List Frame} {meth : Method} {c : Code} {D : va_G} {ca : Nat → ClassId} {base : Nat} {ad : Nat → Nat → Nat} {n np : Nat} {post : Int32 → Mem → Prop} (hC : ZC p m meth c s RX5 cX5_servesProp 6) (hr : meth.sig.returnType = (some FieldType.int)) (a1 : Int32) (a2 : Int32) (v5 : Int32) (μ : Mem) (H : Heap) (locs : List Loc) (ls : Array Slot) (h : b_X5_servesProp_83 post a1 a2 v5 μ) (hZ : ZS D ca base ad n np μ s H locs) (hl : lv_has ls 6 [(0, .ref (ad 0 0)), (1, .int a1), (2, .int a2), (5, .int v5)]) : W p l e ({ frames := 0, cells := 0, slots := 0, locals := 0 } : Room) s m args below meth c H locs 0 0 (MQ below (ZQ D ca base ad n np (zpi post)) args s 0 0 (zB base)) (F0 m 83 ls []) := by
  unfold b_X5_servesProp_83 at h
  refine lv_aload_n hC.1 hC.2.1 dX5_servesProp_83 rfl (lv_at hl 0 rfl) ?_
  refine gX5_22 hC hZ kf_X5_66 dX5_servesProp_84 ?_
  refine lv_iconst (v := 4) hC.1 hC.2.1 dX5_servesProp_87 (by decide) ?_
  refine lv_iload_n hC.1 hC.2.1 dX5_servesProp_88 rfl (lv_at hl 2 rfl) ?_
  refine lv_imul hC.1 hC.2.1 dX5_servesProp_89 ?_
  refine lv_aload_n hC.1 hC.2.1 dX5_servesProp_90 rfl (lv_at hl 0 rfl) ?_
  refine gX5_10 hC hZ kf_X5_32 dX5_servesProp_91 ?_
  refine lv_iconst (v := 5) hC.1 hC.2.1 dX5_servesProp_94 (by decide) ?_
  refine lv_iload_n hC.1 hC.2.1 dX5_servesProp_95 rfl (lv_at hl 1 rfl) ?_
  refine lv_imul hC.1 hC.2.1 dX5_servesProp_96 ?_
  refine lv_iload_n hC.1 hC.2.1 dX5_servesProp_97 rfl (lv_at hl 2 rfl) ?_
  refine lv_iadd hC.1 hC.2.1 dX5_servesProp_98 ?_
  obtain ⟨q6, h⟩ := h
  refine aL_7 hC hZ q6 dX5_servesProp_99 ?_
  refine lv_iadd hC.1 hC.2.1 dX5_servesProp_100 ?_
  refine lv_dup2_11 hC.1 hC.2.1 dX5_servesProp_101 rfl rfl ?_
  obtain ⟨q7, h⟩ := h
  refine aL_18 hC hZ q7 dX5_servesProp_102 ?_
  refine lv_iconst (v := 1) hC.1 hC.2.1 dX5_servesProp_103 (by decide) ?_
  refine lv_iadd hC.1 hC.2.1 dX5_servesProp_104 ?_
  refine aS_18 hC hZ q7 dX5_servesProp_105 (fun μ8 H locs eμ8 hZ => ?_)
  have h := h μ8 eμ8
  refine lv_iload hC.1 hC.2.1 dX5_servesProp_106 (lv_at hl 3 rfl) ?_
  exact z_iret hC hr hZ h dX5_servesProp_108 (Nat.le_of_ble_eq_true rfl) (Nat.le_of_ble_eq_true rfl)
def b_X5_servesProp_61 (post : Int32 → Mem → Prop) (a1 : Int32) (a2 : Int32) (v4 : Int32) (s0 : Int32) (μ : Mem) : Prop := ((v4 < 0 → b_X5_servesProp_83 post a1 a2 s0 μ) ∧ (¬ v4 < 0 → (vp_in ((4 * a2) + v4) 20 ∧ (∀ μ10 : Mem, μ10 = zst μ 18 0 (((4 * a2) + v4).toNatClampNeg) ((μ 18 0 ((4 * a2) + v4).toNatClampNeg) - 1) → b_X5_servesProp_83 post a1 a2 s0 μ10))))
set_option maxRecDepth 100000 in
set_option maxHeartbeats 4000000 in
theorem t_X5_servesProp_61 {p : Program} {l : Launch} {e : Env} {s : State} {m : MethodId} {args : Array Value} {below : List Frame} {meth : Method} {c : Code} {D : va_G} {ca : Nat → ClassId} {base : Nat} {ad : Nat → Nat → Nat} {n np : Nat} {post : Int32 → Mem → Prop} (hC : ZC p m meth c s RX5 cX5_servesProp 6) (hr : meth.sig.returnType = (some FieldType.int)) (a1 : Int32) (a2 : Int32) (v4 : Int32) (s0 : Int32) (μ : Mem) (H : Heap) (locs : List Loc) (ls : Array Slot) (h : b_X5_servesProp_61 post a1 a2 v4 s0 μ) (hZ : ZS D ca base ad n np μ s H locs) (hl : lv_has ls 6 [(0, .ref (ad 0 0)), (1, .int a1), (2, .int a2), (4, .int v4)]) : W p l e ({ frames := 0, cells := 0, slots := 0, locals := 0 } : Room) s m args below meth c H locs 0 0 (MQ below (ZQ D ca base ad n np (zpi post)) args s 0 0 (zB base)) (F0 m 61 ls [.int s0]) := by
  unfold b_X5_servesProp_61 at h
  refine lv_istore (lv' := [(5, .int s0), (0, .ref (ad 0 0)), (1, .int a1), (2, .int a2), (4, .int v4)]) hC.1 hC.2.1 dX5_servesProp_61 hl (by decide) rfl (fun ls hl => ?_)
  refine lv_iload hC.1 hC.2.1 dX5_servesProp_63 (lv_at hl 4 rfl) ?_
  refine lv_if_lt (tgt := 83) hC.1 hC.2.1 dX5_servesProp_65 (by decide) (fun c5 => ?_) (fun c5 => ?_)
  · have h := h.1 c5
    exact t_X5_servesProp_83 (l := l) hC hr _ _ _ _ _ _ _ h hZ (lv_sub hl [1, 2, 3, 0] rfl)
  · have h := h.2 c5
    refine lv_aload_n hC.1 hC.2.1 dX5_servesProp_68 rfl (lv_at hl 1 rfl) ?_
    refine gX5_22 hC hZ kf_X5_66 dX5_servesProp_69 ?_
    refine lv_iconst (v := 4) hC.1 hC.2.1 dX5_servesProp_72 (by decide) ?_
    refine lv_iload_n hC.1 hC.2.1 dX5_servesProp_73 rfl (lv_at hl 3 rfl) ?_
    refine lv_imul hC.1 hC.2.1 dX5_servesProp_74 ?_
    refine lv_iload hC.1 hC.2.1 dX5_servesProp_75 (lv_at hl 4 rfl) ?_
    refine lv_iadd hC.1 hC.2.1 dX5_servesProp_77 ?_
    refine lv_dup2_11 hC.1 hC.2.1 dX5_servesProp_78 rfl rfl ?_
    obtain ⟨q9, h⟩ := h
    refine aL_18 hC hZ q9 dX5_servesProp_79 ?_
    refine lv_iconst (v := 1) hC.1 hC.2.1 dX5_servesProp_80 (by decide) ?_
    refine lv_isub hC.1 hC.2.1 dX5_servesProp_81 ?_
    refine aS_18 hC hZ q9 dX5_servesProp_82 (fun μ10 H locs eμ10 hZ => ?_)
    have h := h μ10 eμ10
    exact t_X5_servesProp_83 (l := l) hC hr _ _ _ _ _ _ _ h hZ (lv_sub hl [1, 2, 3, 0] rfl)
def b_X5_servesProp_46 (post : Int32 → Mem → Prop) (a1 : Int32) (a2 : Int32) (v3 : Int32) (v4 : Int32) (μ : Mem) : Prop := ((0 ≤ v4 → b_X5_servesProp_61 post a1 a2 v4 (v3 - v4) μ) ∧ (¬ 0 ≤ v4 → b_X5_servesProp_61 post a1 a2 v4 (5 + v3) μ))
set_option maxRecDepth 100000 in
set_option maxHeartbeats 4000000 in
theorem t_X5_servesProp_46 {p : Program} {l : Launch} {e : Env} {s : State} {m : MethodId} {args : Array Value} {below : List Frame} {meth : Method} {c : Code} {D : va_G} {ca : Nat → ClassId} {base : Nat} {ad : Nat → Nat → Nat} {n np : Nat} {post : Int32 → Mem → Prop} (hC : ZC p m meth c s RX5 cX5_servesProp 6) (hr : meth.sig.returnType = (some FieldType.int)) (a1 : Int32) (a2 : Int32) (v3 : Int32) (v4 : Int32) (μ : Mem) (H : Heap) (locs : List Loc) (ls : Array Slot) (h : b_X5_servesProp_46 post a1 a2 v3 v4 μ) (hZ : ZS D ca base ad n np μ s H locs) (hl : lv_has ls 6 [(0, .ref (ad 0 0)), (1, .int a1), (2, .int a2), (3, .int v3), (4, .int v4)]) : W p l e ({ frames := 0, cells := 0, slots := 0, locals := 0 } : Room) s m args below meth c H locs 0 0 (MQ below (ZQ D ca base ad n np (zpi post)) args s 0 0 (zB base)) (F0 m 46 ls []) := by
  unfold b_X5_servesProp_46 at h
  refine lv_iload hC.1 hC.2.1 dX5_servesProp_46 (lv_at hl 4 rfl) ?_
  refine lv_if_ge (tgt := 57) hC.1 hC.2.1 dX5_servesProp_48 (by decide) (fun c4 => ?_) (fun c4 => ?_)
  · have h := h.1 c4
    refine lv_iload_n hC.1 hC.2.1 dX5_servesProp_57 rfl (lv_at hl 3 rfl) ?_
    refine lv_iload hC.1 hC.2.1 dX5_servesProp_58 (lv_at hl 4 rfl) ?_
    refine lv_isub hC.1 hC.2.1 dX5_servesProp_60 ?_
    exact t_X5_servesProp_61 (l := l) hC hr _ _ _ _ _ _ _ _ h hZ (lv_sub hl [0, 1, 2, 4] rfl)
  · have h := h.2 c4
    refine lv_iconst (v := 5) hC.1 hC.2.1 dX5_servesProp_51 (by decide) ?_
    refine lv_iload_n hC.1 hC.2.1 dX5_servesProp_52 rfl (lv_at hl 3 rfl) ?_
    refine lv_iadd hC.1 hC.2.1 dX5_servesProp_53 ?_
    refine lv_goto (tgt := 61) hC.1 hC.2.1 dX5_servesProp_54 (by decide) ?_
    exact t_X5_servesProp_61 (l := l) hC hr _ _ _ _ _ _ _ _ h hZ (lv_sub hl [0, 1, 2, 4] rfl)
def lb_X5_servesProp_21 (post : Int32 → Mem → Prop) (k21 : Int32 → Int32 → Mem → Prop) (a1 : Int32) (a2 : Int32) (v3 : Int32) (v4 : Int32) (μ : Mem) : Prop := ((v4 < 0 → b_X5_servesProp_46 post a1 a2 v3 v4 μ) ∧ (¬ v4 < 0 → (vp_in ((4 * a2) + v4) 20 ∧ ((¬ (μ 18 0 ((4 * a2) + v4).toNatClampNeg) = 0 → b_X5_servesProp_46 post a1 a2 v3 v4 μ) ∧ ((μ 18 0 ((4 * a2) + v4).toNatClampNeg) = 0 → k21 v3 (v4 + (-1)) μ)))))
def l_X5_servesProp_21 (post : Int32 → Mem → Prop) (a1 : Int32) (a2 : Int32) : Nat → Int32 → Int32 → Mem → Prop
  | 0 => fun _ _ _ => False
  | fuel + 1 => lb_X5_servesProp_21 post (l_X5_servesProp_21 post a1 a2 fuel) a1 a2 
set_option maxRecDepth 100000 in
set_option maxHeartbeats 4000000 in
theorem t_X5_servesProp_21 {p : Program} {l : Launch} {e : Env} {s : State} {m : MethodId} {args : Array Value} {below : List Frame} {meth : Method} {c : Code} {D : va_G} {ca : Nat → ClassId} {base : Nat} {ad : Nat → Nat → Nat} {n np : Nat} {post : Int32 → Mem → Prop} (hC : ZC p m meth c s RX5 cX5_servesProp 6) (hr : meth.sig.returnType = (some FieldType.int)) (a1 : Int32) (a2 : Int32) : ∀ (fuel : Nat) (v3 : Int32) (v4 : Int32) (μ : Mem) (H : Heap) (locs : List Loc) (ls : Array Slot), l_X5_servesProp_21 post a1 a2 fuel v3 v4 μ → ZS D ca base ad n np μ s H locs → lv_has ls 6 [(0, .ref (ad 0 0)), (1, .int a1), (2, .int a2), (3, .int v3), (4, .int v4)] → W p l e ({ frames := 0, cells := 0, slots := 0, locals := 0 } : Room) s m args below meth c H locs 0 0 (MQ below (ZQ D ca base ad n np (zpi post)) args s 0 0 (zB base)) (F0 m 21 ls []) := by
  intro fuel
  induction fuel with
  | zero => exact fun _ _ _ _ _ _ h => h.elim
  | succ fuel hk21 =>
    intro v3 v4 μ H locs ls h hZ hl
    have h : lb_X5_servesProp_21 post (l_X5_servesProp_21 post a1 a2 fuel) a1 a2 v3 v4 μ := h
    unfold lb_X5_servesProp_21 at h
    refine lv_iload hC.1 hC.2.1 dX5_servesProp_21 (lv_at hl 4 rfl) ?_
    refine lv_if_lt (tgt := 46) hC.1 hC.2.1 dX5_servesProp_23 (by decide) (fun c3 => ?_) (fun c3 => ?_)
    · have h := h.1 c3
      exact t_X5_servesProp_46 (l := l) hC hr _ _ _ _ _ _ _ _ h hZ (lv_sub hl [0, 1, 2, 3, 4] rfl)
    · have h := h.2 c3
      refine lv_aload_n hC.1 hC.2.1 dX5_servesProp_26 rfl (lv_at hl 0 rfl) ?_
      refine gX5_22 hC hZ kf_X5_66 dX5_servesProp_27 ?_
      refine lv_iconst (v := 4) hC.1 hC.2.1 dX5_servesProp_30 (by decide) ?_
      refine lv_iload_n hC.1 hC.2.1 dX5_servesProp_31 rfl (lv_at hl 2 rfl) ?_
      refine lv_imul hC.1 hC.2.1 dX5_servesProp_32 ?_
      refine lv_iload hC.1 hC.2.1 dX5_servesProp_33 (lv_at hl 4 rfl) ?_
      refine lv_iadd hC.1 hC.2.1 dX5_servesProp_35 ?_
      obtain ⟨q11, h⟩ := h
      refine aL_18 hC hZ q11 dX5_servesProp_36 ?_
      refine lv_if_ne (tgt := 46) hC.1 hC.2.1 dX5_servesProp_37 (by decide) (fun c12 => ?_) (fun c12 => ?_)
      · have h := h.1 c12
        exact t_X5_servesProp_46 (l := l) hC hr _ _ _ _ _ _ _ _ h hZ (lv_sub hl [0, 1, 2, 3, 4] rfl)
      · have h := h.2 c12
        refine lv_iinc (v := v4 + (-1)) (lv' := [(4, .int (v4 + (-1))), (0, .ref (ad 0 0)), (1, .int a1), (2, .int a2), (3, .int v3)]) hC.1 hC.2.1 dX5_servesProp_40 hl (k := 4) rfl rfl (by decide) rfl (fun ls hl => ?_)
        refine lv_goto (tgt := 21) hC.1 hC.2.1 dX5_servesProp_43 (by decide) ?_
        exact hk21 _ _ _ _ _ _ h hZ (lv_sub hl [1, 2, 3, 4, 0] rfl)
def w_X5_servesProp (post : Int32 → Mem → Prop) (a1 : Int32) (a2 : Int32) (μ : Mem) : Prop := (vp_in ((5 * a1) + a2) 50 ∧ ((¬ (μ 6 0 ((5 * a1) + a2).toNatClampNeg) = (-1) → (∃ fuel : Nat, l_X5_servesProp_21 post a1 a2 fuel (μ 6 0 ((5 * a1) + a2).toNatClampNeg) (μ 6 0 ((5 * a1) + a2).toNatClampNeg) μ)) ∧ ((μ 6 0 ((5 * a1) + a2).toNatClampNeg) = (-1) → post 0 μ)))
set_option maxRecDepth 100000 in
set_option maxHeartbeats 4000000 in
theorem c_X5_servesProp (l : Launch) {D : va_G} {ca : Nat → ClassId} {base : Nat} {ad : Nat → Nat → Nat} {n np : Nat} {μ : Mem} {post : Int32 → Mem → Prop} {a1 : Int32} {a2 : Int32} (h : w_X5_servesProp post a1 a2 μ) : ZMet l yX5_servesProp cX5_servesProp 6 (some FieldType.int) ({ frames := 0, cells := 0, slots := 0, locals := 0 } : Room) 0 0 D ca base ad n np [.ref (ad 0 0), .int a1, .int a2] μ (zpi post) := by
  unfold ZMet
  refine Met.ofW (cc := cX5_servesProp) (maxL := 6) (ret := (some FieldType.int)) (by decide) rfl ?_
  intro p e s m args below meth c s₁ B hml hv
  obtain ⟨rfl, hU⟩ := hv
  have hZ := hU.toS
  have hC : ZC p m meth c s RX5 cX5_servesProp 6 := ⟨B.exec, B.bytes, hml, findClass_of_methodNamed B.named, B.notSynchronized⟩
  have hr := B.returns
  have key : W p l e ({ frames := 0, cells := 0, slots := 0, locals := 0 } : Room) s m (([.ref (ad 0 0), .int a1, .int a2] : List Value).toArray) below meth c s.heap [] 0 0 (MQ below (ZQ D ca base ad n np (zpi post)) (([.ref (ad 0 0), .int a1, .int a2] : List Value).toArray) s 0 0 (zB base)) (entryFrame m (([.ref (ad 0 0), .int a1, .int a2] : List Value).toArray) 6) := by
    have hl := lv_entry ([.ref (ad 0 0), .int a1, .int a2]) (n := 6) (Nat.le_of_ble_eq_true rfl)
    rw [lg_entry_eq]
    generalize (lg_sl ([.ref (ad 0 0), .int a1, .int a2]) ++ List.replicate (6 - (lg_sl ([.ref (ad 0 0), .int a1, .int a2])).length) Slot.unset).toArray = ls at hl ⊢
    have hl : lv_has ls 6 [(0, .ref (ad 0 0)), (1, .int a1), (2, .int a2)] := hl
    unfold w_X5_servesProp at h
    refine lv_aload_n hC.1 hC.2.1 dX5_servesProp_0 rfl (lv_at hl 0 rfl) ?_
    refine gX5_9 hC hZ kf_X5_29 dX5_servesProp_1 ?_
    refine lv_iconst (v := 5) hC.1 hC.2.1 dX5_servesProp_4 (by decide) ?_
    refine lv_iload_n hC.1 hC.2.1 dX5_servesProp_5 rfl (lv_at hl 1 rfl) ?_
    refine lv_imul hC.1 hC.2.1 dX5_servesProp_6 ?_
    refine lv_iload_n hC.1 hC.2.1 dX5_servesProp_7 rfl (lv_at hl 2 rfl) ?_
    refine lv_iadd hC.1 hC.2.1 dX5_servesProp_8 ?_
    obtain ⟨q1, h⟩ := h
    refine aL_6 hC hZ q1 dX5_servesProp_9 ?_
    refine lv_istore_n (lv' := [(3, .int (μ 6 0 ((5 * a1) + a2).toNatClampNeg)), (0, .ref (ad 0 0)), (1, .int a1), (2, .int a2)]) hC.1 hC.2.1 dX5_servesProp_10 rfl hl (by decide) rfl (fun ls hl => ?_)
    refine lv_iload_n hC.1 hC.2.1 dX5_servesProp_11 rfl (lv_at hl 0 rfl) ?_
    refine lv_iconst (v := (-1)) hC.1 hC.2.1 dX5_servesProp_12 (by decide) ?_
    refine lv_icmp_ne (tgt := 18) hC.1 hC.2.1 dX5_servesProp_13 (by decide) (fun c2 => ?_) (fun c2 => ?_)
    · have h := h.1 c2
      refine lv_iload_n hC.1 hC.2.1 dX5_servesProp_18 rfl (lv_at hl 0 rfl) ?_
      refine lv_istore (lv' := [(4, .int (μ 6 0 ((5 * a1) + a2).toNatClampNeg)), (3, .int (μ 6 0 ((5 * a1) + a2).toNatClampNeg)), (0, .ref (ad 0 0)), (1, .int a1), (2, .int a2)]) hC.1 hC.2.1 dX5_servesProp_19 hl (by decide) rfl (fun ls hl => ?_)
      obtain ⟨fuel, h⟩ := h
      exact t_X5_servesProp_21 (l := l) hC hr _ _ _ _ _ _ _ _ _ h hZ (lv_sub hl [2, 3, 4, 1, 0] rfl)
    · have h := h.2 c2
      refine lv_iconst (v := 0) hC.1 hC.2.1 dX5_servesProp_16 (by decide) ?_
      exact z_iret hC hr hZ h dX5_servesProp_17 (Nat.le_of_ble_eq_true rfl) (Nat.le_of_ble_eq_true rfl)
  exact key
def lb_X5_serves_49 (post : Int32 → Mem → Prop) (k49 : Int32 → Int32 → Mem → Prop) (a1 : Int32) (a2 : Int32) (v3 : Int32) (v4 : Int32) (μ : Mem) : Prop := ((5 ≤ v4 → post v3 μ) ∧ (¬ 5 ≤ v4 → (w_X5_servesProp (fun (r5 : Int32) (μ4 : Mem) => k49 (v3 + r5) (v4 + 1) μ4) a1 v4 μ)))
def l_X5_serves_49 (post : Int32 → Mem → Prop) (a1 : Int32) (a2 : Int32) : Nat → Int32 → Int32 → Mem → Prop
  | 0 => fun _ _ _ => False
  | fuel + 1 => lb_X5_serves_49 post (l_X5_serves_49 post a1 a2 fuel) a1 a2 
set_option maxRecDepth 100000 in
set_option maxHeartbeats 4000000 in
theorem t_X5_serves_49 {p : Program} {l : Launch} {e : Env} {s : State} {m : MethodId} {args : Array Value} {below : List Frame} {meth : Method} {c : Code} {D : va_G} {ca : Nat → ClassId} {base : Nat} {ad : Nat → Nat → Nat} {n np : Nat} {post : Int32 → Mem → Prop} (hC : ZC p m meth c s RX5 cX5_serves 5) (hr : meth.sig.returnType = (some FieldType.int)) (a1 : Int32) (a2 : Int32) : ∀ (fuel : Nat) (v3 : Int32) (v4 : Int32) (μ : Mem) (H : Heap) (locs : List Loc) (ls : Array Slot), l_X5_serves_49 post a1 a2 fuel v3 v4 μ → ZS D ca base ad n np μ s H locs → lv_has ls 5 [(0, .ref (ad 0 0)), (1, .int a1), (3, .int v3), (4, .int v4)] → W p l e ({ frames := 1, cells := 0, slots := 0, locals := 25 } : Room) s m args below meth c H locs 0 0 (MQ below (ZQ D ca base ad n np (zpi post)) args s 0 0 (zB base)) (F0 m 49 ls []) := by
  intro fuel
  induction fuel with
  | zero => exact fun _ _ _ _ _ _ h => h.elim
  | succ fuel hk49 =>
    intro v3 v4 μ H locs ls h hZ hl
    have h : lb_X5_serves_49 post (l_X5_serves_49 post a1 a2 fuel) a1 a2 v3 v4 μ := h
    unfold lb_X5_serves_49 at h
    refine lv_iload hC.1 hC.2.1 dX5_serves_49 (lv_at hl 3 rfl) ?_
    refine lv_iconst (v := 5) hC.1 hC.2.1 dX5_serves_51 (by decide) ?_
    refine lv_icmp_ge (tgt := 71) hC.1 hC.2.1 dX5_serves_52 (by decide) (fun c3 => ?_) (fun c3 => ?_)
    · have h := h.1 c3
      refine lv_iload_n hC.1 hC.2.1 dX5_serves_71 rfl (lv_at hl 2 rfl) ?_
      exact z_iret hC hr hZ h dX5_serves_72 (Nat.le_of_ble_eq_true rfl) (Nat.le_of_ble_eq_true rfl)
    · have h := h.2 c3
      refine lv_iload_n hC.1 hC.2.1 dX5_serves_55 rfl (lv_at hl 2 rfl) ?_
      refine lv_aload_n hC.1 hC.2.1 dX5_serves_56 rfl (lv_at hl 0 rfl) ?_
      refine lv_iload_n hC.1 hC.2.1 dX5_serves_57 rfl (lv_at hl 1 rfl) ?_
      refine lv_iload hC.1 hC.2.1 dX5_serves_58 (lv_at hl 3 rfl) ?_
      refine z_cVi (As := [.int a1, .int v4]) hC hZ (zF_0 _) rfl zy_X5_servesProp (c_X5_servesProp l h) km_X5_92 rfl ⟨rfl, rfl⟩ ⟨Nat.le_of_ble_eq_true rfl, Nat.le_of_ble_eq_true rfl⟩ hl.1 rfl (Nat.le_of_ble_eq_true rfl) dX5_serves_60 ⟨Nat.le_of_ble_eq_true rfl, Nat.le_of_ble_eq_true rfl⟩ (fun r5 μ4 H locs h hZ => ?_)
      refine lv_iadd hC.1 hC.2.1 dX5_serves_63 ?_
      refine lv_istore_n (lv' := [(3, .int (v3 + r5)), (0, .ref (ad 0 0)), (1, .int a1), (4, .int v4)]) hC.1 hC.2.1 dX5_serves_64 rfl hl (by decide) rfl (fun ls hl => ?_)
      refine lv_iinc (v := v4 + 1) (lv' := [(4, .int (v4 + 1)), (3, .int (v3 + r5)), (0, .ref (ad 0 0)), (1, .int a1)]) hC.1 hC.2.1 dX5_serves_65 hl (k := 3) rfl rfl (by decide) rfl (fun ls hl => ?_)
      refine lv_goto (tgt := 49) hC.1 hC.2.1 dX5_serves_68 (by decide) ?_
      exact hk49 _ _ _ _ _ _ h hZ (lv_sub hl [2, 3, 1, 0] rfl)
def lb_X5_serves_24 (post : Int32 → Mem → Prop) (k24 : Int32 → Int32 → Mem → Prop) (a1 : Int32) (a2 : Int32) (v3 : Int32) (v4 : Int32) (μ : Mem) : Prop := ((5 ≤ v4 → (∃ fuel : Nat, l_X5_serves_49 post a1 a2 fuel v3 (0 : Int32) μ)) ∧ (¬ 5 ≤ v4 → (w_X5_servesActor (fun (r7 : Int32) (μ6 : Mem) => k24 (v3 + r7) (v4 + 1) μ6) a1 v4 μ)))
def l_X5_serves_24 (post : Int32 → Mem → Prop) (a1 : Int32) (a2 : Int32) : Nat → Int32 → Int32 → Mem → Prop
  | 0 => fun _ _ _ => False
  | fuel + 1 => lb_X5_serves_24 post (l_X5_serves_24 post a1 a2 fuel) a1 a2 
set_option maxRecDepth 100000 in
set_option maxHeartbeats 4000000 in
theorem t_X5_serves_24 {p : Program} {l : Launch} {e : Env} {s : State} {m : MethodId} {args : Array Value} {below : List Frame} {meth : Method} {c : Code} {D : va_G} {ca : Nat → ClassId} {base : Nat} {ad : Nat → Nat → Nat} {n np : Nat} {post : Int32 → Mem → Prop} (hC : ZC p m meth c s RX5 cX5_serves 5) (hr : meth.sig.returnType = (some FieldType.int)) (a1 : Int32) (a2 : Int32) : ∀ (fuel : Nat) (v3 : Int32) (v4 : Int32) (μ : Mem) (H : Heap) (locs : List Loc) (ls : Array Slot), l_X5_serves_24 post a1 a2 fuel v3 v4 μ → ZS D ca base ad n np μ s H locs → lv_has ls 5 [(0, .ref (ad 0 0)), (1, .int a1), (3, .int v3), (4, .int v4)] → W p l e ({ frames := 1, cells := 0, slots := 0, locals := 25 } : Room) s m args below meth c H locs 0 0 (MQ below (ZQ D ca base ad n np (zpi post)) args s 0 0 (zB base)) (F0 m 24 ls []) := by
  intro fuel
  induction fuel with
  | zero => exact fun _ _ _ _ _ _ h => h.elim
  | succ fuel hk24 =>
    intro v3 v4 μ H locs ls h hZ hl
    have h : lb_X5_serves_24 post (l_X5_serves_24 post a1 a2 fuel) a1 a2 v3 v4 μ := h
    unfold lb_X5_serves_24 at h
    refine lv_iload hC.1 hC.2.1 dX5_serves_24 (lv_at hl 3 rfl) ?_
    refine lv_iconst (v := 5) hC.1 hC.2.1 dX5_serves_26 (by decide) ?_
    refine lv_icmp_ge (tgt := 46) hC.1 hC.2.1 dX5_serves_27 (by decide) (fun c2 => ?_) (fun c2 => ?_)
    · have h := h.1 c2
      refine lv_iconst (v := 0) hC.1 hC.2.1 dX5_serves_46 (by decide) ?_
      refine lv_istore (lv' := [(4, .int 0), (0, .ref (ad 0 0)), (1, .int a1), (3, .int v3)]) hC.1 hC.2.1 dX5_serves_47 hl (by decide) rfl (fun ls hl => ?_)
      obtain ⟨fuel, h⟩ := h
      exact t_X5_serves_49 (l := l) hC hr _ _ _ _ _ _ _ _ _ h hZ (lv_sub hl [1, 2, 3, 0] rfl)
    · have h := h.2 c2
      refine lv_iload_n hC.1 hC.2.1 dX5_serves_30 rfl (lv_at hl 2 rfl) ?_
      refine lv_aload_n hC.1 hC.2.1 dX5_serves_31 rfl (lv_at hl 0 rfl) ?_
      refine lv_iload_n hC.1 hC.2.1 dX5_serves_32 rfl (lv_at hl 1 rfl) ?_
      refine lv_iload hC.1 hC.2.1 dX5_serves_33 (lv_at hl 3 rfl) ?_
      refine z_cVi (As := [.int a1, .int v4]) hC hZ (zF_0 _) rfl zy_X5_servesActor (c_X5_servesActor l h) km_X5_88 rfl ⟨rfl, rfl⟩ ⟨Nat.le_of_ble_eq_true rfl, Nat.le_of_ble_eq_true rfl⟩ hl.1 rfl (Nat.le_of_ble_eq_true rfl) dX5_serves_35 ⟨Nat.le_of_ble_eq_true rfl, Nat.le_of_ble_eq_true rfl⟩ (fun r7 μ6 H locs h hZ => ?_)
      refine lv_iadd hC.1 hC.2.1 dX5_serves_38 ?_
      refine lv_istore_n (lv' := [(3, .int (v3 + r7)), (0, .ref (ad 0 0)), (1, .int a1), (4, .int v4)]) hC.1 hC.2.1 dX5_serves_39 rfl hl (by decide) rfl (fun ls hl => ?_)
      refine lv_iinc (v := v4 + 1) (lv' := [(4, .int (v4 + 1)), (3, .int (v3 + r7)), (0, .ref (ad 0 0)), (1, .int a1)]) hC.1 hC.2.1 dX5_serves_40 hl (k := 3) rfl rfl (by decide) rfl (fun ls hl => ?_)
      refine lv_goto (tgt := 24) hC.1 hC.2.1 dX5_serves_43 (by decide) ?_
      exact hk24 _ _ _ _ _ _ h hZ (lv_sub hl [2, 3, 1, 0] rfl)
def b_X5_serves_20 (post : Int32 → Mem → Prop) (a1 : Int32) (a2 : Int32) (s0 : Int32) (μ : Mem) : Prop := (∃ fuel : Nat, l_X5_serves_24 post a1 a2 fuel s0 (0 : Int32) μ)
set_option maxRecDepth 100000 in
set_option maxHeartbeats 4000000 in
theorem t_X5_serves_20 {p : Program} {l : Launch} {e : Env} {s : State} {m : MethodId} {args : Array Value} {below : List Frame} {meth : Method} {c : Code} {D : va_G} {ca : Nat → ClassId} {base : Nat} {ad : Nat → Nat → Nat} {n np : Nat} {post : Int32 → Mem → Prop} (hC : ZC p m meth c s RX5 cX5_serves 5) (hr : meth.sig.returnType = (some FieldType.int)) (a1 : Int32) (a2 : Int32) (s0 : Int32) (μ : Mem) (H : Heap) (locs : List Loc) (ls : Array Slot) (h : b_X5_serves_20 post a1 a2 s0 μ) (hZ : ZS D ca base ad n np μ s H locs) (hl : lv_has ls 5 [(0, .ref (ad 0 0)), (1, .int a1)]) : W p l e ({ frames := 1, cells := 0, slots := 0, locals := 25 } : Room) s m args below meth c H locs 0 0 (MQ below (ZQ D ca base ad n np (zpi post)) args s 0 0 (zB base)) (F0 m 20 ls [.int s0]) := by
  unfold b_X5_serves_20 at h
  refine lv_istore_n (lv' := [(3, .int s0), (0, .ref (ad 0 0)), (1, .int a1)]) hC.1 hC.2.1 dX5_serves_20 rfl hl (by decide) rfl (fun ls hl => ?_)
  refine lv_iconst (v := 0) hC.1 hC.2.1 dX5_serves_21 (by decide) ?_
  refine lv_istore (lv' := [(4, .int 0), (3, .int s0), (0, .ref (ad 0 0)), (1, .int a1)]) hC.1 hC.2.1 dX5_serves_22 hl (by decide) rfl (fun ls hl => ?_)
  obtain ⟨fuel, h⟩ := h
  exact t_X5_serves_24 (l := l) hC hr _ _ _ _ _ _ _ _ _ h hZ (lv_sub hl [2, 3, 1, 0] rfl)
def b_X5_serves_19 (post : Int32 → Mem → Prop) (a1 : Int32) (a2 : Int32) (μ : Mem) : Prop := b_X5_serves_20 post a1 a2 (0 : Int32) μ
set_option maxRecDepth 100000 in
set_option maxHeartbeats 4000000 in
theorem t_X5_serves_19 {p : Program} {l : Launch} {e : Env} {s : State} {m : MethodId} {args : Array Value} {below : List Frame} {meth : Method} {c : Code} {D : va_G} {ca : Nat → ClassId} {base : Nat} {ad : Nat → Nat → Nat} {n np : Nat} {post : Int32 → Mem → Prop} (hC : ZC p m meth c s RX5 cX5_serves 5) (hr : meth.sig.returnType = (some FieldType.int)) (a1 : Int32) (a2 : Int32) (μ : Mem) (H : Heap) (locs : List Loc) (ls : Array Slot) (h : b_X5_serves_19 post a1 a2 μ) (hZ : ZS D ca base ad n np μ s H locs) (hl : lv_has ls 5 [(0, .ref (ad 0 0)), (1, .int a1)]) : W p l e ({ frames := 1, cells := 0, slots := 0, locals := 25 } : Room) s m args below meth c H locs 0 0 (MQ below (ZQ D ca base ad n np (zpi post)) args s 0 0 (zB base)) (F0 m 19 ls []) := by
  unfold b_X5_serves_19 at h
  refine lv_iconst (v := 0) hC.1 hC.2.1 dX5_serves_19 (by decide) ?_
  exact t_X5_serves_20 (l := l) hC hr _ _ _ _ _ _ _ h hZ (lv_sub hl [0, 1] rfl)
def w_X5_serves (post : Int32 → Mem → Prop) (a1 : Int32) (a2 : Int32) (μ : Mem) : Prop := ((a2 = (-1) → b_X5_serves_19 post a1 a2 μ) ∧ (¬ a2 = (-1) → (vp_in a1 10 ∧ ((a2 = (μ 1 0 a1.toNatClampNeg) → b_X5_serves_19 post a1 a2 μ) ∧ (¬ a2 = (μ 1 0 a1.toNatClampNeg) → b_X5_serves_20 post a1 a2 (2 : Int32) μ)))))
set_option maxRecDepth 100000 in
set_option maxHeartbeats 4000000 in
theorem c_X5_serves (l : Launch) {D : va_G} {ca : Nat → ClassId} {base : Nat} {ad : Nat → Nat → Nat} {n np : Nat} {μ : Mem} {post : Int32 → Mem → Prop} {a1 : Int32} {a2 : Int32} (h : w_X5_serves post a1 a2 μ) : ZMet l yX5_serves cX5_serves 5 (some FieldType.int) ({ frames := 1, cells := 0, slots := 0, locals := 25 } : Room) 0 0 D ca base ad n np [.ref (ad 0 0), .int a1, .int a2] μ (zpi post) := by
  unfold ZMet
  refine Met.ofW (cc := cX5_serves) (maxL := 5) (ret := (some FieldType.int)) (by decide) rfl ?_
  intro p e s m args below meth c s₁ B hml hv
  obtain ⟨rfl, hU⟩ := hv
  have hZ := hU.toS
  have hC : ZC p m meth c s RX5 cX5_serves 5 := ⟨B.exec, B.bytes, hml, findClass_of_methodNamed B.named, B.notSynchronized⟩
  have hr := B.returns
  have key : W p l e ({ frames := 1, cells := 0, slots := 0, locals := 25 } : Room) s m (([.ref (ad 0 0), .int a1, .int a2] : List Value).toArray) below meth c s.heap [] 0 0 (MQ below (ZQ D ca base ad n np (zpi post)) (([.ref (ad 0 0), .int a1, .int a2] : List Value).toArray) s 0 0 (zB base)) (entryFrame m (([.ref (ad 0 0), .int a1, .int a2] : List Value).toArray) 5) := by
    have hl := lv_entry ([.ref (ad 0 0), .int a1, .int a2]) (n := 5) (Nat.le_of_ble_eq_true rfl)
    rw [lg_entry_eq]
    generalize (lg_sl ([.ref (ad 0 0), .int a1, .int a2]) ++ List.replicate (5 - (lg_sl ([.ref (ad 0 0), .int a1, .int a2])).length) Slot.unset).toArray = ls at hl ⊢
    have hl : lv_has ls 5 [(0, .ref (ad 0 0)), (1, .int a1), (2, .int a2)] := hl
    unfold w_X5_serves at h
    refine lv_iload_n hC.1 hC.2.1 dX5_serves_0 rfl (lv_at hl 2 rfl) ?_
    refine lv_iconst (v := (-1)) hC.1 hC.2.1 dX5_serves_1 (by decide) ?_
    refine lv_icmp_eq (tgt := 19) hC.1 hC.2.1 dX5_serves_2 (by decide) (fun c1 => ?_) (fun c1 => ?_)
    · have h := h.1 c1
      exact t_X5_serves_19 (l := l) hC hr _ _  _ _ _ _ h hZ (lv_sub hl [0, 1] rfl)
    · have h := h.2 c1
      refine lv_iload_n hC.1 hC.2.1 dX5_serves_5 rfl (lv_at hl 2 rfl) ?_
      refine lv_aload_n hC.1 hC.2.1 dX5_serves_6 rfl (lv_at hl 0 rfl) ?_
      refine gX5_4 hC hZ kf_X5_13 dX5_serves_7 ?_
      refine lv_iload_n hC.1 hC.2.1 dX5_serves_10 rfl (lv_at hl 1 rfl) ?_
      obtain ⟨q8, h⟩ := h
      refine aL_1 hC hZ q8 dX5_serves_11 ?_
      refine lv_icmp_eq (tgt := 19) hC.1 hC.2.1 dX5_serves_12 (by decide) (fun c9 => ?_) (fun c9 => ?_)
      · have h := h.1 c9
        exact t_X5_serves_19 (l := l) hC hr _ _  _ _ _ _ h hZ (lv_sub hl [0, 1] rfl)
      · have h := h.2 c9
        refine lv_iconst (v := 2) hC.1 hC.2.1 dX5_serves_15 (by decide) ?_
        refine lv_goto (tgt := 20) hC.1 hC.2.1 dX5_serves_16 (by decide) ?_
        exact t_X5_serves_20 (l := l) hC hr _ _ _ _ _ _ _ h hZ (lv_sub hl [0, 1] rfl)
  exact key
def b_X5_allows_155 (post : Int32 → Mem → Prop) (k109 : Int32 → Int32 → Mem → Prop) (a1 : Int32) (a2 : Int32) (v4 : Int32) (s0 : Int32) (μ : Mem) : Prop := k109 s0 (v4 + 1) μ
set_option maxRecDepth 100000 in
set_option maxHeartbeats 4000000 in
theorem t_X5_allows_155 {p : Program} {l : Launch} {e : Env} {s : State} {m : MethodId} {args : Array Value} {below : List Frame} {meth : Method} {c : Code} {D : va_G} {ca : Nat → ClassId} {base : Nat} {ad : Nat → Nat → Nat} {n np : Nat} {post : Int32 → Mem → Prop} {k109 : Int32 → Int32 → Mem → Prop} (hC : ZC p m meth c s RX5 cX5_allows 5) (hr : meth.sig.returnType = (some FieldType.boolean)) (a1 : Int32) (a2 : Int32) (hk109 : ∀ (v3 : Int32) (v4 : Int32) (μ : Mem) (H : Heap) (locs : List Loc) (ls : Array Slot), k109 v3 v4 μ → ZS D ca base ad n np μ s H locs → lv_has ls 5 [(0, .ref (ad 0 0)), (1, .int a1), (2, .int a2), (3, .int v3), (4, .int v4)] → W p l e ({ frames := 1, cells := 0, slots := 0, locals := 22 } : Room) s m args below meth c H locs 0 0 (MQ below (ZQ D ca base ad n np (zpi post)) args s 0 0 (zB base)) (F0 m 109 ls [])) (v4 : Int32) (s0 : Int32) (μ : Mem) (H : Heap) (locs : List Loc) (ls : Array Slot) (h : b_X5_allows_155 post k109 a1 a2 v4 s0 μ) (hZ : ZS D ca base ad n np μ s H locs) (hl : lv_has ls 5 [(0, .ref (ad 0 0)), (1, .int a1), (2, .int a2), (4, .int v4)]) : W p l e ({ frames := 1, cells := 0, slots := 0, locals := 22 } : Room) s m args below meth c H locs 0 0 (MQ below (ZQ D ca base ad n np (zpi post)) args s 0 0 (zB base)) (F0 m 155 ls [.int s0]) := by
  unfold b_X5_allows_155 at h
  refine lv_istore_n (lv' := [(3, .int s0), (0, .ref (ad 0 0)), (1, .int a1), (2, .int a2), (4, .int v4)]) hC.1 hC.2.1 dX5_allows_155 rfl hl (by decide) rfl (fun ls hl => ?_)
  refine lv_iinc (v := v4 + 1) (lv' := [(4, .int (v4 + 1)), (3, .int s0), (0, .ref (ad 0 0)), (1, .int a1), (2, .int a2)]) hC.1 hC.2.1 dX5_allows_156 hl (k := 4) rfl rfl (by decide) rfl (fun ls hl => ?_)
  refine lv_goto (tgt := 109) hC.1 hC.2.1 dX5_allows_159 (by decide) ?_
  exact hk109 _ _ _ _ _ _ h hZ (lv_sub hl [2, 3, 4, 1, 0] rfl)
def b_X5_allows_154 (post : Int32 → Mem → Prop) (k109 : Int32 → Int32 → Mem → Prop) (a1 : Int32) (a2 : Int32) (v4 : Int32) (μ : Mem) : Prop := b_X5_allows_155 post k109 a1 a2 v4 (0 : Int32) μ
set_option maxRecDepth 100000 in
set_option maxHeartbeats 4000000 in
theorem t_X5_allows_154 {p : Program} {l : Launch} {e : Env} {s : State} {m : MethodId} {args : Array Value} {below : List Frame} {meth : Method} {c : Code} {D : va_G} {ca : Nat → ClassId} {base : Nat} {ad : Nat → Nat → Nat} {n np : Nat} {post : Int32 → Mem → Prop} {k109 : Int32 → Int32 → Mem → Prop} (hC : ZC p m meth c s RX5 cX5_allows 5) (hr : meth.sig.returnType = (some FieldType.boolean)) (a1 : Int32) (a2 : Int32) (hk109 : ∀ (v3 : Int32) (v4 : Int32) (μ : Mem) (H : Heap) (locs : List Loc) (ls : Array Slot), k109 v3 v4 μ → ZS D ca base ad n np μ s H locs → lv_has ls 5 [(0, .ref (ad 0 0)), (1, .int a1), (2, .int a2), (3, .int v3), (4, .int v4)] → W p l e ({ frames := 1, cells := 0, slots := 0, locals := 22 } : Room) s m args below meth c H locs 0 0 (MQ below (ZQ D ca base ad n np (zpi post)) args s 0 0 (zB base)) (F0 m 109 ls [])) (v4 : Int32) (μ : Mem) (H : Heap) (locs : List Loc) (ls : Array Slot) (h : b_X5_allows_154 post k109 a1 a2 v4 μ) (hZ : ZS D ca base ad n np μ s H locs) (hl : lv_has ls 5 [(0, .ref (ad 0 0)), (1, .int a1), (2, .int a2), (4, .int v4)]) : W p l e ({ frames := 1, cells := 0, slots := 0, locals := 22 } : Room) s m args below meth c H locs 0 0 (MQ below (ZQ D ca base ad n np (zpi post)) args s 0 0 (zB base)) (F0 m 154 ls []) := by
  unfold b_X5_allows_154 at h
  refine lv_iconst (v := 0) hC.1 hC.2.1 dX5_allows_154 (by decide) ?_
  exact t_X5_allows_155 (l := l) hC hr _ _ hk109 _ _ _ _ _ _ h hZ (lv_sub hl [0, 1, 2, 3] rfl)
def b_X5_allows_150 (post : Int32 → Mem → Prop) (k109 : Int32 → Int32 → Mem → Prop) (a1 : Int32) (a2 : Int32) (v4 : Int32) (μ : Mem) : Prop := b_X5_allows_155 post k109 a1 a2 v4 (1 : Int32) μ
set_option maxRecDepth 100000 in
set_option maxHeartbeats 4000000 in
theorem t_X5_allows_150 {p : Program} {l : Launch} {e : Env} {s : State} {m : MethodId} {args : Array Value} {below : List Frame} {meth : Method} {c : Code} {D : va_G} {ca : Nat → ClassId} {base : Nat} {ad : Nat → Nat → Nat} {n np : Nat} {post : Int32 → Mem → Prop} {k109 : Int32 → Int32 → Mem → Prop} (hC : ZC p m meth c s RX5 cX5_allows 5) (hr : meth.sig.returnType = (some FieldType.boolean)) (a1 : Int32) (a2 : Int32) (hk109 : ∀ (v3 : Int32) (v4 : Int32) (μ : Mem) (H : Heap) (locs : List Loc) (ls : Array Slot), k109 v3 v4 μ → ZS D ca base ad n np μ s H locs → lv_has ls 5 [(0, .ref (ad 0 0)), (1, .int a1), (2, .int a2), (3, .int v3), (4, .int v4)] → W p l e ({ frames := 1, cells := 0, slots := 0, locals := 22 } : Room) s m args below meth c H locs 0 0 (MQ below (ZQ D ca base ad n np (zpi post)) args s 0 0 (zB base)) (F0 m 109 ls [])) (v4 : Int32) (μ : Mem) (H : Heap) (locs : List Loc) (ls : Array Slot) (h : b_X5_allows_150 post k109 a1 a2 v4 μ) (hZ : ZS D ca base ad n np μ s H locs) (hl : lv_has ls 5 [(0, .ref (ad 0 0)), (1, .int a1), (2, .int a2), (4, .int v4)]) : W p l e ({ frames := 1, cells := 0, slots := 0, locals := 22 } : Room) s m args below meth c H locs 0 0 (MQ below (ZQ D ca base ad n np (zpi post)) args s 0 0 (zB base)) (F0 m 150 ls []) := by
  unfold b_X5_allows_150 at h
  refine lv_iconst (v := 1) hC.1 hC.2.1 dX5_allows_150 (by decide) ?_
  refine lv_goto (tgt := 155) hC.1 hC.2.1 dX5_allows_151 (by decide) ?_
  exact t_X5_allows_155 (l := l) hC hr _ _ hk109 _ _ _ _ _ _ h hZ (lv_sub hl [0, 1, 2, 3] rfl)
def lb_X5_allows_109 (post : Int32 → Mem → Prop) (k109 : Int32 → Int32 → Mem → Prop) (a1 : Int32) (a2 : Int32) (v3 : Int32) (v4 : Int32) (μ : Mem) : Prop := ((5 ≤ v4 → ((v3 = 0 ∨ v3 = 1) ∧ post v3 μ)) ∧ (¬ 5 ≤ v4 → ((v3 = 0 → b_X5_allows_154 post k109 a1 a2 v4 μ) ∧ (¬ v3 = 0 → (vp_in ((5 * a1) + v4) 50 ∧ (((μ 5 0 ((5 * a1) + v4).toNatClampNeg) = (-2) → b_X5_allows_150 post k109 a1 a2 v4 μ) ∧ (¬ (μ 5 0 ((5 * a1) + v4).toNatClampNeg) = (-2) → (vp_in ((30 * v4) + a2) 150 ∧ ((¬ (μ 14 0 ((30 * v4) + a2).toNatClampNeg) = 0 → b_X5_allows_154 post k109 a1 a2 v4 μ) ∧ ((μ 14 0 ((30 * v4) + a2).toNatClampNeg) = 0 → b_X5_allows_150 post k109 a1 a2 v4 μ))))))))))
def l_X5_allows_109 (post : Int32 → Mem → Prop) (a1 : Int32) (a2 : Int32) : Nat → Int32 → Int32 → Mem → Prop
  | 0 => fun _ _ _ => False
  | fuel + 1 => lb_X5_allows_109 post (l_X5_allows_109 post a1 a2 fuel) a1 a2 
set_option maxRecDepth 100000 in
set_option maxHeartbeats 4000000 in
theorem t_X5_allows_109 {p : Program} {l : Launch} {e : Env} {s : State} {m : MethodId} {args : Array Value} {below : List Frame} {meth : Method} {c : Code} {D : va_G} {ca : Nat → ClassId} {base : Nat} {ad : Nat → Nat → Nat} {n np : Nat} {post : Int32 → Mem → Prop} (hC : ZC p m meth c s RX5 cX5_allows 5) (hr : meth.sig.returnType = (some FieldType.boolean)) (a1 : Int32) (a2 : Int32) : ∀ (fuel : Nat) (v3 : Int32) (v4 : Int32) (μ : Mem) (H : Heap) (locs : List Loc) (ls : Array Slot), l_X5_allows_109 post a1 a2 fuel v3 v4 μ → ZS D ca base ad n np μ s H locs → lv_has ls 5 [(0, .ref (ad 0 0)), (1, .int a1), (2, .int a2), (3, .int v3), (4, .int v4)] → W p l e ({ frames := 1, cells := 0, slots := 0, locals := 22 } : Room) s m args below meth c H locs 0 0 (MQ below (ZQ D ca base ad n np (zpi post)) args s 0 0 (zB base)) (F0 m 109 ls []) := by
  intro fuel
  induction fuel with
  | zero => exact fun _ _ _ _ _ _ h => h.elim
  | succ fuel hk109 =>
    intro v3 v4 μ H locs ls h hZ hl
    have h : lb_X5_allows_109 post (l_X5_allows_109 post a1 a2 fuel) a1 a2 v3 v4 μ := h
    unfold lb_X5_allows_109 at h
    refine lv_iload hC.1 hC.2.1 dX5_allows_109 (lv_at hl 4 rfl) ?_
    refine lv_iconst (v := 5) hC.1 hC.2.1 dX5_allows_111 (by decide) ?_
    refine lv_icmp_ge (tgt := 162) hC.1 hC.2.1 dX5_allows_112 (by decide) (fun c4 => ?_) (fun c4 => ?_)
    · have h := h.1 c4
      refine lv_iload_n hC.1 hC.2.1 dX5_allows_162 rfl (lv_at hl 3 rfl) ?_
      obtain ⟨q5, h⟩ := h
      exact z_bret hC hr hZ q5 h dX5_allows_163 (Nat.le_of_ble_eq_true rfl) (Nat.le_of_ble_eq_true rfl)
    · have h := h.2 c4
      refine lv_iload_n hC.1 hC.2.1 dX5_allows_115 rfl (lv_at hl 3 rfl) ?_
      refine lv_if_eq (tgt := 154) hC.1 hC.2.1 dX5_allows_116 (by decide) (fun c6 => ?_) (fun c6 => ?_)
      · have h := h.1 c6
        exact t_X5_allows_154 (l := l) hC hr _ _ hk109 _ _ _ _ _ h hZ (lv_sub hl [0, 1, 2, 4] rfl)
      · have h := h.2 c6
        refine lv_aload_n hC.1 hC.2.1 dX5_allows_119 rfl (lv_at hl 0 rfl) ?_
        refine gX5_8 hC hZ kf_X5_26 dX5_allows_120 ?_
        refine lv_iconst (v := 5) hC.1 hC.2.1 dX5_allows_123 (by decide) ?_
        refine lv_iload_n hC.1 hC.2.1 dX5_allows_124 rfl (lv_at hl 1 rfl) ?_
        refine lv_imul hC.1 hC.2.1 dX5_allows_125 ?_
        refine lv_iload hC.1 hC.2.1 dX5_allows_126 (lv_at hl 4 rfl) ?_
        refine lv_iadd hC.1 hC.2.1 dX5_allows_128 ?_
        obtain ⟨q7, h⟩ := h
        refine aL_5 hC hZ q7 dX5_allows_129 ?_
        refine lv_bipush (v := (-2)) hC.1 hC.2.1 dX5_allows_130 (by decide) ?_
        refine lv_icmp_eq (tgt := 150) hC.1 hC.2.1 dX5_allows_132 (by decide) (fun c8 => ?_) (fun c8 => ?_)
        · have h := h.1 c8
          exact t_X5_allows_150 (l := l) hC hr _ _ hk109 _ _ _ _ _ h hZ (lv_sub hl [0, 1, 2, 4] rfl)
        · have h := h.2 c8
          refine lv_aload_n hC.1 hC.2.1 dX5_allows_135 rfl (lv_at hl 0 rfl) ?_
          refine gX5_18 hC hZ kf_X5_54 dX5_allows_136 ?_
          refine lv_bipush (v := 30) hC.1 hC.2.1 dX5_allows_139 (by decide) ?_
          refine lv_iload hC.1 hC.2.1 dX5_allows_141 (lv_at hl 4 rfl) ?_
          refine lv_imul hC.1 hC.2.1 dX5_allows_143 ?_
          refine lv_iload_n hC.1 hC.2.1 dX5_allows_144 rfl (lv_at hl 2 rfl) ?_
          refine lv_iadd hC.1 hC.2.1 dX5_allows_145 ?_
          obtain ⟨q9, h⟩ := h
          refine aL_14 hC hZ q9 dX5_allows_146 ?_
          refine lv_if_ne (tgt := 154) hC.1 hC.2.1 dX5_allows_147 (by decide) (fun c10 => ?_) (fun c10 => ?_)
          · have h := h.1 c10
            exact t_X5_allows_154 (l := l) hC hr _ _ hk109 _ _ _ _ _ h hZ (lv_sub hl [0, 1, 2, 4] rfl)
          · have h := h.2 c10
            exact t_X5_allows_150 (l := l) hC hr _ _ hk109 _ _ _ _ _ h hZ (lv_sub hl [0, 1, 2, 4] rfl)
def b_X5_allows_99 (post : Int32 → Mem → Prop) (k18 : Int32 → Int32 → Mem → Prop) (a1 : Int32) (a2 : Int32) (v4 : Int32) (s0 : Int32) (μ : Mem) : Prop := k18 s0 (v4 + 1) μ
set_option maxRecDepth 100000 in
set_option maxHeartbeats 4000000 in
theorem t_X5_allows_99 {p : Program} {l : Launch} {e : Env} {s : State} {m : MethodId} {args : Array Value} {below : List Frame} {meth : Method} {c : Code} {D : va_G} {ca : Nat → ClassId} {base : Nat} {ad : Nat → Nat → Nat} {n np : Nat} {post : Int32 → Mem → Prop} {k18 : Int32 → Int32 → Mem → Prop} (hC : ZC p m meth c s RX5 cX5_allows 5) (hr : meth.sig.returnType = (some FieldType.boolean)) (a1 : Int32) (a2 : Int32) (hk18 : ∀ (v3 : Int32) (v4 : Int32) (μ : Mem) (H : Heap) (locs : List Loc) (ls : Array Slot), k18 v3 v4 μ → ZS D ca base ad n np μ s H locs → lv_has ls 5 [(0, .ref (ad 0 0)), (1, .int a1), (2, .int a2), (3, .int v3), (4, .int v4)] → W p l e ({ frames := 1, cells := 0, slots := 0, locals := 22 } : Room) s m args below meth c H locs 0 0 (MQ below (ZQ D ca base ad n np (zpi post)) args s 0 0 (zB base)) (F0 m 18 ls [])) (v4 : Int32) (s0 : Int32) (μ : Mem) (H : Heap) (locs : List Loc) (ls : Array Slot) (h : b_X5_allows_99 post k18 a1 a2 v4 s0 μ) (hZ : ZS D ca base ad n np μ s H locs) (hl : lv_has ls 5 [(0, .ref (ad 0 0)), (1, .int a1), (2, .int a2), (4, .int v4)]) : W p l e ({ frames := 1, cells := 0, slots := 0, locals := 22 } : Room) s m args below meth c H locs 0 0 (MQ below (ZQ D ca base ad n np (zpi post)) args s 0 0 (zB base)) (F0 m 99 ls [.int s0]) := by
  unfold b_X5_allows_99 at h
  refine lv_istore_n (lv' := [(3, .int s0), (0, .ref (ad 0 0)), (1, .int a1), (2, .int a2), (4, .int v4)]) hC.1 hC.2.1 dX5_allows_99 rfl hl (by decide) rfl (fun ls hl => ?_)
  refine lv_iinc (v := v4 + 1) (lv' := [(4, .int (v4 + 1)), (3, .int s0), (0, .ref (ad 0 0)), (1, .int a1), (2, .int a2)]) hC.1 hC.2.1 dX5_allows_100 hl (k := 4) rfl rfl (by decide) rfl (fun ls hl => ?_)
  refine lv_goto (tgt := 18) hC.1 hC.2.1 dX5_allows_103 (by decide) ?_
  exact hk18 _ _ _ _ _ _ h hZ (lv_sub hl [2, 3, 4, 1, 0] rfl)
def b_X5_allows_94 (post : Int32 → Mem → Prop) (k18 : Int32 → Int32 → Mem → Prop) (a1 : Int32) (a2 : Int32) (v4 : Int32) (μ : Mem) : Prop := b_X5_allows_99 post k18 a1 a2 v4 (1 : Int32) μ
set_option maxRecDepth 100000 in
set_option maxHeartbeats 4000000 in
theorem t_X5_allows_94 {p : Program} {l : Launch} {e : Env} {s : State} {m : MethodId} {args : Array Value} {below : List Frame} {meth : Method} {c : Code} {D : va_G} {ca : Nat → ClassId} {base : Nat} {ad : Nat → Nat → Nat} {n np : Nat} {post : Int32 → Mem → Prop} {k18 : Int32 → Int32 → Mem → Prop} (hC : ZC p m meth c s RX5 cX5_allows 5) (hr : meth.sig.returnType = (some FieldType.boolean)) (a1 : Int32) (a2 : Int32) (hk18 : ∀ (v3 : Int32) (v4 : Int32) (μ : Mem) (H : Heap) (locs : List Loc) (ls : Array Slot), k18 v3 v4 μ → ZS D ca base ad n np μ s H locs → lv_has ls 5 [(0, .ref (ad 0 0)), (1, .int a1), (2, .int a2), (3, .int v3), (4, .int v4)] → W p l e ({ frames := 1, cells := 0, slots := 0, locals := 22 } : Room) s m args below meth c H locs 0 0 (MQ below (ZQ D ca base ad n np (zpi post)) args s 0 0 (zB base)) (F0 m 18 ls [])) (v4 : Int32) (μ : Mem) (H : Heap) (locs : List Loc) (ls : Array Slot) (h : b_X5_allows_94 post k18 a1 a2 v4 μ) (hZ : ZS D ca base ad n np μ s H locs) (hl : lv_has ls 5 [(0, .ref (ad 0 0)), (1, .int a1), (2, .int a2), (4, .int v4)]) : W p l e ({ frames := 1, cells := 0, slots := 0, locals := 22 } : Room) s m args below meth c H locs 0 0 (MQ below (ZQ D ca base ad n np (zpi post)) args s 0 0 (zB base)) (F0 m 94 ls []) := by
  unfold b_X5_allows_94 at h
  refine lv_iconst (v := 1) hC.1 hC.2.1 dX5_allows_94 (by decide) ?_
  refine lv_goto (tgt := 99) hC.1 hC.2.1 dX5_allows_95 (by decide) ?_
  exact t_X5_allows_99 (l := l) hC hr _ _ hk18 _ _ _ _ _ _ h hZ (lv_sub hl [0, 1, 2, 3] rfl)
def b_X5_allows_98 (post : Int32 → Mem → Prop) (k18 : Int32 → Int32 → Mem → Prop) (a1 : Int32) (a2 : Int32) (v4 : Int32) (μ : Mem) : Prop := b_X5_allows_99 post k18 a1 a2 v4 (0 : Int32) μ
set_option maxRecDepth 100000 in
set_option maxHeartbeats 4000000 in
theorem t_X5_allows_98 {p : Program} {l : Launch} {e : Env} {s : State} {m : MethodId} {args : Array Value} {below : List Frame} {meth : Method} {c : Code} {D : va_G} {ca : Nat → ClassId} {base : Nat} {ad : Nat → Nat → Nat} {n np : Nat} {post : Int32 → Mem → Prop} {k18 : Int32 → Int32 → Mem → Prop} (hC : ZC p m meth c s RX5 cX5_allows 5) (hr : meth.sig.returnType = (some FieldType.boolean)) (a1 : Int32) (a2 : Int32) (hk18 : ∀ (v3 : Int32) (v4 : Int32) (μ : Mem) (H : Heap) (locs : List Loc) (ls : Array Slot), k18 v3 v4 μ → ZS D ca base ad n np μ s H locs → lv_has ls 5 [(0, .ref (ad 0 0)), (1, .int a1), (2, .int a2), (3, .int v3), (4, .int v4)] → W p l e ({ frames := 1, cells := 0, slots := 0, locals := 22 } : Room) s m args below meth c H locs 0 0 (MQ below (ZQ D ca base ad n np (zpi post)) args s 0 0 (zB base)) (F0 m 18 ls [])) (v4 : Int32) (μ : Mem) (H : Heap) (locs : List Loc) (ls : Array Slot) (h : b_X5_allows_98 post k18 a1 a2 v4 μ) (hZ : ZS D ca base ad n np μ s H locs) (hl : lv_has ls 5 [(0, .ref (ad 0 0)), (1, .int a1), (2, .int a2), (4, .int v4)]) : W p l e ({ frames := 1, cells := 0, slots := 0, locals := 22 } : Room) s m args below meth c H locs 0 0 (MQ below (ZQ D ca base ad n np (zpi post)) args s 0 0 (zB base)) (F0 m 98 ls []) := by
  unfold b_X5_allows_98 at h
  refine lv_iconst (v := 0) hC.1 hC.2.1 dX5_allows_98 (by decide) ?_
  exact t_X5_allows_99 (l := l) hC hr _ _ hk18 _ _ _ _ _ _ h hZ (lv_sub hl [0, 1, 2, 3] rfl)
def lb_X5_allows_18 (post : Int32 → Mem → Prop) (k18 : Int32 → Int32 → Mem → Prop) (a1 : Int32) (a2 : Int32) (v3 : Int32) (v4 : Int32) (μ : Mem) : Prop := (((μ 0 0 12) ≤ v4 → (∃ fuel : Nat, l_X5_allows_109 post a1 a2 fuel v3 (0 : Int32) μ)) ∧ (¬ (μ 0 0 12) ≤ v4 → ((¬ v3 = 0 → b_X5_allows_94 post k18 a1 a2 v4 μ) ∧ (v3 = 0 → (vp_in v4 20 ∧ ((¬ (μ 13 0 v4.toNatClampNeg) = 0 → b_X5_allows_98 post k18 a1 a2 v4 μ) ∧ ((μ 13 0 v4.toNatClampNeg) = 0 → (vp_in a1 10 ∧ ((¬ (μ 9 0 v4.toNatClampNeg) = (μ 1 0 a1.toNatClampNeg) → b_X5_allows_98 post k18 a1 a2 v4 μ) ∧ ((μ 9 0 v4.toNatClampNeg) = (μ 1 0 a1.toNatClampNeg) → (w_X5_in (fun (r17 : Int32) (μ16 : Mem) => ((r17 = 0 → b_X5_allows_98 post k18 a1 a2 v4 μ16) ∧ (¬ r17 = 0 → (((μ16 12 0 v4.toNatClampNeg) < (μ16 2 0 a1.toNatClampNeg) → b_X5_allows_98 post k18 a1 a2 v4 μ16) ∧ (¬ (μ16 12 0 v4.toNatClampNeg) < (μ16 2 0 a1.toNatClampNeg) → b_X5_allows_94 post k18 a1 a2 v4 μ16))))) a2 (μ 10 0 v4.toNatClampNeg) (μ 11 0 v4.toNatClampNeg) μ)))))))))))
def l_X5_allows_18 (post : Int32 → Mem → Prop) (a1 : Int32) (a2 : Int32) : Nat → Int32 → Int32 → Mem → Prop
  | 0 => fun _ _ _ => False
  | fuel + 1 => lb_X5_allows_18 post (l_X5_allows_18 post a1 a2 fuel) a1 a2 
set_option maxRecDepth 100000 in
set_option maxHeartbeats 4000000 in
theorem t_X5_allows_18 {p : Program} {l : Launch} {e : Env} {s : State} {m : MethodId} {args : Array Value} {below : List Frame} {meth : Method} {c : Code} {D : va_G} {ca : Nat → ClassId} {base : Nat} {ad : Nat → Nat → Nat} {n np : Nat} {post : Int32 → Mem → Prop} (hC : ZC p m meth c s RX5 cX5_allows 5) (hr : meth.sig.returnType = (some FieldType.boolean)) (a1 : Int32) (a2 : Int32) : ∀ (fuel : Nat) (v3 : Int32) (v4 : Int32) (μ : Mem) (H : Heap) (locs : List Loc) (ls : Array Slot), l_X5_allows_18 post a1 a2 fuel v3 v4 μ → ZS D ca base ad n np μ s H locs → lv_has ls 5 [(0, .ref (ad 0 0)), (1, .int a1), (2, .int a2), (3, .int v3), (4, .int v4)] → W p l e ({ frames := 1, cells := 0, slots := 0, locals := 22 } : Room) s m args below meth c H locs 0 0 (MQ below (ZQ D ca base ad n np (zpi post)) args s 0 0 (zB base)) (F0 m 18 ls []) := by
  intro fuel
  induction fuel with
  | zero => exact fun _ _ _ _ _ _ h => h.elim
  | succ fuel hk18 =>
    intro v3 v4 μ H locs ls h hZ hl
    have h : lb_X5_allows_18 post (l_X5_allows_18 post a1 a2 fuel) a1 a2 v3 v4 μ := h
    unfold lb_X5_allows_18 at h
    refine lv_iload hC.1 hC.2.1 dX5_allows_18 (lv_at hl 4 rfl) ?_
    refine lv_aload_n hC.1 hC.2.1 dX5_allows_20 rfl (lv_at hl 0 rfl) ?_
    refine gX5_12 hC hZ kf_X5_95 dX5_allows_21 ?_
    refine lv_icmp_ge (tgt := 106) hC.1 hC.2.1 dX5_allows_24 (by decide) (fun c3 => ?_) (fun c3 => ?_)
    · have h := h.1 c3
      refine lv_iconst (v := 0) hC.1 hC.2.1 dX5_allows_106 (by decide) ?_
      refine lv_istore (lv' := [(4, .int 0), (0, .ref (ad 0 0)), (1, .int a1), (2, .int a2), (3, .int v3)]) hC.1 hC.2.1 dX5_allows_107 hl (by decide) rfl (fun ls hl => ?_)
      obtain ⟨fuel, h⟩ := h
      exact t_X5_allows_109 (l := l) hC hr _ _ _ _ _ _ _ _ _ h hZ (lv_sub hl [1, 2, 3, 4, 0] rfl)
    · have h := h.2 c3
      refine lv_iload_n hC.1 hC.2.1 dX5_allows_27 rfl (lv_at hl 3 rfl) ?_
      refine lv_if_ne (tgt := 94) hC.1 hC.2.1 dX5_allows_28 (by decide) (fun c11 => ?_) (fun c11 => ?_)
      · have h := h.1 c11
        exact t_X5_allows_94 (l := l) hC hr _ _ hk18 _ _ _ _ _ h hZ (lv_sub hl [0, 1, 2, 4] rfl)
      · have h := h.2 c11
        refine lv_aload_n hC.1 hC.2.1 dX5_allows_31 rfl (lv_at hl 0 rfl) ?_
        refine gX5_17 hC hZ kf_X5_50 dX5_allows_32 ?_
        refine lv_iload hC.1 hC.2.1 dX5_allows_35 (lv_at hl 4 rfl) ?_
        obtain ⟨q12, h⟩ := h
        refine aL_13 hC hZ q12 dX5_allows_37 ?_
        refine lv_if_ne (tgt := 98) hC.1 hC.2.1 dX5_allows_38 (by decide) (fun c13 => ?_) (fun c13 => ?_)
        · have h := h.1 c13
          exact t_X5_allows_98 (l := l) hC hr _ _ hk18 _ _ _ _ _ h hZ (lv_sub hl [0, 1, 2, 4] rfl)
        · have h := h.2 c13
          refine lv_aload_n hC.1 hC.2.1 dX5_allows_41 rfl (lv_at hl 0 rfl) ?_
          refine gX5_13 hC hZ kf_X5_38 dX5_allows_42 ?_
          refine lv_iload hC.1 hC.2.1 dX5_allows_45 (lv_at hl 4 rfl) ?_
          refine aL_9 hC hZ q12 dX5_allows_47 ?_
          refine lv_aload_n hC.1 hC.2.1 dX5_allows_48 rfl (lv_at hl 0 rfl) ?_
          refine gX5_4 hC hZ kf_X5_13 dX5_allows_49 ?_
          refine lv_iload_n hC.1 hC.2.1 dX5_allows_52 rfl (lv_at hl 1 rfl) ?_
          obtain ⟨q14, h⟩ := h
          refine aL_1 hC hZ q14 dX5_allows_53 ?_
          refine lv_icmp_ne (tgt := 98) hC.1 hC.2.1 dX5_allows_54 (by decide) (fun c15 => ?_) (fun c15 => ?_)
          · have h := h.1 c15
            exact t_X5_allows_98 (l := l) hC hr _ _ hk18 _ _ _ _ _ h hZ (lv_sub hl [0, 1, 2, 4] rfl)
          · have h := h.2 c15
            refine lv_iload_n hC.1 hC.2.1 dX5_allows_57 rfl (lv_at hl 2 rfl) ?_
            refine lv_aload_n hC.1 hC.2.1 dX5_allows_58 rfl (lv_at hl 0 rfl) ?_
            refine gX5_14 hC hZ kf_X5_41 dX5_allows_59 ?_
            refine lv_iload hC.1 hC.2.1 dX5_allows_62 (lv_at hl 4 rfl) ?_
            refine aL_10 hC hZ q12 dX5_allows_64 ?_
            refine lv_aload_n hC.1 hC.2.1 dX5_allows_65 rfl (lv_at hl 0 rfl) ?_
            refine gX5_15 hC hZ kf_X5_44 dX5_allows_66 ?_
            refine lv_iload hC.1 hC.2.1 dX5_allows_69 (lv_at hl 4 rfl) ?_
            refine aL_11 hC hZ q12 dX5_allows_71 ?_
            refine z_cSi (As := [.int a2, .int (μ 10 0 v4.toNatClampNeg), .int (μ 11 0 v4.toNatClampNeg)]) hC hZ zy_X5_in (c_X5_in l h) km_X5_81 rfl ⟨rfl, rfl⟩ ⟨Nat.le_of_ble_eq_true rfl, Nat.le_of_ble_eq_true rfl⟩ hl.1 rfl (Nat.le_of_ble_eq_true rfl) dX5_allows_72 ⟨Nat.le_of_ble_eq_true rfl, Nat.le_of_ble_eq_true rfl⟩ (fun r17 μ16 H locs h hZ => ?_)
            refine lv_if_eq (tgt := 98) hC.1 hC.2.1 dX5_allows_75 (by decide) (fun c18 => ?_) (fun c18 => ?_)
            · have h := h.1 c18
              exact t_X5_allows_98 (l := l) hC hr _ _ hk18 _ _ _ _ _ h hZ (lv_sub hl [0, 1, 2, 4] rfl)
            · have h := h.2 c18
              refine lv_aload_n hC.1 hC.2.1 dX5_allows_78 rfl (lv_at hl 0 rfl) ?_
              refine gX5_16 hC hZ kf_X5_47 dX5_allows_79 ?_
              refine lv_iload hC.1 hC.2.1 dX5_allows_82 (lv_at hl 4 rfl) ?_
              refine aL_12 hC hZ q12 dX5_allows_84 ?_
              refine lv_aload_n hC.1 hC.2.1 dX5_allows_85 rfl (lv_at hl 0 rfl) ?_
              refine gX5_5 hC hZ kf_X5_17 dX5_allows_86 ?_
              refine lv_iload_n hC.1 hC.2.1 dX5_allows_89 rfl (lv_at hl 1 rfl) ?_
              refine aL_2 hC hZ q14 dX5_allows_90 ?_
              refine lv_icmp_lt (tgt := 98) hC.1 hC.2.1 dX5_allows_91 (by decide) (fun c19 => ?_) (fun c19 => ?_)
              · have h := h.1 c19
                exact t_X5_allows_98 (l := l) hC hr _ _ hk18 _ _ _ _ _ h hZ (lv_sub hl [0, 1, 2, 4] rfl)
              · have h := h.2 c19
                exact t_X5_allows_94 (l := l) hC hr _ _ hk18 _ _ _ _ _ h hZ (lv_sub hl [0, 1, 2, 4] rfl)
def b_X5_allows_14 (post : Int32 → Mem → Prop) (a1 : Int32) (a2 : Int32) (s0 : Int32) (μ : Mem) : Prop := (∃ fuel : Nat, l_X5_allows_18 post a1 a2 fuel s0 (0 : Int32) μ)
set_option maxRecDepth 100000 in
set_option maxHeartbeats 4000000 in
theorem t_X5_allows_14 {p : Program} {l : Launch} {e : Env} {s : State} {m : MethodId} {args : Array Value} {below : List Frame} {meth : Method} {c : Code} {D : va_G} {ca : Nat → ClassId} {base : Nat} {ad : Nat → Nat → Nat} {n np : Nat} {post : Int32 → Mem → Prop} (hC : ZC p m meth c s RX5 cX5_allows 5) (hr : meth.sig.returnType = (some FieldType.boolean)) (a1 : Int32) (a2 : Int32) (s0 : Int32) (μ : Mem) (H : Heap) (locs : List Loc) (ls : Array Slot) (h : b_X5_allows_14 post a1 a2 s0 μ) (hZ : ZS D ca base ad n np μ s H locs) (hl : lv_has ls 5 [(0, .ref (ad 0 0)), (1, .int a1), (2, .int a2)]) : W p l e ({ frames := 1, cells := 0, slots := 0, locals := 22 } : Room) s m args below meth c H locs 0 0 (MQ below (ZQ D ca base ad n np (zpi post)) args s 0 0 (zB base)) (F0 m 14 ls [.int s0]) := by
  unfold b_X5_allows_14 at h
  refine lv_istore_n (lv' := [(3, .int s0), (0, .ref (ad 0 0)), (1, .int a1), (2, .int a2)]) hC.1 hC.2.1 dX5_allows_14 rfl hl (by decide) rfl (fun ls hl => ?_)
  refine lv_iconst (v := 0) hC.1 hC.2.1 dX5_allows_15 (by decide) ?_
  refine lv_istore (lv' := [(4, .int 0), (3, .int s0), (0, .ref (ad 0 0)), (1, .int a1), (2, .int a2)]) hC.1 hC.2.1 dX5_allows_16 hl (by decide) rfl (fun ls hl => ?_)
  obtain ⟨fuel, h⟩ := h
  exact t_X5_allows_18 (l := l) hC hr _ _ _ _ _ _ _ _ _ h hZ (lv_sub hl [2, 3, 4, 1, 0] rfl)
def w_X5_allows (post : Int32 → Mem → Prop) (a1 : Int32) (a2 : Int32) (μ : Mem) : Prop := (vp_in a1 10 ∧ ((¬ (μ 2 0 a1.toNatClampNeg) = 0 → b_X5_allows_14 post a1 a2 (0 : Int32) μ) ∧ ((μ 2 0 a1.toNatClampNeg) = 0 → b_X5_allows_14 post a1 a2 (1 : Int32) μ)))
set_option maxRecDepth 100000 in
set_option maxHeartbeats 4000000 in
theorem c_X5_allows (l : Launch) {D : va_G} {ca : Nat → ClassId} {base : Nat} {ad : Nat → Nat → Nat} {n np : Nat} {μ : Mem} {post : Int32 → Mem → Prop} {a1 : Int32} {a2 : Int32} (h : w_X5_allows post a1 a2 μ) : ZMet l yX5_allows cX5_allows 5 (some FieldType.boolean) ({ frames := 1, cells := 0, slots := 0, locals := 22 } : Room) 0 0 D ca base ad n np [.ref (ad 0 0), .int a1, .int a2] μ (zpi post) := by
  unfold ZMet
  refine Met.ofW (cc := cX5_allows) (maxL := 5) (ret := (some FieldType.boolean)) (by decide) rfl ?_
  intro p e s m args below meth c s₁ B hml hv
  obtain ⟨rfl, hU⟩ := hv
  have hZ := hU.toS
  have hC : ZC p m meth c s RX5 cX5_allows 5 := ⟨B.exec, B.bytes, hml, findClass_of_methodNamed B.named, B.notSynchronized⟩
  have hr := B.returns
  have key : W p l e ({ frames := 1, cells := 0, slots := 0, locals := 22 } : Room) s m (([.ref (ad 0 0), .int a1, .int a2] : List Value).toArray) below meth c s.heap [] 0 0 (MQ below (ZQ D ca base ad n np (zpi post)) (([.ref (ad 0 0), .int a1, .int a2] : List Value).toArray) s 0 0 (zB base)) (entryFrame m (([.ref (ad 0 0), .int a1, .int a2] : List Value).toArray) 5) := by
    have hl := lv_entry ([.ref (ad 0 0), .int a1, .int a2]) (n := 5) (Nat.le_of_ble_eq_true rfl)
    rw [lg_entry_eq]
    generalize (lg_sl ([.ref (ad 0 0), .int a1, .int a2]) ++ List.replicate (5 - (lg_sl ([.ref (ad 0 0), .int a1, .int a2])).length) Slot.unset).toArray = ls at hl ⊢
    have hl : lv_has ls 5 [(0, .ref (ad 0 0)), (1, .int a1), (2, .int a2)] := hl
    unfold w_X5_allows at h
    refine lv_aload_n hC.1 hC.2.1 dX5_allows_0 rfl (lv_at hl 0 rfl) ?_
    refine gX5_5 hC hZ kf_X5_17 dX5_allows_1 ?_
    refine lv_iload_n hC.1 hC.2.1 dX5_allows_4 rfl (lv_at hl 1 rfl) ?_
    obtain ⟨q1, h⟩ := h
    refine aL_2 hC hZ q1 dX5_allows_5 ?_
    refine lv_if_ne (tgt := 13) hC.1 hC.2.1 dX5_allows_6 (by decide) (fun c2 => ?_) (fun c2 => ?_)
    · have h := h.1 c2
      refine lv_iconst (v := 0) hC.1 hC.2.1 dX5_allows_13 (by decide) ?_
      exact t_X5_allows_14 (l := l) hC hr _ _ _ _ _ _ _ h hZ (lv_sub hl [0, 1, 2] rfl)
    · have h := h.2 c2
      refine lv_iconst (v := 1) hC.1 hC.2.1 dX5_allows_9 (by decide) ?_
      refine lv_goto (tgt := 14) hC.1 hC.2.1 dX5_allows_10 (by decide) ?_
      exact t_X5_allows_14 (l := l) hC hr _ _ _ _ _ _ _ h hZ (lv_sub hl [0, 1, 2] rfl)
  exact key
def b_X5_costs_71 (post : Int32 → Mem → Prop) (k16 : Int32 → Int32 → Int32 → Mem → Prop) (v1 : Int32) (v2 : Int32) (v3 : Int32) (μ : Mem) : Prop := (w_X5_grows (fun (μ6 : Mem) => k16 v1 v2 (v3 + 1) μ6) μ)
set_option maxRecDepth 100000 in
set_option maxHeartbeats 4000000 in
theorem t_X5_costs_71 {p : Program} {l : Launch} {e : Env} {s : State} {m : MethodId} {args : Array Value} {below : List Frame} {meth : Method} {c : Code} {D : va_G} {ca : Nat → ClassId} {base : Nat} {ad : Nat → Nat → Nat} {n np : Nat} {post : Int32 → Mem → Prop} {k16 : Int32 → Int32 → Int32 → Mem → Prop} (hC : ZC p m meth c s RX5 cX5_costs 5) (hr : meth.sig.returnType = (some FieldType.int)) (hk16 : ∀ (v1 : Int32) (v2 : Int32) (v3 : Int32) (μ : Mem) (H : Heap) (locs : List Loc) (ls : Array Slot), k16 v1 v2 v3 μ → ZS D ca base ad n np μ s H locs → lv_has ls 5 [(0, .ref (ad 0 0)), (1, .int v1), (2, .int v2), (3, .int v3)] → W p l e ({ frames := 2, cells := 0, slots := 0, locals := 49 } : Room) s m args below meth c H locs 0 0 (MQ below (ZQ D ca base ad n np (zpi post)) args s 0 0 (zB base)) (F0 m 16 ls [])) (v1 : Int32) (v2 : Int32) (v3 : Int32) (μ : Mem) (H : Heap) (locs : List Loc) (ls : Array Slot) (h : b_X5_costs_71 post k16 v1 v2 v3 μ) (hZ : ZS D ca base ad n np μ s H locs) (hl : lv_has ls 5 [(0, .ref (ad 0 0)), (1, .int v1), (2, .int v2), (3, .int v3)]) : W p l e ({ frames := 2, cells := 0, slots := 0, locals := 49 } : Room) s m args below meth c H locs 0 0 (MQ below (ZQ D ca base ad n np (zpi post)) args s 0 0 (zB base)) (F0 m 71 ls []) := by
  unfold b_X5_costs_71 at h
  refine lv_aload_n hC.1 hC.2.1 dX5_costs_71 rfl (lv_at hl 0 rfl) ?_
  refine z_cVv (As := []) hC hZ (zF_0 _) rfl zy_X5_grows (c_X5_grows l h) km_X5_108 rfl ⟨rfl, rfl⟩ ⟨Nat.le_of_ble_eq_true rfl, Nat.le_of_ble_eq_true rfl⟩ hl.1 rfl (Nat.le_of_ble_eq_true rfl) dX5_costs_72 ⟨Nat.le_of_ble_eq_true rfl, Nat.le_of_ble_eq_true rfl⟩ (fun μ6 H locs h hZ => ?_)
  refine lv_iinc (v := v3 + 1) (lv' := [(3, .int (v3 + 1)), (0, .ref (ad 0 0)), (1, .int v1), (2, .int v2)]) hC.1 hC.2.1 dX5_costs_75 hl (k := 3) rfl rfl (by decide) rfl (fun ls hl => ?_)
  refine lv_goto (tgt := 16) hC.1 hC.2.1 dX5_costs_78 (by decide) ?_
  exact hk16 _ _ _ _ _ _ _ h hZ (lv_sub hl [1, 2, 3, 0] rfl)
def b_X5_costs_60 (post : Int32 → Mem → Prop) (k16 : Int32 → Int32 → Int32 → Mem → Prop) (v3 : Int32) (v4 : Int32) (s0 : Int32) (s1 : Int32) (s2 : Int32) (μ : Mem) : Prop := (vp_in v4 10 ∧ b_X5_costs_71 post k16 (s0 + (s1 + s2)) (μ 1 0 v4.toNatClampNeg) v3 μ)
set_option maxRecDepth 100000 in
set_option maxHeartbeats 4000000 in
theorem t_X5_costs_60 {p : Program} {l : Launch} {e : Env} {s : State} {m : MethodId} {args : Array Value} {below : List Frame} {meth : Method} {c : Code} {D : va_G} {ca : Nat → ClassId} {base : Nat} {ad : Nat → Nat → Nat} {n np : Nat} {post : Int32 → Mem → Prop} {k16 : Int32 → Int32 → Int32 → Mem → Prop} (hC : ZC p m meth c s RX5 cX5_costs 5) (hr : meth.sig.returnType = (some FieldType.int)) (hk16 : ∀ (v1 : Int32) (v2 : Int32) (v3 : Int32) (μ : Mem) (H : Heap) (locs : List Loc) (ls : Array Slot), k16 v1 v2 v3 μ → ZS D ca base ad n np μ s H locs → lv_has ls 5 [(0, .ref (ad 0 0)), (1, .int v1), (2, .int v2), (3, .int v3)] → W p l e ({ frames := 2, cells := 0, slots := 0, locals := 49 } : Room) s m args below meth c H locs 0 0 (MQ below (ZQ D ca base ad n np (zpi post)) args s 0 0 (zB base)) (F0 m 16 ls [])) (v3 : Int32) (v4 : Int32) (s0 : Int32) (s1 : Int32) (s2 : Int32) (μ : Mem) (H : Heap) (locs : List Loc) (ls : Array Slot) (h : b_X5_costs_60 post k16 v3 v4 s0 s1 s2 μ) (hZ : ZS D ca base ad n np μ s H locs) (hl : lv_has ls 5 [(0, .ref (ad 0 0)), (3, .int v3), (4, .int v4)]) : W p l e ({ frames := 2, cells := 0, slots := 0, locals := 49 } : Room) s m args below meth c H locs 0 0 (MQ below (ZQ D ca base ad n np (zpi post)) args s 0 0 (zB base)) (F0 m 60 ls [.int s2, .int s1, .int s0]) := by
  unfold b_X5_costs_60 at h
  refine lv_iadd hC.1 hC.2.1 dX5_costs_60 ?_
  refine lv_iadd hC.1 hC.2.1 dX5_costs_61 ?_
  refine lv_istore_n (lv' := [(1, .int (s0 + (s1 + s2))), (0, .ref (ad 0 0)), (3, .int v3), (4, .int v4)]) hC.1 hC.2.1 dX5_costs_62 rfl hl (by decide) rfl (fun ls hl => ?_)
  refine lv_aload_n hC.1 hC.2.1 dX5_costs_63 rfl (lv_at hl 1 rfl) ?_
  refine gX5_4 hC hZ kf_X5_13 dX5_costs_64 ?_
  refine lv_iload hC.1 hC.2.1 dX5_costs_67 (lv_at hl 3 rfl) ?_
  obtain ⟨q13, h⟩ := h
  refine aL_1 hC hZ q13 dX5_costs_69 ?_
  refine lv_istore_n (lv' := [(2, .int (μ 1 0 v4.toNatClampNeg)), (1, .int (s0 + (s1 + s2))), (0, .ref (ad 0 0)), (3, .int v3), (4, .int v4)]) hC.1 hC.2.1 dX5_costs_70 rfl hl (by decide) rfl (fun ls hl => ?_)
  exact t_X5_costs_71 (l := l) hC hr hk16 _ _ _ _ _ _ _ h hZ (lv_sub hl [2, 1, 0, 3] rfl)
def lb_X5_costs_16 (post : Int32 → Mem → Prop) (k16 : Int32 → Int32 → Int32 → Mem → Prop) (v1 : Int32) (v2 : Int32) (v3 : Int32) (μ : Mem) : Prop := ((30 ≤ v3 → post v1 μ) ∧ (¬ 30 ≤ v3 → (vp_in v3 30 ∧ (((μ 8 0 v3.toNatClampNeg) = (-1) → b_X5_costs_71 post k16 v1 v2 v3 μ) ∧ (¬ (μ 8 0 v3.toNatClampNeg) = (-1) → (w_X5_serves (fun (r9 : Int32) (μ8 : Mem) => (w_X5_allows (fun (r11 : Int32) (μ10 : Mem) => ((r11 = 0 → b_X5_costs_60 post k16 v3 (μ 8 0 v3.toNatClampNeg) v1 r9 (20 : Int32) μ10) ∧ (¬ r11 = 0 → b_X5_costs_60 post k16 v3 (μ 8 0 v3.toNatClampNeg) v1 r9 (0 : Int32) μ10))) (μ 8 0 v3.toNatClampNeg) v3 μ8)) (μ 8 0 v3.toNatClampNeg) v2 μ))))))
def l_X5_costs_16 (post : Int32 → Mem → Prop) : Nat → Int32 → Int32 → Int32 → Mem → Prop
  | 0 => fun _ _ _ _ => False
  | fuel + 1 => lb_X5_costs_16 post (l_X5_costs_16 post fuel) 
set_option maxRecDepth 100000 in
set_option maxHeartbeats 4000000 in
theorem t_X5_costs_16 {p : Program} {l : Launch} {e : Env} {s : State} {m : MethodId} {args : Array Value} {below : List Frame} {meth : Method} {c : Code} {D : va_G} {ca : Nat → ClassId} {base : Nat} {ad : Nat → Nat → Nat} {n np : Nat} {post : Int32 → Mem → Prop} (hC : ZC p m meth c s RX5 cX5_costs 5) (hr : meth.sig.returnType = (some FieldType.int)) : ∀ (fuel : Nat) (v1 : Int32) (v2 : Int32) (v3 : Int32) (μ : Mem) (H : Heap) (locs : List Loc) (ls : Array Slot), l_X5_costs_16 post fuel v1 v2 v3 μ → ZS D ca base ad n np μ s H locs → lv_has ls 5 [(0, .ref (ad 0 0)), (1, .int v1), (2, .int v2), (3, .int v3)] → W p l e ({ frames := 2, cells := 0, slots := 0, locals := 49 } : Room) s m args below meth c H locs 0 0 (MQ below (ZQ D ca base ad n np (zpi post)) args s 0 0 (zB base)) (F0 m 16 ls []) := by
  intro fuel
  induction fuel with
  | zero => exact fun _ _ _ _ _ _ _ h => h.elim
  | succ fuel hk16 =>
    intro v1 v2 v3 μ H locs ls h hZ hl
    have h : lb_X5_costs_16 post (l_X5_costs_16 post fuel) v1 v2 v3 μ := h
    unfold lb_X5_costs_16 at h
    refine lv_iload_n hC.1 hC.2.1 dX5_costs_16 rfl (lv_at hl 3 rfl) ?_
    refine lv_bipush (v := 30) hC.1 hC.2.1 dX5_costs_17 (by decide) ?_
    refine lv_icmp_ge (tgt := 81) hC.1 hC.2.1 dX5_costs_19 (by decide) (fun c3 => ?_) (fun c3 => ?_)
    · have h := h.1 c3
      refine lv_iload_n hC.1 hC.2.1 dX5_costs_81 rfl (lv_at hl 1 rfl) ?_
      exact z_iret hC hr hZ h dX5_costs_82 (Nat.le_of_ble_eq_true rfl) (Nat.le_of_ble_eq_true rfl)
    · have h := h.2 c3
      refine lv_aload_n hC.1 hC.2.1 dX5_costs_22 rfl (lv_at hl 0 rfl) ?_
      refine gX5_11 hC hZ kf_X5_35 dX5_costs_23 ?_
      refine lv_iload_n hC.1 hC.2.1 dX5_costs_26 rfl (lv_at hl 3 rfl) ?_
      obtain ⟨q4, h⟩ := h
      refine aL_8 hC hZ q4 dX5_costs_27 ?_
      refine lv_istore (lv' := [(4, .int (μ 8 0 v3.toNatClampNeg)), (0, .ref (ad 0 0)), (1, .int v1), (2, .int v2), (3, .int v3)]) hC.1 hC.2.1 dX5_costs_28 hl (by decide) rfl (fun ls hl => ?_)
      refine lv_iload hC.1 hC.2.1 dX5_costs_30 (lv_at hl 0 rfl) ?_
      refine lv_iconst (v := (-1)) hC.1 hC.2.1 dX5_costs_32 (by decide) ?_
      refine lv_icmp_eq (tgt := 71) hC.1 hC.2.1 dX5_costs_33 (by decide) (fun c5 => ?_) (fun c5 => ?_)
      · have h := h.1 c5
        exact t_X5_costs_71 (l := l) hC hr hk16 _ _ _ _ _ _ _ h hZ (lv_sub hl [1, 2, 3, 4] rfl)
      · have h := h.2 c5
        refine lv_iload_n hC.1 hC.2.1 dX5_costs_36 rfl (lv_at hl 2 rfl) ?_
        refine lv_aload_n hC.1 hC.2.1 dX5_costs_37 rfl (lv_at hl 1 rfl) ?_
        refine lv_iload hC.1 hC.2.1 dX5_costs_38 (lv_at hl 0 rfl) ?_
        refine lv_iload_n hC.1 hC.2.1 dX5_costs_40 rfl (lv_at hl 3 rfl) ?_
        refine z_cVi (As := [.int (μ 8 0 v3.toNatClampNeg), .int v2]) hC hZ (zF_0 _) rfl zy_X5_serves (c_X5_serves l h) km_X5_101 rfl ⟨rfl, rfl⟩ ⟨Nat.le_of_ble_eq_true rfl, Nat.le_of_ble_eq_true rfl⟩ hl.1 rfl (Nat.le_of_ble_eq_true rfl) dX5_costs_41 ⟨Nat.le_of_ble_eq_true rfl, Nat.le_of_ble_eq_true rfl⟩ (fun r9 μ8 H locs h hZ => ?_)
        refine lv_aload_n hC.1 hC.2.1 dX5_costs_44 rfl (lv_at hl 1 rfl) ?_
        refine lv_iload hC.1 hC.2.1 dX5_costs_45 (lv_at hl 0 rfl) ?_
        refine lv_iload_n hC.1 hC.2.1 dX5_costs_47 rfl (lv_at hl 4 rfl) ?_
        refine z_cVi (As := [.int (μ 8 0 v3.toNatClampNeg), .int v3]) hC hZ (zF_0 _) rfl zy_X5_allows (c_X5_allows l h) km_X5_104 rfl ⟨rfl, rfl⟩ ⟨Nat.le_of_ble_eq_true rfl, Nat.le_of_ble_eq_true rfl⟩ hl.1 rfl (Nat.le_of_ble_eq_true rfl) dX5_costs_48 ⟨Nat.le_of_ble_eq_true rfl, Nat.le_of_ble_eq_true rfl⟩ (fun r11 μ10 H locs h hZ => ?_)
        refine lv_if_eq (tgt := 58) hC.1 hC.2.1 dX5_costs_51 (by decide) (fun c12 => ?_) (fun c12 => ?_)
        · have h := h.1 c12
          refine lv_bipush (v := 20) hC.1 hC.2.1 dX5_costs_58 (by decide) ?_
          exact t_X5_costs_60 (l := l) hC hr hk16 _ _ _ _ _ _ _ _ _ h hZ (lv_sub hl [1, 4, 0] rfl)
        · have h := h.2 c12
          refine lv_iconst (v := 0) hC.1 hC.2.1 dX5_costs_54 (by decide) ?_
          refine lv_goto (tgt := 60) hC.1 hC.2.1 dX5_costs_55 (by decide) ?_
          exact t_X5_costs_60 (l := l) hC hr hk16 _ _ _ _ _ _ _ _ _ h hZ (lv_sub hl [1, 4, 0] rfl)
def w_X5_costs (post : Int32 → Mem → Prop) (μ : Mem) : Prop := (w_X5_lays (fun (μ1 : Mem) => (∃ fuel : Nat, l_X5_costs_16 post fuel (0 : Int32) (μ1 0 0 2) (μ1 0 0 0) μ1)) μ)
set_option maxRecDepth 100000 in
set_option maxHeartbeats 4000000 in
theorem c_X5_costs (l : Launch) {D : va_G} {ca : Nat → ClassId} {base : Nat} {ad : Nat → Nat → Nat} {n np : Nat} {μ : Mem} {post : Int32 → Mem → Prop} (h : w_X5_costs post μ) : ZMet l yX5_costs cX5_costs 5 (some FieldType.int) ({ frames := 2, cells := 0, slots := 0, locals := 49 } : Room) 0 0 D ca base ad n np [.ref (ad 0 0)] μ (zpi post) := by
  unfold ZMet
  refine Met.ofW (cc := cX5_costs) (maxL := 5) (ret := (some FieldType.int)) (by decide) rfl ?_
  intro p e s m args below meth c s₁ B hml hv
  obtain ⟨rfl, hU⟩ := hv
  have hZ := hU.toS
  have hC : ZC p m meth c s RX5 cX5_costs 5 := ⟨B.exec, B.bytes, hml, findClass_of_methodNamed B.named, B.notSynchronized⟩
  have hr := B.returns
  have key : W p l e ({ frames := 2, cells := 0, slots := 0, locals := 49 } : Room) s m (([.ref (ad 0 0)] : List Value).toArray) below meth c s.heap [] 0 0 (MQ below (ZQ D ca base ad n np (zpi post)) (([.ref (ad 0 0)] : List Value).toArray) s 0 0 (zB base)) (entryFrame m (([.ref (ad 0 0)] : List Value).toArray) 5) := by
    have hl := lv_entry ([.ref (ad 0 0)]) (n := 5) (Nat.le_of_ble_eq_true rfl)
    rw [lg_entry_eq]
    generalize (lg_sl ([.ref (ad 0 0)]) ++ List.replicate (5 - (lg_sl ([.ref (ad 0 0)])).length) Slot.unset).toArray = ls at hl ⊢
    have hl : lv_has ls 5 [(0, .ref (ad 0 0))] := hl
    unfold w_X5_costs at h
    refine lv_aload_n hC.1 hC.2.1 dX5_costs_0 rfl (lv_at hl 0 rfl) ?_
    refine z_cVv (As := []) hC hZ (zF_0 _) rfl zy_X5_lays (c_X5_lays l h) km_X5_98 rfl ⟨rfl, rfl⟩ ⟨Nat.le_of_ble_eq_true rfl, Nat.le_of_ble_eq_true rfl⟩ hl.1 rfl (Nat.le_of_ble_eq_true rfl) dX5_costs_1 ⟨Nat.le_of_ble_eq_true rfl, Nat.le_of_ble_eq_true rfl⟩ (fun μ1 H locs h hZ => ?_)
    refine lv_iconst (v := 0) hC.1 hC.2.1 dX5_costs_4 (by decide) ?_
    refine lv_istore_n (lv' := [(1, .int 0), (0, .ref (ad 0 0))]) hC.1 hC.2.1 dX5_costs_5 rfl hl (by decide) rfl (fun ls hl => ?_)
    refine lv_aload_n hC.1 hC.2.1 dX5_costs_6 rfl (lv_at hl 1 rfl) ?_
    refine gX5_2 hC hZ kf_X5_9 dX5_costs_7 ?_
    refine lv_istore_n (lv' := [(2, .int (μ1 0 0 2)), (1, .int 0), (0, .ref (ad 0 0))]) hC.1 hC.2.1 dX5_costs_10 rfl hl (by decide) rfl (fun ls hl => ?_)
    refine lv_aload_n hC.1 hC.2.1 dX5_costs_11 rfl (lv_at hl 2 rfl) ?_
    refine gX5_0 hC hZ kf_X5_85 dX5_costs_12 ?_
    refine lv_istore_n (lv' := [(3, .int (μ1 0 0 0)), (2, .int (μ1 0 0 2)), (1, .int 0), (0, .ref (ad 0 0))]) hC.1 hC.2.1 dX5_costs_15 rfl hl (by decide) rfl (fun ls hl => ?_)
    obtain ⟨fuel, h⟩ := h
    exact t_X5_costs_16 (l := l) hC hr _ _ _ _ _ _ _ _ h hZ (lv_sub hl [3, 2, 1, 0] rfl)
  exact key
