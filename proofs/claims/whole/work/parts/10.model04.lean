def w_X5_copies (post : Int32 → Mem → Prop) (a1 : Int32) (a2 : Int32) (μ : Mem) : Prop := (w_X5_isProp (fun (r2 : Int32) (μ1 : Mem) => (w_X5_in (fun (r4 : Int32) (μ3 : Mem) => (w_X5_goes (fun (r6 : Int32) (μ5 : Mem) => ((r6 = 0 → post 0 μ5) ∧ (¬ r6 = 0 → (vp_in ((4 * a1) + a2) 20 ∧ post (μ5 16 0 ((4 * a1) + a2).toNatClampNeg) μ5)))) r2 r4 (1 : Int32) μ3)) a2 (0 : Int32) (3 : Int32) μ1)) a1 μ)
set_option maxRecDepth 100000 in
set_option maxHeartbeats 4000000 in
theorem c_X5_copies (l : Launch) {D : va_G} {ca : Nat → ClassId} {base : Nat} {ad : Nat → Nat → Nat} {n np : Nat} {μ : Mem} {post : Int32 → Mem → Prop} {a1 : Int32} {a2 : Int32} (h : w_X5_copies post a1 a2 μ) : ZMet l yX5_copies cX5_copies 3 (some FieldType.int) ({ frames := 2, cells := 0, slots := 0, locals := 42 } : Room) 0 0 D ca base ad n np [.ref (ad 0 0), .int a1, .int a2] μ (zpi post) := by
  unfold ZMet
  refine Met.ofW (cc := cX5_copies) (maxL := 3) (ret := (some FieldType.int)) (by decide) rfl ?_
  intro p e s m args below meth c s₁ B hml hv
  obtain ⟨rfl, hU⟩ := hv
  have hZ := hU.toS
  have hC : ZC p m meth c s RX5 cX5_copies 3 := ⟨B.exec, B.bytes, hml, findClass_of_methodNamed B.named, B.notSynchronized⟩
  have hr := B.returns
  have key : W p l e ({ frames := 2, cells := 0, slots := 0, locals := 42 } : Room) s m (([.ref (ad 0 0), .int a1, .int a2] : List Value).toArray) below meth c s.heap [] 0 0 (MQ below (ZQ D ca base ad n np (zpi post)) (([.ref (ad 0 0), .int a1, .int a2] : List Value).toArray) s 0 0 (zB base)) (entryFrame m (([.ref (ad 0 0), .int a1, .int a2] : List Value).toArray) 3) := by
    have hl := lv_entry ([.ref (ad 0 0), .int a1, .int a2]) (n := 3) (Nat.le_of_ble_eq_true rfl)
    rw [lg_entry_eq]
    generalize (lg_sl ([.ref (ad 0 0), .int a1, .int a2]) ++ List.replicate (3 - (lg_sl ([.ref (ad 0 0), .int a1, .int a2])).length) Slot.unset).toArray = ls at hl ⊢
    have hl : lv_has ls 3 [(0, .ref (ad 0 0)), (1, .int a1), (2, .int a2)] := hl
    unfold w_X5_copies at h
    refine lv_aload_n hC.1 hC.2.1 dX5_copies_0 rfl (lv_at hl 0 rfl) ?_
    refine lv_iload_n hC.1 hC.2.1 dX5_copies_1 rfl (lv_at hl 1 rfl) ?_
    refine z_cSi (As := [.int a1]) hC hZ zy_X5_isProp (c_X5_isProp l h) km_X5_133 rfl ⟨rfl, rfl⟩ ⟨Nat.le_of_ble_eq_true rfl, Nat.le_of_ble_eq_true rfl⟩ hl.1 rfl (Nat.le_of_ble_eq_true rfl) dX5_copies_2 ⟨Nat.le_of_ble_eq_true rfl, Nat.le_of_ble_eq_true rfl⟩ (fun r2 μ1 H locs h hZ => ?_)
    refine lv_iload_n hC.1 hC.2.1 dX5_copies_5 rfl (lv_at hl 2 rfl) ?_
    refine lv_iconst (v := 0) hC.1 hC.2.1 dX5_copies_6 (by decide) ?_
    refine lv_iconst (v := 3) hC.1 hC.2.1 dX5_copies_7 (by decide) ?_
    refine z_cSi (As := [.int a2, .int 0, .int 3]) hC hZ zy_X5_in (c_X5_in l h) km_X5_81 rfl ⟨rfl, rfl⟩ ⟨Nat.le_of_ble_eq_true rfl, Nat.le_of_ble_eq_true rfl⟩ hl.1 rfl (Nat.le_of_ble_eq_true rfl) dX5_copies_8 ⟨Nat.le_of_ble_eq_true rfl, Nat.le_of_ble_eq_true rfl⟩ (fun r4 μ3 H locs h hZ => ?_)
    refine lv_iconst (v := 1) hC.1 hC.2.1 dX5_copies_11 (by decide) ?_
    refine z_cVi (As := [.int r2, .int r4, .int 1]) hC hZ (zF_0 _) rfl zy_X5_goes (c_X5_goes l h) km_X5_115 rfl ⟨rfl, rfl⟩ ⟨Nat.le_of_ble_eq_true rfl, Nat.le_of_ble_eq_true rfl⟩ hl.1 rfl (Nat.le_of_ble_eq_true rfl) dX5_copies_12 ⟨Nat.le_of_ble_eq_true rfl, Nat.le_of_ble_eq_true rfl⟩ (fun r6 μ5 H locs h hZ => ?_)
    refine lv_if_eq (tgt := 31) hC.1 hC.2.1 dX5_copies_15 (by decide) (fun c7 => ?_) (fun c7 => ?_)
    · have h := h.1 c7
      refine lv_iconst (v := 0) hC.1 hC.2.1 dX5_copies_31 (by decide) ?_
      exact z_iret hC hr hZ h dX5_copies_32 (Nat.le_of_ble_eq_true rfl) (Nat.le_of_ble_eq_true rfl)
    · have h := h.2 c7
      refine lv_aload_n hC.1 hC.2.1 dX5_copies_18 rfl (lv_at hl 0 rfl) ?_
      refine gX5_20 hC hZ kf_X5_60 dX5_copies_19 ?_
      refine lv_iconst (v := 4) hC.1 hC.2.1 dX5_copies_22 (by decide) ?_
      refine lv_iload_n hC.1 hC.2.1 dX5_copies_23 rfl (lv_at hl 1 rfl) ?_
      refine lv_imul hC.1 hC.2.1 dX5_copies_24 ?_
      refine lv_iload_n hC.1 hC.2.1 dX5_copies_25 rfl (lv_at hl 2 rfl) ?_
      refine lv_iadd hC.1 hC.2.1 dX5_copies_26 ?_
      obtain ⟨q8, h⟩ := h
      refine aL_16 hC hZ q8 dX5_copies_27 ?_
      refine lv_goto (tgt := 32) hC.1 hC.2.1 dX5_copies_28 (by decide) ?_
      exact z_iret hC hr hZ h dX5_copies_32 (Nat.le_of_ble_eq_true rfl) (Nat.le_of_ble_eq_true rfl)
  exact key
def w_X5_growth (post : Int32 → Mem → Prop) (a1 : Int32) (μ : Mem) : Prop := (w_X5_isActor (fun (r2 : Int32) (μ1 : Mem) => (w_X5_goes (fun (r4 : Int32) (μ3 : Mem) => ((r4 = 0 → post 0 μ3) ∧ (¬ r4 = 0 → (vp_in a1 5 ∧ post (μ3 15 0 a1.toNatClampNeg) μ3)))) r2 (1 : Int32) (1 : Int32) μ1)) a1 μ)
set_option maxRecDepth 100000 in
set_option maxHeartbeats 4000000 in
theorem c_X5_growth (l : Launch) {D : va_G} {ca : Nat → ClassId} {base : Nat} {ad : Nat → Nat → Nat} {n np : Nat} {μ : Mem} {post : Int32 → Mem → Prop} {a1 : Int32} (h : w_X5_growth post a1 μ) : ZMet l yX5_growth cX5_growth 2 (some FieldType.int) ({ frames := 2, cells := 0, slots := 0, locals := 42 } : Room) 0 0 D ca base ad n np [.ref (ad 0 0), .int a1] μ (zpi post) := by
  unfold ZMet
  refine Met.ofW (cc := cX5_growth) (maxL := 2) (ret := (some FieldType.int)) (by decide) rfl ?_
  intro p e s m args below meth c s₁ B hml hv
  obtain ⟨rfl, hU⟩ := hv
  have hZ := hU.toS
  have hC : ZC p m meth c s RX5 cX5_growth 2 := ⟨B.exec, B.bytes, hml, findClass_of_methodNamed B.named, B.notSynchronized⟩
  have hr := B.returns
  have key : W p l e ({ frames := 2, cells := 0, slots := 0, locals := 42 } : Room) s m (([.ref (ad 0 0), .int a1] : List Value).toArray) below meth c s.heap [] 0 0 (MQ below (ZQ D ca base ad n np (zpi post)) (([.ref (ad 0 0), .int a1] : List Value).toArray) s 0 0 (zB base)) (entryFrame m (([.ref (ad 0 0), .int a1] : List Value).toArray) 2) := by
    have hl := lv_entry ([.ref (ad 0 0), .int a1]) (n := 2) (Nat.le_of_ble_eq_true rfl)
    rw [lg_entry_eq]
    generalize (lg_sl ([.ref (ad 0 0), .int a1]) ++ List.replicate (2 - (lg_sl ([.ref (ad 0 0), .int a1])).length) Slot.unset).toArray = ls at hl ⊢
    have hl : lv_has ls 2 [(0, .ref (ad 0 0)), (1, .int a1)] := hl
    unfold w_X5_growth at h
    refine lv_aload_n hC.1 hC.2.1 dX5_growth_0 rfl (lv_at hl 0 rfl) ?_
    refine lv_iload_n hC.1 hC.2.1 dX5_growth_1 rfl (lv_at hl 1 rfl) ?_
    refine z_cSi (As := [.int a1]) hC hZ zy_X5_isActor (c_X5_isActor l h) km_X5_127 rfl ⟨rfl, rfl⟩ ⟨Nat.le_of_ble_eq_true rfl, Nat.le_of_ble_eq_true rfl⟩ hl.1 rfl (Nat.le_of_ble_eq_true rfl) dX5_growth_2 ⟨Nat.le_of_ble_eq_true rfl, Nat.le_of_ble_eq_true rfl⟩ (fun r2 μ1 H locs h hZ => ?_)
    refine lv_iconst (v := 1) hC.1 hC.2.1 dX5_growth_5 (by decide) ?_
    refine lv_iconst (v := 1) hC.1 hC.2.1 dX5_growth_6 (by decide) ?_
    refine z_cVi (As := [.int r2, .int 1, .int 1]) hC hZ (zF_0 _) rfl zy_X5_goes (c_X5_goes l h) km_X5_115 rfl ⟨rfl, rfl⟩ ⟨Nat.le_of_ble_eq_true rfl, Nat.le_of_ble_eq_true rfl⟩ hl.1 rfl (Nat.le_of_ble_eq_true rfl) dX5_growth_7 ⟨Nat.le_of_ble_eq_true rfl, Nat.le_of_ble_eq_true rfl⟩ (fun r4 μ3 H locs h hZ => ?_)
    refine lv_if_eq (tgt := 22) hC.1 hC.2.1 dX5_growth_10 (by decide) (fun c5 => ?_) (fun c5 => ?_)
    · have h := h.1 c5
      refine lv_iconst (v := 0) hC.1 hC.2.1 dX5_growth_22 (by decide) ?_
      exact z_iret hC hr hZ h dX5_growth_23 (Nat.le_of_ble_eq_true rfl) (Nat.le_of_ble_eq_true rfl)
    · have h := h.2 c5
      refine lv_aload_n hC.1 hC.2.1 dX5_growth_13 rfl (lv_at hl 0 rfl) ?_
      refine gX5_19 hC hZ kf_X5_57 dX5_growth_14 ?_
      refine lv_iload_n hC.1 hC.2.1 dX5_growth_17 rfl (lv_at hl 1 rfl) ?_
      obtain ⟨q6, h⟩ := h
      refine aL_15 hC hZ q6 dX5_growth_18 ?_
      refine lv_goto (tgt := 23) hC.1 hC.2.1 dX5_growth_19 (by decide) ?_
      exact z_iret hC hr hZ h dX5_growth_23 (Nat.le_of_ble_eq_true rfl) (Nat.le_of_ble_eq_true rfl)
  exact key
