def lb_X4_least_47 (n np : Nat) (post : Int32 → Mem → Prop) (xpost : String → Mem → Prop) (k47 : Int32 → Int32 → Int32 → Mem → Prop) (v1 : Int32) (v2 : Int32) (v3 : Int32) (μ : Mem) : Prop := ((v2 ≤ v3 → (w_X0_restore n np (fun (μ9 : Mem) => post v1 μ9) μ)) ∧ (¬ v2 ≤ v3 → (w_X0_lay n np (fun (μ11 : Mem) => (w_X4_planCost n np (fun (r14 : Int32) (μ13 : Mem) => (∀ x15 : Int32, x15 = zmin v1 r14 → k47 x15 v2 (v3 + 1) μ13)) μ11)) v3 μ)))
def l_X4_least_47 (n np : Nat) (post : Int32 → Mem → Prop) (xpost : String → Mem → Prop) : Nat → Int32 → Int32 → Int32 → Mem → Prop
  | 0 => fun _ _ _ _ => False
  | fuel + 1 => lb_X4_least_47 n np post xpost (l_X4_least_47 n np post xpost fuel) 
set_option maxRecDepth 100000 in
set_option maxHeartbeats 4000000 in
theorem t_X4_least_47 {p : Program} {l : Launch} {e : Env} {s : State} {m : MethodId} {args : Array Value} {below : List Frame} {meth : Method} {c : Code} {D : va_G} {ca : Nat → ClassId} {base : Nat} {ad : Nat → Nat → Nat} {n np : Nat} {post : Int32 → Mem → Prop} {xpost : String → Mem → Prop} (hC : ZC p m meth c s RX4 cX4_least 4) (hnx : ∀ x ∈ c.exceptionTable.toList, False) (hst : l.stackTraces = false) (hr : meth.sig.returnType = (some FieldType.int)) : ∀ (fuel : Nat) (v1 : Int32) (v2 : Int32) (v3 : Int32) (μ : Mem) (H : Heap) (locs : List Loc) (ls : Array Slot), l_X4_least_47 n np post xpost fuel v1 v2 v3 μ → ZS D ca base ad n np μ s H locs → lv_has ls 4 [(0, .ref (ad 30 0)), (1, .int v1), (2, .int v2), (3, .int v3)] → W p l e ({ frames := 6, cells := 1, slots := 6, locals := 94 } : Room) s m args below meth c H locs 0 0 (vx_MQ below (ZQ D ca base ad n np (zpi post)) (ZX D ca base ad n np xpost) args s 1 6 (zB base)) (F0 m 47 ls []) := by
  intro fuel
  induction fuel with
  | zero => exact fun _ _ _ _ _ _ _ h => h.elim
  | succ fuel hk47 =>
    intro v1 v2 v3 μ H locs ls h hZ hl
    have h : lb_X4_least_47 n np post xpost (l_X4_least_47 n np post xpost fuel) v1 v2 v3 μ := h
    unfold lb_X4_least_47 at h
    refine lv_iload_n hC.1 hC.2.1 dX4_least_47 rfl (lv_at hl 3 rfl) ?_
    refine lv_iload_n hC.1 hC.2.1 dX4_least_48 rfl (lv_at hl 2 rfl) ?_
    refine lv_icmp_ge (tgt := 79) hC.1 hC.2.1 dX4_least_49 (by decide) (fun c8 => ?_) (fun c8 => ?_)
    · have h := h.1 c8
      refine lv_aload_n hC.1 hC.2.1 dX4_least_79 rfl (lv_at hl 0 rfl) ?_
      refine gX4_6 hC hZ kf_X4_41 dX4_least_80 ?_
      refine lv_aload_n hC.1 hC.2.1 dX4_least_83 rfl (lv_at hl 0 rfl) ?_
      refine gX4_1 hC hZ kf_X4_15 dX4_least_84 ?_
      refine z_cVv (As := [.ref (ad 32 0)]) hC hZ (zF_60 _) rfl zy_X0_restore (c_X0_restore l h) km_X4_233 rfl ⟨rfl, rfl⟩ ⟨Nat.le_of_ble_eq_true rfl, Nat.le_of_ble_eq_true rfl⟩ hl.1 rfl (Nat.le_of_ble_eq_true rfl) dX4_least_87 ⟨Nat.le_of_ble_eq_true rfl, Nat.le_of_ble_eq_true rfl⟩ (fun μ9 H locs h hZ => ?_)
      refine lv_iload_n hC.1 hC.2.1 dX4_least_90 rfl (lv_at hl 1 rfl) ?_
      exact vx_ret (z_iret hC hr hZ h dX4_least_91 (Nat.le_of_ble_eq_true rfl) (Nat.le_of_ble_eq_true rfl))
    · have h := h.2 c8
      refine lv_aload_n hC.1 hC.2.1 dX4_least_52 rfl (lv_at hl 0 rfl) ?_
      refine gX4_6 hC hZ kf_X4_41 dX4_least_53 ?_
      refine lv_aload_n hC.1 hC.2.1 dX4_least_56 rfl (lv_at hl 0 rfl) ?_
      refine gX4_1 hC hZ kf_X4_15 dX4_least_57 ?_
      refine lv_iload_n hC.1 hC.2.1 dX4_least_60 rfl (lv_at hl 3 rfl) ?_
      refine z_cVv (As := [.ref (ad 32 0), .int v3]) hC hZ (zF_60 _) rfl zy_X0_lay (c_X0_lay l h) km_X4_223 rfl ⟨rfl, rfl⟩ ⟨Nat.le_of_ble_eq_true rfl, Nat.le_of_ble_eq_true rfl⟩ hl.1 rfl (Nat.le_of_ble_eq_true rfl) dX4_least_61 ⟨Nat.le_of_ble_eq_true rfl, Nat.le_of_ble_eq_true rfl⟩ (fun μ11 H locs h hZ => ?_)
      refine lv_iload_n hC.1 hC.2.1 dX4_least_64 rfl (lv_at hl 1 rfl) ?_
      refine lv_aload_n hC.1 hC.2.1 dX4_least_65 rfl (lv_at hl 0 rfl) ?_
      refine z_cVi (As := []) hC hZ (zF_30 _) rfl zy_X4_planCost (c_X4_planCost l h) km_X4_137 rfl ⟨rfl, rfl⟩ ⟨Nat.le_of_ble_eq_true rfl, Nat.le_of_ble_eq_true rfl⟩ hl.1 rfl (Nat.le_of_ble_eq_true rfl) dX4_least_66 ⟨Nat.le_of_ble_eq_true rfl, Nat.le_of_ble_eq_true rfl⟩ (fun r14 μ13 H locs h hZ => ?_)
      refine z_min hC hZ hl.1 km_X4_227 (Nat.le_of_ble_eq_true rfl) (Nat.le_of_ble_eq_true rfl) (Nat.le_of_ble_eq_true rfl) (Nat.le_of_ble_eq_true rfl) dX4_least_69 ?_
      refine lv_topi (fun x15 ex15 => ?_)
      have h := h x15 ex15
      refine lv_istore_n (lv' := [(1, .int x15), (0, .ref (ad 30 0)), (2, .int v2), (3, .int v3)]) hC.1 hC.2.1 dX4_least_72 rfl hl (by decide) rfl (fun ls hl => ?_)
      refine lv_iinc (v := v3 + 1) (lv' := [(3, .int (v3 + 1)), (1, .int x15), (0, .ref (ad 30 0)), (2, .int v2)]) hC.1 hC.2.1 dX4_least_73 hl (k := 3) rfl rfl (by decide) rfl (fun ls hl => ?_)
      refine lv_goto (tgt := 47) hC.1 hC.2.1 dX4_least_76 (by decide) ?_
      exact hk47 _ _ _ _ _ _ _ h hZ (lv_sub hl [2, 1, 3, 0] rfl)
def w_X4_least (n np : Nat) (post : Int32 → Mem → Prop) (xpost : String → Mem → Prop) (μ : Mem) : Prop := (w_X0_note n np (fun (μ1 : Mem) => (((μ1 60 0 2) ≤ 5 → (w_X4_planCost n np (fun (r5 : Int32) (μ4 : Mem) => (w_X0_countOrders n np (fun (r7 : Int32) (μ6 : Mem) => (∃ fuel : Nat, l_X4_least_47 n np post xpost fuel r5 r7 (0 : Int32) μ6)) μ4)) μ1)) ∧ (¬ (μ1 60 0 2) ≤ 5 → xpost "java/lang/IllegalStateException" μ1))) μ)
set_option maxRecDepth 100000 in
set_option maxHeartbeats 4000000 in
theorem c_X4_least (l : Launch) (hst : l.stackTraces = false) {D : va_G} {ca : Nat → ClassId} {base : Nat} {ad : Nat → Nat → Nat} {n np : Nat} {μ : Mem} {post : Int32 → Mem → Prop} {xpost : String → Mem → Prop} (h : w_X4_least n np post xpost μ) : ZXMet l yX4_least cX4_least 4 (some FieldType.int) ({ frames := 6, cells := 1, slots := 6, locals := 94 } : Room) 1 6 D ca base ad n np [.ref (ad 30 0)] μ (zpi post) xpost := by
  unfold ZXMet
  refine vx_ofW (cc := cX4_least) (maxL := 4) (ret := (some FieldType.int)) (by decide) rfl ?_
  intro p e s m args below meth c s₁ B hml hnx hv
  obtain ⟨rfl, hU⟩ := hv
  have hZ := hU.toS
  have hC : ZC p m meth c s RX4 cX4_least 4 := ⟨B.exec, B.bytes, hml, findClass_of_methodNamed B.named, B.notSynchronized⟩
  have hr := B.returns
  have key : W p l e ({ frames := 6, cells := 1, slots := 6, locals := 94 } : Room) s m (([.ref (ad 30 0)] : List Value).toArray) below meth c s.heap [] 0 0 (vx_MQ below (ZQ D ca base ad n np (zpi post)) (ZX D ca base ad n np xpost) (([.ref (ad 30 0)] : List Value).toArray) s 1 6 (zB base)) (entryFrame m (([.ref (ad 30 0)] : List Value).toArray) 4) := by
    have hl := lv_entry ([.ref (ad 30 0)]) (n := 4) (Nat.le_of_ble_eq_true rfl)
    rw [lg_entry_eq]
    generalize (lg_sl ([.ref (ad 30 0)]) ++ List.replicate (4 - (lg_sl ([.ref (ad 30 0)])).length) Slot.unset).toArray = ls at hl ⊢
    have hl : lv_has ls 4 [(0, .ref (ad 30 0))] := hl
    unfold w_X4_least at h
    refine lv_aload_n hC.1 hC.2.1 dX4_least_0 rfl (lv_at hl 0 rfl) ?_
    refine gX4_6 hC hZ kf_X4_41 dX4_least_1 ?_
    refine lv_aload_n hC.1 hC.2.1 dX4_least_4 rfl (lv_at hl 0 rfl) ?_
    refine gX4_1 hC hZ kf_X4_15 dX4_least_5 ?_
    refine z_cVv (As := [.ref (ad 32 0)]) hC hZ (zF_60 _) rfl zy_X0_note (c_X0_note l h) km_X4_211 rfl ⟨rfl, rfl⟩ ⟨Nat.le_of_ble_eq_true rfl, Nat.le_of_ble_eq_true rfl⟩ hl.1 rfl (Nat.le_of_ble_eq_true rfl) dX4_least_8 ⟨Nat.le_of_ble_eq_true rfl, Nat.le_of_ble_eq_true rfl⟩ (fun μ1 H locs h hZ => ?_)
    refine lv_aload_n hC.1 hC.2.1 dX4_least_11 rfl (lv_at hl 0 rfl) ?_
    refine gX4_6 hC hZ kf_X4_41 dX4_least_12 ?_
    refine gX0_2 hC hZ kf_X4_215 dX4_least_15 ?_
    refine lv_iconst (v := 5) hC.1 hC.2.1 dX4_least_18 (by decide) ?_
    refine lv_icmp_le (tgt := 32) hC.1 hC.2.1 dX4_least_19 (by decide) (fun c3 => ?_) (fun c3 => ?_)
    · have h := h.1 c3
      refine lv_aload_n hC.1 hC.2.1 dX4_least_32 rfl (lv_at hl 0 rfl) ?_
      refine z_cVi (As := []) hC hZ (zF_30 _) rfl zy_X4_planCost (c_X4_planCost l h) km_X4_137 rfl ⟨rfl, rfl⟩ ⟨Nat.le_of_ble_eq_true rfl, Nat.le_of_ble_eq_true rfl⟩ hl.1 rfl (Nat.le_of_ble_eq_true rfl) dX4_least_33 ⟨Nat.le_of_ble_eq_true rfl, Nat.le_of_ble_eq_true rfl⟩ (fun r5 μ4 H locs h hZ => ?_)
      refine lv_istore_n (lv' := [(1, .int r5), (0, .ref (ad 30 0))]) hC.1 hC.2.1 dX4_least_36 rfl hl (by decide) rfl (fun ls hl => ?_)
      refine lv_aload_n hC.1 hC.2.1 dX4_least_37 rfl (lv_at hl 1 rfl) ?_
      refine gX4_6 hC hZ kf_X4_41 dX4_least_38 ?_
      refine z_cVi (As := []) hC hZ (zF_60 _) rfl zy_X0_countOrders (c_X0_countOrders l h) km_X4_220 rfl ⟨rfl, rfl⟩ ⟨Nat.le_of_ble_eq_true rfl, Nat.le_of_ble_eq_true rfl⟩ hl.1 rfl (Nat.le_of_ble_eq_true rfl) dX4_least_41 ⟨Nat.le_of_ble_eq_true rfl, Nat.le_of_ble_eq_true rfl⟩ (fun r7 μ6 H locs h hZ => ?_)
      refine lv_istore_n (lv' := [(2, .int r7), (1, .int r5), (0, .ref (ad 30 0))]) hC.1 hC.2.1 dX4_least_44 rfl hl (by decide) rfl (fun ls hl => ?_)
      refine lv_iconst (v := 0) hC.1 hC.2.1 dX4_least_45 (by decide) ?_
      refine lv_istore_n (lv' := [(3, .int 0), (2, .int r7), (1, .int r5), (0, .ref (ad 30 0))]) hC.1 hC.2.1 dX4_least_46 rfl hl (by decide) rfl (fun ls hl => ?_)
      obtain ⟨fuel, h⟩ := h
      exact t_X4_least_47 (l := l) hC hnx hst hr _ _ _ _ _ _ _ _ h hZ (lv_sub hl [3, 2, 1, 0] rfl)
    · have h := h.2 c3
      exact z_throw_ise hC hnx hst hZ hl.1 zs_218 dX4_least_22 dX4_least_25 dX4_least_26 dX4_least_28 dX4_least_31 (Nat.le_of_ble_eq_true rfl) (Nat.le_of_ble_eq_true rfl) (Nat.le_of_ble_eq_true rfl) (Nat.le_of_ble_eq_true rfl) (Nat.le_of_ble_eq_true rfl) (Nat.le_of_ble_eq_true rfl) h
  exact key
def w_X4_today (n np : Nat) (post : Int32 → Mem → Prop) (μ : Mem) : Prop := post (μ 30 0 9) μ
set_option maxRecDepth 100000 in
set_option maxHeartbeats 4000000 in
theorem c_X4_today (l : Launch) {D : va_G} {ca : Nat → ClassId} {base : Nat} {ad : Nat → Nat → Nat} {n np : Nat} {μ : Mem} {post : Int32 → Mem → Prop} (h : w_X4_today n np post μ) : ZMet l yX4_today cX4_today 1 (some FieldType.int) ({ frames := 0, cells := 0, slots := 0, locals := 0 } : Room) 0 0 D ca base ad n np [.ref (ad 30 0)] μ (zpi post) := by
  unfold ZMet
  refine Met.ofW (cc := cX4_today) (maxL := 1) (ret := (some FieldType.int)) (by decide) rfl ?_
  intro p e s m args below meth c s₁ B hml hv
  obtain ⟨rfl, hU⟩ := hv
  have hZ := hU.toS
  have hC : ZC p m meth c s RX4 cX4_today 1 := ⟨B.exec, B.bytes, hml, findClass_of_methodNamed B.named, B.notSynchronized⟩
  have hr := B.returns
  have key : W p l e ({ frames := 0, cells := 0, slots := 0, locals := 0 } : Room) s m (([.ref (ad 30 0)] : List Value).toArray) below meth c s.heap [] 0 0 (MQ below (ZQ D ca base ad n np (zpi post)) (([.ref (ad 30 0)] : List Value).toArray) s 0 0 (zB base)) (entryFrame m (([.ref (ad 30 0)] : List Value).toArray) 1) := by
    have hl := lv_entry ([.ref (ad 30 0)]) (n := 1) (Nat.le_of_ble_eq_true rfl)
    rw [lg_entry_eq]
    generalize (lg_sl ([.ref (ad 30 0)]) ++ List.replicate (1 - (lg_sl ([.ref (ad 30 0)])).length) Slot.unset).toArray = ls at hl ⊢
    have hl : lv_has ls 1 [(0, .ref (ad 30 0))] := hl
    unfold w_X4_today at h
    refine lv_aload_n hC.1 hC.2.1 dX4_today_0 rfl (lv_at hl 0 rfl) ?_
    refine gX4_9 hC hZ kf_X4_52 dX4_today_1 ?_
    exact z_iret hC hr hZ h dX4_today_4 (Nat.le_of_ble_eq_true rfl) (Nat.le_of_ble_eq_true rfl)
  exact key
def w_X4_spent (n np : Nat) (post : Int32 → Mem → Prop) (μ : Mem) : Prop := post (μ 30 0 10) μ
set_option maxRecDepth 100000 in
set_option maxHeartbeats 4000000 in
theorem c_X4_spent (l : Launch) {D : va_G} {ca : Nat → ClassId} {base : Nat} {ad : Nat → Nat → Nat} {n np : Nat} {μ : Mem} {post : Int32 → Mem → Prop} (h : w_X4_spent n np post μ) : ZMet l yX4_spent cX4_spent 1 (some FieldType.int) ({ frames := 0, cells := 0, slots := 0, locals := 0 } : Room) 0 0 D ca base ad n np [.ref (ad 30 0)] μ (zpi post) := by
  unfold ZMet
  refine Met.ofW (cc := cX4_spent) (maxL := 1) (ret := (some FieldType.int)) (by decide) rfl ?_
  intro p e s m args below meth c s₁ B hml hv
  obtain ⟨rfl, hU⟩ := hv
  have hZ := hU.toS
  have hC : ZC p m meth c s RX4 cX4_spent 1 := ⟨B.exec, B.bytes, hml, findClass_of_methodNamed B.named, B.notSynchronized⟩
  have hr := B.returns
  have key : W p l e ({ frames := 0, cells := 0, slots := 0, locals := 0 } : Room) s m (([.ref (ad 30 0)] : List Value).toArray) below meth c s.heap [] 0 0 (MQ below (ZQ D ca base ad n np (zpi post)) (([.ref (ad 30 0)] : List Value).toArray) s 0 0 (zB base)) (entryFrame m (([.ref (ad 30 0)] : List Value).toArray) 1) := by
    have hl := lv_entry ([.ref (ad 30 0)]) (n := 1) (Nat.le_of_ble_eq_true rfl)
    rw [lg_entry_eq]
    generalize (lg_sl ([.ref (ad 30 0)]) ++ List.replicate (1 - (lg_sl ([.ref (ad 30 0)])).length) Slot.unset).toArray = ls at hl ⊢
    have hl : lv_has ls 1 [(0, .ref (ad 30 0))] := hl
    unfold w_X4_spent at h
    refine lv_aload_n hC.1 hC.2.1 dX4_spent_0 rfl (lv_at hl 0 rfl) ?_
    refine gX4_10 hC hZ kf_X4_55 dX4_spent_1 ?_
    exact z_iret hC hr hZ h dX4_spent_4 (Nat.le_of_ble_eq_true rfl) (Nat.le_of_ble_eq_true rfl)
  exact key
def w_X4_cost (n np : Nat) (post : Int32 → Mem → Prop) (μ : Mem) : Prop := (w_X4_planCost n np (fun (r2 : Int32) (μ1 : Mem) => post r2 μ1) μ)
set_option maxRecDepth 100000 in
set_option maxHeartbeats 4000000 in
theorem c_X4_cost (l : Launch) {D : va_G} {ca : Nat → ClassId} {base : Nat} {ad : Nat → Nat → Nat} {n np : Nat} {μ : Mem} {post : Int32 → Mem → Prop} (h : w_X4_cost n np post μ) : ZMet l yX4_cost cX4_cost 1 (some FieldType.int) ({ frames := 4, cells := 0, slots := 0, locals := 94 } : Room) 0 0 D ca base ad n np [.ref (ad 30 0)] μ (zpi post) := by
  unfold ZMet
  refine Met.ofW (cc := cX4_cost) (maxL := 1) (ret := (some FieldType.int)) (by decide) rfl ?_
  intro p e s m args below meth c s₁ B hml hv
  obtain ⟨rfl, hU⟩ := hv
  have hZ := hU.toS
  have hC : ZC p m meth c s RX4 cX4_cost 1 := ⟨B.exec, B.bytes, hml, findClass_of_methodNamed B.named, B.notSynchronized⟩
  have hr := B.returns
  have key : W p l e ({ frames := 4, cells := 0, slots := 0, locals := 94 } : Room) s m (([.ref (ad 30 0)] : List Value).toArray) below meth c s.heap [] 0 0 (MQ below (ZQ D ca base ad n np (zpi post)) (([.ref (ad 30 0)] : List Value).toArray) s 0 0 (zB base)) (entryFrame m (([.ref (ad 30 0)] : List Value).toArray) 1) := by
    have hl := lv_entry ([.ref (ad 30 0)]) (n := 1) (Nat.le_of_ble_eq_true rfl)
    rw [lg_entry_eq]
    generalize (lg_sl ([.ref (ad 30 0)]) ++ List.replicate (1 - (lg_sl ([.ref (ad 30 0)])).length) Slot.unset).toArray = ls at hl ⊢
    have hl : lv_has ls 1 [(0, .ref (ad 30 0))] := hl
    unfold w_X4_cost at h
    refine lv_aload_n hC.1 hC.2.1 dX4_cost_0 rfl (lv_at hl 0 rfl) ?_
    refine z_cVi (As := []) hC hZ (zF_30 _) rfl zy_X4_planCost (c_X4_planCost l h) km_X4_137 rfl ⟨rfl, rfl⟩ ⟨Nat.le_of_ble_eq_true rfl, Nat.le_of_ble_eq_true rfl⟩ hl.1 rfl (Nat.le_of_ble_eq_true rfl) dX4_cost_1 ⟨Nat.le_of_ble_eq_true rfl, Nat.le_of_ble_eq_true rfl⟩ (fun r2 μ1 H locs h hZ => ?_)
    exact z_iret hC hr hZ h dX4_cost_4 (Nat.le_of_ble_eq_true rfl) (Nat.le_of_ble_eq_true rfl)
  exact key
def w_X4_scenes (n np : Nat) (post : Int32 → Mem → Prop) (μ : Mem) : Prop := post (μ 30 0 7) μ
set_option maxRecDepth 100000 in
set_option maxHeartbeats 4000000 in
theorem c_X4_scenes (l : Launch) {D : va_G} {ca : Nat → ClassId} {base : Nat} {ad : Nat → Nat → Nat} {n np : Nat} {μ : Mem} {post : Int32 → Mem → Prop} (h : w_X4_scenes n np post μ) : ZMet l yX4_scenes cX4_scenes 1 (some FieldType.int) ({ frames := 0, cells := 0, slots := 0, locals := 0 } : Room) 0 0 D ca base ad n np [.ref (ad 30 0)] μ (zpi post) := by
  unfold ZMet
  refine Met.ofW (cc := cX4_scenes) (maxL := 1) (ret := (some FieldType.int)) (by decide) rfl ?_
  intro p e s m args below meth c s₁ B hml hv
  obtain ⟨rfl, hU⟩ := hv
  have hZ := hU.toS
  have hC : ZC p m meth c s RX4 cX4_scenes 1 := ⟨B.exec, B.bytes, hml, findClass_of_methodNamed B.named, B.notSynchronized⟩
  have hr := B.returns
  have key : W p l e ({ frames := 0, cells := 0, slots := 0, locals := 0 } : Room) s m (([.ref (ad 30 0)] : List Value).toArray) below meth c s.heap [] 0 0 (MQ below (ZQ D ca base ad n np (zpi post)) (([.ref (ad 30 0)] : List Value).toArray) s 0 0 (zB base)) (entryFrame m (([.ref (ad 30 0)] : List Value).toArray) 1) := by
    have hl := lv_entry ([.ref (ad 30 0)]) (n := 1) (Nat.le_of_ble_eq_true rfl)
    rw [lg_entry_eq]
    generalize (lg_sl ([.ref (ad 30 0)]) ++ List.replicate (1 - (lg_sl ([.ref (ad 30 0)])).length) Slot.unset).toArray = ls at hl ⊢
    have hl : lv_has ls 1 [(0, .ref (ad 30 0))] := hl
    unfold w_X4_scenes at h
    refine lv_aload_n hC.1 hC.2.1 dX4_scenes_0 rfl (lv_at hl 0 rfl) ?_
    refine gX4_7 hC hZ kf_X4_45 dX4_scenes_1 ?_
    exact z_iret hC hr hZ h dX4_scenes_4 (Nat.le_of_ble_eq_true rfl) (Nat.le_of_ble_eq_true rfl)
  exact key
def w_X4_stateOf (n np : Nat) (post : Int32 → Mem → Prop) (xpost : String → Mem → Prop) (a1 : Int32) (μ : Mem) : Prop := (w_X4_sceneNumbered n np (fun (r2 : Int32) (μ1 : Mem) => (¬ r2 < 0 ∧ r2.toNatClampNeg < n ∧ post (μ1 70 r2.toNatClampNeg 6) μ1)) xpost a1 μ)
set_option maxRecDepth 100000 in
set_option maxHeartbeats 4000000 in
theorem c_X4_stateOf (l : Launch) (hst : l.stackTraces = false) {D : va_G} {ca : Nat → ClassId} {base : Nat} {ad : Nat → Nat → Nat} {n np : Nat} {μ : Mem} {post : Int32 → Mem → Prop} {xpost : String → Mem → Prop} {a1 : Int32} (h : w_X4_stateOf n np post xpost a1 μ) : ZXMet l yX4_stateOf cX4_stateOf 2 (some FieldType.int) ({ frames := 7, cells := 1, slots := 6, locals := 103 } : Room) 1 6 D ca base ad n np [.ref (ad 30 0), .int a1] μ (zpi post) xpost := by
  unfold ZXMet
  refine vx_ofW (cc := cX4_stateOf) (maxL := 2) (ret := (some FieldType.int)) (by decide) rfl ?_
  intro p e s m args below meth c s₁ B hml hnx hv
  obtain ⟨rfl, hU⟩ := hv
  have hZ := hU.toS
  have hC : ZC p m meth c s RX4 cX4_stateOf 2 := ⟨B.exec, B.bytes, hml, findClass_of_methodNamed B.named, B.notSynchronized⟩
  have hr := B.returns
  have key : W p l e ({ frames := 7, cells := 1, slots := 6, locals := 103 } : Room) s m (([.ref (ad 30 0), .int a1] : List Value).toArray) below meth c s.heap [] 0 0 (vx_MQ below (ZQ D ca base ad n np (zpi post)) (ZX D ca base ad n np xpost) (([.ref (ad 30 0), .int a1] : List Value).toArray) s 1 6 (zB base)) (entryFrame m (([.ref (ad 30 0), .int a1] : List Value).toArray) 2) := by
    have hl := lv_entry ([.ref (ad 30 0), .int a1]) (n := 2) (Nat.le_of_ble_eq_true rfl)
    rw [lg_entry_eq]
    generalize (lg_sl ([.ref (ad 30 0), .int a1]) ++ List.replicate (2 - (lg_sl ([.ref (ad 30 0), .int a1])).length) Slot.unset).toArray = ls at hl ⊢
    have hl : lv_has ls 2 [(0, .ref (ad 30 0)), (1, .int a1)] := hl
    unfold w_X4_stateOf at h
    refine lv_aload_n hC.1 hC.2.1 dX4_stateOf_0 rfl (lv_at hl 0 rfl) ?_
    refine lv_iload_n hC.1 hC.2.1 dX4_stateOf_1 rfl (lv_at hl 1 rfl) ?_
    refine z_cVXq (As := [.int a1]) hC hZ (zF_30 _) rfl zy_X4_sceneNumbered (c_X4_sceneNumbered l hst h) km_X4_80 rfl ⟨rfl, rfl⟩ ⟨Nat.le_of_ble_eq_true rfl, Nat.le_of_ble_eq_true rfl⟩ hl.1 rfl (Nat.le_of_ble_eq_true rfl) dX4_stateOf_2 ⟨Nat.le_of_ble_eq_true rfl, Nat.le_of_ble_eq_true rfl⟩ (fun E ce q9 u H locs hx hZ hce hcv hcl => z_xout hC hnx hZ hx hce hcv hcl (Nat.le_of_ble_eq_true rfl) (Nat.le_of_ble_eq_true rfl)) (fun r2 μ1 H locs h hZ => ?_)
    obtain ⟨q3, h⟩ := h
    refine z_df0 q3 ?_
    obtain ⟨q4, h⟩ := h
    refine gX2_6 hC hZ q4 kf_X4_128 dX4_stateOf_5 ?_
    exact vx_ret (z_iret hC hr hZ h dX4_stateOf_8 (Nat.le_of_ble_eq_true rfl) (Nat.le_of_ble_eq_true rfl))
  exact key
def w_X4_dayOf (n np : Nat) (post : Int32 → Mem → Prop) (xpost : String → Mem → Prop) (a1 : Int32) (μ : Mem) : Prop := (w_X4_sceneNumbered n np (fun (r2 : Int32) (μ1 : Mem) => (¬ r2 < 0 ∧ r2.toNatClampNeg < n ∧ ((¬ (μ1 70 r2.toNatClampNeg 6) = 1 → (w_X4_plannedDay n np (fun (r7 : Int32) (μ6 : Mem) => post r7 μ6) r2 μ1)) ∧ ((μ1 70 r2.toNatClampNeg 6) = 1 → post (μ1 70 r2.toNatClampNeg 7) μ1)))) xpost a1 μ)
set_option maxRecDepth 100000 in
set_option maxHeartbeats 4000000 in
theorem c_X4_dayOf (l : Launch) (hst : l.stackTraces = false) {D : va_G} {ca : Nat → ClassId} {base : Nat} {ad : Nat → Nat → Nat} {n np : Nat} {μ : Mem} {post : Int32 → Mem → Prop} {xpost : String → Mem → Prop} {a1 : Int32} (h : w_X4_dayOf n np post xpost a1 μ) : ZXMet l yX4_dayOf cX4_dayOf 3 (some FieldType.int) ({ frames := 7, cells := 1, slots := 6, locals := 103 } : Room) 1 6 D ca base ad n np [.ref (ad 30 0), .int a1] μ (zpi post) xpost := by
  unfold ZXMet
  refine vx_ofW (cc := cX4_dayOf) (maxL := 3) (ret := (some FieldType.int)) (by decide) rfl ?_
  intro p e s m args below meth c s₁ B hml hnx hv
  obtain ⟨rfl, hU⟩ := hv
  have hZ := hU.toS
  have hC : ZC p m meth c s RX4 cX4_dayOf 3 := ⟨B.exec, B.bytes, hml, findClass_of_methodNamed B.named, B.notSynchronized⟩
  have hr := B.returns
  have key : W p l e ({ frames := 7, cells := 1, slots := 6, locals := 103 } : Room) s m (([.ref (ad 30 0), .int a1] : List Value).toArray) below meth c s.heap [] 0 0 (vx_MQ below (ZQ D ca base ad n np (zpi post)) (ZX D ca base ad n np xpost) (([.ref (ad 30 0), .int a1] : List Value).toArray) s 1 6 (zB base)) (entryFrame m (([.ref (ad 30 0), .int a1] : List Value).toArray) 3) := by
    have hl := lv_entry ([.ref (ad 30 0), .int a1]) (n := 3) (Nat.le_of_ble_eq_true rfl)
    rw [lg_entry_eq]
    generalize (lg_sl ([.ref (ad 30 0), .int a1]) ++ List.replicate (3 - (lg_sl ([.ref (ad 30 0), .int a1])).length) Slot.unset).toArray = ls at hl ⊢
    have hl : lv_has ls 3 [(0, .ref (ad 30 0)), (1, .int a1)] := hl
    unfold w_X4_dayOf at h
    refine lv_aload_n hC.1 hC.2.1 dX4_dayOf_0 rfl (lv_at hl 0 rfl) ?_
    refine lv_iload_n hC.1 hC.2.1 dX4_dayOf_1 rfl (lv_at hl 1 rfl) ?_
    refine z_cVXq (As := [.int a1]) hC hZ (zF_30 _) rfl zy_X4_sceneNumbered (c_X4_sceneNumbered l hst h) km_X4_80 rfl ⟨rfl, rfl⟩ ⟨Nat.le_of_ble_eq_true rfl, Nat.le_of_ble_eq_true rfl⟩ hl.1 rfl (Nat.le_of_ble_eq_true rfl) dX4_dayOf_2 ⟨Nat.le_of_ble_eq_true rfl, Nat.le_of_ble_eq_true rfl⟩ (fun E ce q9 u H locs hx hZ hce hcv hcl => z_xout hC hnx hZ hx hce hcv hcl (Nat.le_of_ble_eq_true rfl) (Nat.le_of_ble_eq_true rfl)) (fun r2 μ1 H locs h hZ => ?_)
    refine z_astore_nq (lv' := [(2, va_rf (zr ad 70 r2)), (0, .ref (ad 30 0)), (1, .int a1)]) hC dX4_dayOf_5 rfl hl (by decide) rfl (fun ls hl => ?_)
    refine z_aload_nq hC dX4_dayOf_6 rfl (lv_at hl 0 rfl) ?_
    obtain ⟨q3, h⟩ := h
    refine z_df0 q3 ?_
    obtain ⟨q4, h⟩ := h
    refine gX2_6 hC hZ q4 kf_X4_128 dX4_dayOf_7 ?_
    refine lv_iconst (v := 1) hC.1 hC.2.1 dX4_dayOf_10 (by decide) ?_
    refine lv_icmp_ne (tgt := 21) hC.1 hC.2.1 dX4_dayOf_11 (by decide) (fun c5 => ?_) (fun c5 => ?_)
    · have h := h.1 c5
      refine lv_aload_n hC.1 hC.2.1 dX4_dayOf_21 rfl (lv_at hl 1 rfl) ?_
      refine z_aload_nq hC dX4_dayOf_22 rfl (lv_at hl 0 rfl) ?_
      refine z_cVi (As := [va_rf (zr ad 70 r2)]) hC hZ (zF_30 _) rfl zy_X4_plannedDay (c_X4_plannedDay l h) km_X4_120 rfl ⟨rfl, rfl⟩ ⟨Nat.le_of_ble_eq_true rfl, Nat.le_of_ble_eq_true rfl⟩ hl.1 rfl (Nat.le_of_ble_eq_true rfl) dX4_dayOf_23 ⟨Nat.le_of_ble_eq_true rfl, Nat.le_of_ble_eq_true rfl⟩ (fun r7 μ6 H locs h hZ => ?_)
      exact vx_ret (z_iret hC hr hZ h dX4_dayOf_26 (Nat.le_of_ble_eq_true rfl) (Nat.le_of_ble_eq_true rfl))
    · have h := h.2 c5
      refine z_aload_nq hC dX4_dayOf_14 rfl (lv_at hl 0 rfl) ?_
      refine z_df0 q3 ?_
      refine gX2_7 hC hZ q4 kf_X4_190 dX4_dayOf_15 ?_
      refine lv_goto (tgt := 26) hC.1 hC.2.1 dX4_dayOf_18 (by decide) ?_
      exact vx_ret (z_iret hC hr hZ h dX4_dayOf_26 (Nat.le_of_ble_eq_true rfl) (Nat.le_of_ble_eq_true rfl))
  exact key
def w_X4_sceneOn (n np : Nat) (post : Int32 → Mem → Prop) (xpost : String → Mem → Prop) (a1 : Int32) (μ : Mem) : Prop := (w_X4_requireDay n np (fun (μ1 : Mem) => (vp_in a1 30 ∧ ((¬ (μ1 32 0 a1.toNatClampNeg) < 0 → (((μ1 32 0 a1.toNatClampNeg).toNatClampNeg) < n ∧ post (μ1 70 ((μ1 32 0 a1.toNatClampNeg).toNatClampNeg) 0) μ1)) ∧ ((μ1 32 0 a1.toNatClampNeg) < 0 → post (-1) μ1)))) xpost a1 μ)
set_option maxRecDepth 100000 in
set_option maxHeartbeats 4000000 in
theorem c_X4_sceneOn (l : Launch) (hst : l.stackTraces = false) {D : va_G} {ca : Nat → ClassId} {base : Nat} {ad : Nat → Nat → Nat} {n np : Nat} {μ : Mem} {post : Int32 → Mem → Prop} {xpost : String → Mem → Prop} {a1 : Int32} (h : w_X4_sceneOn n np post xpost a1 μ) : ZXMet l yX4_sceneOn cX4_sceneOn 3 (some FieldType.int) ({ frames := 7, cells := 1, slots := 6, locals := 102 } : Room) 1 6 D ca base ad n np [.ref (ad 30 0), .int a1] μ (zpi post) xpost := by
  unfold ZXMet
  refine vx_ofW (cc := cX4_sceneOn) (maxL := 3) (ret := (some FieldType.int)) (by decide) rfl ?_
  intro p e s m args below meth c s₁ B hml hnx hv
  obtain ⟨rfl, hU⟩ := hv
  have hZ := hU.toS
  have hC : ZC p m meth c s RX4 cX4_sceneOn 3 := ⟨B.exec, B.bytes, hml, findClass_of_methodNamed B.named, B.notSynchronized⟩
  have hr := B.returns
  have key : W p l e ({ frames := 7, cells := 1, slots := 6, locals := 102 } : Room) s m (([.ref (ad 30 0), .int a1] : List Value).toArray) below meth c s.heap [] 0 0 (vx_MQ below (ZQ D ca base ad n np (zpi post)) (ZX D ca base ad n np xpost) (([.ref (ad 30 0), .int a1] : List Value).toArray) s 1 6 (zB base)) (entryFrame m (([.ref (ad 30 0), .int a1] : List Value).toArray) 3) := by
    have hl := lv_entry ([.ref (ad 30 0), .int a1]) (n := 3) (Nat.le_of_ble_eq_true rfl)
    rw [lg_entry_eq]
    generalize (lg_sl ([.ref (ad 30 0), .int a1]) ++ List.replicate (3 - (lg_sl ([.ref (ad 30 0), .int a1])).length) Slot.unset).toArray = ls at hl ⊢
    have hl : lv_has ls 3 [(0, .ref (ad 30 0)), (1, .int a1)] := hl
    unfold w_X4_sceneOn at h
    refine lv_iload_n hC.1 hC.2.1 dX4_sceneOn_0 rfl (lv_at hl 1 rfl) ?_
    refine z_cSXv (As := [.int a1]) hC hZ zy_X4_requireDay (c_X4_requireDay l hst h) km_X4_160 rfl ⟨rfl, rfl⟩ ⟨Nat.le_of_ble_eq_true rfl, Nat.le_of_ble_eq_true rfl⟩ hl.1 rfl (Nat.le_of_ble_eq_true rfl) dX4_sceneOn_1 ⟨Nat.le_of_ble_eq_true rfl, Nat.le_of_ble_eq_true rfl⟩ (fun E ce q9 u H locs hx hZ hce hcv hcl => z_xout hC hnx hZ hx hce hcv hcl (Nat.le_of_ble_eq_true rfl) (Nat.le_of_ble_eq_true rfl)) (fun μ1 H locs h hZ => ?_)
    refine lv_aload_n hC.1 hC.2.1 dX4_sceneOn_4 rfl (lv_at hl 0 rfl) ?_
    refine gX4_1 hC hZ kf_X4_15 dX4_sceneOn_5 ?_
    refine lv_iload_n hC.1 hC.2.1 dX4_sceneOn_8 rfl (lv_at hl 1 rfl) ?_
    obtain ⟨q3, h⟩ := h
    refine aL_32 hC hZ q3 dX4_sceneOn_9 ?_
    refine z_astore_nq (lv' := [(2, va_rf (zr ad 70 (μ1 32 0 a1.toNatClampNeg))), (0, .ref (ad 30 0)), (1, .int a1)]) hC dX4_sceneOn_10 rfl hl (by decide) rfl (fun ls hl => ?_)
    refine z_aload_nq hC dX4_sceneOn_11 rfl (lv_at hl 0 rfl) ?_
    refine z_ifnonnullq (tgt := 19) hC dX4_sceneOn_12 (by decide) (fun c4 => ?_) (fun c4 => ?_)
    · have h := h.1 c4
      refine z_aload_nq hC dX4_sceneOn_19 rfl (lv_at hl 0 rfl) ?_
      refine z_df0 c4 ?_
      obtain ⟨q5, h⟩ := h
      refine gX2_0 hC hZ q5 kf_X4_77 dX4_sceneOn_20 ?_
      exact vx_ret (z_iret hC hr hZ h dX4_sceneOn_23 (Nat.le_of_ble_eq_true rfl) (Nat.le_of_ble_eq_true rfl))
    · have h := h.2 c4
      refine lv_iconst (v := (-1)) hC.1 hC.2.1 dX4_sceneOn_15 (by decide) ?_
      refine lv_goto (tgt := 23) hC.1 hC.2.1 dX4_sceneOn_16 (by decide) ?_
      exact vx_ret (z_iret hC hr hZ h dX4_sceneOn_23 (Nat.le_of_ble_eq_true rfl) (Nat.le_of_ble_eq_true rfl))
  exact key
def w_X4_refused (n np : Nat) (post : Int32 → Mem → Prop) (μ : Mem) : Prop := (w_X4_countRefused n np (fun (r2 : Int32) (μ1 : Mem) => post r2 μ1) μ)
set_option maxRecDepth 100000 in
set_option maxHeartbeats 4000000 in
theorem c_X4_refused (l : Launch) {D : va_G} {ca : Nat → ClassId} {base : Nat} {ad : Nat → Nat → Nat} {n np : Nat} {μ : Mem} {post : Int32 → Mem → Prop} (h : w_X4_refused n np post μ) : ZMet l yX4_refused cX4_refused 1 (some FieldType.int) ({ frames := 6, cells := 0, slots := 0, locals := 135 } : Room) 0 0 D ca base ad n np [.ref (ad 30 0)] μ (zpi post) := by
  unfold ZMet
  refine Met.ofW (cc := cX4_refused) (maxL := 1) (ret := (some FieldType.int)) (by decide) rfl ?_
  intro p e s m args below meth c s₁ B hml hv
  obtain ⟨rfl, hU⟩ := hv
  have hZ := hU.toS
  have hC : ZC p m meth c s RX4 cX4_refused 1 := ⟨B.exec, B.bytes, hml, findClass_of_methodNamed B.named, B.notSynchronized⟩
  have hr := B.returns
  have key : W p l e ({ frames := 6, cells := 0, slots := 0, locals := 135 } : Room) s m (([.ref (ad 30 0)] : List Value).toArray) below meth c s.heap [] 0 0 (MQ below (ZQ D ca base ad n np (zpi post)) (([.ref (ad 30 0)] : List Value).toArray) s 0 0 (zB base)) (entryFrame m (([.ref (ad 30 0)] : List Value).toArray) 1) := by
    have hl := lv_entry ([.ref (ad 30 0)]) (n := 1) (Nat.le_of_ble_eq_true rfl)
    rw [lg_entry_eq]
    generalize (lg_sl ([.ref (ad 30 0)]) ++ List.replicate (1 - (lg_sl ([.ref (ad 30 0)])).length) Slot.unset).toArray = ls at hl ⊢
    have hl : lv_has ls 1 [(0, .ref (ad 30 0))] := hl
    unfold w_X4_refused at h
    refine lv_aload_n hC.1 hC.2.1 dX4_refused_0 rfl (lv_at hl 0 rfl) ?_
    refine z_cVi (As := []) hC hZ (zF_30 _) rfl zy_X4_countRefused (c_X4_countRefused l h) km_X4_157 rfl ⟨rfl, rfl⟩ ⟨Nat.le_of_ble_eq_true rfl, Nat.le_of_ble_eq_true rfl⟩ hl.1 rfl (Nat.le_of_ble_eq_true rfl) dX4_refused_1 ⟨Nat.le_of_ble_eq_true rfl, Nat.le_of_ble_eq_true rfl⟩ (fun r2 μ1 H locs h hZ => ?_)
    exact z_iret hC hr hZ h dX4_refused_4 (Nat.le_of_ble_eq_true rfl) (Nat.le_of_ble_eq_true rfl)
  exact key
def w_X4_isAllowed (n np : Nat) (post : Int32 → Mem → Prop) (xpost : String → Mem → Prop) (a1 : Int32) (a2 : Int32) (μ : Mem) : Prop := (w_X4_sceneNumbered n np (fun (r2 : Int32) (μ1 : Mem) => (w_X4_requireDay n np (fun (μ3 : Mem) => (¬ r2 < 0 ∧ w_X4_allows n np (fun (r7 : Int32) (μ6 : Mem) => ((r7 = 0 ∨ r7 = 1) ∧ post r7 μ6)) r2.toNatClampNeg a2 μ3)) xpost a2 μ1)) xpost a1 μ)
set_option maxRecDepth 100000 in
set_option maxHeartbeats 4000000 in
theorem c_X4_isAllowed (l : Launch) (hst : l.stackTraces = false) {D : va_G} {ca : Nat → ClassId} {base : Nat} {ad : Nat → Nat → Nat} {n np : Nat} {μ : Mem} {post : Int32 → Mem → Prop} {xpost : String → Mem → Prop} {a1 : Int32} {a2 : Int32} (h : w_X4_isAllowed n np post xpost a1 a2 μ) : ZXMet l yX4_isAllowed cX4_isAllowed 4 (some FieldType.boolean) ({ frames := 7, cells := 2, slots := 12, locals := 103 } : Room) 2 12 D ca base ad n np [.ref (ad 30 0), .int a1, .int a2] μ (zpi post) xpost := by
  unfold ZXMet
  refine vx_ofW (cc := cX4_isAllowed) (maxL := 4) (ret := (some FieldType.boolean)) (by decide) rfl ?_
  intro p e s m args below meth c s₁ B hml hnx hv
  obtain ⟨rfl, hU⟩ := hv
  have hZ := hU.toS
  have hC : ZC p m meth c s RX4 cX4_isAllowed 4 := ⟨B.exec, B.bytes, hml, findClass_of_methodNamed B.named, B.notSynchronized⟩
  have hr := B.returns
  have key : W p l e ({ frames := 7, cells := 2, slots := 12, locals := 103 } : Room) s m (([.ref (ad 30 0), .int a1, .int a2] : List Value).toArray) below meth c s.heap [] 0 0 (vx_MQ below (ZQ D ca base ad n np (zpi post)) (ZX D ca base ad n np xpost) (([.ref (ad 30 0), .int a1, .int a2] : List Value).toArray) s 2 12 (zB base)) (entryFrame m (([.ref (ad 30 0), .int a1, .int a2] : List Value).toArray) 4) := by
    have hl := lv_entry ([.ref (ad 30 0), .int a1, .int a2]) (n := 4) (Nat.le_of_ble_eq_true rfl)
    rw [lg_entry_eq]
    generalize (lg_sl ([.ref (ad 30 0), .int a1, .int a2]) ++ List.replicate (4 - (lg_sl ([.ref (ad 30 0), .int a1, .int a2])).length) Slot.unset).toArray = ls at hl ⊢
    have hl : lv_has ls 4 [(0, .ref (ad 30 0)), (1, .int a1), (2, .int a2)] := hl
    unfold w_X4_isAllowed at h
    refine lv_aload_n hC.1 hC.2.1 dX4_isAllowed_0 rfl (lv_at hl 0 rfl) ?_
    refine lv_iload_n hC.1 hC.2.1 dX4_isAllowed_1 rfl (lv_at hl 1 rfl) ?_
    refine z_cVXq (As := [.int a1]) hC hZ (zF_30 _) rfl zy_X4_sceneNumbered (c_X4_sceneNumbered l hst h) km_X4_80 rfl ⟨rfl, rfl⟩ ⟨Nat.le_of_ble_eq_true rfl, Nat.le_of_ble_eq_true rfl⟩ hl.1 rfl (Nat.le_of_ble_eq_true rfl) dX4_isAllowed_2 ⟨Nat.le_of_ble_eq_true rfl, Nat.le_of_ble_eq_true rfl⟩ (fun E ce q9 u H locs hx hZ hce hcv hcl => z_xout hC hnx hZ hx hce hcv hcl (Nat.le_of_ble_eq_true rfl) (Nat.le_of_ble_eq_true rfl)) (fun r2 μ1 H locs h hZ => ?_)
    refine z_astore_nq (lv' := [(3, va_rf (zr ad 70 r2)), (0, .ref (ad 30 0)), (1, .int a1), (2, .int a2)]) hC dX4_isAllowed_5 rfl hl (by decide) rfl (fun ls hl => ?_)
    refine lv_iload_n hC.1 hC.2.1 dX4_isAllowed_6 rfl (lv_at hl 3 rfl) ?_
    refine z_cSXv (As := [.int a2]) hC hZ zy_X4_requireDay (c_X4_requireDay l hst h) km_X4_160 rfl ⟨rfl, rfl⟩ ⟨Nat.le_of_ble_eq_true rfl, Nat.le_of_ble_eq_true rfl⟩ hl.1 rfl (Nat.le_of_ble_eq_true rfl) dX4_isAllowed_7 ⟨Nat.le_of_ble_eq_true rfl, Nat.le_of_ble_eq_true rfl⟩ (fun E ce q9 u H locs hx hZ hce hcv hcl => z_xout hC hnx hZ hx hce hcv hcl (Nat.le_of_ble_eq_true rfl) (Nat.le_of_ble_eq_true rfl)) (fun μ3 H locs h hZ => ?_)
    refine lv_aload_n hC.1 hC.2.1 dX4_isAllowed_10 rfl (lv_at hl 1 rfl) ?_
    refine z_aload_nq hC dX4_isAllowed_11 rfl (lv_at hl 0 rfl) ?_
    refine lv_iload_n hC.1 hC.2.1 dX4_isAllowed_12 rfl (lv_at hl 3 rfl) ?_
    obtain ⟨q5, h⟩ := h
    refine z_df1 q5 ?_
    refine z_cVi (As := [.ref (ad 70 r2.toNatClampNeg), .int a2]) hC hZ (zF_30 _) rfl zy_X4_allows (c_X4_allows l h) km_X4_183 rfl ⟨rfl, rfl⟩ ⟨Nat.le_of_ble_eq_true rfl, Nat.le_of_ble_eq_true rfl⟩ hl.1 rfl (Nat.le_of_ble_eq_true rfl) dX4_isAllowed_13 ⟨Nat.le_of_ble_eq_true rfl, Nat.le_of_ble_eq_true rfl⟩ (fun r7 μ6 H locs h hZ => ?_)
    obtain ⟨q8, h⟩ := h
    exact vx_ret (z_bret hC hr hZ q8 h dX4_isAllowed_16 (Nat.le_of_ble_eq_true rfl) (Nat.le_of_ble_eq_true rfl))
  exact key
def b_X4_ahead_71 (n np : Nat) (post : Int32 → Mem → Prop) (xpost : String → Mem → Prop) (k26 : Int32 → Int32 → Int32 → Mem → Prop) (a1 : Int32) (a2 : Int32) (v3 : Int32) (v5 : Int32) (v6 : Int32) (μ : Mem) : Prop := k26 v3 v5 (v6 + 1) μ
set_option maxRecDepth 100000 in
set_option maxHeartbeats 4000000 in
theorem t_X4_ahead_71 {p : Program} {l : Launch} {e : Env} {s : State} {m : MethodId} {args : Array Value} {below : List Frame} {meth : Method} {c : Code} {D : va_G} {ca : Nat → ClassId} {base : Nat} {ad : Nat → Nat → Nat} {n np : Nat} {post : Int32 → Mem → Prop} {xpost : String → Mem → Prop} {k26 : Int32 → Int32 → Int32 → Mem → Prop} (hC : ZC p m meth c s RX4 cX4_ahead 8) (hnx : ∀ x ∈ c.exceptionTable.toList, False) (hst : l.stackTraces = false) (hr : meth.sig.returnType = (some FieldType.int)) (a1 : Int32) (a2 : Int32) (hk26 : ∀ (v3 : Int32) (v5 : Int32) (v6 : Int32) (μ : Mem) (H : Heap) (locs : List Loc) (ls : Array Slot), k26 v3 v5 v6 μ → ZS D ca base ad n np μ s H locs → lv_has ls 8 [(1, .int a1), (2, .int a2), (3, .int v3), (4, .ref (ad 31 0)), (5, .int v5), (6, .int v6)] → W p l e ({ frames := 7, cells := 2, slots := 12, locals := 103 } : Room) s m args below meth c H locs 2 12 (vx_MQ below (ZQ D ca base ad n np (zpi post)) (ZX D ca base ad n np xpost) args s 2 12 (zB base)) (F0 m 26 ls [])) (v3 : Int32) (v5 : Int32) (v6 : Int32) (μ : Mem) (H : Heap) (locs : List Loc) (ls : Array Slot) (h : b_X4_ahead_71 n np post xpost k26 a1 a2 v3 v5 v6 μ) (hZ : ZS D ca base ad n np μ s H locs) (hl : lv_has ls 8 [(1, .int a1), (2, .int a2), (3, .int v3), (4, .ref (ad 31 0)), (5, .int v5), (6, .int v6)]) : W p l e ({ frames := 7, cells := 2, slots := 12, locals := 103 } : Room) s m args below meth c H locs 2 12 (vx_MQ below (ZQ D ca base ad n np (zpi post)) (ZX D ca base ad n np xpost) args s 2 12 (zB base)) (F0 m 71 ls []) := by
  unfold b_X4_ahead_71 at h
  refine lv_iinc (v := v6 + 1) (lv' := [(6, .int (v6 + 1)), (1, .int a1), (2, .int a2), (3, .int v3), (4, .ref (ad 31 0)), (5, .int v5)]) hC.1 hC.2.1 dX4_ahead_71 hl (k := 5) rfl rfl (by decide) rfl (fun ls hl => ?_)
  refine lv_goto (tgt := 26) hC.1 hC.2.1 dX4_ahead_74 (by decide) ?_
  exact hk26 _ _ _ _ _ _ _ h hZ (lv_sub hl [1, 2, 3, 4, 5, 0] rfl)
def lb_X4_ahead_26 (n np : Nat) (post : Int32 → Mem → Prop) (xpost : String → Mem → Prop) (k26 : Int32 → Int32 → Int32 → Mem → Prop) (a1 : Int32) (a2 : Int32) (v3 : Int32) (v5 : Int32) (v6 : Int32) (μ : Mem) : Prop := ((v5 ≤ v6 → post v3 μ) ∧ (¬ v5 ≤ v6 → (vp_in v6 10 ∧ (((μ 31 0 v6.toNatClampNeg) < 0 → b_X4_ahead_71 n np post xpost k26 a1 a2 v3 v5 v6 μ) ∧ (¬ (μ 31 0 v6.toNatClampNeg) < 0 → (((μ 31 0 v6.toNatClampNeg).toNatClampNeg) < n ∧ ((a1 ≤ (μ 70 ((μ 31 0 v6.toNatClampNeg).toNatClampNeg) 0) → b_X4_ahead_71 n np post xpost k26 a1 a2 v3 v5 v6 μ) ∧ (¬ a1 ≤ (μ 70 ((μ 31 0 v6.toNatClampNeg).toNatClampNeg) 0) → (w_X2_ages n np (fun (r11 : Int32) (μ10 : Mem) => ((r11 = 0 → b_X4_ahead_71 n np post xpost k26 a1 a2 v3 v5 v6 μ10) ∧ (¬ r11 = 0 → (vp_in a2 5 ∧ (∀ x14 : Int32, x14 = μ10 73 ((μ 31 0 v6.toNatClampNeg).toNatClampNeg) a2.toNatClampNeg → b_X4_ahead_71 n np post xpost k26 a1 a2 x14 v5 v6 μ10))))) ((μ 31 0 v6.toNatClampNeg).toNatClampNeg) a2 μ)))))))))
def l_X4_ahead_26 (n np : Nat) (post : Int32 → Mem → Prop) (xpost : String → Mem → Prop) (a1 : Int32) (a2 : Int32) : Nat → Int32 → Int32 → Int32 → Mem → Prop
  | 0 => fun _ _ _ _ => False
  | fuel + 1 => lb_X4_ahead_26 n np post xpost (l_X4_ahead_26 n np post xpost a1 a2 fuel) a1 a2 
set_option maxRecDepth 100000 in
set_option maxHeartbeats 4000000 in
theorem t_X4_ahead_26 {p : Program} {l : Launch} {e : Env} {s : State} {m : MethodId} {args : Array Value} {below : List Frame} {meth : Method} {c : Code} {D : va_G} {ca : Nat → ClassId} {base : Nat} {ad : Nat → Nat → Nat} {n np : Nat} {post : Int32 → Mem → Prop} {xpost : String → Mem → Prop} (hC : ZC p m meth c s RX4 cX4_ahead 8) (hnx : ∀ x ∈ c.exceptionTable.toList, False) (hst : l.stackTraces = false) (hr : meth.sig.returnType = (some FieldType.int)) (a1 : Int32) (a2 : Int32) : ∀ (fuel : Nat) (v3 : Int32) (v5 : Int32) (v6 : Int32) (μ : Mem) (H : Heap) (locs : List Loc) (ls : Array Slot), l_X4_ahead_26 n np post xpost a1 a2 fuel v3 v5 v6 μ → ZS D ca base ad n np μ s H locs → lv_has ls 8 [(1, .int a1), (2, .int a2), (3, .int v3), (4, .ref (ad 31 0)), (5, .int v5), (6, .int v6)] → W p l e ({ frames := 7, cells := 2, slots := 12, locals := 103 } : Room) s m args below meth c H locs 2 12 (vx_MQ below (ZQ D ca base ad n np (zpi post)) (ZX D ca base ad n np xpost) args s 2 12 (zB base)) (F0 m 26 ls []) := by
  intro fuel
  induction fuel with
  | zero => exact fun _ _ _ _ _ _ _ h => h.elim
  | succ fuel hk26 =>
    intro v3 v5 v6 μ H locs ls h hZ hl
    have h : lb_X4_ahead_26 n np post xpost (l_X4_ahead_26 n np post xpost a1 a2 fuel) a1 a2 v3 v5 v6 μ := h
    unfold lb_X4_ahead_26 at h
    refine lv_iload hC.1 hC.2.1 dX4_ahead_26 (lv_at hl 5 rfl) ?_
    refine lv_iload hC.1 hC.2.1 dX4_ahead_28 (lv_at hl 4 rfl) ?_
    refine lv_icmp_ge (tgt := 77) hC.1 hC.2.1 dX4_ahead_30 (by decide) (fun c5 => ?_) (fun c5 => ?_)
    · have h := h.1 c5
      refine lv_iload_n hC.1 hC.2.1 dX4_ahead_77 rfl (lv_at hl 2 rfl) ?_
      exact vx_ret (z_iret hC hr hZ h dX4_ahead_78 (Nat.le_of_ble_eq_true rfl) (Nat.le_of_ble_eq_true rfl))
    · have h := h.2 c5
      refine lv_aload hC.1 hC.2.1 dX4_ahead_33 (lv_at hl 3 rfl) ?_
      refine lv_iload hC.1 hC.2.1 dX4_ahead_35 (lv_at hl 5 rfl) ?_
      obtain ⟨q6, h⟩ := h
      refine aL_31 hC hZ q6 dX4_ahead_37 ?_
      refine z_astoreq (lv' := [(7, va_rf (zr ad 70 (μ 31 0 v6.toNatClampNeg))), (1, .int a1), (2, .int a2), (3, .int v3), (4, .ref (ad 31 0)), (5, .int v5), (6, .int v6)]) hC dX4_ahead_38 hl (by decide) rfl (fun ls hl => ?_)
      refine z_aloadq hC dX4_ahead_40 (lv_at hl 0 rfl) ?_
      refine z_ifnullq (tgt := 71) hC dX4_ahead_42 (by decide) (fun c7 => ?_) (fun c7 => ?_)
      · have h := h.1 c7
        exact t_X4_ahead_71 (l := l) hC hnx hst hr _ _ hk26 _ _ _ _ _ _ _ h hZ (lv_sub hl [1, 2, 3, 4, 5, 6] rfl)
      · have h := h.2 c7
        refine z_aloadq hC dX4_ahead_45 (lv_at hl 0 rfl) ?_
        refine z_df0 c7 ?_
        obtain ⟨q8, h⟩ := h
        refine gX2_0 hC hZ q8 kf_X4_77 dX4_ahead_47 ?_
        refine lv_iload_n hC.1 hC.2.1 dX4_ahead_50 rfl (lv_at hl 1 rfl) ?_
        refine lv_icmp_ge (tgt := 71) hC.1 hC.2.1 dX4_ahead_51 (by decide) (fun c9 => ?_) (fun c9 => ?_)
        · have h := h.1 c9
          exact t_X4_ahead_71 (l := l) hC hnx hst hr _ _ hk26 _ _ _ _ _ _ _ h hZ (lv_sub hl [1, 2, 3, 4, 5, 6] rfl)
        · have h := h.2 c9
          refine z_aloadq hC dX4_ahead_54 (lv_at hl 0 rfl) ?_
          refine lv_iload_n hC.1 hC.2.1 dX4_ahead_56 rfl (lv_at hl 2 rfl) ?_
          refine z_df1 c7 ?_
          refine z_cVi (As := [.int a2]) hC hZ (zF_70 q8 _) rfl zy_X2_ages (c_X2_ages l h) km_X4_236 rfl ⟨rfl, rfl⟩ ⟨Nat.le_of_ble_eq_true rfl, Nat.le_of_ble_eq_true rfl⟩ hl.1 rfl (Nat.le_of_ble_eq_true rfl) dX4_ahead_57 ⟨Nat.le_of_ble_eq_true rfl, Nat.le_of_ble_eq_true rfl⟩ (fun r11 μ10 H locs h hZ => ?_)
          refine lv_if_eq (tgt := 71) hC.1 hC.2.1 dX4_ahead_60 (by decide) (fun c12 => ?_) (fun c12 => ?_)
          · have h := h.1 c12
            exact t_X4_ahead_71 (l := l) hC hnx hst hr _ _ hk26 _ _ _ _ _ _ _ h hZ (lv_sub hl [1, 2, 3, 4, 5, 6] rfl)
          · have h := h.2 c12
            refine z_aloadq hC dX4_ahead_63 (lv_at hl 0 rfl) ?_
            refine z_df0 c7 ?_
            refine gX2_5 hC hZ q8 kf_X4_114 dX4_ahead_65 ?_
            refine lv_iload_n hC.1 hC.2.1 dX4_ahead_68 rfl (lv_at hl 2 rfl) ?_
            obtain ⟨q13, h⟩ := h
            refine aL_73 hC hZ q8 q13 dX4_ahead_69 ?_
            refine lv_topi (fun x14 ex14 => ?_)
            have h := h x14 ex14
            refine lv_istore_n (lv' := [(3, .int x14), (7, va_rf (zr ad 70 (μ 31 0 v6.toNatClampNeg))), (1, .int a1), (2, .int a2), (4, .ref (ad 31 0)), (5, .int v5), (6, .int v6)]) hC.1 hC.2.1 dX4_ahead_70 rfl hl (by decide) rfl (fun ls hl => ?_)
            exact t_X4_ahead_71 (l := l) hC hnx hst hr _ _ hk26 _ _ _ _ _ _ _ h hZ (lv_sub hl [2, 3, 0, 4, 5, 6] rfl)
def w_X4_ahead (n np : Nat) (post : Int32 → Mem → Prop) (xpost : String → Mem → Prop) (a1 : Int32) (a2 : Int32) (μ : Mem) : Prop := (w_X4_sceneNumbered n np (fun (r2 : Int32) (μ1 : Mem) => (w_X4_requireProp n np (fun (μ3 : Mem) => (∃ fuel : Nat, l_X4_ahead_26 n np post xpost a1 a2 fuel (0 : Int32) (10 : Int32) (0 : Int32) μ3)) xpost a2 μ1)) xpost a1 μ)
set_option maxRecDepth 100000 in
set_option maxHeartbeats 4000000 in
theorem c_X4_ahead (l : Launch) (hst : l.stackTraces = false) {D : va_G} {ca : Nat → ClassId} {base : Nat} {ad : Nat → Nat → Nat} {n np : Nat} {μ : Mem} {post : Int32 → Mem → Prop} {xpost : String → Mem → Prop} {a1 : Int32} {a2 : Int32} (h : w_X4_ahead n np post xpost a1 a2 μ) : ZXMet l yX4_ahead cX4_ahead 8 (some FieldType.int) ({ frames := 7, cells := 2, slots := 12, locals := 103 } : Room) 2 12 D ca base ad n np [.ref (ad 30 0), .int a1, .int a2] μ (zpi post) xpost := by
  unfold ZXMet
  refine vx_ofW (cc := cX4_ahead) (maxL := 8) (ret := (some FieldType.int)) (by decide) rfl ?_
  intro p e s m args below meth c s₁ B hml hnx hv
  obtain ⟨rfl, hU⟩ := hv
  have hZ := hU.toS
  have hC : ZC p m meth c s RX4 cX4_ahead 8 := ⟨B.exec, B.bytes, hml, findClass_of_methodNamed B.named, B.notSynchronized⟩
  have hr := B.returns
  have key : W p l e ({ frames := 7, cells := 2, slots := 12, locals := 103 } : Room) s m (([.ref (ad 30 0), .int a1, .int a2] : List Value).toArray) below meth c s.heap [] 0 0 (vx_MQ below (ZQ D ca base ad n np (zpi post)) (ZX D ca base ad n np xpost) (([.ref (ad 30 0), .int a1, .int a2] : List Value).toArray) s 2 12 (zB base)) (entryFrame m (([.ref (ad 30 0), .int a1, .int a2] : List Value).toArray) 8) := by
    have hl := lv_entry ([.ref (ad 30 0), .int a1, .int a2]) (n := 8) (Nat.le_of_ble_eq_true rfl)
    rw [lg_entry_eq]
    generalize (lg_sl ([.ref (ad 30 0), .int a1, .int a2]) ++ List.replicate (8 - (lg_sl ([.ref (ad 30 0), .int a1, .int a2])).length) Slot.unset).toArray = ls at hl ⊢
    have hl : lv_has ls 8 [(0, .ref (ad 30 0)), (1, .int a1), (2, .int a2)] := hl
    unfold w_X4_ahead at h
    refine lv_aload_n hC.1 hC.2.1 dX4_ahead_0 rfl (lv_at hl 0 rfl) ?_
    refine lv_iload_n hC.1 hC.2.1 dX4_ahead_1 rfl (lv_at hl 1 rfl) ?_
    refine z_cVXq (As := [.int a1]) hC hZ (zF_30 _) rfl zy_X4_sceneNumbered (c_X4_sceneNumbered l hst h) km_X4_80 rfl ⟨rfl, rfl⟩ ⟨Nat.le_of_ble_eq_true rfl, Nat.le_of_ble_eq_true rfl⟩ hl.1 rfl (Nat.le_of_ble_eq_true rfl) dX4_ahead_2 ⟨Nat.le_of_ble_eq_true rfl, Nat.le_of_ble_eq_true rfl⟩ (fun E ce q9 u H locs hx hZ hce hcv hcl => z_xout hC hnx hZ hx hce hcv hcl (Nat.le_of_ble_eq_true rfl) (Nat.le_of_ble_eq_true rfl)) (fun r2 μ1 H locs h hZ => ?_)
    refine lv_pop hC.1 hC.2.1 dX4_ahead_5 (zcat _) ?_
    refine lv_iload_n hC.1 hC.2.1 dX4_ahead_6 rfl (lv_at hl 2 rfl) ?_
    refine z_cSXv (As := [.int a2]) hC hZ zy_X4_requireProp (c_X4_requireProp l hst h) km_X4_100 rfl ⟨rfl, rfl⟩ ⟨Nat.le_of_ble_eq_true rfl, Nat.le_of_ble_eq_true rfl⟩ hl.1 rfl (Nat.le_of_ble_eq_true rfl) dX4_ahead_7 ⟨Nat.le_of_ble_eq_true rfl, Nat.le_of_ble_eq_true rfl⟩ (fun E ce q9 u H locs hx hZ hce hcv hcl => z_xout hC hnx hZ hx hce hcv hcl (Nat.le_of_ble_eq_true rfl) (Nat.le_of_ble_eq_true rfl)) (fun μ3 H locs h hZ => ?_)
    refine lv_iconst (v := 0) hC.1 hC.2.1 dX4_ahead_10 (by decide) ?_
    refine lv_istore_n (lv' := [(3, .int 0), (0, .ref (ad 30 0)), (1, .int a1), (2, .int a2)]) hC.1 hC.2.1 dX4_ahead_11 rfl hl (by decide) rfl (fun ls hl => ?_)
    refine lv_aload_n hC.1 hC.2.1 dX4_ahead_12 rfl (lv_at hl 1 rfl) ?_
    refine gX4_0 hC hZ kf_X4_11 dX4_ahead_13 ?_
    refine lv_astore (lv' := [(4, .ref (ad 31 0)), (3, .int 0), (0, .ref (ad 30 0)), (1, .int a1), (2, .int a2)]) hC.1 hC.2.1 dX4_ahead_16 hl (by decide) rfl (fun ls hl => ?_)
    refine lv_aload hC.1 hC.2.1 dX4_ahead_18 (lv_at hl 0 rfl) ?_
    refine aN_31 hC hZ dX4_ahead_20 ?_
    refine lv_istore (lv' := [(5, .int 10), (4, .ref (ad 31 0)), (3, .int 0), (0, .ref (ad 30 0)), (1, .int a1), (2, .int a2)]) hC.1 hC.2.1 dX4_ahead_21 hl (by decide) rfl (fun ls hl => ?_)
    refine lv_iconst (v := 0) hC.1 hC.2.1 dX4_ahead_23 (by decide) ?_
    refine lv_istore (lv' := [(6, .int 0), (5, .int 10), (4, .ref (ad 31 0)), (3, .int 0), (0, .ref (ad 30 0)), (1, .int a1), (2, .int a2)]) hC.1 hC.2.1 dX4_ahead_24 hl (by decide) rfl (fun ls hl => ?_)
    obtain ⟨fuel, h⟩ := h
    exact t_X4_ahead_26 (l := l) hC hnx hst hr _ _ _ _ _ _ _ _ _ _ h hZ (lv_sub hl [5, 6, 3, 2, 1, 0] rfl)
  exact key
def b_X4_copies_13 (n np : Nat) (post : Int32 → Mem → Prop) (xpost : String → Mem → Prop) (a1 : Int32) (a2 : Int32) (μ : Mem) : Prop := xpost "java/lang/IllegalArgumentException" μ
set_option maxRecDepth 100000 in
set_option maxHeartbeats 4000000 in
theorem t_X4_copies_13 {p : Program} {l : Launch} {e : Env} {s : State} {m : MethodId} {args : Array Value} {below : List Frame} {meth : Method} {c : Code} {D : va_G} {ca : Nat → ClassId} {base : Nat} {ad : Nat → Nat → Nat} {n np : Nat} {post : Int32 → Mem → Prop} {xpost : String → Mem → Prop} (hC : ZC p m meth c s RX4 cX4_copies 3) (hnx : ∀ x ∈ c.exceptionTable.toList, False) (hst : l.stackTraces = false) (hr : meth.sig.returnType = (some FieldType.int)) (a1 : Int32) (a2 : Int32) (μ : Mem) (H : Heap) (locs : List Loc) (ls : Array Slot) (h : b_X4_copies_13 n np post xpost a1 a2 μ) (hZ : ZS D ca base ad n np μ s H locs) (hl : lv_has ls 3 []) : W p l e ({ frames := 7, cells := 2, slots := 12, locals := 102 } : Room) s m args below meth c H locs 1 6 (vx_MQ below (ZQ D ca base ad n np (zpi post)) (ZX D ca base ad n np xpost) args s 2 12 (zB base)) (F0 m 13 ls []) := by
  unfold b_X4_copies_13 at h
  exact z_throw_iae hC hnx hst hZ hl.1 zs_239 dX4_copies_13 dX4_copies_16 dX4_copies_17 dX4_copies_19 dX4_copies_22 (Nat.le_of_ble_eq_true rfl) (Nat.le_of_ble_eq_true rfl) (Nat.le_of_ble_eq_true rfl) (Nat.le_of_ble_eq_true rfl) (Nat.le_of_ble_eq_true rfl) (Nat.le_of_ble_eq_true rfl) h
def w_X4_copies (n np : Nat) (post : Int32 → Mem → Prop) (xpost : String → Mem → Prop) (a1 : Int32) (a2 : Int32) (μ : Mem) : Prop := (w_X4_requireProp n np (fun (μ1 : Mem) => ((a2 < 0 → b_X4_copies_13 n np post xpost a1 a2 μ1) ∧ (¬ a2 < 0 → ((a2 < 4 → (vp_in a1 5 ∧ ((5 * 0 + a1.toNatClampNeg) < 10 ∧ vp_in a2 4 ∧ post (μ1 43 (5 * 0 + a1.toNatClampNeg) a2.toNatClampNeg) μ1))) ∧ (¬ a2 < 4 → b_X4_copies_13 n np post xpost a1 a2 μ1))))) xpost a1 μ)
set_option maxRecDepth 100000 in
set_option maxHeartbeats 4000000 in
theorem c_X4_copies (l : Launch) (hst : l.stackTraces = false) {D : va_G} {ca : Nat → ClassId} {base : Nat} {ad : Nat → Nat → Nat} {n np : Nat} {μ : Mem} {post : Int32 → Mem → Prop} {xpost : String → Mem → Prop} {a1 : Int32} {a2 : Int32} (h : w_X4_copies n np post xpost a1 a2 μ) : ZXMet l yX4_copies cX4_copies 3 (some FieldType.int) ({ frames := 7, cells := 2, slots := 12, locals := 102 } : Room) 2 12 D ca base ad n np [.ref (ad 30 0), .int a1, .int a2] μ (zpi post) xpost := by
  unfold ZXMet
  refine vx_ofW (cc := cX4_copies) (maxL := 3) (ret := (some FieldType.int)) (by decide) rfl ?_
  intro p e s m args below meth c s₁ B hml hnx hv
  obtain ⟨rfl, hU⟩ := hv
  have hZ := hU.toS
  have hC : ZC p m meth c s RX4 cX4_copies 3 := ⟨B.exec, B.bytes, hml, findClass_of_methodNamed B.named, B.notSynchronized⟩
  have hr := B.returns
  have key : W p l e ({ frames := 7, cells := 2, slots := 12, locals := 102 } : Room) s m (([.ref (ad 30 0), .int a1, .int a2] : List Value).toArray) below meth c s.heap [] 0 0 (vx_MQ below (ZQ D ca base ad n np (zpi post)) (ZX D ca base ad n np xpost) (([.ref (ad 30 0), .int a1, .int a2] : List Value).toArray) s 2 12 (zB base)) (entryFrame m (([.ref (ad 30 0), .int a1, .int a2] : List Value).toArray) 3) := by
    have hl := lv_entry ([.ref (ad 30 0), .int a1, .int a2]) (n := 3) (Nat.le_of_ble_eq_true rfl)
    rw [lg_entry_eq]
    generalize (lg_sl ([.ref (ad 30 0), .int a1, .int a2]) ++ List.replicate (3 - (lg_sl ([.ref (ad 30 0), .int a1, .int a2])).length) Slot.unset).toArray = ls at hl ⊢
    have hl : lv_has ls 3 [(0, .ref (ad 30 0)), (1, .int a1), (2, .int a2)] := hl
    unfold w_X4_copies at h
    refine lv_iload_n hC.1 hC.2.1 dX4_copies_0 rfl (lv_at hl 1 rfl) ?_
    refine z_cSXv (As := [.int a1]) hC hZ zy_X4_requireProp (c_X4_requireProp l hst h) km_X4_100 rfl ⟨rfl, rfl⟩ ⟨Nat.le_of_ble_eq_true rfl, Nat.le_of_ble_eq_true rfl⟩ hl.1 rfl (Nat.le_of_ble_eq_true rfl) dX4_copies_1 ⟨Nat.le_of_ble_eq_true rfl, Nat.le_of_ble_eq_true rfl⟩ (fun E ce q9 u H locs hx hZ hce hcv hcl => z_xout hC hnx hZ hx hce hcv hcl (Nat.le_of_ble_eq_true rfl) (Nat.le_of_ble_eq_true rfl)) (fun μ1 H locs h hZ => ?_)
    refine lv_iload_n hC.1 hC.2.1 dX4_copies_4 rfl (lv_at hl 2 rfl) ?_
    refine lv_if_lt (tgt := 13) hC.1 hC.2.1 dX4_copies_5 (by decide) (fun c3 => ?_) (fun c3 => ?_)
    · have h := h.1 c3
      exact t_X4_copies_13 (l := l) hC hnx hst hr _ _  _ _ _ _ h hZ (lv_sub hl [] rfl)
    · have h := h.2 c3
      refine lv_iload_n hC.1 hC.2.1 dX4_copies_8 rfl (lv_at hl 2 rfl) ?_
      refine lv_iconst (v := 4) hC.1 hC.2.1 dX4_copies_9 (by decide) ?_
      refine lv_icmp_lt (tgt := 23) hC.1 hC.2.1 dX4_copies_10 (by decide) (fun c4 => ?_) (fun c4 => ?_)
      · have h := h.1 c4
        refine lv_aload_n hC.1 hC.2.1 dX4_copies_23 rfl (lv_at hl 0 rfl) ?_
        refine gX4_4 hC hZ kf_X4_31 dX4_copies_24 ?_
        refine gX3_0 hC hZ (by decide) kf_X4_173 dX4_copies_27 ?_
        refine lv_iload_n hC.1 hC.2.1 dX4_copies_30 rfl (lv_at hl 1 rfl) ?_
        obtain ⟨q5, h⟩ := h
        refine aL_41 hC hZ (by decide) q5 dX4_copies_31 ?_
        refine lv_iload_n hC.1 hC.2.1 dX4_copies_32 rfl (lv_at hl 2 rfl) ?_
        obtain ⟨q6, h⟩ := h
        obtain ⟨q7, h⟩ := h
        refine aL_43 hC hZ q6 q7 dX4_copies_33 ?_
        exact vx_ret (z_iret hC hr hZ h dX4_copies_34 (Nat.le_of_ble_eq_true rfl) (Nat.le_of_ble_eq_true rfl))
      · have h := h.2 c4
        exact t_X4_copies_13 (l := l) hC hnx hst hr _ _  _ _ _ _ h hZ (lv_sub hl [] rfl)
  exact key
def w_X4_growth (n np : Nat) (post : Int32 → Mem → Prop) (xpost : String → Mem → Prop) (a1 : Int32) (μ : Mem) : Prop := (w_X4_requireActor n np (fun (μ1 : Mem) => (vp_in a1 5 ∧ post (μ1 42 0 a1.toNatClampNeg) μ1)) xpost a1 μ)
set_option maxRecDepth 100000 in
set_option maxHeartbeats 4000000 in
theorem c_X4_growth (l : Launch) (hst : l.stackTraces = false) {D : va_G} {ca : Nat → ClassId} {base : Nat} {ad : Nat → Nat → Nat} {n np : Nat} {μ : Mem} {post : Int32 → Mem → Prop} {xpost : String → Mem → Prop} {a1 : Int32} (h : w_X4_growth n np post xpost a1 μ) : ZXMet l yX4_growth cX4_growth 2 (some FieldType.int) ({ frames := 7, cells := 1, slots := 6, locals := 102 } : Room) 1 6 D ca base ad n np [.ref (ad 30 0), .int a1] μ (zpi post) xpost := by
  unfold ZXMet
  refine vx_ofW (cc := cX4_growth) (maxL := 2) (ret := (some FieldType.int)) (by decide) rfl ?_
  intro p e s m args below meth c s₁ B hml hnx hv
  obtain ⟨rfl, hU⟩ := hv
  have hZ := hU.toS
  have hC : ZC p m meth c s RX4 cX4_growth 2 := ⟨B.exec, B.bytes, hml, findClass_of_methodNamed B.named, B.notSynchronized⟩
  have hr := B.returns
  have key : W p l e ({ frames := 7, cells := 1, slots := 6, locals := 102 } : Room) s m (([.ref (ad 30 0), .int a1] : List Value).toArray) below meth c s.heap [] 0 0 (vx_MQ below (ZQ D ca base ad n np (zpi post)) (ZX D ca base ad n np xpost) (([.ref (ad 30 0), .int a1] : List Value).toArray) s 1 6 (zB base)) (entryFrame m (([.ref (ad 30 0), .int a1] : List Value).toArray) 2) := by
    have hl := lv_entry ([.ref (ad 30 0), .int a1]) (n := 2) (Nat.le_of_ble_eq_true rfl)
    rw [lg_entry_eq]
    generalize (lg_sl ([.ref (ad 30 0), .int a1]) ++ List.replicate (2 - (lg_sl ([.ref (ad 30 0), .int a1])).length) Slot.unset).toArray = ls at hl ⊢
    have hl : lv_has ls 2 [(0, .ref (ad 30 0)), (1, .int a1)] := hl
    unfold w_X4_growth at h
    refine lv_iload_n hC.1 hC.2.1 dX4_growth_0 rfl (lv_at hl 1 rfl) ?_
    refine z_cSXv (As := [.int a1]) hC hZ zy_X4_requireActor (c_X4_requireActor l hst h) km_X4_84 rfl ⟨rfl, rfl⟩ ⟨Nat.le_of_ble_eq_true rfl, Nat.le_of_ble_eq_true rfl⟩ hl.1 rfl (Nat.le_of_ble_eq_true rfl) dX4_growth_1 ⟨Nat.le_of_ble_eq_true rfl, Nat.le_of_ble_eq_true rfl⟩ (fun E ce q9 u H locs hx hZ hce hcv hcl => z_xout hC hnx hZ hx hce hcv hcl (Nat.le_of_ble_eq_true rfl) (Nat.le_of_ble_eq_true rfl)) (fun μ1 H locs h hZ => ?_)
    refine lv_aload_n hC.1 hC.2.1 dX4_growth_4 rfl (lv_at hl 0 rfl) ?_
    refine gX4_4 hC hZ kf_X4_31 dX4_growth_5 ?_
    refine gX3_1 hC hZ (by decide) kf_X4_241 dX4_growth_8 ?_
    refine lv_iload_n hC.1 hC.2.1 dX4_growth_11 rfl (lv_at hl 1 rfl) ?_
    obtain ⟨q3, h⟩ := h
    refine aL_42 hC hZ (by decide) q3 dX4_growth_12 ?_
    exact vx_ret (z_iret hC hr hZ h dX4_growth_13 (Nat.le_of_ble_eq_true rfl) (Nat.le_of_ble_eq_true rfl))
  exact key
def b_X4_dayBehindPlan_29 (n np : Nat) (post : Int32 → Mem → Prop) (k10 : Int32 → Int32 → Mem → Prop) (v1 : Int32) (v2 : Int32) (μ : Mem) : Prop := k10 v1 (v2 + 1) μ
set_option maxRecDepth 100000 in
set_option maxHeartbeats 4000000 in
theorem t_X4_dayBehindPlan_29 {p : Program} {l : Launch} {e : Env} {s : State} {m : MethodId} {args : Array Value} {below : List Frame} {meth : Method} {c : Code} {D : va_G} {ca : Nat → ClassId} {base : Nat} {ad : Nat → Nat → Nat} {n np : Nat} {post : Int32 → Mem → Prop} {k10 : Int32 → Int32 → Mem → Prop} (hC : ZC p m meth c s RX4 cX4_dayBehindPlan 3) (hr : meth.sig.returnType = (some FieldType.int)) (hk10 : ∀ (v1 : Int32) (v2 : Int32) (μ : Mem) (H : Heap) (locs : List Loc) (ls : Array Slot), k10 v1 v2 μ → ZS D ca base ad n np μ s H locs → lv_has ls 3 [(0, .ref (ad 30 0)), (1, .int v1), (2, .int v2)] → W p l e ({ frames := 0, cells := 0, slots := 0, locals := 0 } : Room) s m args below meth c H locs 0 0 (MQ below (ZQ D ca base ad n np (zpi post)) args s 0 0 (zB base)) (F0 m 10 ls [])) (v1 : Int32) (v2 : Int32) (μ : Mem) (H : Heap) (locs : List Loc) (ls : Array Slot) (h : b_X4_dayBehindPlan_29 n np post k10 v1 v2 μ) (hZ : ZS D ca base ad n np μ s H locs) (hl : lv_has ls 3 [(0, .ref (ad 30 0)), (1, .int v1), (2, .int v2)]) : W p l e ({ frames := 0, cells := 0, slots := 0, locals := 0 } : Room) s m args below meth c H locs 0 0 (MQ below (ZQ D ca base ad n np (zpi post)) args s 0 0 (zB base)) (F0 m 29 ls []) := by
  unfold b_X4_dayBehindPlan_29 at h
  refine lv_iinc (v := v2 + 1) (lv' := [(2, .int (v2 + 1)), (0, .ref (ad 30 0)), (1, .int v1)]) hC.1 hC.2.1 dX4_dayBehindPlan_29 hl (k := 2) rfl rfl (by decide) rfl (fun ls hl => ?_)
  refine lv_goto (tgt := 10) hC.1 hC.2.1 dX4_dayBehindPlan_32 (by decide) ?_
  exact hk10 _ _ _ _ _ _ h hZ (lv_sub hl [1, 2, 0] rfl)
def lb_X4_dayBehindPlan_10 (n np : Nat) (post : Int32 → Mem → Prop) (k10 : Int32 → Int32 → Mem → Prop) (v1 : Int32) (v2 : Int32) (μ : Mem) : Prop := ((30 ≤ v2 → post v1 μ) ∧ (¬ 30 ≤ v2 → (vp_in v2 30 ∧ (((μ 32 0 v2.toNatClampNeg) < 0 → b_X4_dayBehindPlan_29 n np post k10 v1 v2 μ) ∧ (¬ (μ 32 0 v2.toNatClampNeg) < 0 → b_X4_dayBehindPlan_29 n np post k10 (v2 + 1) v2 μ)))))
def l_X4_dayBehindPlan_10 (n np : Nat) (post : Int32 → Mem → Prop) : Nat → Int32 → Int32 → Mem → Prop
  | 0 => fun _ _ _ => False
  | fuel + 1 => lb_X4_dayBehindPlan_10 n np post (l_X4_dayBehindPlan_10 n np post fuel) 
set_option maxRecDepth 100000 in
set_option maxHeartbeats 4000000 in
theorem t_X4_dayBehindPlan_10 {p : Program} {l : Launch} {e : Env} {s : State} {m : MethodId} {args : Array Value} {below : List Frame} {meth : Method} {c : Code} {D : va_G} {ca : Nat → ClassId} {base : Nat} {ad : Nat → Nat → Nat} {n np : Nat} {post : Int32 → Mem → Prop} (hC : ZC p m meth c s RX4 cX4_dayBehindPlan 3) (hr : meth.sig.returnType = (some FieldType.int)) : ∀ (fuel : Nat) (v1 : Int32) (v2 : Int32) (μ : Mem) (H : Heap) (locs : List Loc) (ls : Array Slot), l_X4_dayBehindPlan_10 n np post fuel v1 v2 μ → ZS D ca base ad n np μ s H locs → lv_has ls 3 [(0, .ref (ad 30 0)), (1, .int v1), (2, .int v2)] → W p l e ({ frames := 0, cells := 0, slots := 0, locals := 0 } : Room) s m args below meth c H locs 0 0 (MQ below (ZQ D ca base ad n np (zpi post)) args s 0 0 (zB base)) (F0 m 10 ls []) := by
  intro fuel
  induction fuel with
  | zero => exact fun _ _ _ _ _ _ h => h.elim
  | succ fuel hk10 =>
    intro v1 v2 μ H locs ls h hZ hl
    have h : lb_X4_dayBehindPlan_10 n np post (l_X4_dayBehindPlan_10 n np post fuel) v1 v2 μ := h
    unfold lb_X4_dayBehindPlan_10 at h
    refine lv_iload_n hC.1 hC.2.1 dX4_dayBehindPlan_10 rfl (lv_at hl 2 rfl) ?_
    refine lv_bipush (v := 30) hC.1 hC.2.1 dX4_dayBehindPlan_11 (by decide) ?_
    refine lv_icmp_ge (tgt := 35) hC.1 hC.2.1 dX4_dayBehindPlan_13 (by decide) (fun c1 => ?_) (fun c1 => ?_)
    · have h := h.1 c1
      refine lv_iload_n hC.1 hC.2.1 dX4_dayBehindPlan_35 rfl (lv_at hl 1 rfl) ?_
      exact z_iret hC hr hZ h dX4_dayBehindPlan_36 (Nat.le_of_ble_eq_true rfl) (Nat.le_of_ble_eq_true rfl)
    · have h := h.2 c1
      refine lv_aload_n hC.1 hC.2.1 dX4_dayBehindPlan_16 rfl (lv_at hl 0 rfl) ?_
      refine gX4_1 hC hZ kf_X4_15 dX4_dayBehindPlan_17 ?_
      refine lv_iload_n hC.1 hC.2.1 dX4_dayBehindPlan_20 rfl (lv_at hl 2 rfl) ?_
      obtain ⟨q2, h⟩ := h
      refine aL_32 hC hZ q2 dX4_dayBehindPlan_21 ?_
      refine z_ifnullq (tgt := 29) hC dX4_dayBehindPlan_22 (by decide) (fun c3 => ?_) (fun c3 => ?_)
      · have h := h.1 c3
        exact t_X4_dayBehindPlan_29 (l := l) hC hr hk10 _ _ _ _ _ _ h hZ (lv_sub hl [0, 1, 2] rfl)
      · have h := h.2 c3
        refine lv_iload_n hC.1 hC.2.1 dX4_dayBehindPlan_25 rfl (lv_at hl 2 rfl) ?_
        refine lv_iconst (v := 1) hC.1 hC.2.1 dX4_dayBehindPlan_26 (by decide) ?_
        refine lv_iadd hC.1 hC.2.1 dX4_dayBehindPlan_27 ?_
        refine lv_istore_n (lv' := [(1, .int (v2 + 1)), (0, .ref (ad 30 0)), (2, .int v2)]) hC.1 hC.2.1 dX4_dayBehindPlan_28 rfl hl (by decide) rfl (fun ls hl => ?_)
        exact t_X4_dayBehindPlan_29 (l := l) hC hr hk10 _ _ _ _ _ _ h hZ (lv_sub hl [1, 0, 2] rfl)
def w_X4_dayBehindPlan (n np : Nat) (post : Int32 → Mem → Prop) (μ : Mem) : Prop := (∃ fuel : Nat, l_X4_dayBehindPlan_10 n np post fuel (μ 30 0 9) (μ 30 0 9) μ)
set_option maxRecDepth 100000 in
set_option maxHeartbeats 4000000 in
theorem c_X4_dayBehindPlan (l : Launch) {D : va_G} {ca : Nat → ClassId} {base : Nat} {ad : Nat → Nat → Nat} {n np : Nat} {μ : Mem} {post : Int32 → Mem → Prop} (h : w_X4_dayBehindPlan n np post μ) : ZMet l yX4_dayBehindPlan cX4_dayBehindPlan 3 (some FieldType.int) ({ frames := 0, cells := 0, slots := 0, locals := 0 } : Room) 0 0 D ca base ad n np [.ref (ad 30 0)] μ (zpi post) := by
  unfold ZMet
  refine Met.ofW (cc := cX4_dayBehindPlan) (maxL := 3) (ret := (some FieldType.int)) (by decide) rfl ?_
  intro p e s m args below meth c s₁ B hml hv
  obtain ⟨rfl, hU⟩ := hv
  have hZ := hU.toS
  have hC : ZC p m meth c s RX4 cX4_dayBehindPlan 3 := ⟨B.exec, B.bytes, hml, findClass_of_methodNamed B.named, B.notSynchronized⟩
  have hr := B.returns
  have key : W p l e ({ frames := 0, cells := 0, slots := 0, locals := 0 } : Room) s m (([.ref (ad 30 0)] : List Value).toArray) below meth c s.heap [] 0 0 (MQ below (ZQ D ca base ad n np (zpi post)) (([.ref (ad 30 0)] : List Value).toArray) s 0 0 (zB base)) (entryFrame m (([.ref (ad 30 0)] : List Value).toArray) 3) := by
    have hl := lv_entry ([.ref (ad 30 0)]) (n := 3) (Nat.le_of_ble_eq_true rfl)
    rw [lg_entry_eq]
    generalize (lg_sl ([.ref (ad 30 0)]) ++ List.replicate (3 - (lg_sl ([.ref (ad 30 0)])).length) Slot.unset).toArray = ls at hl ⊢
    have hl : lv_has ls 3 [(0, .ref (ad 30 0))] := hl
    unfold w_X4_dayBehindPlan at h
    refine lv_aload_n hC.1 hC.2.1 dX4_dayBehindPlan_0 rfl (lv_at hl 0 rfl) ?_
    refine gX4_9 hC hZ kf_X4_52 dX4_dayBehindPlan_1 ?_
    refine lv_istore_n (lv' := [(1, .int (μ 30 0 9)), (0, .ref (ad 30 0))]) hC.1 hC.2.1 dX4_dayBehindPlan_4 rfl hl (by decide) rfl (fun ls hl => ?_)
    refine lv_aload_n hC.1 hC.2.1 dX4_dayBehindPlan_5 rfl (lv_at hl 1 rfl) ?_
    refine gX4_9 hC hZ kf_X4_52 dX4_dayBehindPlan_6 ?_
    refine lv_istore_n (lv' := [(2, .int (μ 30 0 9)), (1, .int (μ 30 0 9)), (0, .ref (ad 30 0))]) hC.1 hC.2.1 dX4_dayBehindPlan_9 rfl hl (by decide) rfl (fun ls hl => ?_)
    obtain ⟨fuel, h⟩ := h
    exact t_X4_dayBehindPlan_10 (l := l) hC hr _ _ _ _ _ _ _ h hZ (lv_sub hl [2, 1, 0] rfl)
  exact key
