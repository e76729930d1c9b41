def b_X0_note_60 (n np : Nat) (post : Mem → Prop) (k7 : Int32 → Mem → Prop) (v2 : Int32) (μ : Mem) : Prop := k7 (v2 + 1) μ
set_option maxRecDepth 100000 in
set_option maxHeartbeats 4000000 in
theorem t_X0_note_60 {p : Program} {l : Launch} {e : Env} {s : State} {m : MethodId} {args : Array Value} {below : List Frame} {meth : Method} {c : Code} {D : va_G} {ca : Nat → ClassId} {base : Nat} {ad : Nat → Nat → Nat} {n np : Nat} {post : Mem → Prop} {k7 : Int32 → Mem → Prop} (hC : ZC p m meth c s RX0 cX0_note 3) (hr : meth.sig.returnType = none) (hk7 : ∀ (v2 : Int32) (μ : Mem) (H : Heap) (locs : List Loc) (ls : Array Slot), k7 v2 μ → ZS D ca base ad n np μ s H locs → lv_has ls 3 [(0, .ref (ad 60 0)), (1, .ref (ad 32 0)), (2, .int v2)] → W p l e ({ frames := 0, cells := 0, slots := 0, locals := 0 } : Room) s m args below meth c H locs 0 0 (MQ below (ZQ D ca base ad n np (zpv post)) args s 0 0 (zB base)) (F0 m 7 ls [])) (v2 : Int32) (μ : Mem) (H : Heap) (locs : List Loc) (ls : Array Slot) (h : b_X0_note_60 n np post k7 v2 μ) (hZ : ZS D ca base ad n np μ s H locs) (hl : lv_has ls 3 [(0, .ref (ad 60 0)), (1, .ref (ad 32 0)), (2, .int v2)]) : W p l e ({ frames := 0, cells := 0, slots := 0, locals := 0 } : Room) s m args below meth c H locs 0 0 (MQ below (ZQ D ca base ad n np (zpv post)) args s 0 0 (zB base)) (F0 m 60 ls []) := by
  unfold b_X0_note_60 at h
  refine lv_iinc (v := v2 + 1) (lv' := [(2, .int (v2 + 1)), (0, .ref (ad 60 0)), (1, .ref (ad 32 0))]) hC.1 hC.2.1 dX0_note_60 hl (k := 2) rfl rfl (by decide) rfl (fun ls hl => ?_)
  refine lv_goto (tgt := 7) hC.1 hC.2.1 dX0_note_63 (by decide) ?_
  exact hk7 _ _ _ _ _ h hZ (lv_sub hl [1, 2, 0] rfl)
def lb_X0_note_7 (n np : Nat) (post : Mem → Prop) (k7 : Int32 → Mem → Prop) (v2 : Int32) (μ : Mem) : Prop := ((30 ≤ v2 → post μ) ∧ (¬ 30 ≤ v2 → ((10 ≤ (μ 60 0 2) → post μ) ∧ (¬ 10 ≤ (μ 60 0 2) → (vp_in v2 30 ∧ (((μ 32 0 v2.toNatClampNeg) < 0 → b_X0_note_60 n np post k7 v2 μ) ∧ (¬ (μ 32 0 v2.toNatClampNeg) < 0 → (vp_in (μ 60 0 2) 10 ∧ ∀ μ7 : Mem, μ7 = zst μ 61 0 ((μ 60 0 2).toNatClampNeg) v2 → (vp_in (μ7 60 0 2) 10 ∧ (¬ (μ7 32 0 v2.toNatClampNeg) < 0 → (μ7 32 0 v2.toNatClampNeg).toNatClampNeg < n) ∧ ∀ μ10 : Mem, μ10 = zst μ7 62 0 ((μ7 60 0 2).toNatClampNeg) (μ7 32 0 v2.toNatClampNeg) → (∀ μ11 : Mem, μ11 = zst μ10 60 0 2 ((μ10 60 0 2) + 1) → b_X0_note_60 n np post k7 v2 μ11))))))))))
def l_X0_note_7 (n np : Nat) (post : Mem → Prop) : Nat → Int32 → Mem → Prop
  | 0 => fun _ _ => False
  | fuel + 1 => lb_X0_note_7 n np post (l_X0_note_7 n np post fuel) 
set_option maxRecDepth 100000 in
set_option maxHeartbeats 4000000 in
theorem t_X0_note_7 {p : Program} {l : Launch} {e : Env} {s : State} {m : MethodId} {args : Array Value} {below : List Frame} {meth : Method} {c : Code} {D : va_G} {ca : Nat → ClassId} {base : Nat} {ad : Nat → Nat → Nat} {n np : Nat} {post : Mem → Prop} (hC : ZC p m meth c s RX0 cX0_note 3) (hr : meth.sig.returnType = none) : ∀ (fuel : Nat) (v2 : Int32) (μ : Mem) (H : Heap) (locs : List Loc) (ls : Array Slot), l_X0_note_7 n np post fuel v2 μ → ZS D ca base ad n np μ s H locs → lv_has ls 3 [(0, .ref (ad 60 0)), (1, .ref (ad 32 0)), (2, .int v2)] → W p l e ({ frames := 0, cells := 0, slots := 0, locals := 0 } : Room) s m args below meth c H locs 0 0 (MQ below (ZQ D ca base ad n np (zpv post)) args s 0 0 (zB base)) (F0 m 7 ls []) := by
  intro fuel
  induction fuel with
  | zero => exact fun _ _ _ _ _ h => h.elim
  | succ fuel hk7 =>
    intro v2 μ H locs ls h hZ hl
    have h : lb_X0_note_7 n np post (l_X0_note_7 n np post fuel) v2 μ := h
    unfold lb_X0_note_7 at h
    refine lv_iload_n hC.1 hC.2.1 dX0_note_7 rfl (lv_at hl 2 rfl) ?_
    refine lv_aload_n hC.1 hC.2.1 dX0_note_8 rfl (lv_at hl 1 rfl) ?_
    refine aN_32 hC hZ dX0_note_9 ?_
    refine lv_icmp_ge (tgt := 66) hC.1 hC.2.1 dX0_note_10 (by decide) (fun c2 => ?_) (fun c2 => ?_)
    · have h := h.1 c2
      exact z_vret hC hr hZ h dX0_note_66 (Nat.le_of_ble_eq_true rfl) (Nat.le_of_ble_eq_true rfl)
    · have h := h.2 c2
      refine lv_aload_n hC.1 hC.2.1 dX0_note_13 rfl (lv_at hl 0 rfl) ?_
      refine gX0_2 hC hZ kf_X0_21 dX0_note_14 ?_
      refine lv_bipush (v := 10) hC.1 hC.2.1 dX0_note_17 (by decide) ?_
      refine lv_icmp_ge (tgt := 66) hC.1 hC.2.1 dX0_note_19 (by decide) (fun c3 => ?_) (fun c3 => ?_)
      · have h := h.1 c3
        exact z_vret hC hr hZ h dX0_note_66 (Nat.le_of_ble_eq_true rfl) (Nat.le_of_ble_eq_true rfl)
      · have h := h.2 c3
        refine lv_aload_n hC.1 hC.2.1 dX0_note_22 rfl (lv_at hl 1 rfl) ?_
        refine lv_iload_n hC.1 hC.2.1 dX0_note_23 rfl (lv_at hl 2 rfl) ?_
        obtain ⟨q4, h⟩ := h
        refine aL_32 hC hZ q4 dX0_note_24 ?_
        refine z_ifnullq (tgt := 60) hC dX0_note_25 (by decide) (fun c5 => ?_) (fun c5 => ?_)
        · have h := h.1 c5
          exact t_X0_note_60 (l := l) hC hr hk7 _ _ _ _ _ h hZ (lv_sub hl [0, 1, 2] rfl)
        · have h := h.2 c5
          refine lv_aload_n hC.1 hC.2.1 dX0_note_28 rfl (lv_at hl 0 rfl) ?_
          refine gX0_0 hC hZ kf_X0_9 dX0_note_29 ?_
          refine lv_aload_n hC.1 hC.2.1 dX0_note_32 rfl (lv_at hl 0 rfl) ?_
          refine gX0_2 hC hZ kf_X0_21 dX0_note_33 ?_
          refine lv_iload_n hC.1 hC.2.1 dX0_note_36 rfl (lv_at hl 2 rfl) ?_
          obtain ⟨q6, h⟩ := h
          refine aS_61 hC hZ q6 dX0_note_37 (fun μ7 H locs eμ7 hZ => ?_)
          have h := h μ7 eμ7
          refine lv_aload_n hC.1 hC.2.1 dX0_note_38 rfl (lv_at hl 0 rfl) ?_
          refine gX0_1 hC hZ kf_X0_17 dX0_note_39 ?_
          refine lv_aload_n hC.1 hC.2.1 dX0_note_42 rfl (lv_at hl 0 rfl) ?_
          refine gX0_2 hC hZ kf_X0_21 dX0_note_43 ?_
          refine lv_aload_n hC.1 hC.2.1 dX0_note_46 rfl (lv_at hl 1 rfl) ?_
          refine lv_iload_n hC.1 hC.2.1 dX0_note_47 rfl (lv_at hl 2 rfl) ?_
          refine aL_32 hC hZ q4 dX0_note_48 ?_
          obtain ⟨q8, h⟩ := h
          obtain ⟨q9, h⟩ := h
          refine aS_62 hC hZ q8 q9 dX0_note_49 (fun μ10 H locs eμ10 hZ => ?_)
          have h := h μ10 eμ10
          refine lv_aload_n hC.1 hC.2.1 dX0_note_50 rfl (lv_at hl 0 rfl) ?_
          refine lv_dup hC.1 hC.2.1 dX0_note_51 rfl ?_
          refine gX0_2 hC hZ kf_X0_21 dX0_note_52 ?_
          refine lv_iconst (v := 1) hC.1 hC.2.1 dX0_note_55 (by decide) ?_
          refine lv_iadd hC.1 hC.2.1 dX0_note_56 ?_
          refine pX0_2 hC hZ kf_X0_21 dX0_note_57 (fun μ11 H locs eμ11 hZ => ?_)
          have h := h μ11 eμ11
          exact t_X0_note_60 (l := l) hC hr hk7 _ _ _ _ _ h hZ (lv_sub hl [0, 1, 2] rfl)
def w_X0_note (n np : Nat) (post : Mem → Prop) (μ : Mem) : Prop := (∀ μ1 : Mem, μ1 = zst μ 60 0 2 0 → (∃ fuel : Nat, l_X0_note_7 n np post fuel (0 : Int32) μ1))
set_option maxRecDepth 100000 in
set_option maxHeartbeats 4000000 in
theorem c_X0_note (l : Launch) {D : va_G} {ca : Nat → ClassId} {base : Nat} {ad : Nat → Nat → Nat} {n np : Nat} {μ : Mem} {post : Mem → Prop} (h : w_X0_note n np post μ) : ZMet l yX0_note cX0_note 3 none ({ frames := 0, cells := 0, slots := 0, locals := 0 } : Room) 0 0 D ca base ad n np [.ref (ad 60 0), .ref (ad 32 0)] μ (zpv post) := by
  unfold ZMet
  refine Met.ofW (cc := cX0_note) (maxL := 3) (ret := none) (by decide) rfl ?_
  intro p e s m args below meth c s₁ B hml hv
  obtain ⟨rfl, hU⟩ := hv
  have hZ := hU.toS
  have hC : ZC p m meth c s RX0 cX0_note 3 := ⟨B.exec, B.bytes, hml, findClass_of_methodNamed B.named, B.notSynchronized⟩
  have hr := B.returns
  have key : W p l e ({ frames := 0, cells := 0, slots := 0, locals := 0 } : Room) s m (([.ref (ad 60 0), .ref (ad 32 0)] : List Value).toArray) below meth c s.heap [] 0 0 (MQ below (ZQ D ca base ad n np (zpv post)) (([.ref (ad 60 0), .ref (ad 32 0)] : List Value).toArray) s 0 0 (zB base)) (entryFrame m (([.ref (ad 60 0), .ref (ad 32 0)] : List Value).toArray) 3) := by
    have hl := lv_entry ([.ref (ad 60 0), .ref (ad 32 0)]) (n := 3) (Nat.le_of_ble_eq_true rfl)
    rw [lg_entry_eq]
    generalize (lg_sl ([.ref (ad 60 0), .ref (ad 32 0)]) ++ List.replicate (3 - (lg_sl ([.ref (ad 60 0), .ref (ad 32 0)])).length) Slot.unset).toArray = ls at hl ⊢
    have hl : lv_has ls 3 [(0, .ref (ad 60 0)), (1, .ref (ad 32 0))] := hl
    unfold w_X0_note at h
    refine lv_aload_n hC.1 hC.2.1 dX0_note_0 rfl (lv_at hl 0 rfl) ?_
    refine lv_iconst (v := 0) hC.1 hC.2.1 dX0_note_1 (by decide) ?_
    refine pX0_2 hC hZ kf_X0_21 dX0_note_2 (fun μ1 H locs eμ1 hZ => ?_)
    have h := h μ1 eμ1
    refine lv_iconst (v := 0) hC.1 hC.2.1 dX0_note_5 (by decide) ?_
    refine lv_istore_n (lv' := [(2, .int 0), (0, .ref (ad 60 0)), (1, .ref (ad 32 0))]) hC.1 hC.2.1 dX0_note_6 rfl hl (by decide) rfl (fun ls hl => ?_)
    obtain ⟨fuel, h⟩ := h
    exact t_X0_note_7 (l := l) hC hr _ _ _ _ _ _ h hZ (lv_sub hl [1, 2, 0] rfl)
  exact key
def lb_X0_countOrders_4 (n np : Nat) (post : Int32 → Mem → Prop) (k4 : Int32 → Int32 → Mem → Prop) (v1 : Int32) (v2 : Int32) (μ : Mem) : Prop := (((μ 60 0 2) < v2 → post v1 μ) ∧ (¬ (μ 60 0 2) < v2 → ((10 < v2 → post v1 μ) ∧ (¬ 10 < v2 → k4 (v1 * v2) (v2 + 1) μ))))
def l_X0_countOrders_4 (n np : Nat) (post : Int32 → Mem → Prop) : Nat → Int32 → Int32 → Mem → Prop
  | 0 => fun _ _ _ => False
  | fuel + 1 => lb_X0_countOrders_4 n np post (l_X0_countOrders_4 n np post fuel) 
set_option maxRecDepth 100000 in
set_option maxHeartbeats 4000000 in
theorem t_X0_countOrders_4 {p : Program} {l : Launch} {e : Env} {s : State} {m : MethodId} {args : Array Value} {below : List Frame} {meth : Method} {c : Code} {D : va_G} {ca : Nat → ClassId} {base : Nat} {ad : Nat → Nat → Nat} {n np : Nat} {post : Int32 → Mem → Prop} (hC : ZC p m meth c s RX0 cX0_countOrders 3) (hr : meth.sig.returnType = (some FieldType.int)) : ∀ (fuel : Nat) (v1 : Int32) (v2 : Int32) (μ : Mem) (H : Heap) (locs : List Loc) (ls : Array Slot), l_X0_countOrders_4 n np post fuel v1 v2 μ → ZS D ca base ad n np μ s H locs → lv_has ls 3 [(0, .ref (ad 60 0)), (1, .int v1), (2, .int v2)] → W p l e ({ frames := 0, cells := 0, slots := 0, locals := 0 } : Room) s m args below meth c H locs 0 0 (MQ below (ZQ D ca base ad n np (zpi post)) args s 0 0 (zB base)) (F0 m 4 ls []) := by
  intro fuel
  induction fuel with
  | zero => exact fun _ _ _ _ _ _ h => h.elim
  | succ fuel hk4 =>
    intro v1 v2 μ H locs ls h hZ hl
    have h : lb_X0_countOrders_4 n np post (l_X0_countOrders_4 n np post fuel) v1 v2 μ := h
    unfold lb_X0_countOrders_4 at h
    refine lv_iload_n hC.1 hC.2.1 dX0_countOrders_4 rfl (lv_at hl 2 rfl) ?_
    refine lv_aload_n hC.1 hC.2.1 dX0_countOrders_5 rfl (lv_at hl 0 rfl) ?_
    refine gX0_2 hC hZ kf_X0_21 dX0_countOrders_6 ?_
    refine lv_icmp_gt (tgt := 28) hC.1 hC.2.1 dX0_countOrders_9 (by decide) (fun c1 => ?_) (fun c1 => ?_)
    · have h := h.1 c1
      refine lv_iload_n hC.1 hC.2.1 dX0_countOrders_28 rfl (lv_at hl 1 rfl) ?_
      exact z_iret hC hr hZ h dX0_countOrders_29 (Nat.le_of_ble_eq_true rfl) (Nat.le_of_ble_eq_true rfl)
    · have h := h.2 c1
      refine lv_iload_n hC.1 hC.2.1 dX0_countOrders_12 rfl (lv_at hl 2 rfl) ?_
      refine lv_bipush (v := 10) hC.1 hC.2.1 dX0_countOrders_13 (by decide) ?_
      refine lv_icmp_gt (tgt := 28) hC.1 hC.2.1 dX0_countOrders_15 (by decide) (fun c2 => ?_) (fun c2 => ?_)
      · have h := h.1 c2
        refine lv_iload_n hC.1 hC.2.1 dX0_countOrders_28 rfl (lv_at hl 1 rfl) ?_
        exact z_iret hC hr hZ h dX0_countOrders_29 (Nat.le_of_ble_eq_true rfl) (Nat.le_of_ble_eq_true rfl)
      · have h := h.2 c2
        refine lv_iload_n hC.1 hC.2.1 dX0_countOrders_18 rfl (lv_at hl 1 rfl) ?_
        refine lv_iload_n hC.1 hC.2.1 dX0_countOrders_19 rfl (lv_at hl 2 rfl) ?_
        refine lv_imul hC.1 hC.2.1 dX0_countOrders_20 ?_
        refine lv_istore_n (lv' := [(1, .int (v1 * v2)), (0, .ref (ad 60 0)), (2, .int v2)]) hC.1 hC.2.1 dX0_countOrders_21 rfl hl (by decide) rfl (fun ls hl => ?_)
        refine lv_iinc (v := v2 + 1) (lv' := [(2, .int (v2 + 1)), (1, .int (v1 * v2)), (0, .ref (ad 60 0))]) hC.1 hC.2.1 dX0_countOrders_22 hl (k := 2) rfl rfl (by decide) rfl (fun ls hl => ?_)
        refine lv_goto (tgt := 4) hC.1 hC.2.1 dX0_countOrders_25 (by decide) ?_
        exact hk4 _ _ _ _ _ _ h hZ (lv_sub hl [2, 1, 0] rfl)
def w_X0_countOrders (n np : Nat) (post : Int32 → Mem → Prop) (μ : Mem) : Prop := (∃ fuel : Nat, l_X0_countOrders_4 n np post fuel (1 : Int32) (2 : Int32) μ)
set_option maxRecDepth 100000 in
set_option maxHeartbeats 4000000 in
theorem c_X0_countOrders (l : Launch) {D : va_G} {ca : Nat → ClassId} {base : Nat} {ad : Nat → Nat → Nat} {n np : Nat} {μ : Mem} {post : Int32 → Mem → Prop} (h : w_X0_countOrders n np post μ) : ZMet l yX0_countOrders cX0_countOrders 3 (some FieldType.int) ({ frames := 0, cells := 0, slots := 0, locals := 0 } : Room) 0 0 D ca base ad n np [.ref (ad 60 0)] μ (zpi post) := by
  unfold ZMet
  refine Met.ofW (cc := cX0_countOrders) (maxL := 3) (ret := (some FieldType.int)) (by decide) rfl ?_
  intro p e s m args below meth c s₁ B hml hv
  obtain ⟨rfl, hU⟩ := hv
  have hZ := hU.toS
  have hC : ZC p m meth c s RX0 cX0_countOrders 3 := ⟨B.exec, B.bytes, hml, findClass_of_methodNamed B.named, B.notSynchronized⟩
  have hr := B.returns
  have key : W p l e ({ frames := 0, cells := 0, slots := 0, locals := 0 } : Room) s m (([.ref (ad 60 0)] : List Value).toArray) below meth c s.heap [] 0 0 (MQ below (ZQ D ca base ad n np (zpi post)) (([.ref (ad 60 0)] : List Value).toArray) s 0 0 (zB base)) (entryFrame m (([.ref (ad 60 0)] : List Value).toArray) 3) := by
    have hl := lv_entry ([.ref (ad 60 0)]) (n := 3) (Nat.le_of_ble_eq_true rfl)
    rw [lg_entry_eq]
    generalize (lg_sl ([.ref (ad 60 0)]) ++ List.replicate (3 - (lg_sl ([.ref (ad 60 0)])).length) Slot.unset).toArray = ls at hl ⊢
    have hl : lv_has ls 3 [(0, .ref (ad 60 0))] := hl
    unfold w_X0_countOrders at h
    refine lv_iconst (v := 1) hC.1 hC.2.1 dX0_countOrders_0 (by decide) ?_
    refine lv_istore_n (lv' := [(1, .int 1), (0, .ref (ad 60 0))]) hC.1 hC.2.1 dX0_countOrders_1 rfl hl (by decide) rfl (fun ls hl => ?_)
    refine lv_iconst (v := 2) hC.1 hC.2.1 dX0_countOrders_2 (by decide) ?_
    refine lv_istore_n (lv' := [(2, .int 2), (1, .int 1), (0, .ref (ad 60 0))]) hC.1 hC.2.1 dX0_countOrders_3 rfl hl (by decide) rfl (fun ls hl => ?_)
    obtain ⟨fuel, h⟩ := h
    exact t_X0_countOrders_4 (l := l) hC hr _ _ _ _ _ _ _ h hZ (lv_sub hl [2, 1, 0] rfl)
  exact key
def w_X4_put (n np : Nat) (post : Mem → Prop) (a2 : Int32) (a3 : Int32) (μ : Mem) : Prop := ((a2 < 0 → post μ) ∧ (¬ a2 < 0 → ((30 ≤ a2 → post μ) ∧ (¬ 30 ≤ a2 → (vp_in a2 30 ∧ (¬ a3 < 0 → a3.toNatClampNeg < n) ∧ ∀ μ5 : Mem, μ5 = zst μ 32 0 a2.toNatClampNeg a3 → post μ5)))))
set_option maxRecDepth 100000 in
set_option maxHeartbeats 4000000 in
theorem c_X4_put (l : Launch) {D : va_G} {ca : Nat → ClassId} {base : Nat} {ad : Nat → Nat → Nat} {n np : Nat} {μ : Mem} {post : Mem → Prop} {a2 : Int32} {a3 : Int32} (h : w_X4_put n np post a2 a3 μ) : ZMet l yX4_put cX4_put 3 none ({ frames := 0, cells := 0, slots := 0, locals := 0 } : Room) 0 0 D ca base ad n np [.ref (ad 32 0), .int a2, va_rf (zr ad 70 a3)] μ (zpv post) := by
  unfold ZMet
  refine Met.ofW (cc := cX4_put) (maxL := 3) (ret := none) (by decide) rfl ?_
  intro p e s m args below meth c s₁ B hml hv
  obtain ⟨rfl, hU⟩ := hv
  have hZ := hU.toS
  have hC : ZC p m meth c s RX4 cX4_put 3 := ⟨B.exec, B.bytes, hml, findClass_of_methodNamed B.named, B.notSynchronized⟩
  have hr := B.returns
  have key : W p l e ({ frames := 0, cells := 0, slots := 0, locals := 0 } : Room) s m (([.ref (ad 32 0), .int a2, va_rf (zr ad 70 a3)] : List Value).toArray) below meth c s.heap [] 0 0 (MQ below (ZQ D ca base ad n np (zpv post)) (([.ref (ad 32 0), .int a2, va_rf (zr ad 70 a3)] : List Value).toArray) s 0 0 (zB base)) (entryFrame m (([.ref (ad 32 0), .int a2, va_rf (zr ad 70 a3)] : List Value).toArray) 3) := by
    obtain ⟨ls, hls, hl⟩ : ∃ ls : Array Slot, entryFrame m ([.ref (ad 32 0), .int a2, va_rf (zr ad 70 a3)]).toArray 3 = F0 m 0 ls [] ∧ lv_has ls 3 [(0, .ref (ad 32 0)), (1, .int a2), (2, va_rf (zr ad 70 a3))] := by
      cases zr ad 70 a3 with
      | none => exact ⟨_, lg_entry_eq m ([.ref (ad 32 0), .int a2, .null]) 3, lv_entry ([.ref (ad 32 0), .int a2, .null]) (n := 3) (Nat.le_of_ble_eq_true rfl)⟩
      | some a => exact ⟨_, lg_entry_eq m ([.ref (ad 32 0), .int a2, .ref a]) 3, lv_entry ([.ref (ad 32 0), .int a2, .ref a]) (n := 3) (Nat.le_of_ble_eq_true rfl)⟩
    rw [hls]
    unfold w_X4_put at h
    refine lv_iload_n hC.1 hC.2.1 dX4_put_0 rfl (lv_at hl 1 rfl) ?_
    refine lv_if_lt (tgt := 14) hC.1 hC.2.1 dX4_put_1 (by decide) (fun c1 => ?_) (fun c1 => ?_)
    · have h := h.1 c1
      exact z_vret hC hr hZ h dX4_put_14 (Nat.le_of_ble_eq_true rfl) (Nat.le_of_ble_eq_true rfl)
    · have h := h.2 c1
      refine lv_iload_n hC.1 hC.2.1 dX4_put_4 rfl (lv_at hl 1 rfl) ?_
      refine lv_aload_n hC.1 hC.2.1 dX4_put_5 rfl (lv_at hl 0 rfl) ?_
      refine aN_32 hC hZ dX4_put_6 ?_
      refine lv_icmp_ge (tgt := 14) hC.1 hC.2.1 dX4_put_7 (by decide) (fun c2 => ?_) (fun c2 => ?_)
      · have h := h.1 c2
        exact z_vret hC hr hZ h dX4_put_14 (Nat.le_of_ble_eq_true rfl) (Nat.le_of_ble_eq_true rfl)
      · have h := h.2 c2
        refine lv_aload_n hC.1 hC.2.1 dX4_put_10 rfl (lv_at hl 0 rfl) ?_
        refine lv_iload_n hC.1 hC.2.1 dX4_put_11 rfl (lv_at hl 1 rfl) ?_
        refine z_aload_nq hC dX4_put_12 rfl (lv_at hl 2 rfl) ?_
        obtain ⟨q3, h⟩ := h
        obtain ⟨q4, h⟩ := h
        refine aS_32 hC hZ q3 q4 dX4_put_13 (fun μ5 H locs eμ5 hZ => ?_)
        have h := h μ5 eμ5
        exact z_vret hC hr hZ h dX4_put_14 (Nat.le_of_ble_eq_true rfl) (Nat.le_of_ble_eq_true rfl)
  exact key
def lb_X0_restore_2 (n np : Nat) (post : Mem → Prop) (k2 : Int32 → Mem → Prop) (v2 : Int32) (μ : Mem) : Prop := (((μ 60 0 2) ≤ v2 → post μ) ∧ (¬ (μ 60 0 2) ≤ v2 → ((10 ≤ v2 → post μ) ∧ (¬ 10 ≤ v2 → (vp_in v2 10 ∧ (w_X4_put n np (fun (μ4 : Mem) => k2 (v2 + 1) μ4) (μ 61 0 v2.toNatClampNeg) (μ 62 0 v2.toNatClampNeg) μ))))))
def l_X0_restore_2 (n np : Nat) (post : Mem → Prop) : Nat → Int32 → Mem → Prop
  | 0 => fun _ _ => False
  | fuel + 1 => lb_X0_restore_2 n np post (l_X0_restore_2 n np post fuel) 
set_option maxRecDepth 100000 in
set_option maxHeartbeats 4000000 in
theorem t_X0_restore_2 {p : Program} {l : Launch} {e : Env} {s : State} {m : MethodId} {args : Array Value} {below : List Frame} {meth : Method} {c : Code} {D : va_G} {ca : Nat → ClassId} {base : Nat} {ad : Nat → Nat → Nat} {n np : Nat} {post : Mem → Prop} (hC : ZC p m meth c s RX0 cX0_restore 3) (hr : meth.sig.returnType = none) : ∀ (fuel : Nat) (v2 : Int32) (μ : Mem) (H : Heap) (locs : List Loc) (ls : Array Slot), l_X0_restore_2 n np post fuel v2 μ → ZS D ca base ad n np μ s H locs → lv_has ls 3 [(0, .ref (ad 60 0)), (1, .ref (ad 32 0)), (2, .int v2)] → W p l e ({ frames := 1, cells := 0, slots := 0, locals := 22 } : Room) s m args below meth c H locs 0 0 (MQ below (ZQ D ca base ad n np (zpv post)) args s 0 0 (zB base)) (F0 m 2 ls []) := by
  intro fuel
  induction fuel with
  | zero => exact fun _ _ _ _ _ h => h.elim
  | succ fuel hk2 =>
    intro v2 μ H locs ls h hZ hl
    have h : lb_X0_restore_2 n np post (l_X0_restore_2 n np post fuel) v2 μ := h
    unfold lb_X0_restore_2 at h
    refine lv_iload_n hC.1 hC.2.1 dX0_restore_2 rfl (lv_at hl 2 rfl) ?_
    refine lv_aload_n hC.1 hC.2.1 dX0_restore_3 rfl (lv_at hl 0 rfl) ?_
    refine gX0_2 hC hZ kf_X0_21 dX0_restore_4 ?_
    refine lv_icmp_ge (tgt := 38) hC.1 hC.2.1 dX0_restore_7 (by decide) (fun c1 => ?_) (fun c1 => ?_)
    · have h := h.1 c1
      exact z_vret hC hr hZ h dX0_restore_38 (Nat.le_of_ble_eq_true rfl) (Nat.le_of_ble_eq_true rfl)
    · have h := h.2 c1
      refine lv_iload_n hC.1 hC.2.1 dX0_restore_10 rfl (lv_at hl 2 rfl) ?_
      refine lv_bipush (v := 10) hC.1 hC.2.1 dX0_restore_11 (by decide) ?_
      refine lv_icmp_ge (tgt := 38) hC.1 hC.2.1 dX0_restore_13 (by decide) (fun c2 => ?_) (fun c2 => ?_)
      · have h := h.1 c2
        exact z_vret hC hr hZ h dX0_restore_38 (Nat.le_of_ble_eq_true rfl) (Nat.le_of_ble_eq_true rfl)
      · have h := h.2 c2
        refine lv_aload_n hC.1 hC.2.1 dX0_restore_16 rfl (lv_at hl 1 rfl) ?_
        refine lv_aload_n hC.1 hC.2.1 dX0_restore_17 rfl (lv_at hl 0 rfl) ?_
        refine gX0_0 hC hZ kf_X0_9 dX0_restore_18 ?_
        refine lv_iload_n hC.1 hC.2.1 dX0_restore_21 rfl (lv_at hl 2 rfl) ?_
        obtain ⟨q3, h⟩ := h
        refine aL_61 hC hZ q3 dX0_restore_22 ?_
        refine lv_aload_n hC.1 hC.2.1 dX0_restore_23 rfl (lv_at hl 0 rfl) ?_
        refine gX0_1 hC hZ kf_X0_17 dX0_restore_24 ?_
        refine lv_iload_n hC.1 hC.2.1 dX0_restore_27 rfl (lv_at hl 2 rfl) ?_
        refine aL_62 hC hZ q3 dX0_restore_28 ?_
        refine z_cSNv (As := [.ref (ad 32 0), .int (μ 61 0 v2.toNatClampNeg), va_rf (zr ad 70 (μ 62 0 v2.toNatClampNeg))]) hC hZ zy_X4_put (c_X4_put l h) kn_X0_25 rfl ⟨rfl, rfl⟩ ⟨Nat.le_of_ble_eq_true rfl, Nat.le_of_ble_eq_true rfl⟩ hl.1 rfl (Nat.le_of_ble_eq_true rfl) dX0_restore_29 ⟨Nat.le_of_ble_eq_true rfl, Nat.le_of_ble_eq_true rfl⟩ (fun μ4 H locs h hZ => ?_)
        refine lv_iinc (v := v2 + 1) (lv' := [(2, .int (v2 + 1)), (0, .ref (ad 60 0)), (1, .ref (ad 32 0))]) hC.1 hC.2.1 dX0_restore_32 hl (k := 2) rfl rfl (by decide) rfl (fun ls hl => ?_)
        refine lv_goto (tgt := 2) hC.1 hC.2.1 dX0_restore_35 (by decide) ?_
        exact hk2 _ _ _ _ _ h hZ (lv_sub hl [1, 2, 0] rfl)
def w_X0_restore (n np : Nat) (post : Mem → Prop) (μ : Mem) : Prop := (∃ fuel : Nat, l_X0_restore_2 n np post fuel (0 : Int32) μ)
set_option maxRecDepth 100000 in
set_option maxHeartbeats 4000000 in
theorem c_X0_restore (l : Launch) {D : va_G} {ca : Nat → ClassId} {base : Nat} {ad : Nat → Nat → Nat} {n np : Nat} {μ : Mem} {post : Mem → Prop} (h : w_X0_restore n np post μ) : ZMet l yX0_restore cX0_restore 3 none ({ frames := 1, cells := 0, slots := 0, locals := 22 } : Room) 0 0 D ca base ad n np [.ref (ad 60 0), .ref (ad 32 0)] μ (zpv post) := by
  unfold ZMet
  refine Met.ofW (cc := cX0_restore) (maxL := 3) (ret := none) (by decide) rfl ?_
  intro p e s m args below meth c s₁ B hml hv
  obtain ⟨rfl, hU⟩ := hv
  have hZ := hU.toS
  have hC : ZC p m meth c s RX0 cX0_restore 3 := ⟨B.exec, B.bytes, hml, findClass_of_methodNamed B.named, B.notSynchronized⟩
  have hr := B.returns
  have key : W p l e ({ frames := 1, cells := 0, slots := 0, locals := 22 } : Room) s m (([.ref (ad 60 0), .ref (ad 32 0)] : List Value).toArray) below meth c s.heap [] 0 0 (MQ below (ZQ D ca base ad n np (zpv post)) (([.ref (ad 60 0), .ref (ad 32 0)] : List Value).toArray) s 0 0 (zB base)) (entryFrame m (([.ref (ad 60 0), .ref (ad 32 0)] : List Value).toArray) 3) := by
    have hl := lv_entry ([.ref (ad 60 0), .ref (ad 32 0)]) (n := 3) (Nat.le_of_ble_eq_true rfl)
    rw [lg_entry_eq]
    generalize (lg_sl ([.ref (ad 60 0), .ref (ad 32 0)]) ++ List.replicate (3 - (lg_sl ([.ref (ad 60 0), .ref (ad 32 0)])).length) Slot.unset).toArray = ls at hl ⊢
    have hl : lv_has ls 3 [(0, .ref (ad 60 0)), (1, .ref (ad 32 0))] := hl
    unfold w_X0_restore at h
    refine lv_iconst (v := 0) hC.1 hC.2.1 dX0_restore_0 (by decide) ?_
    refine lv_istore_n (lv' := [(2, .int 0), (0, .ref (ad 60 0)), (1, .ref (ad 32 0))]) hC.1 hC.2.1 dX0_restore_1 rfl hl (by decide) rfl (fun ls hl => ?_)
    obtain ⟨fuel, h⟩ := h
    exact t_X0_restore_2 (l := l) hC hr _ _ _ _ _ _ h hZ (lv_sub hl [1, 2, 0] rfl)
  exact key
def w_X4_exchange (n np : Nat) (post : Mem → Prop) (a2 : Int32) (a3 : Int32) (μ : Mem) : Prop := ((a2 < 0 → post μ) ∧ (¬ a2 < 0 → ((30 ≤ a2 → post μ) ∧ (¬ 30 ≤ a2 → ((a3 < 0 → post μ) ∧ (¬ a3 < 0 → ((a3 < 30 → (vp_in a2 30 ∧ (vp_in a3 30 ∧ ((¬ (μ 32 0 a3.toNatClampNeg) < 0 → (μ 32 0 a3.toNatClampNeg).toNatClampNeg < n) ∧ ∀ μ8 : Mem, μ8 = zst μ 32 0 a2.toNatClampNeg (μ 32 0 a3.toNatClampNeg) → ((¬ (μ 32 0 a2.toNatClampNeg) < 0 → (μ 32 0 a2.toNatClampNeg).toNatClampNeg < n) ∧ ∀ μ10 : Mem, μ10 = zst μ8 32 0 a3.toNatClampNeg (μ 32 0 a2.toNatClampNeg) → post μ10))))) ∧ (¬ a3 < 30 → post μ))))))))
set_option maxRecDepth 100000 in
set_option maxHeartbeats 4000000 in
theorem c_X4_exchange (l : Launch) {D : va_G} {ca : Nat → ClassId} {base : Nat} {ad : Nat → Nat → Nat} {n np : Nat} {μ : Mem} {post : Mem → Prop} {a2 : Int32} {a3 : Int32} (h : w_X4_exchange n np post a2 a3 μ) : ZMet l yX4_exchange cX4_exchange 4 none ({ frames := 0, cells := 0, slots := 0, locals := 0 } : Room) 0 0 D ca base ad n np [.ref (ad 32 0), .int a2, .int a3] μ (zpv post) := by
  unfold ZMet
  refine Met.ofW (cc := cX4_exchange) (maxL := 4) (ret := none) (by decide) rfl ?_
  intro p e s m args below meth c s₁ B hml hv
  obtain ⟨rfl, hU⟩ := hv
  have hZ := hU.toS
  have hC : ZC p m meth c s RX4 cX4_exchange 4 := ⟨B.exec, B.bytes, hml, findClass_of_methodNamed B.named, B.notSynchronized⟩
  have hr := B.returns
  have key : W p l e ({ frames := 0, cells := 0, slots := 0, locals := 0 } : Room) s m (([.ref (ad 32 0), .int a2, .int a3] : List Value).toArray) below meth c s.heap [] 0 0 (MQ below (ZQ D ca base ad n np (zpv post)) (([.ref (ad 32 0), .int a2, .int a3] : List Value).toArray) s 0 0 (zB base)) (entryFrame m (([.ref (ad 32 0), .int a2, .int a3] : List Value).toArray) 4) := by
    have hl := lv_entry ([.ref (ad 32 0), .int a2, .int a3]) (n := 4) (Nat.le_of_ble_eq_true rfl)
    rw [lg_entry_eq]
    generalize (lg_sl ([.ref (ad 32 0), .int a2, .int a3]) ++ List.replicate (4 - (lg_sl ([.ref (ad 32 0), .int a2, .int a3])).length) Slot.unset).toArray = ls at hl ⊢
    have hl : lv_has ls 4 [(0, .ref (ad 32 0)), (1, .int a2), (2, .int a3)] := hl
    unfold w_X4_exchange at h
    refine lv_iload_n hC.1 hC.2.1 dX4_exchange_0 rfl (lv_at hl 1 rfl) ?_
    refine lv_if_lt (tgt := 20) hC.1 hC.2.1 dX4_exchange_1 (by decide) (fun c1 => ?_) (fun c1 => ?_)
    · have h := h.1 c1
      exact z_vret hC hr hZ h dX4_exchange_20 (Nat.le_of_ble_eq_true rfl) (Nat.le_of_ble_eq_true rfl)
    · have h := h.2 c1
      refine lv_iload_n hC.1 hC.2.1 dX4_exchange_4 rfl (lv_at hl 1 rfl) ?_
      refine lv_aload_n hC.1 hC.2.1 dX4_exchange_5 rfl (lv_at hl 0 rfl) ?_
      refine aN_32 hC hZ dX4_exchange_6 ?_
      refine lv_icmp_ge (tgt := 20) hC.1 hC.2.1 dX4_exchange_7 (by decide) (fun c2 => ?_) (fun c2 => ?_)
      · have h := h.1 c2
        exact z_vret hC hr hZ h dX4_exchange_20 (Nat.le_of_ble_eq_true rfl) (Nat.le_of_ble_eq_true rfl)
      · have h := h.2 c2
        refine lv_iload_n hC.1 hC.2.1 dX4_exchange_10 rfl (lv_at hl 2 rfl) ?_
        refine lv_if_lt (tgt := 20) hC.1 hC.2.1 dX4_exchange_11 (by decide) (fun c3 => ?_) (fun c3 => ?_)
        · have h := h.1 c3
          exact z_vret hC hr hZ h dX4_exchange_20 (Nat.le_of_ble_eq_true rfl) (Nat.le_of_ble_eq_true rfl)
        · have h := h.2 c3
          refine lv_iload_n hC.1 hC.2.1 dX4_exchange_14 rfl (lv_at hl 2 rfl) ?_
          refine lv_aload_n hC.1 hC.2.1 dX4_exchange_15 rfl (lv_at hl 0 rfl) ?_
          refine aN_32 hC hZ dX4_exchange_16 ?_
          refine lv_icmp_lt (tgt := 21) hC.1 hC.2.1 dX4_exchange_17 (by decide) (fun c4 => ?_) (fun c4 => ?_)
          · have h := h.1 c4
            refine lv_aload_n hC.1 hC.2.1 dX4_exchange_21 rfl (lv_at hl 0 rfl) ?_
            refine lv_iload_n hC.1 hC.2.1 dX4_exchange_22 rfl (lv_at hl 1 rfl) ?_
            obtain ⟨q5, h⟩ := h
            refine aL_32 hC hZ q5 dX4_exchange_23 ?_
            refine z_astore_nq (lv' := [(3, va_rf (zr ad 70 (μ 32 0 a2.toNatClampNeg))), (0, .ref (ad 32 0)), (1, .int a2), (2, .int a3)]) hC dX4_exchange_24 rfl hl (by decide) rfl (fun ls hl => ?_)
            refine lv_aload_n hC.1 hC.2.1 dX4_exchange_25 rfl (lv_at hl 1 rfl) ?_
            refine lv_iload_n hC.1 hC.2.1 dX4_exchange_26 rfl (lv_at hl 2 rfl) ?_
            refine lv_aload_n hC.1 hC.2.1 dX4_exchange_27 rfl (lv_at hl 1 rfl) ?_
            refine lv_iload_n hC.1 hC.2.1 dX4_exchange_28 rfl (lv_at hl 3 rfl) ?_
            obtain ⟨q6, h⟩ := h
            refine aL_32 hC hZ q6 dX4_exchange_29 ?_
            obtain ⟨q7, h⟩ := h
            refine aS_32 hC hZ q5 q7 dX4_exchange_30 (fun μ8 H locs eμ8 hZ => ?_)
            have h := h μ8 eμ8
            refine lv_aload_n hC.1 hC.2.1 dX4_exchange_31 rfl (lv_at hl 1 rfl) ?_
            refine lv_iload_n hC.1 hC.2.1 dX4_exchange_32 rfl (lv_at hl 3 rfl) ?_
            refine z_aload_nq hC dX4_exchange_33 rfl (lv_at hl 0 rfl) ?_
            obtain ⟨q9, h⟩ := h
            refine aS_32 hC hZ q6 q9 dX4_exchange_34 (fun μ10 H locs eμ10 hZ => ?_)
            have h := h μ10 eμ10
            exact z_vret hC hr hZ h dX4_exchange_35 (Nat.le_of_ble_eq_true rfl) (Nat.le_of_ble_eq_true rfl)
          · have h := h.2 c4
            exact z_vret hC hr hZ h dX4_exchange_20 (Nat.le_of_ble_eq_true rfl) (Nat.le_of_ble_eq_true rfl)
  exact key
def lb_X0_lay_18 (n np : Nat) (post : Mem → Prop) (k18 : Int32 → Int32 → Mem → Prop) (a2 : Int32) (v3 : Int32) (v4 : Int32) (μ : Mem) : Prop := ((v4 ≤ 1 → post μ) ∧ (¬ v4 ≤ 1 → (vp_in (v4 - 1) 10 ∧ (¬ v4 = 0 ∧ (vp_in (v3 - v3 / v4 * v4) 10 ∧ (w_X4_exchange n np (fun (μ8 : Mem) => k18 (v3 / v4) (v4 + (-1)) μ8) (μ 61 0 (v4 - 1).toNatClampNeg) (μ 61 0 (v3 - v3 / v4 * v4).toNatClampNeg) μ))))))
def l_X0_lay_18 (n np : Nat) (post : Mem → Prop) (a2 : Int32) : Nat → Int32 → Int32 → Mem → Prop
  | 0 => fun _ _ _ => False
  | fuel + 1 => lb_X0_lay_18 n np post (l_X0_lay_18 n np post a2 fuel) a2 
set_option maxRecDepth 100000 in
set_option maxHeartbeats 4000000 in
theorem t_X0_lay_18 {p : Program} {l : Launch} {e : Env} {s : State} {m : MethodId} {args : Array Value} {below : List Frame} {meth : Method} {c : Code} {D : va_G} {ca : Nat → ClassId} {base : Nat} {ad : Nat → Nat → Nat} {n np : Nat} {post : Mem → Prop} (hC : ZC p m meth c s RX0 cX0_lay 5) (hr : meth.sig.returnType = none) (a2 : Int32) : ∀ (fuel : Nat) (v3 : Int32) (v4 : Int32) (μ : Mem) (H : Heap) (locs : List Loc) (ls : Array Slot), l_X0_lay_18 n np post a2 fuel v3 v4 μ → ZS D ca base ad n np μ s H locs → lv_has ls 5 [(0, .ref (ad 60 0)), (1, .ref (ad 32 0)), (3, .int v3), (4, .int v4)] → W p l e ({ frames := 2, cells := 0, slots := 0, locals := 44 } : Room) s m args below meth c H locs 0 0 (MQ below (ZQ D ca base ad n np (zpv post)) args s 0 0 (zB base)) (F0 m 18 ls []) := by
  intro fuel
  induction fuel with
  | zero => exact fun _ _ _ _ _ _ h => h.elim
  | succ fuel hk18 =>
    intro v3 v4 μ H locs ls h hZ hl
    have h : lb_X0_lay_18 n np post (l_X0_lay_18 n np post a2 fuel) a2 v3 v4 μ := h
    unfold lb_X0_lay_18 at h
    refine lv_iload hC.1 hC.2.1 dX0_lay_18 (lv_at hl 3 rfl) ?_
    refine lv_iconst (v := 1) hC.1 hC.2.1 dX0_lay_20 (by decide) ?_
    refine lv_icmp_le (tgt := 57) hC.1 hC.2.1 dX0_lay_21 (by decide) (fun c4 => ?_) (fun c4 => ?_)
    · have h := h.1 c4
      exact z_vret hC hr hZ h dX0_lay_57 (Nat.le_of_ble_eq_true rfl) (Nat.le_of_ble_eq_true rfl)
    · have h := h.2 c4
      refine lv_aload_n hC.1 hC.2.1 dX0_lay_24 rfl (lv_at hl 1 rfl) ?_
      refine lv_aload_n hC.1 hC.2.1 dX0_lay_25 rfl (lv_at hl 0 rfl) ?_
      refine gX0_0 hC hZ kf_X0_9 dX0_lay_26 ?_
      refine lv_iload hC.1 hC.2.1 dX0_lay_29 (lv_at hl 3 rfl) ?_
      refine lv_iconst (v := 1) hC.1 hC.2.1 dX0_lay_31 (by decide) ?_
      refine lv_isub hC.1 hC.2.1 dX0_lay_32 ?_
      obtain ⟨q5, h⟩ := h
      refine aL_61 hC hZ q5 dX0_lay_33 ?_
      refine lv_aload_n hC.1 hC.2.1 dX0_lay_34 rfl (lv_at hl 0 rfl) ?_
      refine gX0_0 hC hZ kf_X0_9 dX0_lay_35 ?_
      refine lv_iload_n hC.1 hC.2.1 dX0_lay_38 rfl (lv_at hl 2 rfl) ?_
      refine lv_iload hC.1 hC.2.1 dX0_lay_39 (lv_at hl 3 rfl) ?_
      obtain ⟨q6, h⟩ := h
      refine lv_irem hC.1 hC.2.1 dX0_lay_41 q6 ?_
      obtain ⟨q7, h⟩ := h
      refine aL_61 hC hZ q7 dX0_lay_42 ?_
      refine z_cSNv (As := [.ref (ad 32 0), .int (μ 61 0 (v4 - 1).toNatClampNeg), .int (μ 61 0 (v3 - v3 / v4 * v4).toNatClampNeg)]) hC hZ zy_X4_exchange (c_X4_exchange l h) kn_X0_39 rfl ⟨rfl, rfl⟩ ⟨Nat.le_of_ble_eq_true rfl, Nat.le_of_ble_eq_true rfl⟩ hl.1 rfl (Nat.le_of_ble_eq_true rfl) dX0_lay_43 ⟨Nat.le_of_ble_eq_true rfl, Nat.le_of_ble_eq_true rfl⟩ (fun μ8 H locs h hZ => ?_)
      refine lv_iload_n hC.1 hC.2.1 dX0_lay_46 rfl (lv_at hl 2 rfl) ?_
      refine lv_iload hC.1 hC.2.1 dX0_lay_47 (lv_at hl 3 rfl) ?_
      refine lv_idiv hC.1 hC.2.1 dX0_lay_49 q6 ?_
      refine lv_istore_n (lv' := [(3, .int (v3 / v4)), (0, .ref (ad 60 0)), (1, .ref (ad 32 0)), (4, .int v4)]) hC.1 hC.2.1 dX0_lay_50 rfl hl (by decide) rfl (fun ls hl => ?_)
      refine lv_iinc (v := v4 + (-1)) (lv' := [(4, .int (v4 + (-1))), (3, .int (v3 / v4)), (0, .ref (ad 60 0)), (1, .ref (ad 32 0))]) hC.1 hC.2.1 dX0_lay_51 hl (k := 3) rfl rfl (by decide) rfl (fun ls hl => ?_)
      refine lv_goto (tgt := 18) hC.1 hC.2.1 dX0_lay_54 (by decide) ?_
      exact hk18 _ _ _ _ _ _ h hZ (lv_sub hl [2, 3, 1, 0] rfl)
def w_X0_lay (n np : Nat) (post : Mem → Prop) (a2 : Int32) (μ : Mem) : Prop := (w_X0_restore n np (fun (μ1 : Mem) => (∀ x3 : Int32, x3 = zmin (μ1 60 0 2) (10 : Int32) → (∃ fuel : Nat, l_X0_lay_18 n np post a2 fuel a2 x3 μ1))) μ)
set_option maxRecDepth 100000 in
set_option maxHeartbeats 4000000 in
theorem c_X0_lay (l : Launch) {D : va_G} {ca : Nat → ClassId} {base : Nat} {ad : Nat → Nat → Nat} {n np : Nat} {μ : Mem} {post : Mem → Prop} {a2 : Int32} (h : w_X0_lay n np post a2 μ) : ZMet l yX0_lay cX0_lay 5 none ({ frames := 2, cells := 0, slots := 0, locals := 44 } : Room) 0 0 D ca base ad n np [.ref (ad 60 0), .ref (ad 32 0), .int a2] μ (zpv post) := by
  unfold ZMet
  refine Met.ofW (cc := cX0_lay) (maxL := 5) (ret := none) (by decide) rfl ?_
  intro p e s m args below meth c s₁ B hml hv
  obtain ⟨rfl, hU⟩ := hv
  have hZ := hU.toS
  have hC : ZC p m meth c s RX0 cX0_lay 5 := ⟨B.exec, B.bytes, hml, findClass_of_methodNamed B.named, B.notSynchronized⟩
  have hr := B.returns
  have key : W p l e ({ frames := 2, cells := 0, slots := 0, locals := 44 } : Room) s m (([.ref (ad 60 0), .ref (ad 32 0), .int a2] : List Value).toArray) below meth c s.heap [] 0 0 (MQ below (ZQ D ca base ad n np (zpv post)) (([.ref (ad 60 0), .ref (ad 32 0), .int a2] : List Value).toArray) s 0 0 (zB base)) (entryFrame m (([.ref (ad 60 0), .ref (ad 32 0), .int a2] : List Value).toArray) 5) := by
    have hl := lv_entry ([.ref (ad 60 0), .ref (ad 32 0), .int a2]) (n := 5) (Nat.le_of_ble_eq_true rfl)
    rw [lg_entry_eq]
    generalize (lg_sl ([.ref (ad 60 0), .ref (ad 32 0), .int a2]) ++ List.replicate (5 - (lg_sl ([.ref (ad 60 0), .ref (ad 32 0), .int a2])).length) Slot.unset).toArray = ls at hl ⊢
    have hl : lv_has ls 5 [(0, .ref (ad 60 0)), (1, .ref (ad 32 0)), (2, .int a2)] := hl
    unfold w_X0_lay at h
    refine lv_aload_n hC.1 hC.2.1 dX0_lay_0 rfl (lv_at hl 0 rfl) ?_
    refine lv_aload_n hC.1 hC.2.1 dX0_lay_1 rfl (lv_at hl 1 rfl) ?_
    refine z_cVv (As := [.ref (ad 32 0)]) hC hZ (zF_60 _) rfl zy_X0_restore (c_X0_restore l h) km_X0_29 rfl ⟨rfl, rfl⟩ ⟨Nat.le_of_ble_eq_true rfl, Nat.le_of_ble_eq_true rfl⟩ hl.1 rfl (Nat.le_of_ble_eq_true rfl) dX0_lay_2 ⟨Nat.le_of_ble_eq_true rfl, Nat.le_of_ble_eq_true rfl⟩ (fun μ1 H locs h hZ => ?_)
    refine lv_iload_n hC.1 hC.2.1 dX0_lay_5 rfl (lv_at hl 2 rfl) ?_
    refine lv_istore_n (lv' := [(3, .int a2), (0, .ref (ad 60 0)), (1, .ref (ad 32 0)), (2, .int a2)]) hC.1 hC.2.1 dX0_lay_6 rfl hl (by decide) rfl (fun ls hl => ?_)
    refine lv_aload_n hC.1 hC.2.1 dX0_lay_7 rfl (lv_at hl 1 rfl) ?_
    refine gX0_2 hC hZ kf_X0_21 dX0_lay_8 ?_
    refine lv_bipush (v := 10) hC.1 hC.2.1 dX0_lay_11 (by decide) ?_
    refine z_min hC hZ hl.1 km_X0_33 (Nat.le_of_ble_eq_true rfl) (Nat.le_of_ble_eq_true rfl) (Nat.le_of_ble_eq_true rfl) (Nat.le_of_ble_eq_true rfl) dX0_lay_13 ?_
    refine lv_topi (fun x3 ex3 => ?_)
    have h := h x3 ex3
    refine lv_istore (lv' := [(4, .int x3), (3, .int a2), (0, .ref (ad 60 0)), (1, .ref (ad 32 0)), (2, .int a2)]) hC.1 hC.2.1 dX0_lay_16 hl (by decide) rfl (fun ls hl => ?_)
    obtain ⟨fuel, h⟩ := h
    exact t_X0_lay_18 (l := l) hC hr _ _ _ _ _ _ _ _ h hZ (lv_sub hl [2, 3, 1, 0] rfl)
  exact key
def w_X1_covers (n np : Nat) (post : Int32 → Mem → Prop) (i0 : Nat) (i1 : Nat) (a2 : Int32) (μ : Mem) : Prop := (i0 < np ∧ ((¬ (μ 80 i0 4) = 0 → post 0 μ) ∧ ((μ 80 i0 4) = 0 → (i1 < n ∧ ((¬ (μ 80 i0 0) = (μ 70 i1 1) → post 0 μ) ∧ ((μ 80 i0 0) = (μ 70 i1 1) → ((a2 < (μ 80 i0 1) → post 0 μ) ∧ (¬ a2 < (μ 80 i0 1) → (((μ 80 i0 2) < a2 → post 0 μ) ∧ (¬ (μ 80 i0 2) < a2 → (((μ 80 i0 3) < (μ 70 i1 2) → post 0 μ) ∧ (¬ (μ 80 i0 3) < (μ 70 i1 2) → post 1 μ))))))))))))
set_option maxRecDepth 100000 in
set_option maxHeartbeats 4000000 in
theorem c_X1_covers (l : Launch) {D : va_G} {ca : Nat → ClassId} {base : Nat} {ad : Nat → Nat → Nat} {n np : Nat} {μ : Mem} {post : Int32 → Mem → Prop} {i0 : Nat} {i1 : Nat} {a2 : Int32} (h : w_X1_covers n np post i0 i1 a2 μ) : ZMet l yX1_covers cX1_covers 3 (some FieldType.boolean) ({ frames := 0, cells := 0, slots := 0, locals := 0 } : Room) 0 0 D ca base ad n np [.ref (ad 80 i0), .ref (ad 70 i1), .int a2] μ (zpi post) := by
  unfold ZMet
  refine Met.ofW (cc := cX1_covers) (maxL := 3) (ret := (some FieldType.boolean)) (by decide) rfl ?_
  intro p e s m args below meth c s₁ B hml hv
  obtain ⟨rfl, hU⟩ := hv
  have hZ := hU.toS
  have hC : ZC p m meth c s RX1 cX1_covers 3 := ⟨B.exec, B.bytes, hml, findClass_of_methodNamed B.named, B.notSynchronized⟩
  have hr := B.returns
  have key : W p l e ({ frames := 0, cells := 0, slots := 0, locals := 0 } : Room) s m (([.ref (ad 80 i0), .ref (ad 70 i1), .int a2] : List Value).toArray) below meth c s.heap [] 0 0 (MQ below (ZQ D ca base ad n np (zpi post)) (([.ref (ad 80 i0), .ref (ad 70 i1), .int a2] : List Value).toArray) s 0 0 (zB base)) (entryFrame m (([.ref (ad 80 i0), .ref (ad 70 i1), .int a2] : List Value).toArray) 3) := by
    have hl := lv_entry ([.ref (ad 80 i0), .ref (ad 70 i1), .int a2]) (n := 3) (Nat.le_of_ble_eq_true rfl)
    rw [lg_entry_eq]
    generalize (lg_sl ([.ref (ad 80 i0), .ref (ad 70 i1), .int a2]) ++ List.replicate (3 - (lg_sl ([.ref (ad 80 i0), .ref (ad 70 i1), .int a2])).length) Slot.unset).toArray = ls at hl ⊢
    have hl : lv_has ls 3 [(0, .ref (ad 80 i0)), (1, .ref (ad 70 i1)), (2, .int a2)] := hl
    unfold w_X1_covers at h
    refine lv_aload_n hC.1 hC.2.1 dX1_covers_0 rfl (lv_at hl 0 rfl) ?_
    obtain ⟨q1, h⟩ := h
    refine gX1_4 hC hZ q1 kf_X1_7 dX1_covers_1 ?_
    refine lv_if_ne (tgt := 49) hC.1 hC.2.1 dX1_covers_4 (by decide) (fun c2 => ?_) (fun c2 => ?_)
    · have h := h.1 c2
      refine lv_iconst (v := 0) hC.1 hC.2.1 dX1_covers_49 (by decide) ?_
      exact z_bret hC hr hZ (by decide) h dX1_covers_50 (Nat.le_of_ble_eq_true rfl) (Nat.le_of_ble_eq_true rfl)
    · have h := h.2 c2
      refine lv_aload_n hC.1 hC.2.1 dX1_covers_7 rfl (lv_at hl 0 rfl) ?_
      refine gX1_0 hC hZ q1 kf_X1_13 dX1_covers_8 ?_
      refine lv_aload_n hC.1 hC.2.1 dX1_covers_11 rfl (lv_at hl 1 rfl) ?_
      obtain ⟨q3, h⟩ := h
      refine gX2_1 hC hZ q3 kf_X1_26 dX1_covers_12 ?_
      refine lv_icmp_ne (tgt := 49) hC.1 hC.2.1 dX1_covers_15 (by decide) (fun c4 => ?_) (fun c4 => ?_)
      · have h := h.1 c4
        refine lv_iconst (v := 0) hC.1 hC.2.1 dX1_covers_49 (by decide) ?_
        exact z_bret hC hr hZ (by decide) h dX1_covers_50 (Nat.le_of_ble_eq_true rfl) (Nat.le_of_ble_eq_true rfl)
      · have h := h.2 c4
        refine lv_aload_n hC.1 hC.2.1 dX1_covers_18 rfl (lv_at hl 0 rfl) ?_
        refine gX1_1 hC hZ q1 kf_X1_17 dX1_covers_19 ?_
        refine lv_iload_n hC.1 hC.2.1 dX1_covers_22 rfl (lv_at hl 2 rfl) ?_
        refine lv_icmp_gt (tgt := 49) hC.1 hC.2.1 dX1_covers_23 (by decide) (fun c5 => ?_) (fun c5 => ?_)
        · have h := h.1 c5
          refine lv_iconst (v := 0) hC.1 hC.2.1 dX1_covers_49 (by decide) ?_
          exact z_bret hC hr hZ (by decide) h dX1_covers_50 (Nat.le_of_ble_eq_true rfl) (Nat.le_of_ble_eq_true rfl)
        · have h := h.2 c5
          refine lv_iload_n hC.1 hC.2.1 dX1_covers_26 rfl (lv_at hl 2 rfl) ?_
          refine lv_aload_n hC.1 hC.2.1 dX1_covers_27 rfl (lv_at hl 0 rfl) ?_
          refine gX1_2 hC hZ q1 kf_X1_20 dX1_covers_28 ?_
          refine lv_icmp_gt (tgt := 49) hC.1 hC.2.1 dX1_covers_31 (by decide) (fun c6 => ?_) (fun c6 => ?_)
          · have h := h.1 c6
            refine lv_iconst (v := 0) hC.1 hC.2.1 dX1_covers_49 (by decide) ?_
            exact z_bret hC hr hZ (by decide) h dX1_covers_50 (Nat.le_of_ble_eq_true rfl) (Nat.le_of_ble_eq_true rfl)
          · have h := h.2 c6
            refine lv_aload_n hC.1 hC.2.1 dX1_covers_34 rfl (lv_at hl 0 rfl) ?_
            refine gX1_3 hC hZ q1 kf_X1_23 dX1_covers_35 ?_
            refine lv_aload_n hC.1 hC.2.1 dX1_covers_38 rfl (lv_at hl 1 rfl) ?_
            refine gX2_2 hC hZ q3 kf_X1_29 dX1_covers_39 ?_
            refine lv_icmp_lt (tgt := 49) hC.1 hC.2.1 dX1_covers_42 (by decide) (fun c7 => ?_) (fun c7 => ?_)
            · have h := h.1 c7
              refine lv_iconst (v := 0) hC.1 hC.2.1 dX1_covers_49 (by decide) ?_
              exact z_bret hC hr hZ (by decide) h dX1_covers_50 (Nat.le_of_ble_eq_true rfl) (Nat.le_of_ble_eq_true rfl)
            · have h := h.2 c7
              refine lv_iconst (v := 1) hC.1 hC.2.1 dX1_covers_45 (by decide) ?_
              refine lv_goto (tgt := 50) hC.1 hC.2.1 dX1_covers_46 (by decide) ?_
              exact z_bret hC hr hZ (by decide) h dX1_covers_50 (Nat.le_of_ble_eq_true rfl) (Nat.le_of_ble_eq_true rfl)
  exact key
def b_X2_countActors_38 (n np : Nat) (post : Int32 → Mem → Prop) (k13 : Int32 → Int32 → Int32 → Mem → Prop) (i0 : Nat) (v3 : Int32) (v4 : Int32) (s0 : Int32) (s1 : Int32) (μ : Mem) : Prop := k13 (s0 + s1) v3 (v4 + 1) μ
set_option maxRecDepth 100000 in
set_option maxHeartbeats 4000000 in
theorem t_X2_countActors_38 {p : Program} {l : Launch} {e : Env} {s : State} {m : MethodId} {args : Array Value} {below : List Frame} {meth : Method} {c : Code} {D : va_G} {ca : Nat → ClassId} {base : Nat} {ad : Nat → Nat → Nat} {n np : Nat} {post : Int32 → Mem → Prop} {k13 : Int32 → Int32 → Int32 → Mem → Prop} (hC : ZC p m meth c s RX2 cX2_countActors 6) (hr : meth.sig.returnType = (some FieldType.int)) (i0 : Nat) (hk13 : ∀ (v1 : Int32) (v3 : Int32) (v4 : Int32) (μ : Mem) (H : Heap) (locs : List Loc) (ls : Array Slot), k13 v1 v3 v4 μ → ZS D ca base ad n np μ s H locs → lv_has ls 6 [(1, .int v1), (2, .ref (ad 71 i0)), (3, .int v3), (4, .int v4)] → W p l e ({ frames := 0, cells := 0, slots := 0, locals := 0 } : Room) s m args below meth c H locs 0 0 (MQ below (ZQ D ca base ad n np (zpi post)) args s 0 0 (zB base)) (F0 m 13 ls [])) (v3 : Int32) (v4 : Int32) (s0 : Int32) (s1 : Int32) (μ : Mem) (H : Heap) (locs : List Loc) (ls : Array Slot) (h : b_X2_countActors_38 n np post k13 i0 v3 v4 s0 s1 μ) (hZ : ZS D ca base ad n np μ s H locs) (hl : lv_has ls 6 [(2, .ref (ad 71 i0)), (3, .int v3), (4, .int v4)]) : W p l e ({ frames := 0, cells := 0, slots := 0, locals := 0 } : Room) s m args below meth c H locs 0 0 (MQ below (ZQ D ca base ad n np (zpi post)) args s 0 0 (zB base)) (F0 m 38 ls [.int s1, .int s0]) := by
  unfold b_X2_countActors_38 at h
  refine lv_iadd hC.1 hC.2.1 dX2_countActors_38 ?_
  refine lv_istore_n (lv' := [(1, .int (s0 + s1)), (2, .ref (ad 71 i0)), (3, .int v3), (4, .int v4)]) hC.1 hC.2.1 dX2_countActors_39 rfl hl (by decide) rfl (fun ls hl => ?_)
  refine lv_iinc (v := v4 + 1) (lv' := [(4, .int (v4 + 1)), (1, .int (s0 + s1)), (2, .ref (ad 71 i0)), (3, .int v3)]) hC.1 hC.2.1 dX2_countActors_40 hl (k := 3) rfl rfl (by decide) rfl (fun ls hl => ?_)
  refine lv_goto (tgt := 13) hC.1 hC.2.1 dX2_countActors_43 (by decide) ?_
  exact hk13 _ _ _ _ _ _ _ h hZ (lv_sub hl [1, 2, 3, 0] rfl)
def lb_X2_countActors_13 (n np : Nat) (post : Int32 → Mem → Prop) (k13 : Int32 → Int32 → Int32 → Mem → Prop) (i0 : Nat) (v1 : Int32) (v3 : Int32) (v4 : Int32) (μ : Mem) : Prop := ((v3 ≤ v4 → post v1 μ) ∧ (¬ v3 ≤ v4 → (i0 < n ∧ vp_in v4 5 ∧ ((¬ (μ 71 i0 v4.toNatClampNeg) = (-2) → b_X2_countActors_38 n np post k13 i0 v3 v4 v1 (1 : Int32) μ) ∧ ((μ 71 i0 v4.toNatClampNeg) = (-2) → b_X2_countActors_38 n np post k13 i0 v3 v4 v1 (0 : Int32) μ)))))
def l_X2_countActors_13 (n np : Nat) (post : Int32 → Mem → Prop) (i0 : Nat) : Nat → Int32 → Int32 → Int32 → Mem → Prop
  | 0 => fun _ _ _ _ => False
  | fuel + 1 => lb_X2_countActors_13 n np post (l_X2_countActors_13 n np post i0 fuel) i0 
set_option maxRecDepth 100000 in
set_option maxHeartbeats 4000000 in
theorem t_X2_countActors_13 {p : Program} {l : Launch} {e : Env} {s : State} {m : MethodId} {args : Array Value} {below : List Frame} {meth : Method} {c : Code} {D : va_G} {ca : Nat → ClassId} {base : Nat} {ad : Nat → Nat → Nat} {n np : Nat} {post : Int32 → Mem → Prop} (hC : ZC p m meth c s RX2 cX2_countActors 6) (hr : meth.sig.returnType = (some FieldType.int)) (i0 : Nat) : ∀ (fuel : Nat) (v1 : Int32) (v3 : Int32) (v4 : Int32) (μ : Mem) (H : Heap) (locs : List Loc) (ls : Array Slot), l_X2_countActors_13 n np post i0 fuel v1 v3 v4 μ → ZS D ca base ad n np μ s H locs → lv_has ls 6 [(1, .int v1), (2, .ref (ad 71 i0)), (3, .int v3), (4, .int v4)] → W p l e ({ frames := 0, cells := 0, slots := 0, locals := 0 } : Room) s m args below meth c H locs 0 0 (MQ below (ZQ D ca base ad n np (zpi post)) args s 0 0 (zB base)) (F0 m 13 ls []) := by
  intro fuel
  induction fuel with
  | zero => exact fun _ _ _ _ _ _ _ h => h.elim
  | succ fuel hk13 =>
    intro v1 v3 v4 μ H locs ls h hZ hl
    have h : lb_X2_countActors_13 n np post (l_X2_countActors_13 n np post i0 fuel) i0 v1 v3 v4 μ := h
    unfold lb_X2_countActors_13 at h
    refine lv_iload hC.1 hC.2.1 dX2_countActors_13 (lv_at hl 3 rfl) ?_
    refine lv_iload_n hC.1 hC.2.1 dX2_countActors_15 rfl (lv_at hl 2 rfl) ?_
    refine lv_icmp_ge (tgt := 46) hC.1 hC.2.1 dX2_countActors_16 (by decide) (fun c2 => ?_) (fun c2 => ?_)
    · have h := h.1 c2
      refine lv_iload_n hC.1 hC.2.1 dX2_countActors_46 rfl (lv_at hl 0 rfl) ?_
      exact z_iret hC hr hZ h dX2_countActors_47 (Nat.le_of_ble_eq_true rfl) (Nat.le_of_ble_eq_true rfl)
    · have h := h.2 c2
      refine lv_aload_n hC.1 hC.2.1 dX2_countActors_19 rfl (lv_at hl 1 rfl) ?_
      refine lv_iload hC.1 hC.2.1 dX2_countActors_20 (lv_at hl 3 rfl) ?_
      obtain ⟨q3, h⟩ := h
      obtain ⟨q4, h⟩ := h
      refine aL_71 hC hZ q3 q4 dX2_countActors_22 ?_
      refine lv_istore (lv' := [(5, .int (μ 71 i0 v4.toNatClampNeg)), (1, .int v1), (2, .ref (ad 71 i0)), (3, .int v3), (4, .int v4)]) hC.1 hC.2.1 dX2_countActors_23 hl (by decide) rfl (fun ls hl => ?_)
      refine lv_iload_n hC.1 hC.2.1 dX2_countActors_25 rfl (lv_at hl 1 rfl) ?_
      refine lv_iload hC.1 hC.2.1 dX2_countActors_26 (lv_at hl 0 rfl) ?_
      refine lv_bipush (v := (-2)) hC.1 hC.2.1 dX2_countActors_28 (by decide) ?_
      refine lv_icmp_ne (tgt := 37) hC.1 hC.2.1 dX2_countActors_30 (by decide) (fun c5 => ?_) (fun c5 => ?_)
      · have h := h.1 c5
        refine lv_iconst (v := 1) hC.1 hC.2.1 dX2_countActors_37 (by decide) ?_
        exact t_X2_countActors_38 (l := l) hC hr _ hk13 _ _ _ _ _ _ _ _ h hZ (lv_sub hl [2, 3, 4] rfl)
      · have h := h.2 c5
        refine lv_iconst (v := 0) hC.1 hC.2.1 dX2_countActors_33 (by decide) ?_
        refine lv_goto (tgt := 38) hC.1 hC.2.1 dX2_countActors_34 (by decide) ?_
        exact t_X2_countActors_38 (l := l) hC hr _ hk13 _ _ _ _ _ _ _ _ h hZ (lv_sub hl [2, 3, 4] rfl)
def w_X2_countActors (n np : Nat) (post : Int32 → Mem → Prop) (i0 : Nat) (μ : Mem) : Prop := (i0 < n ∧ (∃ fuel : Nat, l_X2_countActors_13 n np post i0 fuel (0 : Int32) (5 : Int32) (0 : Int32) μ))
set_option maxRecDepth 100000 in
set_option maxHeartbeats 4000000 in
theorem c_X2_countActors (l : Launch) {D : va_G} {ca : Nat → ClassId} {base : Nat} {ad : Nat → Nat → Nat} {n np : Nat} {μ : Mem} {post : Int32 → Mem → Prop} {i0 : Nat} (h : w_X2_countActors n np post i0 μ) : ZMet l yX2_countActors cX2_countActors 6 (some FieldType.int) ({ frames := 0, cells := 0, slots := 0, locals := 0 } : Room) 0 0 D ca base ad n np [.ref (ad 70 i0)] μ (zpi post) := by
  unfold ZMet
  refine Met.ofW (cc := cX2_countActors) (maxL := 6) (ret := (some FieldType.int)) (by decide) rfl ?_
  intro p e s m args below meth c s₁ B hml hv
  obtain ⟨rfl, hU⟩ := hv
  have hZ := hU.toS
  have hC : ZC p m meth c s RX2 cX2_countActors 6 := ⟨B.exec, B.bytes, hml, findClass_of_methodNamed B.named, B.notSynchronized⟩
  have hr := B.returns
  have key : W p l e ({ frames := 0, cells := 0, slots := 0, locals := 0 } : Room) s m (([.ref (ad 70 i0)] : List Value).toArray) below meth c s.heap [] 0 0 (MQ below (ZQ D ca base ad n np (zpi post)) (([.ref (ad 70 i0)] : List Value).toArray) s 0 0 (zB base)) (entryFrame m (([.ref (ad 70 i0)] : List Value).toArray) 6) := by
    have hl := lv_entry ([.ref (ad 70 i0)]) (n := 6) (Nat.le_of_ble_eq_true rfl)
    rw [lg_entry_eq]
    generalize (lg_sl ([.ref (ad 70 i0)]) ++ List.replicate (6 - (lg_sl ([.ref (ad 70 i0)])).length) Slot.unset).toArray = ls at hl ⊢
    have hl : lv_has ls 6 [(0, .ref (ad 70 i0))] := hl
    unfold w_X2_countActors at h
    refine lv_iconst (v := 0) hC.1 hC.2.1 dX2_countActors_0 (by decide) ?_
    refine lv_istore_n (lv' := [(1, .int 0), (0, .ref (ad 70 i0))]) hC.1 hC.2.1 dX2_countActors_1 rfl hl (by decide) rfl (fun ls hl => ?_)
    refine lv_aload_n hC.1 hC.2.1 dX2_countActors_2 rfl (lv_at hl 1 rfl) ?_
    obtain ⟨q1, h⟩ := h
    refine gX2_3 hC hZ q1 kf_X2_9 dX2_countActors_3 ?_
    refine lv_astore_n (lv' := [(2, .ref (ad 71 i0)), (1, .int 0), (0, .ref (ad 70 i0))]) hC.1 hC.2.1 dX2_countActors_6 rfl hl (by decide) rfl (fun ls hl => ?_)
    refine lv_aload_n hC.1 hC.2.1 dX2_countActors_7 rfl (lv_at hl 0 rfl) ?_
    refine aN_71 hC hZ q1 dX2_countActors_8 ?_
    refine lv_istore_n (lv' := [(3, .int 5), (2, .ref (ad 71 i0)), (1, .int 0), (0, .ref (ad 70 i0))]) hC.1 hC.2.1 dX2_countActors_9 rfl hl (by decide) rfl (fun ls hl => ?_)
    refine lv_iconst (v := 0) hC.1 hC.2.1 dX2_countActors_10 (by decide) ?_
    refine lv_istore (lv' := [(4, .int 0), (3, .int 5), (2, .ref (ad 71 i0)), (1, .int 0), (0, .ref (ad 70 i0))]) hC.1 hC.2.1 dX2_countActors_11 hl (by decide) rfl (fun ls hl => ?_)
    obtain ⟨fuel, h⟩ := h
    exact t_X2_countActors_13 (l := l) hC hr _ _ _ _ _ _ _ _ _ h hZ (lv_sub hl [3, 2, 1, 0] rfl)
  exact key
def b_X2_countProps_37 (n np : Nat) (post : Int32 → Mem → Prop) (k13 : Int32 → Int32 → Int32 → Mem → Prop) (i0 : Nat) (v3 : Int32) (v4 : Int32) (s0 : Int32) (s1 : Int32) (μ : Mem) : Prop := k13 (s0 + s1) v3 (v4 + 1) μ
set_option maxRecDepth 100000 in
set_option maxHeartbeats 4000000 in
theorem t_X2_countProps_37 {p : Program} {l : Launch} {e : Env} {s : State} {m : MethodId} {args : Array Value} {below : List Frame} {meth : Method} {c : Code} {D : va_G} {ca : Nat → ClassId} {base : Nat} {ad : Nat → Nat → Nat} {n np : Nat} {post : Int32 → Mem → Prop} {k13 : Int32 → Int32 → Int32 → Mem → Prop} (hC : ZC p m meth c s RX2 cX2_countProps 6) (hr : meth.sig.returnType = (some FieldType.int)) (i0 : Nat) (hk13 : ∀ (v1 : Int32) (v3 : Int32) (v4 : Int32) (μ : Mem) (H : Heap) (locs : List Loc) (ls : Array Slot), k13 v1 v3 v4 μ → ZS D ca base ad n np μ s H locs → lv_has ls 6 [(1, .int v1), (2, .ref (ad 72 i0)), (3, .int v3), (4, .int v4)] → W p l e ({ frames := 0, cells := 0, slots := 0, locals := 0 } : Room) s m args below meth c H locs 0 0 (MQ below (ZQ D ca base ad n np (zpi post)) args s 0 0 (zB base)) (F0 m 13 ls [])) (v3 : Int32) (v4 : Int32) (s0 : Int32) (s1 : Int32) (μ : Mem) (H : Heap) (locs : List Loc) (ls : Array Slot) (h : b_X2_countProps_37 n np post k13 i0 v3 v4 s0 s1 μ) (hZ : ZS D ca base ad n np μ s H locs) (hl : lv_has ls 6 [(2, .ref (ad 72 i0)), (3, .int v3), (4, .int v4)]) : W p l e ({ frames := 0, cells := 0, slots := 0, locals := 0 } : Room) s m args below meth c H locs 0 0 (MQ below (ZQ D ca base ad n np (zpi post)) args s 0 0 (zB base)) (F0 m 37 ls [.int s1, .int s0]) := by
  unfold b_X2_countProps_37 at h
  refine lv_iadd hC.1 hC.2.1 dX2_countProps_37 ?_
  refine lv_istore_n (lv' := [(1, .int (s0 + s1)), (2, .ref (ad 72 i0)), (3, .int v3), (4, .int v4)]) hC.1 hC.2.1 dX2_countProps_38 rfl hl (by decide) rfl (fun ls hl => ?_)
  refine lv_iinc (v := v4 + 1) (lv' := [(4, .int (v4 + 1)), (1, .int (s0 + s1)), (2, .ref (ad 72 i0)), (3, .int v3)]) hC.1 hC.2.1 dX2_countProps_39 hl (k := 3) rfl rfl (by decide) rfl (fun ls hl => ?_)
  refine lv_goto (tgt := 13) hC.1 hC.2.1 dX2_countProps_42 (by decide) ?_
  exact hk13 _ _ _ _ _ _ _ h hZ (lv_sub hl [1, 2, 3, 0] rfl)
def lb_X2_countProps_13 (n np : Nat) (post : Int32 → Mem → Prop) (k13 : Int32 → Int32 → Int32 → Mem → Prop) (i0 : Nat) (v1 : Int32) (v3 : Int32) (v4 : Int32) (μ : Mem) : Prop := ((v3 ≤ v4 → post v1 μ) ∧ (¬ v3 ≤ v4 → (i0 < n ∧ vp_in v4 5 ∧ ((¬ (μ 72 i0 v4.toNatClampNeg) = (-1) → b_X2_countProps_37 n np post k13 i0 v3 v4 v1 (1 : Int32) μ) ∧ ((μ 72 i0 v4.toNatClampNeg) = (-1) → b_X2_countProps_37 n np post k13 i0 v3 v4 v1 (0 : Int32) μ)))))
def l_X2_countProps_13 (n np : Nat) (post : Int32 → Mem → Prop) (i0 : Nat) : Nat → Int32 → Int32 → Int32 → Mem → Prop
  | 0 => fun _ _ _ _ => False
  | fuel + 1 => lb_X2_countProps_13 n np post (l_X2_countProps_13 n np post i0 fuel) i0 
set_option maxRecDepth 100000 in
set_option maxHeartbeats 4000000 in
theorem t_X2_countProps_13 {p : Program} {l : Launch} {e : Env} {s : State} {m : MethodId} {args : Array Value} {below : List Frame} {meth : Method} {c : Code} {D : va_G} {ca : Nat → ClassId} {base : Nat} {ad : Nat → Nat → Nat} {n np : Nat} {post : Int32 → Mem → Prop} (hC : ZC p m meth c s RX2 cX2_countProps 6) (hr : meth.sig.returnType = (some FieldType.int)) (i0 : Nat) : ∀ (fuel : Nat) (v1 : Int32) (v3 : Int32) (v4 : Int32) (μ : Mem) (H : Heap) (locs : List Loc) (ls : Array Slot), l_X2_countProps_13 n np post i0 fuel v1 v3 v4 μ → ZS D ca base ad n np μ s H locs → lv_has ls 6 [(1, .int v1), (2, .ref (ad 72 i0)), (3, .int v3), (4, .int v4)] → W p l e ({ frames := 0, cells := 0, slots := 0, locals := 0 } : Room) s m args below meth c H locs 0 0 (MQ below (ZQ D ca base ad n np (zpi post)) args s 0 0 (zB base)) (F0 m 13 ls []) := by
  intro fuel
  induction fuel with
  | zero => exact fun _ _ _ _ _ _ _ h => h.elim
  | succ fuel hk13 =>
    intro v1 v3 v4 μ H locs ls h hZ hl
    have h : lb_X2_countProps_13 n np post (l_X2_countProps_13 n np post i0 fuel) i0 v1 v3 v4 μ := h
    unfold lb_X2_countProps_13 at h
    refine lv_iload hC.1 hC.2.1 dX2_countProps_13 (lv_at hl 3 rfl) ?_
    refine lv_iload_n hC.1 hC.2.1 dX2_countProps_15 rfl (lv_at hl 2 rfl) ?_
    refine lv_icmp_ge (tgt := 45) hC.1 hC.2.1 dX2_countProps_16 (by decide) (fun c2 => ?_) (fun c2 => ?_)
    · have h := h.1 c2
      refine lv_iload_n hC.1 hC.2.1 dX2_countProps_45 rfl (lv_at hl 0 rfl) ?_
      exact z_iret hC hr hZ h dX2_countProps_46 (Nat.le_of_ble_eq_true rfl) (Nat.le_of_ble_eq_true rfl)
    · have h := h.2 c2
      refine lv_aload_n hC.1 hC.2.1 dX2_countProps_19 rfl (lv_at hl 1 rfl) ?_
      refine lv_iload hC.1 hC.2.1 dX2_countProps_20 (lv_at hl 3 rfl) ?_
      obtain ⟨q3, h⟩ := h
      obtain ⟨q4, h⟩ := h
      refine aL_72 hC hZ q3 q4 dX2_countProps_22 ?_
      refine lv_istore (lv' := [(5, .int (μ 72 i0 v4.toNatClampNeg)), (1, .int v1), (2, .ref (ad 72 i0)), (3, .int v3), (4, .int v4)]) hC.1 hC.2.1 dX2_countProps_23 hl (by decide) rfl (fun ls hl => ?_)
      refine lv_iload_n hC.1 hC.2.1 dX2_countProps_25 rfl (lv_at hl 1 rfl) ?_
      refine lv_iload hC.1 hC.2.1 dX2_countProps_26 (lv_at hl 0 rfl) ?_
      refine lv_iconst (v := (-1)) hC.1 hC.2.1 dX2_countProps_28 (by decide) ?_
      refine lv_icmp_ne (tgt := 36) hC.1 hC.2.1 dX2_countProps_29 (by decide) (fun c5 => ?_) (fun c5 => ?_)
      · have h := h.1 c5
        refine lv_iconst (v := 1) hC.1 hC.2.1 dX2_countProps_36 (by decide) ?_
        exact t_X2_countProps_37 (l := l) hC hr _ hk13 _ _ _ _ _ _ _ _ h hZ (lv_sub hl [2, 3, 4] rfl)
      · have h := h.2 c5
        refine lv_iconst (v := 0) hC.1 hC.2.1 dX2_countProps_32 (by decide) ?_
        refine lv_goto (tgt := 37) hC.1 hC.2.1 dX2_countProps_33 (by decide) ?_
        exact t_X2_countProps_37 (l := l) hC hr _ hk13 _ _ _ _ _ _ _ _ h hZ (lv_sub hl [2, 3, 4] rfl)
def w_X2_countProps (n np : Nat) (post : Int32 → Mem → Prop) (i0 : Nat) (μ : Mem) : Prop := (i0 < n ∧ (∃ fuel : Nat, l_X2_countProps_13 n np post i0 fuel (0 : Int32) (5 : Int32) (0 : Int32) μ))
set_option maxRecDepth 100000 in
set_option maxHeartbeats 4000000 in
theorem c_X2_countProps (l : Launch) {D : va_G} {ca : Nat → ClassId} {base : Nat} {ad : Nat → Nat → Nat} {n np : Nat} {μ : Mem} {post : Int32 → Mem → Prop} {i0 : Nat} (h : w_X2_countProps n np post i0 μ) : ZMet l yX2_countProps cX2_countProps 6 (some FieldType.int) ({ frames := 0, cells := 0, slots := 0, locals := 0 } : Room) 0 0 D ca base ad n np [.ref (ad 70 i0)] μ (zpi post) := by
  unfold ZMet
  refine Met.ofW (cc := cX2_countProps) (maxL := 6) (ret := (some FieldType.int)) (by decide) rfl ?_
  intro p e s m args below meth c s₁ B hml hv
  obtain ⟨rfl, hU⟩ := hv
  have hZ := hU.toS
  have hC : ZC p m meth c s RX2 cX2_countProps 6 := ⟨B.exec, B.bytes, hml, findClass_of_methodNamed B.named, B.notSynchronized⟩
  have hr := B.returns
  have key : W p l e ({ frames := 0, cells := 0, slots := 0, locals := 0 } : Room) s m (([.ref (ad 70 i0)] : List Value).toArray) below meth c s.heap [] 0 0 (MQ below (ZQ D ca base ad n np (zpi post)) (([.ref (ad 70 i0)] : List Value).toArray) s 0 0 (zB base)) (entryFrame m (([.ref (ad 70 i0)] : List Value).toArray) 6) := by
    have hl := lv_entry ([.ref (ad 70 i0)]) (n := 6) (Nat.le_of_ble_eq_true rfl)
    rw [lg_entry_eq]
    generalize (lg_sl ([.ref (ad 70 i0)]) ++ List.replicate (6 - (lg_sl ([.ref (ad 70 i0)])).length) Slot.unset).toArray = ls at hl ⊢
    have hl : lv_has ls 6 [(0, .ref (ad 70 i0))] := hl
    unfold w_X2_countProps at h
    refine lv_iconst (v := 0) hC.1 hC.2.1 dX2_countProps_0 (by decide) ?_
    refine lv_istore_n (lv' := [(1, .int 0), (0, .ref (ad 70 i0))]) hC.1 hC.2.1 dX2_countProps_1 rfl hl (by decide) rfl (fun ls hl => ?_)
    refine lv_aload_n hC.1 hC.2.1 dX2_countProps_2 rfl (lv_at hl 1 rfl) ?_
    obtain ⟨q1, h⟩ := h
    refine gX2_4 hC hZ q1 kf_X2_15 dX2_countProps_3 ?_
    refine lv_astore_n (lv' := [(2, .ref (ad 72 i0)), (1, .int 0), (0, .ref (ad 70 i0))]) hC.1 hC.2.1 dX2_countProps_6 rfl hl (by decide) rfl (fun ls hl => ?_)
    refine lv_aload_n hC.1 hC.2.1 dX2_countProps_7 rfl (lv_at hl 0 rfl) ?_
    refine aN_72 hC hZ q1 dX2_countProps_8 ?_
    refine lv_istore_n (lv' := [(3, .int 5), (2, .ref (ad 72 i0)), (1, .int 0), (0, .ref (ad 70 i0))]) hC.1 hC.2.1 dX2_countProps_9 rfl hl (by decide) rfl (fun ls hl => ?_)
    refine lv_iconst (v := 0) hC.1 hC.2.1 dX2_countProps_10 (by decide) ?_
    refine lv_istore (lv' := [(4, .int 0), (3, .int 5), (2, .ref (ad 72 i0)), (1, .int 0), (0, .ref (ad 70 i0))]) hC.1 hC.2.1 dX2_countProps_11 hl (by decide) rfl (fun ls hl => ?_)
    obtain ⟨fuel, h⟩ := h
    exact t_X2_countProps_13 (l := l) hC hr _ _ _ _ _ _ _ _ _ h hZ (lv_sub hl [3, 2, 1, 0] rfl)
  exact key
def w_X2_ages (n np : Nat) (post : Int32 → Mem → Prop) (i0 : Nat) (a1 : Int32) (μ : Mem) : Prop := (i0 < n ∧ (((μ 70 i0 6) = 2 → post 0 μ) ∧ (¬ (μ 70 i0 6) = 2 → ((a1 < 0 → post 0 μ) ∧ (¬ a1 < 0 → ((5 ≤ a1 → post 0 μ) ∧ (¬ 5 ≤ a1 → (vp_in a1 5 ∧ (((μ 72 i0 a1.toNatClampNeg) = (-1) → post 0 μ) ∧ (¬ (μ 72 i0 a1.toNatClampNeg) = (-1) → post 1 μ))))))))))
set_option maxRecDepth 100000 in
set_option maxHeartbeats 4000000 in
theorem c_X2_ages (l : Launch) {D : va_G} {ca : Nat → ClassId} {base : Nat} {ad : Nat → Nat → Nat} {n np : Nat} {μ : Mem} {post : Int32 → Mem → Prop} {i0 : Nat} {a1 : Int32} (h : w_X2_ages n np post i0 a1 μ) : ZMet l yX2_ages cX2_ages 2 (some FieldType.boolean) ({ frames := 0, cells := 0, slots := 0, locals := 0 } : Room) 0 0 D ca base ad n np [.ref (ad 70 i0), .int a1] μ (zpi post) := by
  unfold ZMet
  refine Met.ofW (cc := cX2_ages) (maxL := 2) (ret := (some FieldType.boolean)) (by decide) rfl ?_
  intro p e s m args below meth c s₁ B hml hv
  obtain ⟨rfl, hU⟩ := hv
  have hZ := hU.toS
  have hC : ZC p m meth c s RX2 cX2_ages 2 := ⟨B.exec, B.bytes, hml, findClass_of_methodNamed B.named, B.notSynchronized⟩
  have hr := B.returns
  have key : W p l e ({ frames := 0, cells := 0, slots := 0, locals := 0 } : Room) s m (([.ref (ad 70 i0), .int a1] : List Value).toArray) below meth c s.heap [] 0 0 (MQ below (ZQ D ca base ad n np (zpi post)) (([.ref (ad 70 i0), .int a1] : List Value).toArray) s 0 0 (zB base)) (entryFrame m (([.ref (ad 70 i0), .int a1] : List Value).toArray) 2) := by
    have hl := lv_entry ([.ref (ad 70 i0), .int a1]) (n := 2) (Nat.le_of_ble_eq_true rfl)
    rw [lg_entry_eq]
    generalize (lg_sl ([.ref (ad 70 i0), .int a1]) ++ List.replicate (2 - (lg_sl ([.ref (ad 70 i0), .int a1])).length) Slot.unset).toArray = ls at hl ⊢
    have hl : lv_has ls 2 [(0, .ref (ad 70 i0)), (1, .int a1)] := hl
    unfold w_X2_ages at h
    refine lv_aload_n hC.1 hC.2.1 dX2_ages_0 rfl (lv_at hl 0 rfl) ?_
    obtain ⟨q1, h⟩ := h
    refine gX2_6 hC hZ q1 kf_X2_21 dX2_ages_1 ?_
    refine lv_iconst (v := 2) hC.1 hC.2.1 dX2_ages_4 (by decide) ?_
    refine lv_icmp_eq (tgt := 31) hC.1 hC.2.1 dX2_ages_5 (by decide) (fun c2 => ?_) (fun c2 => ?_)
    · have h := h.1 c2
      refine lv_iconst (v := 0) hC.1 hC.2.1 dX2_ages_31 (by decide) ?_
      exact z_bret hC hr hZ (by decide) h dX2_ages_32 (Nat.le_of_ble_eq_true rfl) (Nat.le_of_ble_eq_true rfl)
    · have h := h.2 c2
      refine lv_iload_n hC.1 hC.2.1 dX2_ages_8 rfl (lv_at hl 1 rfl) ?_
      refine lv_if_lt (tgt := 31) hC.1 hC.2.1 dX2_ages_9 (by decide) (fun c3 => ?_) (fun c3 => ?_)
      · have h := h.1 c3
        refine lv_iconst (v := 0) hC.1 hC.2.1 dX2_ages_31 (by decide) ?_
        exact z_bret hC hr hZ (by decide) h dX2_ages_32 (Nat.le_of_ble_eq_true rfl) (Nat.le_of_ble_eq_true rfl)
      · have h := h.2 c3
        refine lv_iload_n hC.1 hC.2.1 dX2_ages_12 rfl (lv_at hl 1 rfl) ?_
        refine lv_iconst (v := 5) hC.1 hC.2.1 dX2_ages_13 (by decide) ?_
        refine lv_icmp_ge (tgt := 31) hC.1 hC.2.1 dX2_ages_14 (by decide) (fun c4 => ?_) (fun c4 => ?_)
        · have h := h.1 c4
          refine lv_iconst (v := 0) hC.1 hC.2.1 dX2_ages_31 (by decide) ?_
          exact z_bret hC hr hZ (by decide) h dX2_ages_32 (Nat.le_of_ble_eq_true rfl) (Nat.le_of_ble_eq_true rfl)
        · have h := h.2 c4
          refine lv_aload_n hC.1 hC.2.1 dX2_ages_17 rfl (lv_at hl 0 rfl) ?_
          refine gX2_4 hC hZ q1 kf_X2_15 dX2_ages_18 ?_
          refine lv_iload_n hC.1 hC.2.1 dX2_ages_21 rfl (lv_at hl 1 rfl) ?_
          obtain ⟨q5, h⟩ := h
          refine aL_72 hC hZ q1 q5 dX2_ages_22 ?_
          refine lv_iconst (v := (-1)) hC.1 hC.2.1 dX2_ages_23 (by decide) ?_
          refine lv_icmp_eq (tgt := 31) hC.1 hC.2.1 dX2_ages_24 (by decide) (fun c6 => ?_) (fun c6 => ?_)
          · have h := h.1 c6
            refine lv_iconst (v := 0) hC.1 hC.2.1 dX2_ages_31 (by decide) ?_
            exact z_bret hC hr hZ (by decide) h dX2_ages_32 (Nat.le_of_ble_eq_true rfl) (Nat.le_of_ble_eq_true rfl)
          · have h := h.2 c6
            refine lv_iconst (v := 1) hC.1 hC.2.1 dX2_ages_27 (by decide) ?_
            refine lv_goto (tgt := 32) hC.1 hC.2.1 dX2_ages_28 (by decide) ?_
            exact z_bret hC hr hZ (by decide) h dX2_ages_32 (Nat.le_of_ble_eq_true rfl) (Nat.le_of_ble_eq_true rfl)
  exact key
def lb_X3_copy_2 (n np : Nat) (post : Mem → Prop) (k2 : Int32 → Mem → Prop) (i0 : Nat) (i1 : Nat) (v2 : Int32) (μ : Mem) : Prop := ((5 ≤ v2 → (i1 < 2 ∧ (i0 < 2 ∧ (¬ i1 = i0 ∧ ∀ μ5 : Mem, μ5 = zcp μ 42 i0 (va_cpy (μ 42 i1) (μ 42 i0) 0 0 5) → (∀ μ6 : Mem, μ6 = zst μ5 40 i0 2 (μ5 40 i1 2) → post μ6))))) ∧ (¬ 5 ≤ v2 → (i1 < 2 ∧ (vp_in v2 5 ∧ (i0 < 2 ∧ ((5 * i1 + v2.toNatClampNeg) < 10 ∧ (5 * i0 + v2.toNatClampNeg) < 10 ∧ ¬ (5 * i1 + v2.toNatClampNeg) = (5 * i0 + v2.toNatClampNeg) ∧ ∀ μ13 : Mem, μ13 = zcp μ 43 (5 * i0 + v2.toNatClampNeg) (va_cpy (μ 43 (5 * i1 + v2.toNatClampNeg)) (μ 43 (5 * i0 + v2.toNatClampNeg)) 0 0 4) → k2 (v2 + 1) μ13))))))
def l_X3_copy_2 (n np : Nat) (post : Mem → Prop) (i0 : Nat) (i1 : Nat) : Nat → Int32 → Mem → Prop
  | 0 => fun _ _ => False
  | fuel + 1 => lb_X3_copy_2 n np post (l_X3_copy_2 n np post i0 i1 fuel) i0 i1 
set_option maxRecDepth 100000 in
set_option maxHeartbeats 4000000 in
theorem t_X3_copy_2 {p : Program} {l : Launch} {e : Env} {s : State} {m : MethodId} {args : Array Value} {below : List Frame} {meth : Method} {c : Code} {D : va_G} {ca : Nat → ClassId} {base : Nat} {ad : Nat → Nat → Nat} {n np : Nat} {post : Mem → Prop} (hC : ZC p m meth c s RX3 cX3_copy 3) (hr : meth.sig.returnType = none) (i0 : Nat) (i1 : Nat) : ∀ (fuel : Nat) (v2 : Int32) (μ : Mem) (H : Heap) (locs : List Loc) (ls : Array Slot), l_X3_copy_2 n np post i0 i1 fuel v2 μ → ZS D ca base ad n np μ s H locs → lv_has ls 3 [(0, .ref (ad 40 i0)), (1, .ref (ad 40 i1)), (2, .int v2)] → W p l e ({ frames := 1, cells := 0, slots := 0, locals := 30 } : Room) s m args below meth c H locs 0 0 (MQ below (ZQ D ca base ad n np (zpv post)) args s 0 0 (zB base)) (F0 m 2 ls []) := by
  intro fuel
  induction fuel with
  | zero => exact fun _ _ _ _ _ h => h.elim
  | succ fuel hk2 =>
    intro v2 μ H locs ls h hZ hl
    have h : lb_X3_copy_2 n np post (l_X3_copy_2 n np post i0 i1 fuel) i0 i1 v2 μ := h
    unfold lb_X3_copy_2 at h
    refine lv_iload_n hC.1 hC.2.1 dX3_copy_2 rfl (lv_at hl 2 rfl) ?_
    refine lv_iconst (v := 5) hC.1 hC.2.1 dX3_copy_3 (by decide) ?_
    refine lv_icmp_ge (tgt := 31) hC.1 hC.2.1 dX3_copy_4 (by decide) (fun c1 => ?_) (fun c1 => ?_)
    · have h := h.1 c1
      refine lv_aload_n hC.1 hC.2.1 dX3_copy_31 rfl (lv_at hl 1 rfl) ?_
      obtain ⟨q2, h⟩ := h
      refine gX3_1 hC hZ q2 kf_X3_16 dX3_copy_32 ?_
      refine lv_iconst (v := 0) hC.1 hC.2.1 dX3_copy_35 (by decide) ?_
      refine lv_aload_n hC.1 hC.2.1 dX3_copy_36 rfl (lv_at hl 0 rfl) ?_
      obtain ⟨q3, h⟩ := h
      refine gX3_1 hC hZ q3 kf_X3_16 dX3_copy_37 ?_
      refine lv_iconst (v := 0) hC.1 hC.2.1 dX3_copy_40 (by decide) ?_
      refine lv_iconst (v := 5) hC.1 hC.2.1 dX3_copy_41 (by decide) ?_
      obtain ⟨q4, h⟩ := h
      refine z_copy_42 hC hZ q2 q3 q4 hl.1 km_X3_24 (Nat.le_of_ble_eq_true rfl) (Nat.le_of_ble_eq_true rfl) dX3_copy_42 (fun μ5 H locs eμ5 hZ => ?_)
      have h := h μ5 eμ5
      refine lv_aload_n hC.1 hC.2.1 dX3_copy_45 rfl (lv_at hl 0 rfl) ?_
      refine lv_aload_n hC.1 hC.2.1 dX3_copy_46 rfl (lv_at hl 1 rfl) ?_
      refine gX3_2 hC hZ q2 kf_X3_20 dX3_copy_47 ?_
      refine pX3_2 hC hZ q3 kf_X3_20 dX3_copy_50 (fun μ6 H locs eμ6 hZ => ?_)
      have h := h μ6 eμ6
      exact z_vret hC hr hZ h dX3_copy_53 (Nat.le_of_ble_eq_true rfl) (Nat.le_of_ble_eq_true rfl)
    · have h := h.2 c1
      refine lv_aload_n hC.1 hC.2.1 dX3_copy_7 rfl (lv_at hl 1 rfl) ?_
      obtain ⟨q7, h⟩ := h
      refine gX3_0 hC hZ q7 kf_X3_11 dX3_copy_8 ?_
      refine lv_iload_n hC.1 hC.2.1 dX3_copy_11 rfl (lv_at hl 2 rfl) ?_
      obtain ⟨q8, h⟩ := h
      refine aL_41 hC hZ q7 q8 dX3_copy_12 ?_
      refine lv_iconst (v := 0) hC.1 hC.2.1 dX3_copy_13 (by decide) ?_
      refine lv_aload_n hC.1 hC.2.1 dX3_copy_14 rfl (lv_at hl 0 rfl) ?_
      obtain ⟨q9, h⟩ := h
      refine gX3_0 hC hZ q9 kf_X3_11 dX3_copy_15 ?_
      refine lv_iload_n hC.1 hC.2.1 dX3_copy_18 rfl (lv_at hl 2 rfl) ?_
      refine aL_41 hC hZ q9 q8 dX3_copy_19 ?_
      refine lv_iconst (v := 0) hC.1 hC.2.1 dX3_copy_20 (by decide) ?_
      refine lv_iconst (v := 4) hC.1 hC.2.1 dX3_copy_21 (by decide) ?_
      obtain ⟨q10, h⟩ := h
      obtain ⟨q11, h⟩ := h
      obtain ⟨q12, h⟩ := h
      refine z_copy_43 hC hZ q10 q11 q12 hl.1 km_X3_24 (Nat.le_of_ble_eq_true rfl) (Nat.le_of_ble_eq_true rfl) dX3_copy_22 (fun μ13 H locs eμ13 hZ => ?_)
      have h := h μ13 eμ13
      refine lv_iinc (v := v2 + 1) (lv' := [(2, .int (v2 + 1)), (0, .ref (ad 40 i0)), (1, .ref (ad 40 i1))]) hC.1 hC.2.1 dX3_copy_25 hl (k := 2) rfl rfl (by decide) rfl (fun ls hl => ?_)
      refine lv_goto (tgt := 2) hC.1 hC.2.1 dX3_copy_28 (by decide) ?_
      exact hk2 _ _ _ _ _ h hZ (lv_sub hl [1, 2, 0] rfl)
def w_X3_copy (n np : Nat) (post : Mem → Prop) (i0 : Nat) (i1 : Nat) (μ : Mem) : Prop := (∃ fuel : Nat, l_X3_copy_2 n np post i0 i1 fuel (0 : Int32) μ)
set_option maxRecDepth 100000 in
set_option maxHeartbeats 4000000 in
theorem c_X3_copy (l : Launch) {D : va_G} {ca : Nat → ClassId} {base : Nat} {ad : Nat → Nat → Nat} {n np : Nat} {μ : Mem} {post : Mem → Prop} {i0 : Nat} {i1 : Nat} (h : w_X3_copy n np post i0 i1 μ) : ZMet l yX3_copy cX3_copy 3 none ({ frames := 1, cells := 0, slots := 0, locals := 30 } : Room) 0 0 D ca base ad n np [.ref (ad 40 i0), .ref (ad 40 i1)] μ (zpv post) := by
  unfold ZMet
  refine Met.ofW (cc := cX3_copy) (maxL := 3) (ret := none) (by decide) rfl ?_
  intro p e s m args below meth c s₁ B hml hv
  obtain ⟨rfl, hU⟩ := hv
  have hZ := hU.toS
  have hC : ZC p m meth c s RX3 cX3_copy 3 := ⟨B.exec, B.bytes, hml, findClass_of_methodNamed B.named, B.notSynchronized⟩
  have hr := B.returns
  have key : W p l e ({ frames := 1, cells := 0, slots := 0, locals := 30 } : Room) s m (([.ref (ad 40 i0), .ref (ad 40 i1)] : List Value).toArray) below meth c s.heap [] 0 0 (MQ below (ZQ D ca base ad n np (zpv post)) (([.ref (ad 40 i0), .ref (ad 40 i1)] : List Value).toArray) s 0 0 (zB base)) (entryFrame m (([.ref (ad 40 i0), .ref (ad 40 i1)] : List Value).toArray) 3) := by
    have hl := lv_entry ([.ref (ad 40 i0), .ref (ad 40 i1)]) (n := 3) (Nat.le_of_ble_eq_true rfl)
    rw [lg_entry_eq]
    generalize (lg_sl ([.ref (ad 40 i0), .ref (ad 40 i1)]) ++ List.replicate (3 - (lg_sl ([.ref (ad 40 i0), .ref (ad 40 i1)])).length) Slot.unset).toArray = ls at hl ⊢
    have hl : lv_has ls 3 [(0, .ref (ad 40 i0)), (1, .ref (ad 40 i1))] := hl
    unfold w_X3_copy at h
    refine lv_iconst (v := 0) hC.1 hC.2.1 dX3_copy_0 (by decide) ?_
    refine lv_istore_n (lv' := [(2, .int 0), (0, .ref (ad 40 i0)), (1, .ref (ad 40 i1))]) hC.1 hC.2.1 dX3_copy_1 rfl hl (by decide) rfl (fun ls hl => ?_)
    obtain ⟨fuel, h⟩ := h
    exact t_X3_copy_2 (l := l) hC hr _ _ _ _ _ _ _ _ h hZ (lv_sub hl [1, 2, 0] rfl)
  exact key
def lb_X3_countCopies_4 (n np : Nat) (post : Int32 → Mem → Prop) (k4 : Int32 → Int32 → Mem → Prop) (i0 : Nat) (a1 : Int32) (v2 : Int32) (v3 : Int32) (μ : Mem) : Prop := ((4 ≤ v3 → post v2 μ) ∧ (¬ 4 ≤ v3 → (i0 < 2 ∧ (vp_in a1 5 ∧ ((5 * i0 + a1.toNatClampNeg) < 10 ∧ vp_in v3 4 ∧ k4 (v2 + (μ 43 (5 * i0 + a1.toNatClampNeg) v3.toNatClampNeg)) (v3 + 1) μ)))))
def l_X3_countCopies_4 (n np : Nat) (post : Int32 → Mem → Prop) (i0 : Nat) (a1 : Int32) : Nat → Int32 → Int32 → Mem → Prop
  | 0 => fun _ _ _ => False
  | fuel + 1 => lb_X3_countCopies_4 n np post (l_X3_countCopies_4 n np post i0 a1 fuel) i0 a1 
set_option maxRecDepth 100000 in
set_option maxHeartbeats 4000000 in
theorem t_X3_countCopies_4 {p : Program} {l : Launch} {e : Env} {s : State} {m : MethodId} {args : Array Value} {below : List Frame} {meth : Method} {c : Code} {D : va_G} {ca : Nat → ClassId} {base : Nat} {ad : Nat → Nat → Nat} {n np : Nat} {post : Int32 → Mem → Prop} (hC : ZC p m meth c s RX3 cX3_countCopies 4) (hr : meth.sig.returnType = (some FieldType.int)) (i0 : Nat) (a1 : Int32) : ∀ (fuel : Nat) (v2 : Int32) (v3 : Int32) (μ : Mem) (H : Heap) (locs : List Loc) (ls : Array Slot), l_X3_countCopies_4 n np post i0 a1 fuel v2 v3 μ → ZS D ca base ad n np μ s H locs → lv_has ls 4 [(0, .ref (ad 40 i0)), (1, .int a1), (2, .int v2), (3, .int v3)] → W p l e ({ frames := 0, cells := 0, slots := 0, locals := 0 } : Room) s m args below meth c H locs 0 0 (MQ below (ZQ D ca base ad n np (zpi post)) args s 0 0 (zB base)) (F0 m 4 ls []) := by
  intro fuel
  induction fuel with
  | zero => exact fun _ _ _ _ _ _ h => h.elim
  | succ fuel hk4 =>
    intro v2 v3 μ H locs ls h hZ hl
    have h : lb_X3_countCopies_4 n np post (l_X3_countCopies_4 n np post i0 a1 fuel) i0 a1 v2 v3 μ := h
    unfold lb_X3_countCopies_4 at h
    refine lv_iload_n hC.1 hC.2.1 dX3_countCopies_4 rfl (lv_at hl 3 rfl) ?_
    refine lv_iconst (v := 4) hC.1 hC.2.1 dX3_countCopies_5 (by decide) ?_
    refine lv_icmp_ge (tgt := 26) hC.1 hC.2.1 dX3_countCopies_6 (by decide) (fun c1 => ?_) (fun c1 => ?_)
    · have h := h.1 c1
      refine lv_iload_n hC.1 hC.2.1 dX3_countCopies_26 rfl (lv_at hl 2 rfl) ?_
      exact z_iret hC hr hZ h dX3_countCopies_27 (Nat.le_of_ble_eq_true rfl) (Nat.le_of_ble_eq_true rfl)
    · have h := h.2 c1
      refine lv_iload_n hC.1 hC.2.1 dX3_countCopies_9 rfl (lv_at hl 2 rfl) ?_
      refine lv_aload_n hC.1 hC.2.1 dX3_countCopies_10 rfl (lv_at hl 0 rfl) ?_
      obtain ⟨q2, h⟩ := h
      refine gX3_0 hC hZ q2 kf_X3_11 dX3_countCopies_11 ?_
      refine lv_iload_n hC.1 hC.2.1 dX3_countCopies_14 rfl (lv_at hl 1 rfl) ?_
      obtain ⟨q3, h⟩ := h
      refine aL_41 hC hZ q2 q3 dX3_countCopies_15 ?_
      refine lv_iload_n hC.1 hC.2.1 dX3_countCopies_16 rfl (lv_at hl 3 rfl) ?_
      obtain ⟨q4, h⟩ := h
      obtain ⟨q5, h⟩ := h
      refine aL_43 hC hZ q4 q5 dX3_countCopies_17 ?_
      refine lv_iadd hC.1 hC.2.1 dX3_countCopies_18 ?_
      refine lv_istore_n (lv' := [(2, .int (v2 + (μ 43 (5 * i0 + a1.toNatClampNeg) v3.toNatClampNeg))), (0, .ref (ad 40 i0)), (1, .int a1), (3, .int v3)]) hC.1 hC.2.1 dX3_countCopies_19 rfl hl (by decide) rfl (fun ls hl => ?_)
      refine lv_iinc (v := v3 + 1) (lv' := [(3, .int (v3 + 1)), (2, .int (v2 + (μ 43 (5 * i0 + a1.toNatClampNeg) v3.toNatClampNeg))), (0, .ref (ad 40 i0)), (1, .int a1)]) hC.1 hC.2.1 dX3_countCopies_20 hl (k := 3) rfl rfl (by decide) rfl (fun ls hl => ?_)
      refine lv_goto (tgt := 4) hC.1 hC.2.1 dX3_countCopies_23 (by decide) ?_
      exact hk4 _ _ _ _ _ _ h hZ (lv_sub hl [2, 3, 1, 0] rfl)
def w_X3_countCopies (n np : Nat) (post : Int32 → Mem → Prop) (i0 : Nat) (a1 : Int32) (μ : Mem) : Prop := (∃ fuel : Nat, l_X3_countCopies_4 n np post i0 a1 fuel (0 : Int32) (0 : Int32) μ)
set_option maxRecDepth 100000 in
set_option maxHeartbeats 4000000 in
theorem c_X3_countCopies (l : Launch) {D : va_G} {ca : Nat → ClassId} {base : Nat} {ad : Nat → Nat → Nat} {n np : Nat} {μ : Mem} {post : Int32 → Mem → Prop} {i0 : Nat} {a1 : Int32} (h : w_X3_countCopies n np post i0 a1 μ) : ZMet l yX3_countCopies cX3_countCopies 4 (some FieldType.int) ({ frames := 0, cells := 0, slots := 0, locals := 0 } : Room) 0 0 D ca base ad n np [.ref (ad 40 i0), .int a1] μ (zpi post) := by
  unfold ZMet
  refine Met.ofW (cc := cX3_countCopies) (maxL := 4) (ret := (some FieldType.int)) (by decide) rfl ?_
  intro p e s m args below meth c s₁ B hml hv
  obtain ⟨rfl, hU⟩ := hv
  have hZ := hU.toS
  have hC : ZC p m meth c s RX3 cX3_countCopies 4 := ⟨B.exec, B.bytes, hml, findClass_of_methodNamed B.named, B.notSynchronized⟩
  have hr := B.returns
  have key : W p l e ({ frames := 0, cells := 0, slots := 0, locals := 0 } : Room) s m (([.ref (ad 40 i0), .int a1] : List Value).toArray) below meth c s.heap [] 0 0 (MQ below (ZQ D ca base ad n np (zpi post)) (([.ref (ad 40 i0), .int a1] : List Value).toArray) s 0 0 (zB base)) (entryFrame m (([.ref (ad 40 i0), .int a1] : List Value).toArray) 4) := by
    have hl := lv_entry ([.ref (ad 40 i0), .int a1]) (n := 4) (Nat.le_of_ble_eq_true rfl)
    rw [lg_entry_eq]
    generalize (lg_sl ([.ref (ad 40 i0), .int a1]) ++ List.replicate (4 - (lg_sl ([.ref (ad 40 i0), .int a1])).length) Slot.unset).toArray = ls at hl ⊢
    have hl : lv_has ls 4 [(0, .ref (ad 40 i0)), (1, .int a1)] := hl
    unfold w_X3_countCopies at h
    refine lv_iconst (v := 0) hC.1 hC.2.1 dX3_countCopies_0 (by decide) ?_
    refine lv_istore_n (lv' := [(2, .int 0), (0, .ref (ad 40 i0)), (1, .int a1)]) hC.1 hC.2.1 dX3_countCopies_1 rfl hl (by decide) rfl (fun ls hl => ?_)
    refine lv_iconst (v := 0) hC.1 hC.2.1 dX3_countCopies_2 (by decide) ?_
    refine lv_istore_n (lv' := [(3, .int 0), (2, .int 0), (0, .ref (ad 40 i0)), (1, .int a1)]) hC.1 hC.2.1 dX3_countCopies_3 rfl hl (by decide) rfl (fun ls hl => ?_)
    obtain ⟨fuel, h⟩ := h
    exact t_X3_countCopies_4 (l := l) hC hr _ _ _ _ _ _ _ _ _ h hZ (lv_sub hl [2, 3, 1, 0] rfl)
  exact key
def lb_X3_growBeards_2 (n np : Nat) (post : Mem → Prop) (k2 : Int32 → Mem → Prop) (i0 : Nat) (a1 : Int32) (v2 : Int32) (μ : Mem) : Prop := ((5 ≤ v2 → post μ) ∧ (¬ 5 ≤ v2 → (i0 < 2 ∧ (vp_in v2 5 ∧ (∀ x4 : Int32, x4 = zmin (20 : Int32) ((μ 42 i0 v2.toNatClampNeg) + a1) → (∀ μ5 : Mem, μ5 = zst μ 42 i0 v2.toNatClampNeg x4 → k2 (v2 + 1) μ5))))))
def l_X3_growBeards_2 (n np : Nat) (post : Mem → Prop) (i0 : Nat) (a1 : Int32) : Nat → Int32 → Mem → Prop
  | 0 => fun _ _ => False
  | fuel + 1 => lb_X3_growBeards_2 n np post (l_X3_growBeards_2 n np post i0 a1 fuel) i0 a1 
set_option maxRecDepth 100000 in
set_option maxHeartbeats 4000000 in
theorem t_X3_growBeards_2 {p : Program} {l : Launch} {e : Env} {s : State} {m : MethodId} {args : Array Value} {below : List Frame} {meth : Method} {c : Code} {D : va_G} {ca : Nat → ClassId} {base : Nat} {ad : Nat → Nat → Nat} {n np : Nat} {post : Mem → Prop} (hC : ZC p m meth c s RX3 cX3_growBeards 3) (hr : meth.sig.returnType = none) (i0 : Nat) (a1 : Int32) : ∀ (fuel : Nat) (v2 : Int32) (μ : Mem) (H : Heap) (locs : List Loc) (ls : Array Slot), l_X3_growBeards_2 n np post i0 a1 fuel v2 μ → ZS D ca base ad n np μ s H locs → lv_has ls 3 [(0, .ref (ad 40 i0)), (1, .int a1), (2, .int v2)] → W p l e ({ frames := 1, cells := 0, slots := 0, locals := 15 } : Room) s m args below meth c H locs 0 0 (MQ below (ZQ D ca base ad n np (zpv post)) args s 0 0 (zB base)) (F0 m 2 ls []) := by
  intro fuel
  induction fuel with
  | zero => exact fun _ _ _ _ _ h => h.elim
  | succ fuel hk2 =>
    intro v2 μ H locs ls h hZ hl
    have h : lb_X3_growBeards_2 n np post (l_X3_growBeards_2 n np post i0 a1 fuel) i0 a1 v2 μ := h
    unfold lb_X3_growBeards_2 at h
    refine lv_iload_n hC.1 hC.2.1 dX3_growBeards_2 rfl (lv_at hl 2 rfl) ?_
    refine lv_iconst (v := 5) hC.1 hC.2.1 dX3_growBeards_3 (by decide) ?_
    refine lv_icmp_ge (tgt := 32) hC.1 hC.2.1 dX3_growBeards_4 (by decide) (fun c1 => ?_) (fun c1 => ?_)
    · have h := h.1 c1
      exact z_vret hC hr hZ h dX3_growBeards_32 (Nat.le_of_ble_eq_true rfl) (Nat.le_of_ble_eq_true rfl)
    · have h := h.2 c1
      refine lv_aload_n hC.1 hC.2.1 dX3_growBeards_7 rfl (lv_at hl 0 rfl) ?_
      obtain ⟨q2, h⟩ := h
      refine gX3_1 hC hZ q2 kf_X3_16 dX3_growBeards_8 ?_
      refine lv_iload_n hC.1 hC.2.1 dX3_growBeards_11 rfl (lv_at hl 2 rfl) ?_
      refine lv_bipush (v := 20) hC.1 hC.2.1 dX3_growBeards_12 (by decide) ?_
      refine lv_aload_n hC.1 hC.2.1 dX3_growBeards_14 rfl (lv_at hl 0 rfl) ?_
      refine gX3_1 hC hZ q2 kf_X3_16 dX3_growBeards_15 ?_
      refine lv_iload_n hC.1 hC.2.1 dX3_growBeards_18 rfl (lv_at hl 2 rfl) ?_
      obtain ⟨q3, h⟩ := h
      refine aL_42 hC hZ q2 q3 dX3_growBeards_19 ?_
      refine lv_iload_n hC.1 hC.2.1 dX3_growBeards_20 rfl (lv_at hl 1 rfl) ?_
      refine lv_iadd hC.1 hC.2.1 dX3_growBeards_21 ?_
      refine z_min hC hZ hl.1 km_X3_30 (Nat.le_of_ble_eq_true rfl) (Nat.le_of_ble_eq_true rfl) (Nat.le_of_ble_eq_true rfl) (Nat.le_of_ble_eq_true rfl) dX3_growBeards_22 ?_
      refine lv_topi (fun x4 ex4 => ?_)
      have h := h x4 ex4
      refine aS_42 hC hZ q2 q3 dX3_growBeards_25 (fun μ5 H locs eμ5 hZ => ?_)
      have h := h μ5 eμ5
      refine lv_iinc (v := v2 + 1) (lv' := [(2, .int (v2 + 1)), (0, .ref (ad 40 i0)), (1, .int a1)]) hC.1 hC.2.1 dX3_growBeards_26 hl (k := 2) rfl rfl (by decide) rfl (fun ls hl => ?_)
      refine lv_goto (tgt := 2) hC.1 hC.2.1 dX3_growBeards_29 (by decide) ?_
      exact hk2 _ _ _ _ _ h hZ (lv_sub hl [1, 2, 0] rfl)
def w_X3_growBeards (n np : Nat) (post : Mem → Prop) (i0 : Nat) (a1 : Int32) (μ : Mem) : Prop := (∃ fuel : Nat, l_X3_growBeards_2 n np post i0 a1 fuel (0 : Int32) μ)
set_option maxRecDepth 100000 in
set_option maxHeartbeats 4000000 in
theorem c_X3_growBeards (l : Launch) {D : va_G} {ca : Nat → ClassId} {base : Nat} {ad : Nat → Nat → Nat} {n np : Nat} {μ : Mem} {post : Mem → Prop} {i0 : Nat} {a1 : Int32} (h : w_X3_growBeards n np post i0 a1 μ) : ZMet l yX3_growBeards cX3_growBeards 3 none ({ frames := 1, cells := 0, slots := 0, locals := 15 } : Room) 0 0 D ca base ad n np [.ref (ad 40 i0), .int a1] μ (zpv post) := by
  unfold ZMet
  refine Met.ofW (cc := cX3_growBeards) (maxL := 3) (ret := none) (by decide) rfl ?_
  intro p e s m args below meth c s₁ B hml hv
  obtain ⟨rfl, hU⟩ := hv
  have hZ := hU.toS
  have hC : ZC p m meth c s RX3 cX3_growBeards 3 := ⟨B.exec, B.bytes, hml, findClass_of_methodNamed B.named, B.notSynchronized⟩
  have hr := B.returns
  have key : W p l e ({ frames := 1, cells := 0, slots := 0, locals := 15 } : Room) s m (([.ref (ad 40 i0), .int a1] : List Value).toArray) below meth c s.heap [] 0 0 (MQ below (ZQ D ca base ad n np (zpv post)) (([.ref (ad 40 i0), .int a1] : List Value).toArray) s 0 0 (zB base)) (entryFrame m (([.ref (ad 40 i0), .int a1] : List Value).toArray) 3) := by
    have hl := lv_entry ([.ref (ad 40 i0), .int a1]) (n := 3) (Nat.le_of_ble_eq_true rfl)
    rw [lg_entry_eq]
    generalize (lg_sl ([.ref (ad 40 i0), .int a1]) ++ List.replicate (3 - (lg_sl ([.ref (ad 40 i0), .int a1])).length) Slot.unset).toArray = ls at hl ⊢
    have hl : lv_has ls 3 [(0, .ref (ad 40 i0)), (1, .int a1)] := hl
    unfold w_X3_growBeards at h
    refine lv_iconst (v := 0) hC.1 hC.2.1 dX3_growBeards_0 (by decide) ?_
    refine lv_istore_n (lv' := [(2, .int 0), (0, .ref (ad 40 i0)), (1, .int a1)]) hC.1 hC.2.1 dX3_growBeards_1 rfl hl (by decide) rfl (fun ls hl => ?_)
    obtain ⟨fuel, h⟩ := h
    exact t_X3_growBeards_2 (l := l) hC hr _ _ _ _ _ _ _ _ h hZ (lv_sub hl [1, 2, 0] rfl)
  exact key
def b_X3_dress_11 (n np : Nat) (post : Int32 → Mem → Prop) (i0 : Nat) (a1 : Int32) (a2 : Int32) (μ : Mem) : Prop := (i0 < 2 ∧ (vp_in a1 5 ∧ ((a2 ≤ (μ 42 i0 a1.toNatClampNeg) → post 0 μ) ∧ (¬ a2 ≤ (μ 42 i0 a1.toNatClampNeg) → post 3 μ))))
set_option maxRecDepth 100000 in
set_option maxHeartbeats 4000000 in
theorem t_X3_dress_11 {p : Program} {l : Launch} {e : Env} {s : State} {m : MethodId} {args : Array Value} {below : List Frame} {meth : Method} {c : Code} {D : va_G} {ca : Nat → ClassId} {base : Nat} {ad : Nat → Nat → Nat} {n np : Nat} {post : Int32 → Mem → Prop} (hC : ZC p m meth c s RX3 cX3_dress 3) (hr : meth.sig.returnType = (some FieldType.int)) (i0 : Nat) (a1 : Int32) (a2 : Int32) (μ : Mem) (H : Heap) (locs : List Loc) (ls : Array Slot) (h : b_X3_dress_11 n np post i0 a1 a2 μ) (hZ : ZS D ca base ad n np μ s H locs) (hl : lv_has ls 3 [(0, .ref (ad 40 i0)), (1, .int a1), (2, .int a2)]) : W p l e ({ frames := 0, cells := 0, slots := 0, locals := 0 } : Room) s m args below meth c H locs 0 0 (MQ below (ZQ D ca base ad n np (zpi post)) args s 0 0 (zB base)) (F0 m 11 ls []) := by
  unfold b_X3_dress_11 at h
  refine lv_iload_n hC.1 hC.2.1 dX3_dress_11 rfl (lv_at hl 2 rfl) ?_
  refine lv_aload_n hC.1 hC.2.1 dX3_dress_12 rfl (lv_at hl 0 rfl) ?_
  obtain ⟨q2, h⟩ := h
  refine gX3_1 hC hZ q2 kf_X3_16 dX3_dress_13 ?_
  refine lv_iload_n hC.1 hC.2.1 dX3_dress_16 rfl (lv_at hl 1 rfl) ?_
  obtain ⟨q3, h⟩ := h
  refine aL_42 hC hZ q2 q3 dX3_dress_17 ?_
  refine lv_icmp_le (tgt := 25) hC.1 hC.2.1 dX3_dress_18 (by decide) (fun c4 => ?_) (fun c4 => ?_)
  · have h := h.1 c4
    refine lv_iconst (v := 0) hC.1 hC.2.1 dX3_dress_25 (by decide) ?_
    exact z_iret hC hr hZ h dX3_dress_26 (Nat.le_of_ble_eq_true rfl) (Nat.le_of_ble_eq_true rfl)
  · have h := h.2 c4
    refine lv_iconst (v := 3) hC.1 hC.2.1 dX3_dress_21 (by decide) ?_
    refine lv_goto (tgt := 26) hC.1 hC.2.1 dX3_dress_22 (by decide) ?_
    exact z_iret hC hr hZ h dX3_dress_26 (Nat.le_of_ble_eq_true rfl) (Nat.le_of_ble_eq_true rfl)
def w_X3_dress (n np : Nat) (post : Int32 → Mem → Prop) (i0 : Nat) (a1 : Int32) (a2 : Int32) (μ : Mem) : Prop := ((¬ a2 = 0 → b_X3_dress_11 n np post i0 a1 a2 μ) ∧ (a2 = 0 → (i0 < 2 ∧ (vp_in a1 5 ∧ ∀ μ7 : Mem, μ7 = zst μ 42 i0 a1.toNatClampNeg 0 → b_X3_dress_11 n np post i0 a1 a2 μ7))))
set_option maxRecDepth 100000 in
set_option maxHeartbeats 4000000 in
theorem c_X3_dress (l : Launch) {D : va_G} {ca : Nat → ClassId} {base : Nat} {ad : Nat → Nat → Nat} {n np : Nat} {μ : Mem} {post : Int32 → Mem → Prop} {i0 : Nat} {a1 : Int32} {a2 : Int32} (h : w_X3_dress n np post i0 a1 a2 μ) : ZMet l yX3_dress cX3_dress 3 (some FieldType.int) ({ frames := 0, cells := 0, slots := 0, locals := 0 } : Room) 0 0 D ca base ad n np [.ref (ad 40 i0), .int a1, .int a2] μ (zpi post) := by
  unfold ZMet
  refine Met.ofW (cc := cX3_dress) (maxL := 3) (ret := (some FieldType.int)) (by decide) rfl ?_
  intro p e s m args below meth c s₁ B hml hv
  obtain ⟨rfl, hU⟩ := hv
  have hZ := hU.toS
  have hC : ZC p m meth c s RX3 cX3_dress 3 := ⟨B.exec, B.bytes, hml, findClass_of_methodNamed B.named, B.notSynchronized⟩
  have hr := B.returns
  have key : W p l e ({ frames := 0, cells := 0, slots := 0, locals := 0 } : Room) s m (([.ref (ad 40 i0), .int a1, .int a2] : List Value).toArray) below meth c s.heap [] 0 0 (MQ below (ZQ D ca base ad n np (zpi post)) (([.ref (ad 40 i0), .int a1, .int a2] : List Value).toArray) s 0 0 (zB base)) (entryFrame m (([.ref (ad 40 i0), .int a1, .int a2] : List Value).toArray) 3) := by
    have hl := lv_entry ([.ref (ad 40 i0), .int a1, .int a2]) (n := 3) (Nat.le_of_ble_eq_true rfl)
    rw [lg_entry_eq]
    generalize (lg_sl ([.ref (ad 40 i0), .int a1, .int a2]) ++ List.replicate (3 - (lg_sl ([.ref (ad 40 i0), .int a1, .int a2])).length) Slot.unset).toArray = ls at hl ⊢
    have hl : lv_has ls 3 [(0, .ref (ad 40 i0)), (1, .int a1), (2, .int a2)] := hl
    unfold w_X3_dress at h
    refine lv_iload_n hC.1 hC.2.1 dX3_dress_0 rfl (lv_at hl 2 rfl) ?_
    refine lv_if_ne (tgt := 11) hC.1 hC.2.1 dX3_dress_1 (by decide) (fun c1 => ?_) (fun c1 => ?_)
    · have h := h.1 c1
      exact t_X3_dress_11 (l := l) hC hr _ _ _  _ _ _ _ h hZ (lv_sub hl [0, 1, 2] rfl)
    · have h := h.2 c1
      refine lv_aload_n hC.1 hC.2.1 dX3_dress_4 rfl (lv_at hl 0 rfl) ?_
      obtain ⟨q5, h⟩ := h
      refine gX3_1 hC hZ q5 kf_X3_16 dX3_dress_5 ?_
      refine lv_iload_n hC.1 hC.2.1 dX3_dress_8 rfl (lv_at hl 1 rfl) ?_
      refine lv_iconst (v := 0) hC.1 hC.2.1 dX3_dress_9 (by decide) ?_
      obtain ⟨q6, h⟩ := h
      refine aS_42 hC hZ q5 q6 dX3_dress_10 (fun μ7 H locs eμ7 hZ => ?_)
      have h := h μ7 eμ7
      exact t_X3_dress_11 (l := l) hC hr _ _ _  _ _ _ _ h hZ (lv_sub hl [0, 1, 2] rfl)
  exact key
def b_X3_serve_61 (n np : Nat) (post : Int32 → Mem → Prop) (i0 : Nat) (a1 : Int32) (a2 : Int32) (a3 : Int32) (v5 : Int32) (μ : Mem) : Prop := ((¬ v5 = (-1) → ((5 * i0 + a1.toNatClampNeg) < 10 ∧ vp_in v5 4 ∧ (∀ μ8 : Mem, μ8 = zst μ 43 (5 * i0 + a1.toNatClampNeg) v5.toNatClampNeg ((μ 43 (5 * i0 + a1.toNatClampNeg) v5.toNatClampNeg) - 1) → post (a2 - v5) μ8))) ∧ (v5 = (-1) → post (5 + a2) μ))
set_option maxRecDepth 100000 in
set_option maxHeartbeats 4000000 in
theorem t_X3_serve_61 {p : Program} {l : Launch} {e : Env} {s : State} {m : MethodId} {args : Array Value} {below : List Frame} {meth : Method} {c : Code} {D : va_G} {ca : Nat → ClassId} {base : Nat} {ad : Nat → Nat → Nat} {n np : Nat} {post : Int32 → Mem → Prop} (hC : ZC p m meth c s RX3 cX3_serve 7) (hr : meth.sig.returnType = (some FieldType.int)) (i0 : Nat) (a1 : Int32) (a2 : Int32) (a3 : Int32) (v5 : Int32) (μ : Mem) (H : Heap) (locs : List Loc) (ls : Array Slot) (h : b_X3_serve_61 n np post i0 a1 a2 a3 v5 μ) (hZ : ZS D ca base ad n np μ s H locs) (hl : lv_has ls 7 [(2, .int a2), (4, .ref (ad 43 (5 * i0 + a1.toNatClampNeg))), (5, .int v5)]) : W p l e ({ frames := 0, cells := 0, slots := 0, locals := 0 } : Room) s m args below meth c H locs 0 0 (MQ below (ZQ D ca base ad n np (zpi post)) args s 0 0 (zB base)) (F0 m 61 ls []) := by
  unfold b_X3_serve_61 at h
  refine lv_iload hC.1 hC.2.1 dX3_serve_61 (lv_at hl 2 rfl) ?_
  refine lv_iconst (v := (-1)) hC.1 hC.2.1 dX3_serve_63 (by decide) ?_
  refine lv_icmp_ne (tgt := 71) hC.1 hC.2.1 dX3_serve_64 (by decide) (fun c5 => ?_) (fun c5 => ?_)
  · have h := h.1 c5
    refine lv_aload hC.1 hC.2.1 dX3_serve_71 (lv_at hl 1 rfl) ?_
    refine lv_iload hC.1 hC.2.1 dX3_serve_73 (lv_at hl 2 rfl) ?_
    refine lv_dup2_11 hC.1 hC.2.1 dX3_serve_75 rfl rfl ?_
    obtain ⟨q6, h⟩ := h
    obtain ⟨q7, h⟩ := h
    refine aL_43 hC hZ q6 q7 dX3_serve_76 ?_
    refine lv_iconst (v := 1) hC.1 hC.2.1 dX3_serve_77 (by decide) ?_
    refine lv_isub hC.1 hC.2.1 dX3_serve_78 ?_
    refine aS_43 hC hZ q6 q7 dX3_serve_79 (fun μ8 H locs eμ8 hZ => ?_)
    have h := h μ8 eμ8
    refine lv_iload_n hC.1 hC.2.1 dX3_serve_80 rfl (lv_at hl 0 rfl) ?_
    refine lv_iload hC.1 hC.2.1 dX3_serve_81 (lv_at hl 2 rfl) ?_
    refine lv_isub hC.1 hC.2.1 dX3_serve_83 ?_
    exact z_iret hC hr hZ h dX3_serve_84 (Nat.le_of_ble_eq_true rfl) (Nat.le_of_ble_eq_true rfl)
  · have h := h.2 c5
    refine lv_iconst (v := 5) hC.1 hC.2.1 dX3_serve_67 (by decide) ?_
    refine lv_iload_n hC.1 hC.2.1 dX3_serve_68 rfl (lv_at hl 0 rfl) ?_
    refine lv_iadd hC.1 hC.2.1 dX3_serve_69 ?_
    exact z_iret hC hr hZ h dX3_serve_70 (Nat.le_of_ble_eq_true rfl) (Nat.le_of_ble_eq_true rfl)
def b_X3_serve_44 (n np : Nat) (post : Int32 → Mem → Prop) (i0 : Nat) (a1 : Int32) (a2 : Int32) (a3 : Int32) (v5 : Int32) (μ : Mem) : Prop := ((a3 < 0 → b_X3_serve_61 n np post i0 a1 a2 a3 v5 μ) ∧ (¬ a3 < 0 → ((4 ≤ a3 → b_X3_serve_61 n np post i0 a1 a2 a3 v5 μ) ∧ (¬ 4 ≤ a3 → ((5 * i0 + a1.toNatClampNeg) < 10 ∧ vp_in a3 4 ∧ (∀ μ12 : Mem, μ12 = zst μ 43 (5 * i0 + a1.toNatClampNeg) a3.toNatClampNeg ((μ 43 (5 * i0 + a1.toNatClampNeg) a3.toNatClampNeg) + 1) → b_X3_serve_61 n np post i0 a1 a2 a3 v5 μ12))))))
set_option maxRecDepth 100000 in
set_option maxHeartbeats 4000000 in
theorem t_X3_serve_44 {p : Program} {l : Launch} {e : Env} {s : State} {m : MethodId} {args : Array Value} {below : List Frame} {meth : Method} {c : Code} {D : va_G} {ca : Nat → ClassId} {base : Nat} {ad : Nat → Nat → Nat} {n np : Nat} {post : Int32 → Mem → Prop} (hC : ZC p m meth c s RX3 cX3_serve 7) (hr : meth.sig.returnType = (some FieldType.int)) (i0 : Nat) (a1 : Int32) (a2 : Int32) (a3 : Int32) (v5 : Int32) (μ : Mem) (H : Heap) (locs : List Loc) (ls : Array Slot) (h : b_X3_serve_44 n np post i0 a1 a2 a3 v5 μ) (hZ : ZS D ca base ad n np μ s H locs) (hl : lv_has ls 7 [(2, .int a2), (3, .int a3), (4, .ref (ad 43 (5 * i0 + a1.toNatClampNeg))), (5, .int v5)]) : W p l e ({ frames := 0, cells := 0, slots := 0, locals := 0 } : Room) s m args below meth c H locs 0 0 (MQ below (ZQ D ca base ad n np (zpi post)) args s 0 0 (zB base)) (F0 m 44 ls []) := by
  unfold b_X3_serve_44 at h
  refine lv_iload_n hC.1 hC.2.1 dX3_serve_44 rfl (lv_at hl 1 rfl) ?_
  refine lv_if_lt (tgt := 61) hC.1 hC.2.1 dX3_serve_45 (by decide) (fun c4 => ?_) (fun c4 => ?_)
  · have h := h.1 c4
    exact t_X3_serve_61 (l := l) hC hr _ _ _ _ _ _ _ _ _ h hZ (lv_sub hl [0, 2, 3] rfl)
  · have h := h.2 c4
    refine lv_iload_n hC.1 hC.2.1 dX3_serve_48 rfl (lv_at hl 1 rfl) ?_
    refine lv_iconst (v := 4) hC.1 hC.2.1 dX3_serve_49 (by decide) ?_
    refine lv_icmp_ge (tgt := 61) hC.1 hC.2.1 dX3_serve_50 (by decide) (fun c9 => ?_) (fun c9 => ?_)
    · have h := h.1 c9
      exact t_X3_serve_61 (l := l) hC hr _ _ _ _ _ _ _ _ _ h hZ (lv_sub hl [0, 2, 3] rfl)
    · have h := h.2 c9
      refine lv_aload hC.1 hC.2.1 dX3_serve_53 (lv_at hl 2 rfl) ?_
      refine lv_iload_n hC.1 hC.2.1 dX3_serve_55 rfl (lv_at hl 1 rfl) ?_
      refine lv_dup2_11 hC.1 hC.2.1 dX3_serve_56 rfl rfl ?_
      obtain ⟨q10, h⟩ := h
      obtain ⟨q11, h⟩ := h
      refine aL_43 hC hZ q10 q11 dX3_serve_57 ?_
      refine lv_iconst (v := 1) hC.1 hC.2.1 dX3_serve_58 (by decide) ?_
      refine lv_iadd hC.1 hC.2.1 dX3_serve_59 ?_
      refine aS_43 hC hZ q10 q11 dX3_serve_60 (fun μ12 H locs eμ12 hZ => ?_)
      have h := h μ12 eμ12
      exact t_X3_serve_61 (l := l) hC hr _ _ _ _ _ _ _ _ _ h hZ (lv_sub hl [0, 2, 3] rfl)
def b_X3_serve_38 (n np : Nat) (post : Int32 → Mem → Prop) (k14 : Int32 → Int32 → Mem → Prop) (i0 : Nat) (a1 : Int32) (a2 : Int32) (a3 : Int32) (v5 : Int32) (v6 : Int32) (μ : Mem) : Prop := k14 v5 (v6 + 1) μ
set_option maxRecDepth 100000 in
set_option maxHeartbeats 4000000 in
theorem t_X3_serve_38 {p : Program} {l : Launch} {e : Env} {s : State} {m : MethodId} {args : Array Value} {below : List Frame} {meth : Method} {c : Code} {D : va_G} {ca : Nat → ClassId} {base : Nat} {ad : Nat → Nat → Nat} {n np : Nat} {post : Int32 → Mem → Prop} {k14 : Int32 → Int32 → Mem → Prop} (hC : ZC p m meth c s RX3 cX3_serve 7) (hr : meth.sig.returnType = (some FieldType.int)) (i0 : Nat) (a1 : Int32) (a2 : Int32) (a3 : Int32) (hk14 : ∀ (v5 : Int32) (v6 : Int32) (μ : Mem) (H : Heap) (locs : List Loc) (ls : Array Slot), k14 v5 v6 μ → ZS D ca base ad n np μ s H locs → lv_has ls 7 [(2, .int a2), (3, .int a3), (4, .ref (ad 43 (5 * i0 + a1.toNatClampNeg))), (5, .int v5), (6, .int v6)] → W p l e ({ frames := 0, cells := 0, slots := 0, locals := 0 } : Room) s m args below meth c H locs 0 0 (MQ below (ZQ D ca base ad n np (zpi post)) args s 0 0 (zB base)) (F0 m 14 ls [])) (v5 : Int32) (v6 : Int32) (μ : Mem) (H : Heap) (locs : List Loc) (ls : Array Slot) (h : b_X3_serve_38 n np post k14 i0 a1 a2 a3 v5 v6 μ) (hZ : ZS D ca base ad n np μ s H locs) (hl : lv_has ls 7 [(2, .int a2), (3, .int a3), (4, .ref (ad 43 (5 * i0 + a1.toNatClampNeg))), (5, .int v5), (6, .int v6)]) : W p l e ({ frames := 0, cells := 0, slots := 0, locals := 0 } : Room) s m args below meth c H locs 0 0 (MQ below (ZQ D ca base ad n np (zpi post)) args s 0 0 (zB base)) (F0 m 38 ls []) := by
  unfold b_X3_serve_38 at h
  refine lv_iinc (v := v6 + 1) (lv' := [(6, .int (v6 + 1)), (2, .int a2), (3, .int a3), (4, .ref (ad 43 (5 * i0 + a1.toNatClampNeg))), (5, .int v5)]) hC.1 hC.2.1 dX3_serve_38 hl (k := 4) rfl rfl (by decide) rfl (fun ls hl => ?_)
  refine lv_goto (tgt := 14) hC.1 hC.2.1 dX3_serve_41 (by decide) ?_
  exact hk14 _ _ _ _ _ _ h hZ (lv_sub hl [1, 2, 3, 4, 0] rfl)
def lb_X3_serve_14 (n np : Nat) (post : Int32 → Mem → Prop) (k14 : Int32 → Int32 → Mem → Prop) (i0 : Nat) (a1 : Int32) (a2 : Int32) (a3 : Int32) (v5 : Int32) (v6 : Int32) (μ : Mem) : Prop := ((4 ≤ v6 → b_X3_serve_44 n np post i0 a1 a2 a3 v5 μ) ∧ (¬ 4 ≤ v6 → ((a2 < v6 → b_X3_serve_44 n np post i0 a1 a2 a3 v5 μ) ∧ (¬ a2 < v6 → ((5 * i0 + a1.toNatClampNeg) < 10 ∧ vp_in v6 4 ∧ (((μ 43 (5 * i0 + a1.toNatClampNeg) v6.toNatClampNeg) ≤ 0 → b_X3_serve_38 n np post k14 i0 a1 a2 a3 v5 v6 μ) ∧ (¬ (μ 43 (5 * i0 + a1.toNatClampNeg) v6.toNatClampNeg) ≤ 0 → b_X3_serve_38 n np post k14 i0 a1 a2 a3 v6 v6 μ)))))))
def l_X3_serve_14 (n np : Nat) (post : Int32 → Mem → Prop) (i0 : Nat) (a1 : Int32) (a2 : Int32) (a3 : Int32) : Nat → Int32 → Int32 → Mem → Prop
  | 0 => fun _ _ _ => False
  | fuel + 1 => lb_X3_serve_14 n np post (l_X3_serve_14 n np post i0 a1 a2 a3 fuel) i0 a1 a2 a3 
set_option maxRecDepth 100000 in
set_option maxHeartbeats 4000000 in
theorem t_X3_serve_14 {p : Program} {l : Launch} {e : Env} {s : State} {m : MethodId} {args : Array Value} {below : List Frame} {meth : Method} {c : Code} {D : va_G} {ca : Nat → ClassId} {base : Nat} {ad : Nat → Nat → Nat} {n np : Nat} {post : Int32 → Mem → Prop} (hC : ZC p m meth c s RX3 cX3_serve 7) (hr : meth.sig.returnType = (some FieldType.int)) (i0 : Nat) (a1 : Int32) (a2 : Int32) (a3 : Int32) : ∀ (fuel : Nat) (v5 : Int32) (v6 : Int32) (μ : Mem) (H : Heap) (locs : List Loc) (ls : Array Slot), l_X3_serve_14 n np post i0 a1 a2 a3 fuel v5 v6 μ → ZS D ca base ad n np μ s H locs → lv_has ls 7 [(2, .int a2), (3, .int a3), (4, .ref (ad 43 (5 * i0 + a1.toNatClampNeg))), (5, .int v5), (6, .int v6)] → W p l e ({ frames := 0, cells := 0, slots := 0, locals := 0 } : Room) s m args below meth c H locs 0 0 (MQ below (ZQ D ca base ad n np (zpi post)) args s 0 0 (zB base)) (F0 m 14 ls []) := by
  intro fuel
  induction fuel with
  | zero => exact fun _ _ _ _ _ _ h => h.elim
  | succ fuel hk14 =>
    intro v5 v6 μ H locs ls h hZ hl
    have h : lb_X3_serve_14 n np post (l_X3_serve_14 n np post i0 a1 a2 a3 fuel) i0 a1 a2 a3 v5 v6 μ := h
    unfold lb_X3_serve_14 at h
    refine lv_iload hC.1 hC.2.1 dX3_serve_14 (lv_at hl 4 rfl) ?_
    refine lv_iconst (v := 4) hC.1 hC.2.1 dX3_serve_16 (by decide) ?_
    refine lv_icmp_ge (tgt := 44) hC.1 hC.2.1 dX3_serve_17 (by decide) (fun c3 => ?_) (fun c3 => ?_)
    · have h := h.1 c3
      exact t_X3_serve_44 (l := l) hC hr _ _ _ _ _ _ _ _ _ h hZ (lv_sub hl [0, 1, 2, 3] rfl)
    · have h := h.2 c3
      refine lv_iload hC.1 hC.2.1 dX3_serve_20 (lv_at hl 4 rfl) ?_
      refine lv_iload_n hC.1 hC.2.1 dX3_serve_22 rfl (lv_at hl 0 rfl) ?_
      refine lv_icmp_gt (tgt := 44) hC.1 hC.2.1 dX3_serve_23 (by decide) (fun c13 => ?_) (fun c13 => ?_)
      · have h := h.1 c13
        exact t_X3_serve_44 (l := l) hC hr _ _ _ _ _ _ _ _ _ h hZ (lv_sub hl [0, 1, 2, 3] rfl)
      · have h := h.2 c13
        refine lv_aload hC.1 hC.2.1 dX3_serve_26 (lv_at hl 2 rfl) ?_
        refine lv_iload hC.1 hC.2.1 dX3_serve_28 (lv_at hl 4 rfl) ?_
        obtain ⟨q14, h⟩ := h
        obtain ⟨q15, h⟩ := h
        refine aL_43 hC hZ q14 q15 dX3_serve_30 ?_
        refine lv_if_le (tgt := 38) hC.1 hC.2.1 dX3_serve_31 (by decide) (fun c16 => ?_) (fun c16 => ?_)
        · have h := h.1 c16
          exact t_X3_serve_38 (l := l) hC hr _ _ _ _ hk14 _ _ _ _ _ _ h hZ (lv_sub hl [0, 1, 2, 3, 4] rfl)
        · have h := h.2 c16
          refine lv_iload hC.1 hC.2.1 dX3_serve_34 (lv_at hl 4 rfl) ?_
          refine lv_istore (lv' := [(5, .int v6), (2, .int a2), (3, .int a3), (4, .ref (ad 43 (5 * i0 + a1.toNatClampNeg))), (6, .int v6)]) hC.1 hC.2.1 dX3_serve_36 hl (by decide) rfl (fun ls hl => ?_)
          exact t_X3_serve_38 (l := l) hC hr _ _ _ _ hk14 _ _ _ _ _ _ h hZ (lv_sub hl [1, 2, 3, 0, 4] rfl)
def w_X3_serve (n np : Nat) (post : Int32 → Mem → Prop) (i0 : Nat) (a1 : Int32) (a2 : Int32) (a3 : Int32) (μ : Mem) : Prop := (i0 < 2 ∧ (vp_in a1 5 ∧ (∃ fuel : Nat, l_X3_serve_14 n np post i0 a1 a2 a3 fuel (-1 : Int32) (0 : Int32) μ)))
set_option maxRecDepth 100000 in
set_option maxHeartbeats 4000000 in
theorem c_X3_serve (l : Launch) {D : va_G} {ca : Nat → ClassId} {base : Nat} {ad : Nat → Nat → Nat} {n np : Nat} {μ : Mem} {post : Int32 → Mem → Prop} {i0 : Nat} {a1 : Int32} {a2 : Int32} {a3 : Int32} (h : w_X3_serve n np post i0 a1 a2 a3 μ) : ZMet l yX3_serve cX3_serve 7 (some FieldType.int) ({ frames := 0, cells := 0, slots := 0, locals := 0 } : Room) 0 0 D ca base ad n np [.ref (ad 40 i0), .int a1, .int a2, .int a3] μ (zpi post) := by
  unfold ZMet
  refine Met.ofW (cc := cX3_serve) (maxL := 7) (ret := (some FieldType.int)) (by decide) rfl ?_
  intro p e s m args below meth c s₁ B hml hv
  obtain ⟨rfl, hU⟩ := hv
  have hZ := hU.toS
  have hC : ZC p m meth c s RX3 cX3_serve 7 := ⟨B.exec, B.bytes, hml, findClass_of_methodNamed B.named, B.notSynchronized⟩
  have hr := B.returns
  have key : W p l e ({ frames := 0, cells := 0, slots := 0, locals := 0 } : Room) s m (([.ref (ad 40 i0), .int a1, .int a2, .int a3] : List Value).toArray) below meth c s.heap [] 0 0 (MQ below (ZQ D ca base ad n np (zpi post)) (([.ref (ad 40 i0), .int a1, .int a2, .int a3] : List Value).toArray) s 0 0 (zB base)) (entryFrame m (([.ref (ad 40 i0), .int a1, .int a2, .int a3] : List Value).toArray) 7) := by
    have hl := lv_entry ([.ref (ad 40 i0), .int a1, .int a2, .int a3]) (n := 7) (Nat.le_of_ble_eq_true rfl)
    rw [lg_entry_eq]
    generalize (lg_sl ([.ref (ad 40 i0), .int a1, .int a2, .int a3]) ++ List.replicate (7 - (lg_sl ([.ref (ad 40 i0), .int a1, .int a2, .int a3])).length) Slot.unset).toArray = ls at hl ⊢
    have hl : lv_has ls 7 [(0, .ref (ad 40 i0)), (1, .int a1), (2, .int a2), (3, .int a3)] := hl
    unfold w_X3_serve at h
    refine lv_aload_n hC.1 hC.2.1 dX3_serve_0 rfl (lv_at hl 0 rfl) ?_
    obtain ⟨q1, h⟩ := h
    refine gX3_0 hC hZ q1 kf_X3_11 dX3_serve_1 ?_
    refine lv_iload_n hC.1 hC.2.1 dX3_serve_4 rfl (lv_at hl 1 rfl) ?_
    obtain ⟨q2, h⟩ := h
    refine aL_41 hC hZ q1 q2 dX3_serve_5 ?_
    refine lv_astore (lv' := [(4, .ref (ad 43 (5 * i0 + a1.toNatClampNeg))), (0, .ref (ad 40 i0)), (1, .int a1), (2, .int a2), (3, .int a3)]) hC.1 hC.2.1 dX3_serve_6 hl (by decide) rfl (fun ls hl => ?_)
    refine lv_iconst (v := (-1)) hC.1 hC.2.1 dX3_serve_8 (by decide) ?_
    refine lv_istore (lv' := [(5, .int (-1)), (4, .ref (ad 43 (5 * i0 + a1.toNatClampNeg))), (0, .ref (ad 40 i0)), (1, .int a1), (2, .int a2), (3, .int a3)]) hC.1 hC.2.1 dX3_serve_9 hl (by decide) rfl (fun ls hl => ?_)
    refine lv_iconst (v := 0) hC.1 hC.2.1 dX3_serve_11 (by decide) ?_
    refine lv_istore (lv' := [(6, .int 0), (5, .int (-1)), (4, .ref (ad 43 (5 * i0 + a1.toNatClampNeg))), (0, .ref (ad 40 i0)), (1, .int a1), (2, .int a2), (3, .int a3)]) hC.1 hC.2.1 dX3_serve_12 hl (by decide) rfl (fun ls hl => ?_)
    obtain ⟨fuel, h⟩ := h
    exact t_X3_serve_14 (l := l) hC hr _ _ _ _ _ _ _ _ _ _ _ h hZ (lv_sub hl [5, 6, 2, 1, 0] rfl)
  exact key
def b_X3_film_97 (n np : Nat) (post : Int32 → Mem → Prop) (k62 : Int32 → Int32 → Mem → Prop) (i0 : Nat) (i1 : Nat) (v2 : Int32) (v3 : Int32) (μ : Mem) : Prop := k62 v2 (v3 + 1) μ
set_option maxRecDepth 100000 in
set_option maxHeartbeats 4000000 in
theorem t_X3_film_97 {p : Program} {l : Launch} {e : Env} {s : State} {m : MethodId} {args : Array Value} {below : List Frame} {meth : Method} {c : Code} {D : va_G} {ca : Nat → ClassId} {base : Nat} {ad : Nat → Nat → Nat} {n np : Nat} {post : Int32 → Mem → Prop} {k62 : Int32 → Int32 → Mem → Prop} (hC : ZC p m meth c s RX3 cX3_film 4) (hr : meth.sig.returnType = (some FieldType.int)) (i0 : Nat) (i1 : Nat) (hk62 : ∀ (v2 : Int32) (v3 : Int32) (μ : Mem) (H : Heap) (locs : List Loc) (ls : Array Slot), k62 v2 v3 μ → ZS D ca base ad n np μ s H locs → lv_has ls 4 [(0, .ref (ad 40 i0)), (1, .ref (ad 70 i1)), (2, .int v2), (3, .int v3)] → W p l e ({ frames := 1, cells := 0, slots := 0, locals := 26 } : Room) s m args below meth c H locs 0 0 (MQ below (ZQ D ca base ad n np (zpi post)) args s 0 0 (zB base)) (F0 m 62 ls [])) (v2 : Int32) (v3 : Int32) (μ : Mem) (H : Heap) (locs : List Loc) (ls : Array Slot) (h : b_X3_film_97 n np post k62 i0 i1 v2 v3 μ) (hZ : ZS D ca base ad n np μ s H locs) (hl : lv_has ls 4 [(0, .ref (ad 40 i0)), (1, .ref (ad 70 i1)), (2, .int v2), (3, .int v3)]) : W p l e ({ frames := 1, cells := 0, slots := 0, locals := 26 } : Room) s m args below meth c H locs 0 0 (MQ below (ZQ D ca base ad n np (zpi post)) args s 0 0 (zB base)) (F0 m 97 ls []) := by
  unfold b_X3_film_97 at h
  refine lv_iinc (v := v3 + 1) (lv' := [(3, .int (v3 + 1)), (0, .ref (ad 40 i0)), (1, .ref (ad 70 i1)), (2, .int v2)]) hC.1 hC.2.1 dX3_film_97 hl (k := 3) rfl rfl (by decide) rfl (fun ls hl => ?_)
  refine lv_goto (tgt := 62) hC.1 hC.2.1 dX3_film_100 (by decide) ?_
  exact hk62 _ _ _ _ _ _ h hZ (lv_sub hl [1, 2, 3, 0] rfl)
def lb_X3_film_62 (n np : Nat) (post : Int32 → Mem → Prop) (k62 : Int32 → Int32 → Mem → Prop) (i0 : Nat) (i1 : Nat) (v2 : Int32) (v3 : Int32) (μ : Mem) : Prop := ((5 ≤ v3 → post v2 μ) ∧ (¬ 5 ≤ v3 → (i1 < n ∧ (vp_in v3 5 ∧ (((μ 72 i1 v3.toNatClampNeg) = (-1) → b_X3_film_97 n np post k62 i0 i1 v2 v3 μ) ∧ (¬ (μ 72 i1 v3.toNatClampNeg) = (-1) → (i0 < 2 ∧ w_X3_serve n np (fun (r13 : Int32) (μ12 : Mem) => b_X3_film_97 n np post k62 i0 i1 (v2 + r13) v3 μ12) i0 v3 (μ 72 i1 v3.toNatClampNeg) (μ 73 i1 v3.toNatClampNeg) μ)))))))
def l_X3_film_62 (n np : Nat) (post : Int32 → Mem → Prop) (i0 : Nat) (i1 : Nat) : Nat → Int32 → Int32 → Mem → Prop
  | 0 => fun _ _ _ => False
  | fuel + 1 => lb_X3_film_62 n np post (l_X3_film_62 n np post i0 i1 fuel) i0 i1 
set_option maxRecDepth 100000 in
set_option maxHeartbeats 4000000 in
theorem t_X3_film_62 {p : Program} {l : Launch} {e : Env} {s : State} {m : MethodId} {args : Array Value} {below : List Frame} {meth : Method} {c : Code} {D : va_G} {ca : Nat → ClassId} {base : Nat} {ad : Nat → Nat → Nat} {n np : Nat} {post : Int32 → Mem → Prop} (hC : ZC p m meth c s RX3 cX3_film 4) (hr : meth.sig.returnType = (some FieldType.int)) (i0 : Nat) (i1 : Nat) : ∀ (fuel : Nat) (v2 : Int32) (v3 : Int32) (μ : Mem) (H : Heap) (locs : List Loc) (ls : Array Slot), l_X3_film_62 n np post i0 i1 fuel v2 v3 μ → ZS D ca base ad n np μ s H locs → lv_has ls 4 [(0, .ref (ad 40 i0)), (1, .ref (ad 70 i1)), (2, .int v2), (3, .int v3)] → W p l e ({ frames := 1, cells := 0, slots := 0, locals := 26 } : Room) s m args below meth c H locs 0 0 (MQ below (ZQ D ca base ad n np (zpi post)) args s 0 0 (zB base)) (F0 m 62 ls []) := by
  intro fuel
  induction fuel with
  | zero => exact fun _ _ _ _ _ _ h => h.elim
  | succ fuel hk62 =>
    intro v2 v3 μ H locs ls h hZ hl
    have h : lb_X3_film_62 n np post (l_X3_film_62 n np post i0 i1 fuel) i0 i1 v2 v3 μ := h
    unfold lb_X3_film_62 at h
    refine lv_iload_n hC.1 hC.2.1 dX3_film_62 rfl (lv_at hl 3 rfl) ?_
    refine lv_iconst (v := 5) hC.1 hC.2.1 dX3_film_63 (by decide) ?_
    refine lv_icmp_ge (tgt := 103) hC.1 hC.2.1 dX3_film_64 (by decide) (fun c7 => ?_) (fun c7 => ?_)
    · have h := h.1 c7
      refine lv_iload_n hC.1 hC.2.1 dX3_film_103 rfl (lv_at hl 2 rfl) ?_
      exact z_iret hC hr hZ h dX3_film_104 (Nat.le_of_ble_eq_true rfl) (Nat.le_of_ble_eq_true rfl)
    · have h := h.2 c7
      refine lv_aload_n hC.1 hC.2.1 dX3_film_67 rfl (lv_at hl 1 rfl) ?_
      obtain ⟨q8, h⟩ := h
      refine gX2_4 hC hZ q8 kf_X3_45 dX3_film_68 ?_
      refine lv_iload_n hC.1 hC.2.1 dX3_film_71 rfl (lv_at hl 3 rfl) ?_
      obtain ⟨q9, h⟩ := h
      refine aL_72 hC hZ q8 q9 dX3_film_72 ?_
      refine lv_iconst (v := (-1)) hC.1 hC.2.1 dX3_film_73 (by decide) ?_
      refine lv_icmp_eq (tgt := 97) hC.1 hC.2.1 dX3_film_74 (by decide) (fun c10 => ?_) (fun c10 => ?_)
      · have h := h.1 c10
        exact t_X3_film_97 (l := l) hC hr _ _ hk62 _ _ _ _ _ _ h hZ (lv_sub hl [0, 1, 2, 3] rfl)
      · have h := h.2 c10
        refine lv_iload_n hC.1 hC.2.1 dX3_film_77 rfl (lv_at hl 2 rfl) ?_
        refine lv_aload_n hC.1 hC.2.1 dX3_film_78 rfl (lv_at hl 0 rfl) ?_
        refine lv_iload_n hC.1 hC.2.1 dX3_film_79 rfl (lv_at hl 3 rfl) ?_
        refine lv_aload_n hC.1 hC.2.1 dX3_film_80 rfl (lv_at hl 1 rfl) ?_
        refine gX2_4 hC hZ q8 kf_X3_45 dX3_film_81 ?_
        refine lv_iload_n hC.1 hC.2.1 dX3_film_84 rfl (lv_at hl 3 rfl) ?_
        refine aL_72 hC hZ q8 q9 dX3_film_85 ?_
        refine lv_aload_n hC.1 hC.2.1 dX3_film_86 rfl (lv_at hl 1 rfl) ?_
        refine gX2_5 hC hZ q8 kf_X3_48 dX3_film_87 ?_
        refine lv_iload_n hC.1 hC.2.1 dX3_film_90 rfl (lv_at hl 3 rfl) ?_
        refine aL_73 hC hZ q8 q9 dX3_film_91 ?_
        obtain ⟨q11, h⟩ := h
        refine z_cVi (As := [.int v3, .int (μ 72 i1 v3.toNatClampNeg), .int (μ 73 i1 v3.toNatClampNeg)]) hC hZ (zF_40 q11 _) rfl zy_X3_serve (c_X3_serve l h) km_X3_51 rfl ⟨rfl, rfl⟩ ⟨Nat.le_of_ble_eq_true rfl, Nat.le_of_ble_eq_true rfl⟩ hl.1 rfl (Nat.le_of_ble_eq_true rfl) dX3_film_92 ⟨Nat.le_of_ble_eq_true rfl, Nat.le_of_ble_eq_true rfl⟩ (fun r13 μ12 H locs h hZ => ?_)
        refine lv_iadd hC.1 hC.2.1 dX3_film_95 ?_
        refine lv_istore_n (lv' := [(2, .int (v2 + r13)), (0, .ref (ad 40 i0)), (1, .ref (ad 70 i1)), (3, .int v3)]) hC.1 hC.2.1 dX3_film_96 rfl hl (by decide) rfl (fun ls hl => ?_)
        exact t_X3_film_97 (l := l) hC hr _ _ hk62 _ _ _ _ _ _ h hZ (lv_sub hl [1, 2, 0, 3] rfl)
def lb_X3_film_35 (n np : Nat) (post : Int32 → Mem → Prop) (k35 : Int32 → Int32 → Mem → Prop) (i0 : Nat) (i1 : Nat) (v2 : Int32) (v3 : Int32) (μ : Mem) : Prop := ((5 ≤ v3 → (∃ fuel : Nat, l_X3_film_62 n np post i0 i1 fuel v2 (0 : Int32) μ)) ∧ (¬ 5 ≤ v3 → (i1 < n ∧ (vp_in v3 5 ∧ (i0 < 2 ∧ w_X3_dress n np (fun (r18 : Int32) (μ17 : Mem) => k35 (v2 + r18) (v3 + 1) μ17) i0 v3 (μ 71 i1 v3.toNatClampNeg) μ)))))
def l_X3_film_35 (n np : Nat) (post : Int32 → Mem → Prop) (i0 : Nat) (i1 : Nat) : Nat → Int32 → Int32 → Mem → Prop
  | 0 => fun _ _ _ => False
  | fuel + 1 => lb_X3_film_35 n np post (l_X3_film_35 n np post i0 i1 fuel) i0 i1 
set_option maxRecDepth 100000 in
set_option maxHeartbeats 4000000 in
theorem t_X3_film_35 {p : Program} {l : Launch} {e : Env} {s : State} {m : MethodId} {args : Array Value} {below : List Frame} {meth : Method} {c : Code} {D : va_G} {ca : Nat → ClassId} {base : Nat} {ad : Nat → Nat → Nat} {n np : Nat} {post : Int32 → Mem → Prop} (hC : ZC p m meth c s RX3 cX3_film 4) (hr : meth.sig.returnType = (some FieldType.int)) (i0 : Nat) (i1 : Nat) : ∀ (fuel : Nat) (v2 : Int32) (v3 : Int32) (μ : Mem) (H : Heap) (locs : List Loc) (ls : Array Slot), l_X3_film_35 n np post i0 i1 fuel v2 v3 μ → ZS D ca base ad n np μ s H locs → lv_has ls 4 [(0, .ref (ad 40 i0)), (1, .ref (ad 70 i1)), (2, .int v2), (3, .int v3)] → W p l e ({ frames := 1, cells := 0, slots := 0, locals := 26 } : Room) s m args below meth c H locs 0 0 (MQ below (ZQ D ca base ad n np (zpi post)) args s 0 0 (zB base)) (F0 m 35 ls []) := by
  intro fuel
  induction fuel with
  | zero => exact fun _ _ _ _ _ _ h => h.elim
  | succ fuel hk35 =>
    intro v2 v3 μ H locs ls h hZ hl
    have h : lb_X3_film_35 n np post (l_X3_film_35 n np post i0 i1 fuel) i0 i1 v2 v3 μ := h
    unfold lb_X3_film_35 at h
    refine lv_iload_n hC.1 hC.2.1 dX3_film_35 rfl (lv_at hl 3 rfl) ?_
    refine lv_iconst (v := 5) hC.1 hC.2.1 dX3_film_36 (by decide) ?_
    refine lv_icmp_ge (tgt := 60) hC.1 hC.2.1 dX3_film_37 (by decide) (fun c6 => ?_) (fun c6 => ?_)
    · have h := h.1 c6
      refine lv_iconst (v := 0) hC.1 hC.2.1 dX3_film_60 (by decide) ?_
      refine lv_istore_n (lv' := [(3, .int 0), (0, .ref (ad 40 i0)), (1, .ref (ad 70 i1)), (2, .int v2)]) hC.1 hC.2.1 dX3_film_61 rfl hl (by decide) rfl (fun ls hl => ?_)
      obtain ⟨fuel, h⟩ := h
      exact t_X3_film_62 (l := l) hC hr _ _ _ _ _ _ _ _ _ h hZ (lv_sub hl [1, 2, 3, 0] rfl)
    · have h := h.2 c6
      refine lv_iload_n hC.1 hC.2.1 dX3_film_40 rfl (lv_at hl 2 rfl) ?_
      refine lv_aload_n hC.1 hC.2.1 dX3_film_41 rfl (lv_at hl 0 rfl) ?_
      refine lv_iload_n hC.1 hC.2.1 dX3_film_42 rfl (lv_at hl 3 rfl) ?_
      refine lv_aload_n hC.1 hC.2.1 dX3_film_43 rfl (lv_at hl 1 rfl) ?_
      obtain ⟨q14, h⟩ := h
      refine gX2_3 hC hZ q14 kf_X3_41 dX3_film_44 ?_
      refine lv_iload_n hC.1 hC.2.1 dX3_film_47 rfl (lv_at hl 3 rfl) ?_
      obtain ⟨q15, h⟩ := h
      refine aL_71 hC hZ q14 q15 dX3_film_48 ?_
      obtain ⟨q16, h⟩ := h
      refine z_cVi (As := [.int v3, .int (μ 71 i1 v3.toNatClampNeg)]) hC hZ (zF_40 q16 _) rfl zy_X3_dress (c_X3_dress l h) km_X3_42 rfl ⟨rfl, rfl⟩ ⟨Nat.le_of_ble_eq_true rfl, Nat.le_of_ble_eq_true rfl⟩ hl.1 rfl (Nat.le_of_ble_eq_true rfl) dX3_film_49 ⟨Nat.le_of_ble_eq_true rfl, Nat.le_of_ble_eq_true rfl⟩ (fun r18 μ17 H locs h hZ => ?_)
      refine lv_iadd hC.1 hC.2.1 dX3_film_52 ?_
      refine lv_istore_n (lv' := [(2, .int (v2 + r18)), (0, .ref (ad 40 i0)), (1, .ref (ad 70 i1)), (3, .int v3)]) hC.1 hC.2.1 dX3_film_53 rfl hl (by decide) rfl (fun ls hl => ?_)
      refine lv_iinc (v := v3 + 1) (lv' := [(3, .int (v3 + 1)), (2, .int (v2 + r18)), (0, .ref (ad 40 i0)), (1, .ref (ad 70 i1))]) hC.1 hC.2.1 dX3_film_54 hl (k := 3) rfl rfl (by decide) rfl (fun ls hl => ?_)
      refine lv_goto (tgt := 35) hC.1 hC.2.1 dX3_film_57 (by decide) ?_
      exact hk35 _ _ _ _ _ _ h hZ (lv_sub hl [2, 3, 1, 0] rfl)
def b_X3_film_24 (n np : Nat) (post : Int32 → Mem → Prop) (i0 : Nat) (i1 : Nat) (s0 : Int32) (μ : Mem) : Prop := (i1 < n ∧ (i0 < 2 ∧ ∀ μ5 : Mem, μ5 = zst μ 40 i0 2 (μ 70 i1 1) → (∃ fuel : Nat, l_X3_film_35 n np post i0 i1 fuel s0 (0 : Int32) μ5)))
set_option maxRecDepth 100000 in
set_option maxHeartbeats 4000000 in
theorem t_X3_film_24 {p : Program} {l : Launch} {e : Env} {s : State} {m : MethodId} {args : Array Value} {below : List Frame} {meth : Method} {c : Code} {D : va_G} {ca : Nat → ClassId} {base : Nat} {ad : Nat → Nat → Nat} {n np : Nat} {post : Int32 → Mem → Prop} (hC : ZC p m meth c s RX3 cX3_film 4) (hr : meth.sig.returnType = (some FieldType.int)) (i0 : Nat) (i1 : Nat) (s0 : Int32) (μ : Mem) (H : Heap) (locs : List Loc) (ls : Array Slot) (h : b_X3_film_24 n np post i0 i1 s0 μ) (hZ : ZS D ca base ad n np μ s H locs) (hl : lv_has ls 4 [(0, .ref (ad 40 i0)), (1, .ref (ad 70 i1))]) : W p l e ({ frames := 1, cells := 0, slots := 0, locals := 26 } : Room) s m args below meth c H locs 0 0 (MQ below (ZQ D ca base ad n np (zpi post)) args s 0 0 (zB base)) (F0 m 24 ls [.int s0]) := by
  unfold b_X3_film_24 at h
  refine lv_istore_n (lv' := [(2, .int s0), (0, .ref (ad 40 i0)), (1, .ref (ad 70 i1))]) hC.1 hC.2.1 dX3_film_24 rfl hl (by decide) rfl (fun ls hl => ?_)
  refine lv_aload_n hC.1 hC.2.1 dX3_film_25 rfl (lv_at hl 1 rfl) ?_
  refine lv_aload_n hC.1 hC.2.1 dX3_film_26 rfl (lv_at hl 2 rfl) ?_
  obtain ⟨q3, h⟩ := h
  refine gX2_1 hC hZ q3 kf_X3_36 dX3_film_27 ?_
  obtain ⟨q4, h⟩ := h
  refine pX3_2 hC hZ q4 kf_X3_20 dX3_film_30 (fun μ5 H locs eμ5 hZ => ?_)
  have h := h μ5 eμ5
  refine lv_iconst (v := 0) hC.1 hC.2.1 dX3_film_33 (by decide) ?_
  refine lv_istore_n (lv' := [(3, .int 0), (2, .int s0), (0, .ref (ad 40 i0)), (1, .ref (ad 70 i1))]) hC.1 hC.2.1 dX3_film_34 rfl hl (by decide) rfl (fun ls hl => ?_)
  obtain ⟨fuel, h⟩ := h
  exact t_X3_film_35 (l := l) hC hr _ _ _ _ _ _ _ _ _ h hZ (lv_sub hl [2, 3, 1, 0] rfl)
def b_X3_film_19 (n np : Nat) (post : Int32 → Mem → Prop) (i0 : Nat) (i1 : Nat) (μ : Mem) : Prop := b_X3_film_24 n np post i0 i1 (0 : Int32) μ
set_option maxRecDepth 100000 in
set_option maxHeartbeats 4000000 in
theorem t_X3_film_19 {p : Program} {l : Launch} {e : Env} {s : State} {m : MethodId} {args : Array Value} {below : List Frame} {meth : Method} {c : Code} {D : va_G} {ca : Nat → ClassId} {base : Nat} {ad : Nat → Nat → Nat} {n np : Nat} {post : Int32 → Mem → Prop} (hC : ZC p m meth c s RX3 cX3_film 4) (hr : meth.sig.returnType = (some FieldType.int)) (i0 : Nat) (i1 : Nat) (μ : Mem) (H : Heap) (locs : List Loc) (ls : Array Slot) (h : b_X3_film_19 n np post i0 i1 μ) (hZ : ZS D ca base ad n np μ s H locs) (hl : lv_has ls 4 [(0, .ref (ad 40 i0)), (1, .ref (ad 70 i1))]) : W p l e ({ frames := 1, cells := 0, slots := 0, locals := 26 } : Room) s m args below meth c H locs 0 0 (MQ below (ZQ D ca base ad n np (zpi post)) args s 0 0 (zB base)) (F0 m 19 ls []) := by
  unfold b_X3_film_19 at h
  refine lv_iconst (v := 0) hC.1 hC.2.1 dX3_film_19 (by decide) ?_
  refine lv_goto (tgt := 24) hC.1 hC.2.1 dX3_film_20 (by decide) ?_
  exact t_X3_film_24 (l := l) hC hr _ _ _ _ _ _ _ h hZ (lv_sub hl [0, 1] rfl)
def w_X3_film (n np : Nat) (post : Int32 → Mem → Prop) (i0 : Nat) (i1 : Nat) (μ : Mem) : Prop := (i0 < 2 ∧ (((μ 40 i0 2) = (-1) → b_X3_film_19 n np post i0 i1 μ) ∧ (¬ (μ 40 i0 2) = (-1) → (i1 < n ∧ ((¬ (μ 40 i0 2) = (μ 70 i1 1) → b_X3_film_24 n np post i0 i1 (2 : Int32) μ) ∧ ((μ 40 i0 2) = (μ 70 i1 1) → b_X3_film_19 n np post i0 i1 μ))))))
set_option maxRecDepth 100000 in
set_option maxHeartbeats 4000000 in
theorem c_X3_film (l : Launch) {D : va_G} {ca : Nat → ClassId} {base : Nat} {ad : Nat → Nat → Nat} {n np : Nat} {μ : Mem} {post : Int32 → Mem → Prop} {i0 : Nat} {i1 : Nat} (h : w_X3_film n np post i0 i1 μ) : ZMet l yX3_film cX3_film 4 (some FieldType.int) ({ frames := 1, cells := 0, slots := 0, locals := 26 } : Room) 0 0 D ca base ad n np [.ref (ad 40 i0), .ref (ad 70 i1)] μ (zpi post) := by
  unfold ZMet
  refine Met.ofW (cc := cX3_film) (maxL := 4) (ret := (some FieldType.int)) (by decide) rfl ?_
  intro p e s m args below meth c s₁ B hml hv
  obtain ⟨rfl, hU⟩ := hv
  have hZ := hU.toS
  have hC : ZC p m meth c s RX3 cX3_film 4 := ⟨B.exec, B.bytes, hml, findClass_of_methodNamed B.named, B.notSynchronized⟩
  have hr := B.returns
  have key : W p l e ({ frames := 1, cells := 0, slots := 0, locals := 26 } : Room) s m (([.ref (ad 40 i0), .ref (ad 70 i1)] : List Value).toArray) below meth c s.heap [] 0 0 (MQ below (ZQ D ca base ad n np (zpi post)) (([.ref (ad 40 i0), .ref (ad 70 i1)] : List Value).toArray) s 0 0 (zB base)) (entryFrame m (([.ref (ad 40 i0), .ref (ad 70 i1)] : List Value).toArray) 4) := by
    have hl := lv_entry ([.ref (ad 40 i0), .ref (ad 70 i1)]) (n := 4) (Nat.le_of_ble_eq_true rfl)
    rw [lg_entry_eq]
    generalize (lg_sl ([.ref (ad 40 i0), .ref (ad 70 i1)]) ++ List.replicate (4 - (lg_sl ([.ref (ad 40 i0), .ref (ad 70 i1)])).length) Slot.unset).toArray = ls at hl ⊢
    have hl : lv_has ls 4 [(0, .ref (ad 40 i0)), (1, .ref (ad 70 i1))] := hl
    unfold w_X3_film at h
    refine lv_aload_n hC.1 hC.2.1 dX3_film_0 rfl (lv_at hl 0 rfl) ?_
    obtain ⟨q1, h⟩ := h
    refine gX3_2 hC hZ q1 kf_X3_20 dX3_film_1 ?_
    refine lv_iconst (v := (-1)) hC.1 hC.2.1 dX3_film_4 (by decide) ?_
    refine lv_icmp_eq (tgt := 19) hC.1 hC.2.1 dX3_film_5 (by decide) (fun c2 => ?_) (fun c2 => ?_)
    · have h := h.1 c2
      exact t_X3_film_19 (l := l) hC hr _ _  _ _ _ _ h hZ (lv_sub hl [0, 1] rfl)
    · have h := h.2 c2
      refine lv_aload_n hC.1 hC.2.1 dX3_film_8 rfl (lv_at hl 0 rfl) ?_
      refine gX3_2 hC hZ q1 kf_X3_20 dX3_film_9 ?_
      refine lv_aload_n hC.1 hC.2.1 dX3_film_12 rfl (lv_at hl 1 rfl) ?_
      obtain ⟨q19, h⟩ := h
      refine gX2_1 hC hZ q19 kf_X3_36 dX3_film_13 ?_
      refine lv_icmp_ne (tgt := 23) hC.1 hC.2.1 dX3_film_16 (by decide) (fun c20 => ?_) (fun c20 => ?_)
      · have h := h.1 c20
        refine lv_iconst (v := 2) hC.1 hC.2.1 dX3_film_23 (by decide) ?_
        exact t_X3_film_24 (l := l) hC hr _ _ _ _ _ _ _ h hZ (lv_sub hl [0, 1] rfl)
      · have h := h.2 c20
        exact t_X3_film_19 (l := l) hC hr _ _  _ _ _ _ h hZ (lv_sub hl [0, 1] rfl)
  exact key
