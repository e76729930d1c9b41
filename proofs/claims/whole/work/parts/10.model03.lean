def b_X5_mend_45 (post : Int32 → Mem → Prop) (k7 : Int32 → Int32 → Mem → Prop) (v1 : Int32) (v2 : Int32) (μ : Mem) : Prop := k7 v1 (v2 + 1) μ
set_option maxRecDepth 100000 in
set_option maxHeartbeats 4000000 in
theorem t_X5_mend_45 {p : Program} {l : Launch} {e : Env} {s : State} {m : MethodId} {args : Array Value} {below : List Frame} {meth : Method} {c : Code} {D : va_G} {ca : Nat → ClassId} {base : Nat} {ad : Nat → Nat → Nat} {n np : Nat} {post : Int32 → Mem → Prop} {k7 : Int32 → Int32 → Mem → Prop} (hC : ZC p m meth c s RX5 cX5_mend 4) (hr : meth.sig.returnType = (some FieldType.int)) (hk7 : ∀ (v1 : Int32) (v2 : Int32) (μ : Mem) (H : Heap) (locs : List Loc) (ls : Array Slot), k7 v1 v2 μ → ZS D ca base ad n np μ s H locs → lv_has ls 4 [(0, .ref (ad 0 0)), (1, .int v1), (2, .int v2)] → W p l e ({ frames := 4, cells := 0, slots := 0, locals := 99 } : Room) s m args below meth c H locs 0 0 (MQ below (ZQ D ca base ad n np (zpi post)) args s 0 0 (zB base)) (F0 m 7 ls [])) (v1 : Int32) (v2 : Int32) (μ : Mem) (H : Heap) (locs : List Loc) (ls : Array Slot) (h : b_X5_mend_45 post k7 v1 v2 μ) (hZ : ZS D ca base ad n np μ s H locs) (hl : lv_has ls 4 [(0, .ref (ad 0 0)), (1, .int v1), (2, .int v2)]) : W p l e ({ frames := 4, cells := 0, slots := 0, locals := 99 } : Room) s m args below meth c H locs 0 0 (MQ below (ZQ D ca base ad n np (zpi post)) args s 0 0 (zB base)) (F0 m 45 ls []) := by
  unfold b_X5_mend_45 at h
  refine lv_iinc (v := v2 + 1) (lv' := [(2, .int (v2 + 1)), (0, .ref (ad 0 0)), (1, .int v1)]) hC.1 hC.2.1 dX5_mend_45 hl (k := 2) rfl rfl (by decide) rfl (fun ls hl => ?_)
  refine lv_goto (tgt := 7) hC.1 hC.2.1 dX5_mend_48 (by decide) ?_
  exact hk7 _ _ _ _ _ _ h hZ (lv_sub hl [1, 2, 0] rfl)
def b_X5_mend_30 (post : Int32 → Mem → Prop) (k7 : Int32 → Int32 → Mem → Prop) (v1 : Int32) (v2 : Int32) (s0 : Int32) (μ : Mem) : Prop := ((s0 = (-1) → b_X5_mend_45 post k7 v1 v2 μ) ∧ (¬ s0 = (-1) → (w_X5_swaps (fun (μ8 : Mem) => b_X5_mend_45 post k7 (v1 + 1) v2 μ8) v2 s0 μ)))
set_option maxRecDepth 100000 in
set_option maxHeartbeats 4000000 in
theorem t_X5_mend_30 {p : Program} {l : Launch} {e : Env} {s : State} {m : MethodId} {args : Array Value} {below : List Frame} {meth : Method} {c : Code} {D : va_G} {ca : Nat → ClassId} {base : Nat} {ad : Nat → Nat → Nat} {n np : Nat} {post : Int32 → Mem → Prop} {k7 : Int32 → Int32 → Mem → Prop} (hC : ZC p m meth c s RX5 cX5_mend 4) (hr : meth.sig.returnType = (some FieldType.int)) (hk7 : ∀ (v1 : Int32) (v2 : Int32) (μ : Mem) (H : Heap) (locs : List Loc) (ls : Array Slot), k7 v1 v2 μ → ZS D ca base ad n np μ s H locs → lv_has ls 4 [(0, .ref (ad 0 0)), (1, .int v1), (2, .int v2)] → W p l e ({ frames := 4, cells := 0, slots := 0, locals := 99 } : Room) s m args below meth c H locs 0 0 (MQ below (ZQ D ca base ad n np (zpi post)) args s 0 0 (zB base)) (F0 m 7 ls [])) (v1 : Int32) (v2 : Int32) (s0 : Int32) (μ : Mem) (H : Heap) (locs : List Loc) (ls : Array Slot) (h : b_X5_mend_30 post k7 v1 v2 s0 μ) (hZ : ZS D ca base ad n np μ s H locs) (hl : lv_has ls 4 [(0, .ref (ad 0 0)), (1, .int v1), (2, .int v2)]) : W p l e ({ frames := 4, cells := 0, slots := 0, locals := 99 } : Room) s m args below meth c H locs 0 0 (MQ below (ZQ D ca base ad n np (zpi post)) args s 0 0 (zB base)) (F0 m 30 ls [.int s0]) := by
  unfold b_X5_mend_30 at h
  refine lv_istore_n (lv' := [(3, .int s0), (0, .ref (ad 0 0)), (1, .int v1), (2, .int v2)]) hC.1 hC.2.1 dX5_mend_30 rfl hl (by decide) rfl (fun ls hl => ?_)
  refine lv_iload_n hC.1 hC.2.1 dX5_mend_31 rfl (lv_at hl 0 rfl) ?_
  refine lv_iconst (v := (-1)) hC.1 hC.2.1 dX5_mend_32 (by decide) ?_
  refine lv_icmp_eq (tgt := 45) hC.1 hC.2.1 dX5_mend_33 (by decide) (fun c7 => ?_) (fun c7 => ?_)
  · have h := h.1 c7
    exact t_X5_mend_45 (l := l) hC hr hk7 _ _ _ _ _ _ h hZ (lv_sub hl [1, 2, 3] rfl)
  · have h := h.2 c7
    refine lv_aload_n hC.1 hC.2.1 dX5_mend_36 rfl (lv_at hl 1 rfl) ?_
    refine lv_iload_n hC.1 hC.2.1 dX5_mend_37 rfl (lv_at hl 3 rfl) ?_
    refine lv_iload_n hC.1 hC.2.1 dX5_mend_38 rfl (lv_at hl 0 rfl) ?_
    refine z_cVv (As := [.int v2, .int s0]) hC hZ (zF_0 _) rfl zy_X5_swaps (c_X5_swaps l h) km_X5_143 rfl ⟨rfl, rfl⟩ ⟨Nat.le_of_ble_eq_true rfl, Nat.le_of_ble_eq_true rfl⟩ hl.1 rfl (Nat.le_of_ble_eq_true rfl) dX5_mend_39 ⟨Nat.le_of_ble_eq_true rfl, Nat.le_of_ble_eq_true rfl⟩ (fun μ8 H locs h hZ => ?_)
    refine lv_iinc (v := v1 + 1) (lv' := [(1, .int (v1 + 1)), (3, .int s0), (0, .ref (ad 0 0)), (2, .int v2)]) hC.1 hC.2.1 dX5_mend_42 hl (k := 2) rfl rfl (by decide) rfl (fun ls hl => ?_)
    exact t_X5_mend_45 (l := l) hC hr hk7 _ _ _ _ _ _ h hZ (lv_sub hl [2, 0, 3] rfl)
def lb_X5_mend_7 (post : Int32 → Mem → Prop) (k7 : Int32 → Int32 → Mem → Prop) (v1 : Int32) (v2 : Int32) (μ : Mem) : Prop := ((30 ≤ v2 → (w_X5_told (fun (r3 : Int32) (μ2 : Mem) => post r3 μ2) v1 μ)) ∧ (¬ 30 ≤ v2 → (w_X5_isRefused (fun (r5 : Int32) (μ4 : Mem) => ((r5 = 0 → b_X5_mend_30 post k7 v1 v2 (-1 : Int32) μ4) ∧ (¬ r5 = 0 → (w_X5_bestFor (fun (r11 : Int32) (μ10 : Mem) => b_X5_mend_30 post k7 v1 v2 r11 μ10) v2 μ4)))) v2 μ)))
def l_X5_mend_7 (post : Int32 → Mem → Prop) : Nat → Int32 → Int32 → Mem → Prop
  | 0 => fun _ _ _ => False
  | fuel + 1 => lb_X5_mend_7 post (l_X5_mend_7 post fuel) 
set_option maxRecDepth 100000 in
set_option maxHeartbeats 4000000 in
theorem t_X5_mend_7 {p : Program} {l : Launch} {e : Env} {s : State} {m : MethodId} {args : Array Value} {below : List Frame} {meth : Method} {c : Code} {D : va_G} {ca : Nat → ClassId} {base : Nat} {ad : Nat → Nat → Nat} {n np : Nat} {post : Int32 → Mem → Prop} (hC : ZC p m meth c s RX5 cX5_mend 4) (hr : meth.sig.returnType = (some FieldType.int)) : ∀ (fuel : Nat) (v1 : Int32) (v2 : Int32) (μ : Mem) (H : Heap) (locs : List Loc) (ls : Array Slot), l_X5_mend_7 post fuel v1 v2 μ → ZS D ca base ad n np μ s H locs → lv_has ls 4 [(0, .ref (ad 0 0)), (1, .int v1), (2, .int v2)] → W p l e ({ frames := 4, cells := 0, slots := 0, locals := 99 } : Room) s m args below meth c H locs 0 0 (MQ below (ZQ D ca base ad n np (zpi post)) args s 0 0 (zB base)) (F0 m 7 ls []) := by
  intro fuel
  induction fuel with
  | zero => exact fun _ _ _ _ _ _ h => h.elim
  | succ fuel hk7 =>
    intro v1 v2 μ H locs ls h hZ hl
    have h : lb_X5_mend_7 post (l_X5_mend_7 post fuel) v1 v2 μ := h
    unfold lb_X5_mend_7 at h
    refine lv_iload_n hC.1 hC.2.1 dX5_mend_7 rfl (lv_at hl 2 rfl) ?_
    refine lv_bipush (v := 30) hC.1 hC.2.1 dX5_mend_8 (by decide) ?_
    refine lv_icmp_ge (tgt := 51) hC.1 hC.2.1 dX5_mend_10 (by decide) (fun c1 => ?_) (fun c1 => ?_)
    · have h := h.1 c1
      refine lv_aload_n hC.1 hC.2.1 dX5_mend_51 rfl (lv_at hl 0 rfl) ?_
      refine lv_iload_n hC.1 hC.2.1 dX5_mend_52 rfl (lv_at hl 1 rfl) ?_
      refine z_cVi (As := [.int v1]) hC hZ (zF_0 _) rfl zy_X5_told (c_X5_told l h) km_X5_162 rfl ⟨rfl, rfl⟩ ⟨Nat.le_of_ble_eq_true rfl, Nat.le_of_ble_eq_true rfl⟩ hl.1 rfl (Nat.le_of_ble_eq_true rfl) dX5_mend_53 ⟨Nat.le_of_ble_eq_true rfl, Nat.le_of_ble_eq_true rfl⟩ (fun r3 μ2 H locs h hZ => ?_)
      exact z_iret hC hr hZ h dX5_mend_56 (Nat.le_of_ble_eq_true rfl) (Nat.le_of_ble_eq_true rfl)
    · have h := h.2 c1
      refine lv_aload_n hC.1 hC.2.1 dX5_mend_13 rfl (lv_at hl 0 rfl) ?_
      refine lv_iload_n hC.1 hC.2.1 dX5_mend_14 rfl (lv_at hl 2 rfl) ?_
      refine z_cVi (As := [.int v2]) hC hZ (zF_0 _) rfl zy_X5_isRefused (c_X5_isRefused l h) km_X5_172 rfl ⟨rfl, rfl⟩ ⟨Nat.le_of_ble_eq_true rfl, Nat.le_of_ble_eq_true rfl⟩ hl.1 rfl (Nat.le_of_ble_eq_true rfl) dX5_mend_15 ⟨Nat.le_of_ble_eq_true rfl, Nat.le_of_ble_eq_true rfl⟩ (fun r5 μ4 H locs h hZ => ?_)
      refine lv_if_eq (tgt := 29) hC.1 hC.2.1 dX5_mend_18 (by decide) (fun c6 => ?_) (fun c6 => ?_)
      · have h := h.1 c6
        refine lv_iconst (v := (-1)) hC.1 hC.2.1 dX5_mend_29 (by decide) ?_
        exact t_X5_mend_30 (l := l) hC hr hk7 _ _ _ _ _ _ _ h hZ (lv_sub hl [0, 1, 2] rfl)
      · have h := h.2 c6
        refine lv_aload_n hC.1 hC.2.1 dX5_mend_21 rfl (lv_at hl 0 rfl) ?_
        refine lv_iload_n hC.1 hC.2.1 dX5_mend_22 rfl (lv_at hl 2 rfl) ?_
        refine z_cVi (As := [.int v2]) hC hZ (zF_0 _) rfl zy_X5_bestFor (c_X5_bestFor l h) km_X5_175 rfl ⟨rfl, rfl⟩ ⟨Nat.le_of_ble_eq_true rfl, Nat.le_of_ble_eq_true rfl⟩ hl.1 rfl (Nat.le_of_ble_eq_true rfl) dX5_mend_23 ⟨Nat.le_of_ble_eq_true rfl, Nat.le_of_ble_eq_true rfl⟩ (fun r11 μ10 H locs h hZ => ?_)
        refine lv_goto (tgt := 30) hC.1 hC.2.1 dX5_mend_26 (by decide) ?_
        exact t_X5_mend_30 (l := l) hC hr hk7 _ _ _ _ _ _ _ h hZ (lv_sub hl [0, 1, 2] rfl)
def w_X5_mend (post : Int32 → Mem → Prop) (μ : Mem) : Prop := (∃ fuel : Nat, l_X5_mend_7 post fuel (0 : Int32) (μ 0 0 0) μ)
set_option maxRecDepth 100000 in
set_option maxHeartbeats 4000000 in
theorem c_X5_mend (l : Launch) {D : va_G} {ca : Nat → ClassId} {base : Nat} {ad : Nat → Nat → Nat} {n np : Nat} {μ : Mem} {post : Int32 → Mem → Prop} (h : w_X5_mend post μ) : ZMet l yX5_mend cX5_mend 4 (some FieldType.int) ({ frames := 4, cells := 0, slots := 0, locals := 99 } : Room) 0 0 D ca base ad n np [.ref (ad 0 0)] μ (zpi post) := by
  unfold ZMet
  refine Met.ofW (cc := cX5_mend) (maxL := 4) (ret := (some FieldType.int)) (by decide) rfl ?_
  intro p e s m args below meth c s₁ B hml hv
  obtain ⟨rfl, hU⟩ := hv
  have hZ := hU.toS
  have hC : ZC p m meth c s RX5 cX5_mend 4 := ⟨B.exec, B.bytes, hml, findClass_of_methodNamed B.named, B.notSynchronized⟩
  have hr := B.returns
  have key : W p l e ({ frames := 4, cells := 0, slots := 0, locals := 99 } : Room) s m (([.ref (ad 0 0)] : List Value).toArray) below meth c s.heap [] 0 0 (MQ below (ZQ D ca base ad n np (zpi post)) (([.ref (ad 0 0)] : List Value).toArray) s 0 0 (zB base)) (entryFrame m (([.ref (ad 0 0)] : List Value).toArray) 4) := by
    have hl := lv_entry ([.ref (ad 0 0)]) (n := 4) (Nat.le_of_ble_eq_true rfl)
    rw [lg_entry_eq]
    generalize (lg_sl ([.ref (ad 0 0)]) ++ List.replicate (4 - (lg_sl ([.ref (ad 0 0)])).length) Slot.unset).toArray = ls at hl ⊢
    have hl : lv_has ls 4 [(0, .ref (ad 0 0))] := hl
    unfold w_X5_mend at h
    refine lv_iconst (v := 0) hC.1 hC.2.1 dX5_mend_0 (by decide) ?_
    refine lv_istore_n (lv' := [(1, .int 0), (0, .ref (ad 0 0))]) hC.1 hC.2.1 dX5_mend_1 rfl hl (by decide) rfl (fun ls hl => ?_)
    refine lv_aload_n hC.1 hC.2.1 dX5_mend_2 rfl (lv_at hl 1 rfl) ?_
    refine gX5_0 hC hZ kf_X5_85 dX5_mend_3 ?_
    refine lv_istore_n (lv' := [(2, .int (μ 0 0 0)), (1, .int 0), (0, .ref (ad 0 0))]) hC.1 hC.2.1 dX5_mend_6 rfl hl (by decide) rfl (fun ls hl => ?_)
    obtain ⟨fuel, h⟩ := h
    exact t_X5_mend_7 (l := l) hC hr _ _ _ _ _ _ _ h hZ (lv_sub hl [2, 1, 0] rfl)
  exact key
def b_X5_bestSwap_97 (post : Int32 → Mem → Prop) (k12 : Int32 → Int32 → Int32 → Mem → Prop) (k23 : Int32 → Int32 → Int32 → Int32 → Mem → Prop) (v1 : Int32) (v2 : Int32) (v3 : Int32) (v4 : Int32) (μ : Mem) : Prop := k23 v1 v2 v3 (v4 + 1) μ
set_option maxRecDepth 100000 in
set_option maxHeartbeats 4000000 in
theorem t_X5_bestSwap_97 {p : Program} {l : Launch} {e : Env} {s : State} {m : MethodId} {args : Array Value} {below : List Frame} {meth : Method} {c : Code} {D : va_G} {ca : Nat → ClassId} {base : Nat} {ad : Nat → Nat → Nat} {n np : Nat} {post : Int32 → Mem → Prop} {k12 : Int32 → Int32 → Int32 → Mem → Prop} {k23 : Int32 → Int32 → Int32 → Int32 → Mem → Prop} (hC : ZC p m meth c s RX5 cX5_bestSwap 6) (hr : meth.sig.returnType = (some FieldType.int)) (hk12 : ∀ (v1 : Int32) (v2 : Int32) (v3 : Int32) (μ : Mem) (H : Heap) (locs : List Loc) (ls : Array Slot), k12 v1 v2 v3 μ → ZS D ca base ad n np μ s H locs → lv_has ls 6 [(0, .ref (ad 0 0)), (1, .int v1), (2, .int v2), (3, .int v3)] → W p l e ({ frames := 3, cells := 0, slots := 0, locals := 73 } : Room) s m args below meth c H locs 0 0 (MQ below (ZQ D ca base ad n np (zpi post)) args s 0 0 (zB base)) (F0 m 12 ls [])) (hk23 : ∀ (v1 : Int32) (v2 : Int32) (v3 : Int32) (v4 : Int32) (μ : Mem) (H : Heap) (locs : List Loc) (ls : Array Slot), k23 v1 v2 v3 v4 μ → ZS D ca base ad n np μ s H locs → lv_has ls 6 [(0, .ref (ad 0 0)), (1, .int v1), (2, .int v2), (3, .int v3), (4, .int v4)] → W p l e ({ frames := 3, cells := 0, slots := 0, locals := 73 } : Room) s m args below meth c H locs 0 0 (MQ below (ZQ D ca base ad n np (zpi post)) args s 0 0 (zB base)) (F0 m 23 ls [])) (v1 : Int32) (v2 : Int32) (v3 : Int32) (v4 : Int32) (μ : Mem) (H : Heap) (locs : List Loc) (ls : Array Slot) (h : b_X5_bestSwap_97 post k12 k23 v1 v2 v3 v4 μ) (hZ : ZS D ca base ad n np μ s H locs) (hl : lv_has ls 6 [(0, .ref (ad 0 0)), (1, .int v1), (2, .int v2), (3, .int v3), (4, .int v4)]) : W p l e ({ frames := 3, cells := 0, slots := 0, locals := 73 } : Room) s m args below meth c H locs 0 0 (MQ below (ZQ D ca base ad n np (zpi post)) args s 0 0 (zB base)) (F0 m 97 ls []) := by
  unfold b_X5_bestSwap_97 at h
  refine lv_iinc (v := v4 + 1) (lv' := [(4, .int (v4 + 1)), (0, .ref (ad 0 0)), (1, .int v1), (2, .int v2), (3, .int v3)]) hC.1 hC.2.1 dX5_bestSwap_97 hl (k := 4) rfl rfl (by decide) rfl (fun ls hl => ?_)
  refine lv_goto (tgt := 23) hC.1 hC.2.1 dX5_bestSwap_100 (by decide) ?_
  exact hk23 _ _ _ _ _ _ _ _ h hZ (lv_sub hl [1, 2, 3, 4, 0] rfl)
def b_X5_bestSwap_89 (post : Int32 → Mem → Prop) (k12 : Int32 → Int32 → Int32 → Mem → Prop) (k23 : Int32 → Int32 → Int32 → Int32 → Mem → Prop) (v2 : Int32) (v3 : Int32) (v4 : Int32) (s0 : Int32) (μ : Mem) : Prop := (w_X5_swaps (fun (μ14 : Mem) => b_X5_bestSwap_97 post k12 k23 s0 v2 v3 v4 μ14) v3 v4 μ)
set_option maxRecDepth 100000 in
set_option maxHeartbeats 4000000 in
theorem t_X5_bestSwap_89 {p : Program} {l : Launch} {e : Env} {s : State} {m : MethodId} {args : Array Value} {below : List Frame} {meth : Method} {c : Code} {D : va_G} {ca : Nat → ClassId} {base : Nat} {ad : Nat → Nat → Nat} {n np : Nat} {post : Int32 → Mem → Prop} {k12 : Int32 → Int32 → Int32 → Mem → Prop} {k23 : Int32 → Int32 → Int32 → Int32 → Mem → Prop} (hC : ZC p m meth c s RX5 cX5_bestSwap 6) (hr : meth.sig.returnType = (some FieldType.int)) (hk12 : ∀ (v1 : Int32) (v2 : Int32) (v3 : Int32) (μ : Mem) (H : Heap) (locs : List Loc) (ls : Array Slot), k12 v1 v2 v3 μ → ZS D ca base ad n np μ s H locs → lv_has ls 6 [(0, .ref (ad 0 0)), (1, .int v1), (2, .int v2), (3, .int v3)] → W p l e ({ frames := 3, cells := 0, slots := 0, locals := 73 } : Room) s m args below meth c H locs 0 0 (MQ below (ZQ D ca base ad n np (zpi post)) args s 0 0 (zB base)) (F0 m 12 ls [])) (hk23 : ∀ (v1 : Int32) (v2 : Int32) (v3 : Int32) (v4 : Int32) (μ : Mem) (H : Heap) (locs : List Loc) (ls : Array Slot), k23 v1 v2 v3 v4 μ → ZS D ca base ad n np μ s H locs → lv_has ls 6 [(0, .ref (ad 0 0)), (1, .int v1), (2, .int v2), (3, .int v3), (4, .int v4)] → W p l e ({ frames := 3, cells := 0, slots := 0, locals := 73 } : Room) s m args below meth c H locs 0 0 (MQ below (ZQ D ca base ad n np (zpi post)) args s 0 0 (zB base)) (F0 m 23 ls [])) (v2 : Int32) (v3 : Int32) (v4 : Int32) (s0 : Int32) (μ : Mem) (H : Heap) (locs : List Loc) (ls : Array Slot) (h : b_X5_bestSwap_89 post k12 k23 v2 v3 v4 s0 μ) (hZ : ZS D ca base ad n np μ s H locs) (hl : lv_has ls 6 [(0, .ref (ad 0 0)), (2, .int v2), (3, .int v3), (4, .int v4)]) : W p l e ({ frames := 3, cells := 0, slots := 0, locals := 73 } : Room) s m args below meth c H locs 0 0 (MQ below (ZQ D ca base ad n np (zpi post)) args s 0 0 (zB base)) (F0 m 89 ls [.int s0]) := by
  unfold b_X5_bestSwap_89 at h
  refine lv_istore_n (lv' := [(1, .int s0), (0, .ref (ad 0 0)), (2, .int v2), (3, .int v3), (4, .int v4)]) hC.1 hC.2.1 dX5_bestSwap_89 rfl hl (by decide) rfl (fun ls hl => ?_)
  refine lv_aload_n hC.1 hC.2.1 dX5_bestSwap_90 rfl (lv_at hl 1 rfl) ?_
  refine lv_iload_n hC.1 hC.2.1 dX5_bestSwap_91 rfl (lv_at hl 3 rfl) ?_
  refine lv_iload hC.1 hC.2.1 dX5_bestSwap_92 (lv_at hl 4 rfl) ?_
  refine z_cVv (As := [.int v3, .int v4]) hC hZ (zF_0 _) rfl zy_X5_swaps (c_X5_swaps l h) km_X5_143 rfl ⟨rfl, rfl⟩ ⟨Nat.le_of_ble_eq_true rfl, Nat.le_of_ble_eq_true rfl⟩ hl.1 rfl (Nat.le_of_ble_eq_true rfl) dX5_bestSwap_94 ⟨Nat.le_of_ble_eq_true rfl, Nat.le_of_ble_eq_true rfl⟩ (fun μ14 H locs h hZ => ?_)
  exact t_X5_bestSwap_97 (l := l) hC hr hk12 hk23 _ _ _ _ _ _ _ _ h hZ (lv_sub hl [1, 0, 2, 3, 4] rfl)
def b_X5_bestSwap_76 (post : Int32 → Mem → Prop) (k12 : Int32 → Int32 → Int32 → Mem → Prop) (k23 : Int32 → Int32 → Int32 → Int32 → Mem → Prop) (v1 : Int32) (v3 : Int32) (v4 : Int32) (v5 : Int32) (s0 : Int32) (μ : Mem) : Prop := ((v1 ≤ v5 → b_X5_bestSwap_89 post k12 k23 s0 v3 v4 v1 μ) ∧ (¬ v1 ≤ v5 → b_X5_bestSwap_89 post k12 k23 s0 v3 v4 v5 μ))
set_option maxRecDepth 100000 in
set_option maxHeartbeats 4000000 in
theorem t_X5_bestSwap_76 {p : Program} {l : Launch} {e : Env} {s : State} {m : MethodId} {args : Array Value} {below : List Frame} {meth : Method} {c : Code} {D : va_G} {ca : Nat → ClassId} {base : Nat} {ad : Nat → Nat → Nat} {n np : Nat} {post : Int32 → Mem → Prop} {k12 : Int32 → Int32 → Int32 → Mem → Prop} {k23 : Int32 → Int32 → Int32 → Int32 → Mem → Prop} (hC : ZC p m meth c s RX5 cX5_bestSwap 6) (hr : meth.sig.returnType = (some FieldType.int)) (hk12 : ∀ (v1 : Int32) (v2 : Int32) (v3 : Int32) (μ : Mem) (H : Heap) (locs : List Loc) (ls : Array Slot), k12 v1 v2 v3 μ → ZS D ca base ad n np μ s H locs → lv_has ls 6 [(0, .ref (ad 0 0)), (1, .int v1), (2, .int v2), (3, .int v3)] → W p l e ({ frames := 3, cells := 0, slots := 0, locals := 73 } : Room) s m args below meth c H locs 0 0 (MQ below (ZQ D ca base ad n np (zpi post)) args s 0 0 (zB base)) (F0 m 12 ls [])) (hk23 : ∀ (v1 : Int32) (v2 : Int32) (v3 : Int32) (v4 : Int32) (μ : Mem) (H : Heap) (locs : List Loc) (ls : Array Slot), k23 v1 v2 v3 v4 μ → ZS D ca base ad n np μ s H locs → lv_has ls 6 [(0, .ref (ad 0 0)), (1, .int v1), (2, .int v2), (3, .int v3), (4, .int v4)] → W p l e ({ frames := 3, cells := 0, slots := 0, locals := 73 } : Room) s m args below meth c H locs 0 0 (MQ below (ZQ D ca base ad n np (zpi post)) args s 0 0 (zB base)) (F0 m 23 ls [])) (v1 : Int32) (v3 : Int32) (v4 : Int32) (v5 : Int32) (s0 : Int32) (μ : Mem) (H : Heap) (locs : List Loc) (ls : Array Slot) (h : b_X5_bestSwap_76 post k12 k23 v1 v3 v4 v5 s0 μ) (hZ : ZS D ca base ad n np μ s H locs) (hl : lv_has ls 6 [(0, .ref (ad 0 0)), (1, .int v1), (3, .int v3), (4, .int v4), (5, .int v5)]) : W p l e ({ frames := 3, cells := 0, slots := 0, locals := 73 } : Room) s m args below meth c H locs 0 0 (MQ below (ZQ D ca base ad n np (zpi post)) args s 0 0 (zB base)) (F0 m 76 ls [.int s0]) := by
  unfold b_X5_bestSwap_76 at h
  refine lv_istore_n (lv' := [(2, .int s0), (0, .ref (ad 0 0)), (1, .int v1), (3, .int v3), (4, .int v4), (5, .int v5)]) hC.1 hC.2.1 dX5_bestSwap_76 rfl hl (by decide) rfl (fun ls hl => ?_)
  refine lv_iload hC.1 hC.2.1 dX5_bestSwap_77 (lv_at hl 5 rfl) ?_
  refine lv_iload_n hC.1 hC.2.1 dX5_bestSwap_79 rfl (lv_at hl 2 rfl) ?_
  refine lv_icmp_ge (tgt := 88) hC.1 hC.2.1 dX5_bestSwap_80 (by decide) (fun c13 => ?_) (fun c13 => ?_)
  · have h := h.1 c13
    refine lv_iload_n hC.1 hC.2.1 dX5_bestSwap_88 rfl (lv_at hl 2 rfl) ?_
    exact t_X5_bestSwap_89 (l := l) hC hr hk12 hk23 _ _ _ _ _ _ _ _ h hZ (lv_sub hl [1, 0, 3, 4] rfl)
  · have h := h.2 c13
    refine lv_iload hC.1 hC.2.1 dX5_bestSwap_83 (lv_at hl 5 rfl) ?_
    refine lv_goto (tgt := 89) hC.1 hC.2.1 dX5_bestSwap_85 (by decide) ?_
    exact t_X5_bestSwap_89 (l := l) hC hr hk12 hk23 _ _ _ _ _ _ _ _ h hZ (lv_sub hl [1, 0, 3, 4] rfl)
def lb_X5_bestSwap_23 (post : Int32 → Mem → Prop) (k12 : Int32 → Int32 → Int32 → Mem → Prop) (k23 : Int32 → Int32 → Int32 → Int32 → Mem → Prop) (v1 : Int32) (v2 : Int32) (v3 : Int32) (v4 : Int32) (μ : Mem) : Prop := ((30 ≤ v4 → k12 v1 v2 (v3 + 1) μ) ∧ (¬ 30 ≤ v4 → (vp_in v3 30 ∧ (vp_in v4 30 ∧ (((μ 8 0 v3.toNatClampNeg) = (μ 8 0 v4.toNatClampNeg) → b_X5_bestSwap_97 post k12 k23 v1 v2 v3 v4 μ) ∧ (¬ (μ 8 0 v3.toNatClampNeg) = (μ 8 0 v4.toNatClampNeg) → (w_X5_swaps (fun (μ8 : Mem) => (w_X5_costs (fun (r11 : Int32) (μ10 : Mem) => ((v1 ≤ r11 → b_X5_bestSwap_76 post k12 k23 v1 v3 v4 r11 v2 μ10) ∧ (¬ v1 ≤ r11 → b_X5_bestSwap_76 post k12 k23 v1 v3 v4 r11 ((30 * v3) + v4) μ10))) μ8)) v3 v4 μ)))))))
def l_X5_bestSwap_23 (post : Int32 → Mem → Prop) (k12 : Int32 → Int32 → Int32 → Mem → Prop) : Nat → Int32 → Int32 → Int32 → Int32 → Mem → Prop
  | 0 => fun _ _ _ _ _ => False
  | fuel + 1 => lb_X5_bestSwap_23 post k12 (l_X5_bestSwap_23 post k12 fuel) 
set_option maxRecDepth 100000 in
set_option maxHeartbeats 4000000 in
theorem t_X5_bestSwap_23 {p : Program} {l : Launch} {e : Env} {s : State} {m : MethodId} {args : Array Value} {below : List Frame} {meth : Method} {c : Code} {D : va_G} {ca : Nat → ClassId} {base : Nat} {ad : Nat → Nat → Nat} {n np : Nat} {post : Int32 → Mem → Prop} {k12 : Int32 → Int32 → Int32 → Mem → Prop} (hC : ZC p m meth c s RX5 cX5_bestSwap 6) (hr : meth.sig.returnType = (some FieldType.int)) (hk12 : ∀ (v1 : Int32) (v2 : Int32) (v3 : Int32) (μ : Mem) (H : Heap) (locs : List Loc) (ls : Array Slot), k12 v1 v2 v3 μ → ZS D ca base ad n np μ s H locs → lv_has ls 6 [(0, .ref (ad 0 0)), (1, .int v1), (2, .int v2), (3, .int v3)] → W p l e ({ frames := 3, cells := 0, slots := 0, locals := 73 } : Room) s m args below meth c H locs 0 0 (MQ below (ZQ D ca base ad n np (zpi post)) args s 0 0 (zB base)) (F0 m 12 ls [])) : ∀ (fuel : Nat) (v1 : Int32) (v2 : Int32) (v3 : Int32) (v4 : Int32) (μ : Mem) (H : Heap) (locs : List Loc) (ls : Array Slot), l_X5_bestSwap_23 post k12 fuel v1 v2 v3 v4 μ → ZS D ca base ad n np μ s H locs → lv_has ls 6 [(0, .ref (ad 0 0)), (1, .int v1), (2, .int v2), (3, .int v3), (4, .int v4)] → W p l e ({ frames := 3, cells := 0, slots := 0, locals := 73 } : Room) s m args below meth c H locs 0 0 (MQ below (ZQ D ca base ad n np (zpi post)) args s 0 0 (zB base)) (F0 m 23 ls []) := by
  intro fuel
  induction fuel with
  | zero => exact fun _ _ _ _ _ _ _ _ h => h.elim
  | succ fuel hk23 =>
    intro v1 v2 v3 v4 μ H locs ls h hZ hl
    have h : lb_X5_bestSwap_23 post k12 (l_X5_bestSwap_23 post k12 fuel) v1 v2 v3 v4 μ := h
    unfold lb_X5_bestSwap_23 at h
    refine lv_iload hC.1 hC.2.1 dX5_bestSwap_23 (lv_at hl 4 rfl) ?_
    refine lv_bipush (v := 30) hC.1 hC.2.1 dX5_bestSwap_25 (by decide) ?_
    refine lv_icmp_ge (tgt := 103) hC.1 hC.2.1 dX5_bestSwap_27 (by decide) (fun c4 => ?_) (fun c4 => ?_)
    · have h := h.1 c4
      refine lv_iinc (v := v3 + 1) (lv' := [(3, .int (v3 + 1)), (0, .ref (ad 0 0)), (1, .int v1), (2, .int v2), (4, .int v4)]) hC.1 hC.2.1 dX5_bestSwap_103 hl (k := 3) rfl rfl (by decide) rfl (fun ls hl => ?_)
      refine lv_goto (tgt := 12) hC.1 hC.2.1 dX5_bestSwap_106 (by decide) ?_
      exact hk12 _ _ _ _ _ _ _ h hZ (lv_sub hl [1, 2, 3, 0] rfl)
    · have h := h.2 c4
      refine lv_aload_n hC.1 hC.2.1 dX5_bestSwap_30 rfl (lv_at hl 0 rfl) ?_
      refine gX5_11 hC hZ kf_X5_35 dX5_bestSwap_31 ?_
      refine lv_iload_n hC.1 hC.2.1 dX5_bestSwap_34 rfl (lv_at hl 3 rfl) ?_
      obtain ⟨q5, h⟩ := h
      refine aL_8 hC hZ q5 dX5_bestSwap_35 ?_
      refine lv_aload_n hC.1 hC.2.1 dX5_bestSwap_36 rfl (lv_at hl 0 rfl) ?_
      refine gX5_11 hC hZ kf_X5_35 dX5_bestSwap_37 ?_
      refine lv_iload hC.1 hC.2.1 dX5_bestSwap_40 (lv_at hl 4 rfl) ?_
      obtain ⟨q6, h⟩ := h
      refine aL_8 hC hZ q6 dX5_bestSwap_42 ?_
      refine lv_icmp_eq (tgt := 97) hC.1 hC.2.1 dX5_bestSwap_43 (by decide) (fun c7 => ?_) (fun c7 => ?_)
      · have h := h.1 c7
        exact t_X5_bestSwap_97 (l := l) hC hr hk12 hk23 _ _ _ _ _ _ _ _ h hZ (lv_sub hl [0, 1, 2, 3, 4] rfl)
      · have h := h.2 c7
        refine lv_aload_n hC.1 hC.2.1 dX5_bestSwap_46 rfl (lv_at hl 0 rfl) ?_
        refine lv_iload_n hC.1 hC.2.1 dX5_bestSwap_47 rfl (lv_at hl 3 rfl) ?_
        refine lv_iload hC.1 hC.2.1 dX5_bestSwap_48 (lv_at hl 4 rfl) ?_
        refine z_cVv (As := [.int v3, .int v4]) hC hZ (zF_0 _) rfl zy_X5_swaps (c_X5_swaps l h) km_X5_143 rfl ⟨rfl, rfl⟩ ⟨Nat.le_of_ble_eq_true rfl, Nat.le_of_ble_eq_true rfl⟩ hl.1 rfl (Nat.le_of_ble_eq_true rfl) dX5_bestSwap_50 ⟨Nat.le_of_ble_eq_true rfl, Nat.le_of_ble_eq_true rfl⟩ (fun μ8 H locs h hZ => ?_)
        refine lv_aload_n hC.1 hC.2.1 dX5_bestSwap_53 rfl (lv_at hl 0 rfl) ?_
        refine z_cVi (As := []) hC hZ (zF_0 _) rfl zy_X5_costs (c_X5_costs l h) km_X5_146 rfl ⟨rfl, rfl⟩ ⟨Nat.le_of_ble_eq_true rfl, Nat.le_of_ble_eq_true rfl⟩ hl.1 rfl (Nat.le_of_ble_eq_true rfl) dX5_bestSwap_54 ⟨Nat.le_of_ble_eq_true rfl, Nat.le_of_ble_eq_true rfl⟩ (fun r11 μ10 H locs h hZ => ?_)
        refine lv_istore (lv' := [(5, .int r11), (0, .ref (ad 0 0)), (1, .int v1), (2, .int v2), (3, .int v3), (4, .int v4)]) hC.1 hC.2.1 dX5_bestSwap_57 hl (by decide) rfl (fun ls hl => ?_)
        refine lv_iload hC.1 hC.2.1 dX5_bestSwap_59 (lv_at hl 0 rfl) ?_
        refine lv_iload_n hC.1 hC.2.1 dX5_bestSwap_61 rfl (lv_at hl 2 rfl) ?_
        refine lv_icmp_ge (tgt := 75) hC.1 hC.2.1 dX5_bestSwap_62 (by decide) (fun c12 => ?_) (fun c12 => ?_)
        · have h := h.1 c12
          refine lv_iload_n hC.1 hC.2.1 dX5_bestSwap_75 rfl (lv_at hl 3 rfl) ?_
          exact t_X5_bestSwap_76 (l := l) hC hr hk12 hk23 _ _ _ _ _ _ _ _ _ h hZ (lv_sub hl [1, 2, 4, 5, 0] rfl)
        · have h := h.2 c12
          refine lv_bipush (v := 30) hC.1 hC.2.1 dX5_bestSwap_65 (by decide) ?_
          refine lv_iload_n hC.1 hC.2.1 dX5_bestSwap_67 rfl (lv_at hl 4 rfl) ?_
          refine lv_imul hC.1 hC.2.1 dX5_bestSwap_68 ?_
          refine lv_iload hC.1 hC.2.1 dX5_bestSwap_69 (lv_at hl 5 rfl) ?_
          refine lv_iadd hC.1 hC.2.1 dX5_bestSwap_71 ?_
          refine lv_goto (tgt := 76) hC.1 hC.2.1 dX5_bestSwap_72 (by decide) ?_
          exact t_X5_bestSwap_76 (l := l) hC hr hk12 hk23 _ _ _ _ _ _ _ _ _ h hZ (lv_sub hl [1, 2, 4, 5, 0] rfl)
def lb_X5_bestSwap_12 (post : Int32 → Mem → Prop) (k12 : Int32 → Int32 → Int32 → Mem → Prop) (v1 : Int32) (v2 : Int32) (v3 : Int32) (μ : Mem) : Prop := ((30 ≤ v3 → post v2 μ) ∧ (¬ 30 ≤ v3 → (∃ fuel : Nat, l_X5_bestSwap_23 post k12 fuel v1 v2 v3 (v3 + 1) μ)))
def l_X5_bestSwap_12 (post : Int32 → Mem → Prop) : Nat → Int32 → Int32 → Int32 → Mem → Prop
  | 0 => fun _ _ _ _ => False
  | fuel + 1 => lb_X5_bestSwap_12 post (l_X5_bestSwap_12 post fuel) 
set_option maxRecDepth 100000 in
set_option maxHeartbeats 4000000 in
theorem t_X5_bestSwap_12 {p : Program} {l : Launch} {e : Env} {s : State} {m : MethodId} {args : Array Value} {below : List Frame} {meth : Method} {c : Code} {D : va_G} {ca : Nat → ClassId} {base : Nat} {ad : Nat → Nat → Nat} {n np : Nat} {post : Int32 → Mem → Prop} (hC : ZC p m meth c s RX5 cX5_bestSwap 6) (hr : meth.sig.returnType = (some FieldType.int)) : ∀ (fuel : Nat) (v1 : Int32) (v2 : Int32) (v3 : Int32) (μ : Mem) (H : Heap) (locs : List Loc) (ls : Array Slot), l_X5_bestSwap_12 post fuel v1 v2 v3 μ → ZS D ca base ad n np μ s H locs → lv_has ls 6 [(0, .ref (ad 0 0)), (1, .int v1), (2, .int v2), (3, .int v3)] → W p l e ({ frames := 3, cells := 0, slots := 0, locals := 73 } : Room) s m args below meth c H locs 0 0 (MQ below (ZQ D ca base ad n np (zpi post)) args s 0 0 (zB base)) (F0 m 12 ls []) := by
  intro fuel
  induction fuel with
  | zero => exact fun _ _ _ _ _ _ _ h => h.elim
  | succ fuel hk12 =>
    intro v1 v2 v3 μ H locs ls h hZ hl
    have h : lb_X5_bestSwap_12 post (l_X5_bestSwap_12 post fuel) v1 v2 v3 μ := h
    unfold lb_X5_bestSwap_12 at h
    refine lv_iload_n hC.1 hC.2.1 dX5_bestSwap_12 rfl (lv_at hl 3 rfl) ?_
    refine lv_bipush (v := 30) hC.1 hC.2.1 dX5_bestSwap_13 (by decide) ?_
    refine lv_icmp_ge (tgt := 109) hC.1 hC.2.1 dX5_bestSwap_15 (by decide) (fun c3 => ?_) (fun c3 => ?_)
    · have h := h.1 c3
      refine lv_iload_n hC.1 hC.2.1 dX5_bestSwap_109 rfl (lv_at hl 2 rfl) ?_
      exact z_iret hC hr hZ h dX5_bestSwap_110 (Nat.le_of_ble_eq_true rfl) (Nat.le_of_ble_eq_true rfl)
    · have h := h.2 c3
      refine lv_iload_n hC.1 hC.2.1 dX5_bestSwap_18 rfl (lv_at hl 3 rfl) ?_
      refine lv_iconst (v := 1) hC.1 hC.2.1 dX5_bestSwap_19 (by decide) ?_
      refine lv_iadd hC.1 hC.2.1 dX5_bestSwap_20 ?_
      refine lv_istore (lv' := [(4, .int (v3 + 1)), (0, .ref (ad 0 0)), (1, .int v1), (2, .int v2), (3, .int v3)]) hC.1 hC.2.1 dX5_bestSwap_21 hl (by decide) rfl (fun ls hl => ?_)
      obtain ⟨fuel, h⟩ := h
      exact t_X5_bestSwap_23 (l := l) hC hr hk12 _ _ _ _ _ _ _ _ _ h hZ (lv_sub hl [1, 2, 3, 4, 0] rfl)
def w_X5_bestSwap (post : Int32 → Mem → Prop) (μ : Mem) : Prop := (w_X5_costs (fun (r2 : Int32) (μ1 : Mem) => (∃ fuel : Nat, l_X5_bestSwap_12 post fuel r2 (-1 : Int32) (μ1 0 0 0) μ1)) μ)
set_option maxRecDepth 100000 in
set_option maxHeartbeats 4000000 in
theorem c_X5_bestSwap (l : Launch) {D : va_G} {ca : Nat → ClassId} {base : Nat} {ad : Nat → Nat → Nat} {n np : Nat} {μ : Mem} {post : Int32 → Mem → Prop} (h : w_X5_bestSwap post μ) : ZMet l yX5_bestSwap cX5_bestSwap 6 (some FieldType.int) ({ frames := 3, cells := 0, slots := 0, locals := 73 } : Room) 0 0 D ca base ad n np [.ref (ad 0 0)] μ (zpi post) := by
  unfold ZMet
  refine Met.ofW (cc := cX5_bestSwap) (maxL := 6) (ret := (some FieldType.int)) (by decide) rfl ?_
  intro p e s m args below meth c s₁ B hml hv
  obtain ⟨rfl, hU⟩ := hv
  have hZ := hU.toS
  have hC : ZC p m meth c s RX5 cX5_bestSwap 6 := ⟨B.exec, B.bytes, hml, findClass_of_methodNamed B.named, B.notSynchronized⟩
  have hr := B.returns
  have key : W p l e ({ frames := 3, cells := 0, slots := 0, locals := 73 } : Room) s m (([.ref (ad 0 0)] : List Value).toArray) below meth c s.heap [] 0 0 (MQ below (ZQ D ca base ad n np (zpi post)) (([.ref (ad 0 0)] : List Value).toArray) s 0 0 (zB base)) (entryFrame m (([.ref (ad 0 0)] : List Value).toArray) 6) := by
    have hl := lv_entry ([.ref (ad 0 0)]) (n := 6) (Nat.le_of_ble_eq_true rfl)
    rw [lg_entry_eq]
    generalize (lg_sl ([.ref (ad 0 0)]) ++ List.replicate (6 - (lg_sl ([.ref (ad 0 0)])).length) Slot.unset).toArray = ls at hl ⊢
    have hl : lv_has ls 6 [(0, .ref (ad 0 0))] := hl
    unfold w_X5_bestSwap at h
    refine lv_aload_n hC.1 hC.2.1 dX5_bestSwap_0 rfl (lv_at hl 0 rfl) ?_
    refine z_cVi (As := []) hC hZ (zF_0 _) rfl zy_X5_costs (c_X5_costs l h) km_X5_146 rfl ⟨rfl, rfl⟩ ⟨Nat.le_of_ble_eq_true rfl, Nat.le_of_ble_eq_true rfl⟩ hl.1 rfl (Nat.le_of_ble_eq_true rfl) dX5_bestSwap_1 ⟨Nat.le_of_ble_eq_true rfl, Nat.le_of_ble_eq_true rfl⟩ (fun r2 μ1 H locs h hZ => ?_)
    refine lv_istore_n (lv' := [(1, .int r2), (0, .ref (ad 0 0))]) hC.1 hC.2.1 dX5_bestSwap_4 rfl hl (by decide) rfl (fun ls hl => ?_)
    refine lv_iconst (v := (-1)) hC.1 hC.2.1 dX5_bestSwap_5 (by decide) ?_
    refine lv_istore_n (lv' := [(2, .int (-1)), (1, .int r2), (0, .ref (ad 0 0))]) hC.1 hC.2.1 dX5_bestSwap_6 rfl hl (by decide) rfl (fun ls hl => ?_)
    refine lv_aload_n hC.1 hC.2.1 dX5_bestSwap_7 rfl (lv_at hl 2 rfl) ?_
    refine gX5_0 hC hZ kf_X5_85 dX5_bestSwap_8 ?_
    refine lv_istore_n (lv' := [(3, .int (μ1 0 0 0)), (2, .int (-1)), (1, .int r2), (0, .ref (ad 0 0))]) hC.1 hC.2.1 dX5_bestSwap_11 rfl hl (by decide) rfl (fun ls hl => ?_)
    obtain ⟨fuel, h⟩ := h
    exact t_X5_bestSwap_12 (l := l) hC hr _ _ _ _ _ _ _ _ h hZ (lv_sub hl [3, 2, 1, 0] rfl)
  exact key
def lb_X5_better_7 (post : Int32 → Mem → Prop) (k7 : Int32 → Int32 → Mem → Prop) (v1 : Int32) (v2 : Int32) (μ : Mem) : Prop := ((v2 = (-1) → (w_X5_told (fun (r5 : Int32) (μ4 : Mem) => post r5 μ4) v1 μ)) ∧ (¬ v2 = (-1) → (w_X5_swaps (fun (μ6 : Mem) => (w_X5_bestSwap (fun (r9 : Int32) (μ8 : Mem) => k7 (v1 + 1) r9 μ8) μ6)) (v2 / 30) (v2 - v2 / 30 * 30) μ)))
def l_X5_better_7 (post : Int32 → Mem → Prop) : Nat → Int32 → Int32 → Mem → Prop
  | 0 => fun _ _ _ => False
  | fuel + 1 => lb_X5_better_7 post (l_X5_better_7 post fuel) 
set_option maxRecDepth 100000 in
set_option maxHeartbeats 4000000 in
theorem t_X5_better_7 {p : Program} {l : Launch} {e : Env} {s : State} {m : MethodId} {args : Array Value} {below : List Frame} {meth : Method} {c : Code} {D : va_G} {ca : Nat → ClassId} {base : Nat} {ad : Nat → Nat → Nat} {n np : Nat} {post : Int32 → Mem → Prop} (hC : ZC p m meth c s RX5 cX5_better 3) (hr : meth.sig.returnType = (some FieldType.int)) : ∀ (fuel : Nat) (v1 : Int32) (v2 : Int32) (μ : Mem) (H : Heap) (locs : List Loc) (ls : Array Slot), l_X5_better_7 post fuel v1 v2 μ → ZS D ca base ad n np μ s H locs → lv_has ls 3 [(0, .ref (ad 0 0)), (1, .int v1), (2, .int v2)] → W p l e ({ frames := 4, cells := 0, slots := 0, locals := 98 } : Room) s m args below meth c H locs 0 0 (MQ below (ZQ D ca base ad n np (zpi post)) args s 0 0 (zB base)) (F0 m 7 ls []) := by
  intro fuel
  induction fuel with
  | zero => exact fun _ _ _ _ _ _ h => h.elim
  | succ fuel hk7 =>
    intro v1 v2 μ H locs ls h hZ hl
    have h : lb_X5_better_7 post (l_X5_better_7 post fuel) v1 v2 μ := h
    unfold lb_X5_better_7 at h
    refine lv_iload_n hC.1 hC.2.1 dX5_better_7 rfl (lv_at hl 2 rfl) ?_
    refine lv_iconst (v := (-1)) hC.1 hC.2.1 dX5_better_8 (by decide) ?_
    refine lv_icmp_eq (tgt := 35) hC.1 hC.2.1 dX5_better_9 (by decide) (fun c3 => ?_) (fun c3 => ?_)
    · have h := h.1 c3
      refine lv_aload_n hC.1 hC.2.1 dX5_better_35 rfl (lv_at hl 0 rfl) ?_
      refine lv_iload_n hC.1 hC.2.1 dX5_better_36 rfl (lv_at hl 1 rfl) ?_
      refine z_cVi (As := [.int v1]) hC hZ (zF_0 _) rfl zy_X5_told (c_X5_told l h) km_X5_162 rfl ⟨rfl, rfl⟩ ⟨Nat.le_of_ble_eq_true rfl, Nat.le_of_ble_eq_true rfl⟩ hl.1 rfl (Nat.le_of_ble_eq_true rfl) dX5_better_37 ⟨Nat.le_of_ble_eq_true rfl, Nat.le_of_ble_eq_true rfl⟩ (fun r5 μ4 H locs h hZ => ?_)
      exact z_iret hC hr hZ h dX5_better_40 (Nat.le_of_ble_eq_true rfl) (Nat.le_of_ble_eq_true rfl)
    · have h := h.2 c3
      refine lv_aload_n hC.1 hC.2.1 dX5_better_12 rfl (lv_at hl 0 rfl) ?_
      refine lv_iload_n hC.1 hC.2.1 dX5_better_13 rfl (lv_at hl 2 rfl) ?_
      refine lv_bipush (v := 30) hC.1 hC.2.1 dX5_better_14 (by decide) ?_
      refine lv_idiv hC.1 hC.2.1 dX5_better_16 (by decide) ?_
      refine lv_iload_n hC.1 hC.2.1 dX5_better_17 rfl (lv_at hl 2 rfl) ?_
      refine lv_bipush (v := 30) hC.1 hC.2.1 dX5_better_18 (by decide) ?_
      refine lv_irem hC.1 hC.2.1 dX5_better_20 (by decide) ?_
      refine z_cVv (As := [.int (v2 / 30), .int (v2 - v2 / 30 * 30)]) hC hZ (zF_0 _) rfl zy_X5_swaps (c_X5_swaps l h) km_X5_143 rfl ⟨rfl, rfl⟩ ⟨Nat.le_of_ble_eq_true rfl, Nat.le_of_ble_eq_true rfl⟩ hl.1 rfl (Nat.le_of_ble_eq_true rfl) dX5_better_21 ⟨Nat.le_of_ble_eq_true rfl, Nat.le_of_ble_eq_true rfl⟩ (fun μ6 H locs h hZ => ?_)
      refine lv_iinc (v := v1 + 1) (lv' := [(1, .int (v1 + 1)), (0, .ref (ad 0 0)), (2, .int v2)]) hC.1 hC.2.1 dX5_better_24 hl (k := 1) rfl rfl (by decide) rfl (fun ls hl => ?_)
      refine lv_aload_n hC.1 hC.2.1 dX5_better_27 rfl (lv_at hl 1 rfl) ?_
      refine z_cVi (As := []) hC hZ (zF_0 _) rfl zy_X5_bestSwap (c_X5_bestSwap l h) km_X5_178 rfl ⟨rfl, rfl⟩ ⟨Nat.le_of_ble_eq_true rfl, Nat.le_of_ble_eq_true rfl⟩ hl.1 rfl (Nat.le_of_ble_eq_true rfl) dX5_better_28 ⟨Nat.le_of_ble_eq_true rfl, Nat.le_of_ble_eq_true rfl⟩ (fun r9 μ8 H locs h hZ => ?_)
      refine lv_istore_n (lv' := [(2, .int r9), (1, .int (v1 + 1)), (0, .ref (ad 0 0))]) hC.1 hC.2.1 dX5_better_31 rfl hl (by decide) rfl (fun ls hl => ?_)
      refine lv_goto (tgt := 7) hC.1 hC.2.1 dX5_better_32 (by decide) ?_
      exact hk7 _ _ _ _ _ _ h hZ (lv_sub hl [2, 1, 0] rfl)
def w_X5_better (post : Int32 → Mem → Prop) (μ : Mem) : Prop := (w_X5_bestSwap (fun (r2 : Int32) (μ1 : Mem) => (∃ fuel : Nat, l_X5_better_7 post fuel (0 : Int32) r2 μ1)) μ)
set_option maxRecDepth 100000 in
set_option maxHeartbeats 4000000 in
theorem c_X5_better (l : Launch) {D : va_G} {ca : Nat → ClassId} {base : Nat} {ad : Nat → Nat → Nat} {n np : Nat} {μ : Mem} {post : Int32 → Mem → Prop} (h : w_X5_better post μ) : ZMet l yX5_better cX5_better 3 (some FieldType.int) ({ frames := 4, cells := 0, slots := 0, locals := 98 } : Room) 0 0 D ca base ad n np [.ref (ad 0 0)] μ (zpi post) := by
  unfold ZMet
  refine Met.ofW (cc := cX5_better) (maxL := 3) (ret := (some FieldType.int)) (by decide) rfl ?_
  intro p e s m args below meth c s₁ B hml hv
  obtain ⟨rfl, hU⟩ := hv
  have hZ := hU.toS
  have hC : ZC p m meth c s RX5 cX5_better 3 := ⟨B.exec, B.bytes, hml, findClass_of_methodNamed B.named, B.notSynchronized⟩
  have hr := B.returns
  have key : W p l e ({ frames := 4, cells := 0, slots := 0, locals := 98 } : Room) s m (([.ref (ad 0 0)] : List Value).toArray) below meth c s.heap [] 0 0 (MQ below (ZQ D ca base ad n np (zpi post)) (([.ref (ad 0 0)] : List Value).toArray) s 0 0 (zB base)) (entryFrame m (([.ref (ad 0 0)] : List Value).toArray) 3) := by
    have hl := lv_entry ([.ref (ad 0 0)]) (n := 3) (Nat.le_of_ble_eq_true rfl)
    rw [lg_entry_eq]
    generalize (lg_sl ([.ref (ad 0 0)]) ++ List.replicate (3 - (lg_sl ([.ref (ad 0 0)])).length) Slot.unset).toArray = ls at hl ⊢
    have hl : lv_has ls 3 [(0, .ref (ad 0 0))] := hl
    unfold w_X5_better at h
    refine lv_iconst (v := 0) hC.1 hC.2.1 dX5_better_0 (by decide) ?_
    refine lv_istore_n (lv' := [(1, .int 0), (0, .ref (ad 0 0))]) hC.1 hC.2.1 dX5_better_1 rfl hl (by decide) rfl (fun ls hl => ?_)
    refine lv_aload_n hC.1 hC.2.1 dX5_better_2 rfl (lv_at hl 1 rfl) ?_
    refine z_cVi (As := []) hC hZ (zF_0 _) rfl zy_X5_bestSwap (c_X5_bestSwap l h) km_X5_178 rfl ⟨rfl, rfl⟩ ⟨Nat.le_of_ble_eq_true rfl, Nat.le_of_ble_eq_true rfl⟩ hl.1 rfl (Nat.le_of_ble_eq_true rfl) dX5_better_3 ⟨Nat.le_of_ble_eq_true rfl, Nat.le_of_ble_eq_true rfl⟩ (fun r2 μ1 H locs h hZ => ?_)
    refine lv_istore_n (lv' := [(2, .int r2), (1, .int 0), (0, .ref (ad 0 0))]) hC.1 hC.2.1 dX5_better_6 rfl hl (by decide) rfl (fun ls hl => ?_)
    obtain ⟨fuel, h⟩ := h
    exact t_X5_better_7 (l := l) hC hr _ _ _ _ _ _ _ h hZ (lv_sub hl [2, 1, 0] rfl)
  exact key
def b_X5_planned_45 (post : Int32 → Mem → Prop) (k7 : Int32 → Int32 → Mem → Prop) (v1 : Int32) (v2 : Int32) (μ : Mem) : Prop := k7 v1 (v2 + 1) μ
set_option maxRecDepth 100000 in
set_option maxHeartbeats 4000000 in
theorem t_X5_planned_45 {p : Program} {l : Launch} {e : Env} {s : State} {m : MethodId} {args : Array Value} {below : List Frame} {meth : Method} {c : Code} {D : va_G} {ca : Nat → ClassId} {base : Nat} {ad : Nat → Nat → Nat} {n np : Nat} {post : Int32 → Mem → Prop} {k7 : Int32 → Int32 → Mem → Prop} (hC : ZC p m meth c s RX5 cX5_planned 3) (hr : meth.sig.returnType = (some FieldType.int)) (hk7 : ∀ (v1 : Int32) (v2 : Int32) (μ : Mem) (H : Heap) (locs : List Loc) (ls : Array Slot), k7 v1 v2 μ → ZS D ca base ad n np μ s H locs → lv_has ls 3 [(0, .ref (ad 0 0)), (1, .int v1), (2, .int v2)] → W p l e ({ frames := 0, cells := 0, slots := 0, locals := 0 } : Room) s m args below meth c H locs 0 0 (MQ below (ZQ D ca base ad n np (zpi post)) args s 0 0 (zB base)) (F0 m 7 ls [])) (v1 : Int32) (v2 : Int32) (μ : Mem) (H : Heap) (locs : List Loc) (ls : Array Slot) (h : b_X5_planned_45 post k7 v1 v2 μ) (hZ : ZS D ca base ad n np μ s H locs) (hl : lv_has ls 3 [(0, .ref (ad 0 0)), (1, .int v1), (2, .int v2)]) : W p l e ({ frames := 0, cells := 0, slots := 0, locals := 0 } : Room) s m args below meth c H locs 0 0 (MQ below (ZQ D ca base ad n np (zpi post)) args s 0 0 (zB base)) (F0 m 45 ls []) := by
  unfold b_X5_planned_45 at h
  refine lv_iinc (v := v2 + 1) (lv' := [(2, .int (v2 + 1)), (0, .ref (ad 0 0)), (1, .int v1)]) hC.1 hC.2.1 dX5_planned_45 hl (k := 2) rfl rfl (by decide) rfl (fun ls hl => ?_)
  refine lv_goto (tgt := 7) hC.1 hC.2.1 dX5_planned_48 (by decide) ?_
  exact hk7 _ _ _ _ _ _ h hZ (lv_sub hl [1, 2, 0] rfl)
def lb_X5_planned_7 (post : Int32 → Mem → Prop) (k7 : Int32 → Int32 → Mem → Prop) (v1 : Int32) (v2 : Int32) (μ : Mem) : Prop := ((30 ≤ v2 → post v1 μ) ∧ (¬ 30 ≤ v2 → (vp_in v2 30 ∧ (((μ 8 0 v2.toNatClampNeg) = (-1) → b_X5_planned_45 post k7 v1 v2 μ) ∧ (¬ (μ 8 0 v2.toNatClampNeg) = (-1) → (vp_in v1 10 ∧ ∀ μ5 : Mem, μ5 = zst μ 19 0 v1.toNatClampNeg v2 → (∀ μ6 : Mem, μ6 = zst μ5 20 0 v1.toNatClampNeg (μ5 8 0 v2.toNatClampNeg) → b_X5_planned_45 post k7 (v1 + 1) v2 μ6)))))))
def l_X5_planned_7 (post : Int32 → Mem → Prop) : Nat → Int32 → Int32 → Mem → Prop
  | 0 => fun _ _ _ => False
  | fuel + 1 => lb_X5_planned_7 post (l_X5_planned_7 post fuel) 
set_option maxRecDepth 100000 in
set_option maxHeartbeats 4000000 in
theorem t_X5_planned_7 {p : Program} {l : Launch} {e : Env} {s : State} {m : MethodId} {args : Array Value} {below : List Frame} {meth : Method} {c : Code} {D : va_G} {ca : Nat → ClassId} {base : Nat} {ad : Nat → Nat → Nat} {n np : Nat} {post : Int32 → Mem → Prop} (hC : ZC p m meth c s RX5 cX5_planned 3) (hr : meth.sig.returnType = (some FieldType.int)) : ∀ (fuel : Nat) (v1 : Int32) (v2 : Int32) (μ : Mem) (H : Heap) (locs : List Loc) (ls : Array Slot), l_X5_planned_7 post fuel v1 v2 μ → ZS D ca base ad n np μ s H locs → lv_has ls 3 [(0, .ref (ad 0 0)), (1, .int v1), (2, .int v2)] → W p l e ({ frames := 0, cells := 0, slots := 0, locals := 0 } : Room) s m args below meth c H locs 0 0 (MQ below (ZQ D ca base ad n np (zpi post)) args s 0 0 (zB base)) (F0 m 7 ls []) := by
  intro fuel
  induction fuel with
  | zero => exact fun _ _ _ _ _ _ h => h.elim
  | succ fuel hk7 =>
    intro v1 v2 μ H locs ls h hZ hl
    have h : lb_X5_planned_7 post (l_X5_planned_7 post fuel) v1 v2 μ := h
    unfold lb_X5_planned_7 at h
    refine lv_iload_n hC.1 hC.2.1 dX5_planned_7 rfl (lv_at hl 2 rfl) ?_
    refine lv_bipush (v := 30) hC.1 hC.2.1 dX5_planned_8 (by decide) ?_
    refine lv_icmp_ge (tgt := 51) hC.1 hC.2.1 dX5_planned_10 (by decide) (fun c1 => ?_) (fun c1 => ?_)
    · have h := h.1 c1
      refine lv_iload_n hC.1 hC.2.1 dX5_planned_51 rfl (lv_at hl 1 rfl) ?_
      exact z_iret hC hr hZ h dX5_planned_52 (Nat.le_of_ble_eq_true rfl) (Nat.le_of_ble_eq_true rfl)
    · have h := h.2 c1
      refine lv_aload_n hC.1 hC.2.1 dX5_planned_13 rfl (lv_at hl 0 rfl) ?_
      refine gX5_11 hC hZ kf_X5_35 dX5_planned_14 ?_
      refine lv_iload_n hC.1 hC.2.1 dX5_planned_17 rfl (lv_at hl 2 rfl) ?_
      obtain ⟨q2, h⟩ := h
      refine aL_8 hC hZ q2 dX5_planned_18 ?_
      refine lv_iconst (v := (-1)) hC.1 hC.2.1 dX5_planned_19 (by decide) ?_
      refine lv_icmp_eq (tgt := 45) hC.1 hC.2.1 dX5_planned_20 (by decide) (fun c3 => ?_) (fun c3 => ?_)
      · have h := h.1 c3
        exact t_X5_planned_45 (l := l) hC hr hk7 _ _ _ _ _ _ h hZ (lv_sub hl [0, 1, 2] rfl)
      · have h := h.2 c3
        refine lv_aload_n hC.1 hC.2.1 dX5_planned_23 rfl (lv_at hl 0 rfl) ?_
        refine gX5_23 hC hZ kf_X5_69 dX5_planned_24 ?_
        refine lv_iload_n hC.1 hC.2.1 dX5_planned_27 rfl (lv_at hl 1 rfl) ?_
        refine lv_iload_n hC.1 hC.2.1 dX5_planned_28 rfl (lv_at hl 2 rfl) ?_
        obtain ⟨q4, h⟩ := h
        refine aS_19 hC hZ q4 dX5_planned_29 (fun μ5 H locs eμ5 hZ => ?_)
        have h := h μ5 eμ5
        refine lv_aload_n hC.1 hC.2.1 dX5_planned_30 rfl (lv_at hl 0 rfl) ?_
        refine gX5_24 hC hZ kf_X5_72 dX5_planned_31 ?_
        refine lv_iload_n hC.1 hC.2.1 dX5_planned_34 rfl (lv_at hl 1 rfl) ?_
        refine lv_aload_n hC.1 hC.2.1 dX5_planned_35 rfl (lv_at hl 0 rfl) ?_
        refine gX5_11 hC hZ kf_X5_35 dX5_planned_36 ?_
        refine lv_iload_n hC.1 hC.2.1 dX5_planned_39 rfl (lv_at hl 2 rfl) ?_
        refine aL_8 hC hZ q2 dX5_planned_40 ?_
        refine aS_20 hC hZ q4 dX5_planned_41 (fun μ6 H locs eμ6 hZ => ?_)
        have h := h μ6 eμ6
        refine lv_iinc (v := v1 + 1) (lv' := [(1, .int (v1 + 1)), (0, .ref (ad 0 0)), (2, .int v2)]) hC.1 hC.2.1 dX5_planned_42 hl (k := 1) rfl rfl (by decide) rfl (fun ls hl => ?_)
        exact t_X5_planned_45 (l := l) hC hr hk7 _ _ _ _ _ _ h hZ (lv_sub hl [1, 0, 2] rfl)
def w_X5_planned (post : Int32 → Mem → Prop) (μ : Mem) : Prop := (∃ fuel : Nat, l_X5_planned_7 post fuel (0 : Int32) (μ 0 0 0) μ)
set_option maxRecDepth 100000 in
set_option maxHeartbeats 4000000 in
theorem c_X5_planned (l : Launch) {D : va_G} {ca : Nat → ClassId} {base : Nat} {ad : Nat → Nat → Nat} {n np : Nat} {μ : Mem} {post : Int32 → Mem → Prop} (h : w_X5_planned post μ) : ZMet l yX5_planned cX5_planned 3 (some FieldType.int) ({ frames := 0, cells := 0, slots := 0, locals := 0 } : Room) 0 0 D ca base ad n np [.ref (ad 0 0)] μ (zpi post) := by
  unfold ZMet
  refine Met.ofW (cc := cX5_planned) (maxL := 3) (ret := (some FieldType.int)) (by decide) rfl ?_
  intro p e s m args below meth c s₁ B hml hv
  obtain ⟨rfl, hU⟩ := hv
  have hZ := hU.toS
  have hC : ZC p m meth c s RX5 cX5_planned 3 := ⟨B.exec, B.bytes, hml, findClass_of_methodNamed B.named, B.notSynchronized⟩
  have hr := B.returns
  have key : W p l e ({ frames := 0, cells := 0, slots := 0, locals := 0 } : Room) s m (([.ref (ad 0 0)] : List Value).toArray) below meth c s.heap [] 0 0 (MQ below (ZQ D ca base ad n np (zpi post)) (([.ref (ad 0 0)] : List Value).toArray) s 0 0 (zB base)) (entryFrame m (([.ref (ad 0 0)] : List Value).toArray) 3) := by
    have hl := lv_entry ([.ref (ad 0 0)]) (n := 3) (Nat.le_of_ble_eq_true rfl)
    rw [lg_entry_eq]
    generalize (lg_sl ([.ref (ad 0 0)]) ++ List.replicate (3 - (lg_sl ([.ref (ad 0 0)])).length) Slot.unset).toArray = ls at hl ⊢
    have hl : lv_has ls 3 [(0, .ref (ad 0 0))] := hl
    unfold w_X5_planned at h
    refine lv_iconst (v := 0) hC.1 hC.2.1 dX5_planned_0 (by decide) ?_
    refine lv_istore_n (lv' := [(1, .int 0), (0, .ref (ad 0 0))]) hC.1 hC.2.1 dX5_planned_1 rfl hl (by decide) rfl (fun ls hl => ?_)
    refine lv_aload_n hC.1 hC.2.1 dX5_planned_2 rfl (lv_at hl 1 rfl) ?_
    refine gX5_0 hC hZ kf_X5_85 dX5_planned_3 ?_
    refine lv_istore_n (lv' := [(2, .int (μ 0 0 0)), (1, .int 0), (0, .ref (ad 0 0))]) hC.1 hC.2.1 dX5_planned_6 rfl hl (by decide) rfl (fun ls hl => ?_)
    obtain ⟨fuel, h⟩ := h
    exact t_X5_planned_7 (l := l) hC hr _ _ _ _ _ _ _ h hZ (lv_sub hl [2, 1, 0] rfl)
  exact key
def b_X5_orders_51 (post : Mem → Prop) (k12 : Int32 → Int32 → Int32 → Mem → Prop) (k36 : Int32 → Int32 → Int32 → Int32 → Int32 → Mem → Prop) (a1 : Int32) (a2 : Int32) (v3 : Int32) (v4 : Int32) (v5 : Int32) (v6 : Int32) (v7 : Int32) (μ : Mem) : Prop := k36 v3 v4 v5 (v6 - ((v4 >>> (v7 &&& 31)) &&& 1)) (v7 + 1) μ
set_option maxRecDepth 100000 in
set_option maxHeartbeats 4000000 in
theorem t_X5_orders_51 {p : Program} {l : Launch} {e : Env} {s : State} {m : MethodId} {args : Array Value} {below : List Frame} {meth : Method} {c : Code} {D : va_G} {ca : Nat → ClassId} {base : Nat} {ad : Nat → Nat → Nat} {n np : Nat} {post : Mem → Prop} {k12 : Int32 → Int32 → Int32 → Mem → Prop} {k36 : Int32 → Int32 → Int32 → Int32 → Int32 → Mem → Prop} (hC : ZC p m meth c s RX5 cX5_orders 8) (hr : meth.sig.returnType = none) (a1 : Int32) (a2 : Int32) (hk12 : ∀ (v3 : Int32) (v4 : Int32) (v5 : Int32) (μ : Mem) (H : Heap) (locs : List Loc) (ls : Array Slot), k12 v3 v4 v5 μ → ZS D ca base ad n np μ s H locs → lv_has ls 8 [(0, .ref (ad 0 0)), (1, .int a1), (3, .int v3), (4, .int v4), (5, .int v5)] → W p l e ({ frames := 0, cells := 0, slots := 0, locals := 0 } : Room) s m args below meth c H locs 0 0 (MQ below (ZQ D ca base ad n np (zpv post)) args s 0 0 (zB base)) (F0 m 12 ls [])) (hk36 : ∀ (v3 : Int32) (v4 : Int32) (v5 : Int32) (v6 : Int32) (v7 : Int32) (μ : Mem) (H : Heap) (locs : List Loc) (ls : Array Slot), k36 v3 v4 v5 v6 v7 μ → ZS D ca base ad n np μ s H locs → lv_has ls 8 [(0, .ref (ad 0 0)), (1, .int a1), (3, .int v3), (4, .int v4), (5, .int v5), (6, .int v6), (7, .int v7)] → W p l e ({ frames := 0, cells := 0, slots := 0, locals := 0 } : Room) s m args below meth c H locs 0 0 (MQ below (ZQ D ca base ad n np (zpv post)) args s 0 0 (zB base)) (F0 m 36 ls [])) (v3 : Int32) (v4 : Int32) (v5 : Int32) (v6 : Int32) (v7 : Int32) (μ : Mem) (H : Heap) (locs : List Loc) (ls : Array Slot) (h : b_X5_orders_51 post k12 k36 a1 a2 v3 v4 v5 v6 v7 μ) (hZ : ZS D ca base ad n np μ s H locs) (hl : lv_has ls 8 [(0, .ref (ad 0 0)), (1, .int a1), (3, .int v3), (4, .int v4), (5, .int v5), (6, .int v6), (7, .int v7)]) : W p l e ({ frames := 0, cells := 0, slots := 0, locals := 0 } : Room) s m args below meth c H locs 0 0 (MQ below (ZQ D ca base ad n np (zpv post)) args s 0 0 (zB base)) (F0 m 51 ls []) := by
  unfold b_X5_orders_51 at h
  refine lv_iload hC.1 hC.2.1 dX5_orders_51 (lv_at hl 5 rfl) ?_
  refine lv_iload hC.1 hC.2.1 dX5_orders_53 (lv_at hl 3 rfl) ?_
  refine lv_iload hC.1 hC.2.1 dX5_orders_55 (lv_at hl 6 rfl) ?_
  refine lv_ishr hC.1 hC.2.1 dX5_orders_57 ?_
  refine lv_iconst (v := 1) hC.1 hC.2.1 dX5_orders_58 (by decide) ?_
  refine lv_iand hC.1 hC.2.1 dX5_orders_59 ?_
  refine lv_isub hC.1 hC.2.1 dX5_orders_60 ?_
  refine lv_istore (lv' := [(6, .int (v6 - ((v4 >>> (v7 &&& 31)) &&& 1))), (0, .ref (ad 0 0)), (1, .int a1), (3, .int v3), (4, .int v4), (5, .int v5), (7, .int v7)]) hC.1 hC.2.1 dX5_orders_61 hl (by decide) rfl (fun ls hl => ?_)
  refine lv_iinc (v := v7 + 1) (lv' := [(7, .int (v7 + 1)), (6, .int (v6 - ((v4 >>> (v7 &&& 31)) &&& 1))), (0, .ref (ad 0 0)), (1, .int a1), (3, .int v3), (4, .int v4), (5, .int v5)]) hC.1 hC.2.1 dX5_orders_63 hl (k := 6) rfl rfl (by decide) rfl (fun ls hl => ?_)
  refine lv_goto (tgt := 36) hC.1 hC.2.1 dX5_orders_66 (by decide) ?_
  exact hk36 _ _ _ _ _ _ _ _ _ h hZ (lv_sub hl [2, 3, 4, 5, 6, 1, 0] rfl)
def lb_X5_orders_36 (post : Mem → Prop) (k12 : Int32 → Int32 → Int32 → Mem → Prop) (k36 : Int32 → Int32 → Int32 → Int32 → Int32 → Mem → Prop) (a1 : Int32) (a2 : Int32) (v3 : Int32) (v4 : Int32) (v5 : Int32) (v6 : Int32) (v7 : Int32) (μ : Mem) : Prop := ((((v4 >>> (v7 &&& 31)) &&& 1) = 0 → b_X5_orders_51 post k12 k36 a1 a2 v3 v4 v5 v6 v7 μ) ∧ (¬ ((v4 >>> (v7 &&& 31)) &&& 1) = 0 → ((v6 ≤ 0 → (vp_in v5 10 ∧ (vp_in v7 10 ∧ (vp_in (μ 19 0 v5.toNatClampNeg) 30 ∧ ∀ μ8 : Mem, μ8 = zst μ 8 0 ((μ 19 0 v5.toNatClampNeg).toNatClampNeg) (μ 20 0 v7.toNatClampNeg) → k12 v3 (v4 &&& (((1 : Int32) <<< (v7 &&& 31)) ^^^ (-1))) (v5 + 1) μ8)))) ∧ (¬ v6 ≤ 0 → b_X5_orders_51 post k12 k36 a1 a2 v3 v4 v5 v6 v7 μ))))
def l_X5_orders_36 (post : Mem → Prop) (k12 : Int32 → Int32 → Int32 → Mem → Prop) (a1 : Int32) (a2 : Int32) : Nat → Int32 → Int32 → Int32 → Int32 → Int32 → Mem → Prop
  | 0 => fun _ _ _ _ _ _ => False
  | fuel + 1 => lb_X5_orders_36 post k12 (l_X5_orders_36 post k12 a1 a2 fuel) a1 a2 
set_option maxRecDepth 100000 in
set_option maxHeartbeats 4000000 in
theorem t_X5_orders_36 {p : Program} {l : Launch} {e : Env} {s : State} {m : MethodId} {args : Array Value} {below : List Frame} {meth : Method} {c : Code} {D : va_G} {ca : Nat → ClassId} {base : Nat} {ad : Nat → Nat → Nat} {n np : Nat} {post : Mem → Prop} {k12 : Int32 → Int32 → Int32 → Mem → Prop} (hC : ZC p m meth c s RX5 cX5_orders 8) (hr : meth.sig.returnType = none) (a1 : Int32) (a2 : Int32) (hk12 : ∀ (v3 : Int32) (v4 : Int32) (v5 : Int32) (μ : Mem) (H : Heap) (locs : List Loc) (ls : Array Slot), k12 v3 v4 v5 μ → ZS D ca base ad n np μ s H locs → lv_has ls 8 [(0, .ref (ad 0 0)), (1, .int a1), (3, .int v3), (4, .int v4), (5, .int v5)] → W p l e ({ frames := 0, cells := 0, slots := 0, locals := 0 } : Room) s m args below meth c H locs 0 0 (MQ below (ZQ D ca base ad n np (zpv post)) args s 0 0 (zB base)) (F0 m 12 ls [])) : ∀ (fuel : Nat) (v3 : Int32) (v4 : Int32) (v5 : Int32) (v6 : Int32) (v7 : Int32) (μ : Mem) (H : Heap) (locs : List Loc) (ls : Array Slot), l_X5_orders_36 post k12 a1 a2 fuel v3 v4 v5 v6 v7 μ → ZS D ca base ad n np μ s H locs → lv_has ls 8 [(0, .ref (ad 0 0)), (1, .int a1), (3, .int v3), (4, .int v4), (5, .int v5), (6, .int v6), (7, .int v7)] → W p l e ({ frames := 0, cells := 0, slots := 0, locals := 0 } : Room) s m args below meth c H locs 0 0 (MQ below (ZQ D ca base ad n np (zpv post)) args s 0 0 (zB base)) (F0 m 36 ls []) := by
  intro fuel
  induction fuel with
  | zero => exact fun _ _ _ _ _ _ _ _ _ h => h.elim
  | succ fuel hk36 =>
    intro v3 v4 v5 v6 v7 μ H locs ls h hZ hl
    have h : lb_X5_orders_36 post k12 (l_X5_orders_36 post k12 a1 a2 fuel) a1 a2 v3 v4 v5 v6 v7 μ := h
    unfold lb_X5_orders_36 at h
    refine lv_iload hC.1 hC.2.1 dX5_orders_36 (lv_at hl 3 rfl) ?_
    refine lv_iload hC.1 hC.2.1 dX5_orders_38 (lv_at hl 6 rfl) ?_
    refine lv_ishr hC.1 hC.2.1 dX5_orders_40 ?_
    refine lv_iconst (v := 1) hC.1 hC.2.1 dX5_orders_41 (by decide) ?_
    refine lv_iand hC.1 hC.2.1 dX5_orders_42 ?_
    refine lv_if_eq (tgt := 51) hC.1 hC.2.1 dX5_orders_43 (by decide) (fun c3 => ?_) (fun c3 => ?_)
    · have h := h.1 c3
      exact t_X5_orders_51 (l := l) hC hr _ _ hk12 hk36 _ _ _ _ _ _ _ _ _ h hZ (lv_sub hl [0, 1, 2, 3, 4, 5, 6] rfl)
    · have h := h.2 c3
      refine lv_iload hC.1 hC.2.1 dX5_orders_46 (lv_at hl 5 rfl) ?_
      refine lv_if_le (tgt := 69) hC.1 hC.2.1 dX5_orders_48 (by decide) (fun c4 => ?_) (fun c4 => ?_)
      · have h := h.1 c4
        refine lv_iload hC.1 hC.2.1 dX5_orders_69 (lv_at hl 3 rfl) ?_
        refine lv_iconst (v := 1) hC.1 hC.2.1 dX5_orders_71 (by decide) ?_
        refine lv_iload hC.1 hC.2.1 dX5_orders_72 (lv_at hl 6 rfl) ?_
        refine lv_ishl hC.1 hC.2.1 dX5_orders_74 ?_
        refine lv_iconst (v := (-1)) hC.1 hC.2.1 dX5_orders_75 (by decide) ?_
        refine lv_ixor hC.1 hC.2.1 dX5_orders_76 ?_
        refine lv_iand hC.1 hC.2.1 dX5_orders_77 ?_
        refine lv_istore (lv' := [(4, .int (v4 &&& (((1 : Int32) <<< (v7 &&& 31)) ^^^ (-1)))), (0, .ref (ad 0 0)), (1, .int a1), (3, .int v3), (5, .int v5), (6, .int v6), (7, .int v7)]) hC.1 hC.2.1 dX5_orders_78 hl (by decide) rfl (fun ls hl => ?_)
        refine lv_aload_n hC.1 hC.2.1 dX5_orders_80 rfl (lv_at hl 1 rfl) ?_
        refine gX5_11 hC hZ kf_X5_35 dX5_orders_81 ?_
        refine lv_aload_n hC.1 hC.2.1 dX5_orders_84 rfl (lv_at hl 1 rfl) ?_
        refine gX5_23 hC hZ kf_X5_69 dX5_orders_85 ?_
        refine lv_iload hC.1 hC.2.1 dX5_orders_88 (lv_at hl 4 rfl) ?_
        obtain ⟨q5, h⟩ := h
        refine aL_19 hC hZ q5 dX5_orders_90 ?_
        refine lv_aload_n hC.1 hC.2.1 dX5_orders_91 rfl (lv_at hl 1 rfl) ?_
        refine gX5_24 hC hZ kf_X5_72 dX5_orders_92 ?_
        refine lv_iload hC.1 hC.2.1 dX5_orders_95 (lv_at hl 6 rfl) ?_
        obtain ⟨q6, h⟩ := h
        refine aL_20 hC hZ q6 dX5_orders_97 ?_
        obtain ⟨q7, h⟩ := h
        refine aS_8 hC hZ q7 dX5_orders_98 (fun μ8 H locs eμ8 hZ => ?_)
        have h := h μ8 eμ8
        refine lv_iinc (v := v5 + 1) (lv' := [(5, .int (v5 + 1)), (4, .int (v4 &&& (((1 : Int32) <<< (v7 &&& 31)) ^^^ (-1)))), (0, .ref (ad 0 0)), (1, .int a1), (3, .int v3), (6, .int v6), (7, .int v7)]) hC.1 hC.2.1 dX5_orders_99 hl (k := 4) rfl rfl (by decide) rfl (fun ls hl => ?_)
        refine lv_goto (tgt := 12) hC.1 hC.2.1 dX5_orders_102 (by decide) ?_
        exact hk12 _ _ _ _ _ _ _ h hZ (lv_sub hl [2, 3, 4, 1, 0] rfl)
      · have h := h.2 c4
        exact t_X5_orders_51 (l := l) hC hr _ _ hk12 hk36 _ _ _ _ _ _ _ _ _ h hZ (lv_sub hl [0, 1, 2, 3, 4, 5, 6] rfl)
def lb_X5_orders_12 (post : Mem → Prop) (k12 : Int32 → Int32 → Int32 → Mem → Prop) (a1 : Int32) (a2 : Int32) (v3 : Int32) (v4 : Int32) (v5 : Int32) (μ : Mem) : Prop := ((a1 ≤ v5 → post μ) ∧ (¬ a1 ≤ v5 → (¬ (a1 - v5) = 0 ∧ (∃ fuel : Nat, l_X5_orders_36 post k12 a1 a2 fuel (v3 / (a1 - v5)) v4 v5 (v3 - v3 / (a1 - v5) * (a1 - v5)) (0 : Int32) μ))))
def l_X5_orders_12 (post : Mem → Prop) (a1 : Int32) (a2 : Int32) : Nat → Int32 → Int32 → Int32 → Mem → Prop
  | 0 => fun _ _ _ _ => False
  | fuel + 1 => lb_X5_orders_12 post (l_X5_orders_12 post a1 a2 fuel) a1 a2 
set_option maxRecDepth 100000 in
set_option maxHeartbeats 4000000 in
theorem t_X5_orders_12 {p : Program} {l : Launch} {e : Env} {s : State} {m : MethodId} {args : Array Value} {below : List Frame} {meth : Method} {c : Code} {D : va_G} {ca : Nat → ClassId} {base : Nat} {ad : Nat → Nat → Nat} {n np : Nat} {post : Mem → Prop} (hC : ZC p m meth c s RX5 cX5_orders 8) (hr : meth.sig.returnType = none) (a1 : Int32) (a2 : Int32) : ∀ (fuel : Nat) (v3 : Int32) (v4 : Int32) (v5 : Int32) (μ : Mem) (H : Heap) (locs : List Loc) (ls : Array Slot), l_X5_orders_12 post a1 a2 fuel v3 v4 v5 μ → ZS D ca base ad n np μ s H locs → lv_has ls 8 [(0, .ref (ad 0 0)), (1, .int a1), (3, .int v3), (4, .int v4), (5, .int v5)] → W p l e ({ frames := 0, cells := 0, slots := 0, locals := 0 } : Room) s m args below meth c H locs 0 0 (MQ below (ZQ D ca base ad n np (zpv post)) args s 0 0 (zB base)) (F0 m 12 ls []) := by
  intro fuel
  induction fuel with
  | zero => exact fun _ _ _ _ _ _ _ h => h.elim
  | succ fuel hk12 =>
    intro v3 v4 v5 μ H locs ls h hZ hl
    have h : lb_X5_orders_12 post (l_X5_orders_12 post a1 a2 fuel) a1 a2 v3 v4 v5 μ := h
    unfold lb_X5_orders_12 at h
    refine lv_iload hC.1 hC.2.1 dX5_orders_12 (lv_at hl 4 rfl) ?_
    refine lv_iload_n hC.1 hC.2.1 dX5_orders_14 rfl (lv_at hl 1 rfl) ?_
    refine lv_icmp_ge (tgt := 105) hC.1 hC.2.1 dX5_orders_15 (by decide) (fun c1 => ?_) (fun c1 => ?_)
    · have h := h.1 c1
      exact z_vret hC hr hZ h dX5_orders_105 (Nat.le_of_ble_eq_true rfl) (Nat.le_of_ble_eq_true rfl)
    · have h := h.2 c1
      refine lv_iload_n hC.1 hC.2.1 dX5_orders_18 rfl (lv_at hl 2 rfl) ?_
      refine lv_iload_n hC.1 hC.2.1 dX5_orders_19 rfl (lv_at hl 1 rfl) ?_
      refine lv_iload hC.1 hC.2.1 dX5_orders_20 (lv_at hl 4 rfl) ?_
      refine lv_isub hC.1 hC.2.1 dX5_orders_22 ?_
      obtain ⟨q2, h⟩ := h
      refine lv_irem hC.1 hC.2.1 dX5_orders_23 q2 ?_
      refine lv_istore (lv' := [(6, .int (v3 - v3 / (a1 - v5) * (a1 - v5))), (0, .ref (ad 0 0)), (1, .int a1), (3, .int v3), (4, .int v4), (5, .int v5)]) hC.1 hC.2.1 dX5_orders_24 hl (by decide) rfl (fun ls hl => ?_)
      refine lv_iload_n hC.1 hC.2.1 dX5_orders_26 rfl (lv_at hl 3 rfl) ?_
      refine lv_iload_n hC.1 hC.2.1 dX5_orders_27 rfl (lv_at hl 2 rfl) ?_
      refine lv_iload hC.1 hC.2.1 dX5_orders_28 (lv_at hl 5 rfl) ?_
      refine lv_isub hC.1 hC.2.1 dX5_orders_30 ?_
      refine lv_idiv hC.1 hC.2.1 dX5_orders_31 q2 ?_
      refine lv_istore_n (lv' := [(3, .int (v3 / (a1 - v5))), (6, .int (v3 - v3 / (a1 - v5) * (a1 - v5))), (0, .ref (ad 0 0)), (1, .int a1), (4, .int v4), (5, .int v5)]) hC.1 hC.2.1 dX5_orders_32 rfl hl (by decide) rfl (fun ls hl => ?_)
      refine lv_iconst (v := 0) hC.1 hC.2.1 dX5_orders_33 (by decide) ?_
      refine lv_istore (lv' := [(7, .int 0), (3, .int (v3 / (a1 - v5))), (6, .int (v3 - v3 / (a1 - v5) * (a1 - v5))), (0, .ref (ad 0 0)), (1, .int a1), (4, .int v4), (5, .int v5)]) hC.1 hC.2.1 dX5_orders_34 hl (by decide) rfl (fun ls hl => ?_)
      obtain ⟨fuel, h⟩ := h
      exact t_X5_orders_36 (l := l) hC hr _ _ hk12 _ _ _ _ _ _ _ _ _ _ h hZ (lv_sub hl [3, 4, 1, 5, 6, 2, 0] rfl)
def w_X5_orders (post : Mem → Prop) (a1 : Int32) (a2 : Int32) (μ : Mem) : Prop := (∃ fuel : Nat, l_X5_orders_12 post a1 a2 fuel a2 (((1 : Int32) <<< (a1 &&& 31)) - 1) (0 : Int32) μ)
set_option maxRecDepth 100000 in
set_option maxHeartbeats 4000000 in
theorem c_X5_orders (l : Launch) {D : va_G} {ca : Nat → ClassId} {base : Nat} {ad : Nat → Nat → Nat} {n np : Nat} {μ : Mem} {post : Mem → Prop} {a1 : Int32} {a2 : Int32} (h : w_X5_orders post a1 a2 μ) : ZMet l yX5_orders cX5_orders 8 none ({ frames := 0, cells := 0, slots := 0, locals := 0 } : Room) 0 0 D ca base ad n np [.ref (ad 0 0), .int a1, .int a2] μ (zpv post) := by
  unfold ZMet
  refine Met.ofW (cc := cX5_orders) (maxL := 8) (ret := none) (by decide) rfl ?_
  intro p e s m args below meth c s₁ B hml hv
  obtain ⟨rfl, hU⟩ := hv
  have hZ := hU.toS
  have hC : ZC p m meth c s RX5 cX5_orders 8 := ⟨B.exec, B.bytes, hml, findClass_of_methodNamed B.named, B.notSynchronized⟩
  have hr := B.returns
  have key : W p l e ({ frames := 0, cells := 0, slots := 0, locals := 0 } : Room) s m (([.ref (ad 0 0), .int a1, .int a2] : List Value).toArray) below meth c s.heap [] 0 0 (MQ below (ZQ D ca base ad n np (zpv post)) (([.ref (ad 0 0), .int a1, .int a2] : List Value).toArray) s 0 0 (zB base)) (entryFrame m (([.ref (ad 0 0), .int a1, .int a2] : List Value).toArray) 8) := by
    have hl := lv_entry ([.ref (ad 0 0), .int a1, .int a2]) (n := 8) (Nat.le_of_ble_eq_true rfl)
    rw [lg_entry_eq]
    generalize (lg_sl ([.ref (ad 0 0), .int a1, .int a2]) ++ List.replicate (8 - (lg_sl ([.ref (ad 0 0), .int a1, .int a2])).length) Slot.unset).toArray = ls at hl ⊢
    have hl : lv_has ls 8 [(0, .ref (ad 0 0)), (1, .int a1), (2, .int a2)] := hl
    unfold w_X5_orders at h
    refine lv_iload_n hC.1 hC.2.1 dX5_orders_0 rfl (lv_at hl 2 rfl) ?_
    refine lv_istore_n (lv' := [(3, .int a2), (0, .ref (ad 0 0)), (1, .int a1), (2, .int a2)]) hC.1 hC.2.1 dX5_orders_1 rfl hl (by decide) rfl (fun ls hl => ?_)
    refine lv_iconst (v := 1) hC.1 hC.2.1 dX5_orders_2 (by decide) ?_
    refine lv_iload_n hC.1 hC.2.1 dX5_orders_3 rfl (lv_at hl 2 rfl) ?_
    refine lv_ishl hC.1 hC.2.1 dX5_orders_4 ?_
    refine lv_iconst (v := 1) hC.1 hC.2.1 dX5_orders_5 (by decide) ?_
    refine lv_isub hC.1 hC.2.1 dX5_orders_6 ?_
    refine lv_istore (lv' := [(4, .int (((1 : Int32) <<< (a1 &&& 31)) - 1)), (3, .int a2), (0, .ref (ad 0 0)), (1, .int a1), (2, .int a2)]) hC.1 hC.2.1 dX5_orders_7 hl (by decide) rfl (fun ls hl => ?_)
    refine lv_iconst (v := 0) hC.1 hC.2.1 dX5_orders_9 (by decide) ?_
    refine lv_istore (lv' := [(5, .int 0), (4, .int (((1 : Int32) <<< (a1 &&& 31)) - 1)), (3, .int a2), (0, .ref (ad 0 0)), (1, .int a1), (2, .int a2)]) hC.1 hC.2.1 dX5_orders_10 hl (by decide) rfl (fun ls hl => ?_)
    obtain ⟨fuel, h⟩ := h
    exact t_X5_orders_12 (l := l) hC hr _ _ _ _ _ _ _ _ _ _ h hZ (lv_sub hl [3, 4, 2, 1, 0] rfl)
  exact key
def lb_X5_least_94 (post : Int32 → Mem → Prop) (k94 : Int32 → Int32 → Int32 → Mem → Prop) (v1 : Int32) (v3 : Int32) (v4 : Int32) (μ : Mem) : Prop := ((v1 ≤ v4 → post v3 μ) ∧ (¬ v1 ≤ v4 → (vp_in v4 10 ∧ (vp_in (μ 19 0 v4.toNatClampNeg) 30 ∧ ∀ μ14 : Mem, μ14 = zst μ 8 0 ((μ 19 0 v4.toNatClampNeg).toNatClampNeg) (μ 20 0 v4.toNatClampNeg) → k94 v1 v3 (v4 + 1) μ14))))
def l_X5_least_94 (post : Int32 → Mem → Prop) : Nat → Int32 → Int32 → Int32 → Mem → Prop
  | 0 => fun _ _ _ _ => False
  | fuel + 1 => lb_X5_least_94 post (l_X5_least_94 post fuel) 
set_option maxRecDepth 100000 in
set_option maxHeartbeats 4000000 in
theorem t_X5_least_94 {p : Program} {l : Launch} {e : Env} {s : State} {m : MethodId} {args : Array Value} {below : List Frame} {meth : Method} {c : Code} {D : va_G} {ca : Nat → ClassId} {base : Nat} {ad : Nat → Nat → Nat} {n np : Nat} {post : Int32 → Mem → Prop} (hC : ZC p m meth c s RX5 cX5_least 6) (hr : meth.sig.returnType = (some FieldType.int)) : ∀ (fuel : Nat) (v1 : Int32) (v3 : Int32) (v4 : Int32) (μ : Mem) (H : Heap) (locs : List Loc) (ls : Array Slot), l_X5_least_94 post fuel v1 v3 v4 μ → ZS D ca base ad n np μ s H locs → lv_has ls 6 [(0, .ref (ad 0 0)), (1, .int v1), (3, .int v3), (4, .int v4)] → W p l e ({ frames := 3, cells := 0, slots := 0, locals := 73 } : Room) s m args below meth c H locs 0 0 (MQ below (ZQ D ca base ad n np (zpi post)) args s 0 0 (zB base)) (F0 m 94 ls []) := by
  intro fuel
  induction fuel with
  | zero => exact fun _ _ _ _ _ _ _ h => h.elim
  | succ fuel hk94 =>
    intro v1 v3 v4 μ H locs ls h hZ hl
    have h : lb_X5_least_94 post (l_X5_least_94 post fuel) v1 v3 v4 μ := h
    unfold lb_X5_least_94 at h
    refine lv_iload hC.1 hC.2.1 dX5_least_94 (lv_at hl 3 rfl) ?_
    refine lv_iload_n hC.1 hC.2.1 dX5_least_96 rfl (lv_at hl 1 rfl) ?_
    refine lv_icmp_ge (tgt := 125) hC.1 hC.2.1 dX5_least_97 (by decide) (fun c11 => ?_) (fun c11 => ?_)
    · have h := h.1 c11
      refine lv_iload_n hC.1 hC.2.1 dX5_least_125 rfl (lv_at hl 2 rfl) ?_
      exact z_iret hC hr hZ h dX5_least_126 (Nat.le_of_ble_eq_true rfl) (Nat.le_of_ble_eq_true rfl)
    · have h := h.2 c11
      refine lv_aload_n hC.1 hC.2.1 dX5_least_100 rfl (lv_at hl 0 rfl) ?_
      refine gX5_11 hC hZ kf_X5_35 dX5_least_101 ?_
      refine lv_aload_n hC.1 hC.2.1 dX5_least_104 rfl (lv_at hl 0 rfl) ?_
      refine gX5_23 hC hZ kf_X5_69 dX5_least_105 ?_
      refine lv_iload hC.1 hC.2.1 dX5_least_108 (lv_at hl 3 rfl) ?_
      obtain ⟨q12, h⟩ := h
      refine aL_19 hC hZ q12 dX5_least_110 ?_
      refine lv_aload_n hC.1 hC.2.1 dX5_least_111 rfl (lv_at hl 0 rfl) ?_
      refine gX5_24 hC hZ kf_X5_72 dX5_least_112 ?_
      refine lv_iload hC.1 hC.2.1 dX5_least_115 (lv_at hl 3 rfl) ?_
      refine aL_20 hC hZ q12 dX5_least_117 ?_
      obtain ⟨q13, h⟩ := h
      refine aS_8 hC hZ q13 dX5_least_118 (fun μ14 H locs eμ14 hZ => ?_)
      have h := h μ14 eμ14
      refine lv_iinc (v := v4 + 1) (lv' := [(4, .int (v4 + 1)), (0, .ref (ad 0 0)), (1, .int v1), (3, .int v3)]) hC.1 hC.2.1 dX5_least_119 hl (k := 3) rfl rfl (by decide) rfl (fun ls hl => ?_)
      refine lv_goto (tgt := 94) hC.1 hC.2.1 dX5_least_122 (by decide) ?_
      exact hk94 _ _ _ _ _ _ _ h hZ (lv_sub hl [1, 2, 3, 0] rfl)
def b_X5_least_84 (post : Int32 → Mem → Prop) (k53 : Int32 → Int32 → Int32 → Int32 → Mem → Prop) (v1 : Int32) (v2 : Int32) (v4 : Int32) (s0 : Int32) (μ : Mem) : Prop := k53 v1 v2 s0 (v4 + 1) μ
set_option maxRecDepth 100000 in
set_option maxHeartbeats 4000000 in
theorem t_X5_least_84 {p : Program} {l : Launch} {e : Env} {s : State} {m : MethodId} {args : Array Value} {below : List Frame} {meth : Method} {c : Code} {D : va_G} {ca : Nat → ClassId} {base : Nat} {ad : Nat → Nat → Nat} {n np : Nat} {post : Int32 → Mem → Prop} {k53 : Int32 → Int32 → Int32 → Int32 → Mem → Prop} (hC : ZC p m meth c s RX5 cX5_least 6) (hr : meth.sig.returnType = (some FieldType.int)) (hk53 : ∀ (v1 : Int32) (v2 : Int32) (v3 : Int32) (v4 : Int32) (μ : Mem) (H : Heap) (locs : List Loc) (ls : Array Slot), k53 v1 v2 v3 v4 μ → ZS D ca base ad n np μ s H locs → lv_has ls 6 [(0, .ref (ad 0 0)), (1, .int v1), (2, .int v2), (3, .int v3), (4, .int v4)] → W p l e ({ frames := 3, cells := 0, slots := 0, locals := 73 } : Room) s m args below meth c H locs 0 0 (MQ below (ZQ D ca base ad n np (zpi post)) args s 0 0 (zB base)) (F0 m 53 ls [])) (v1 : Int32) (v2 : Int32) (v4 : Int32) (s0 : Int32) (μ : Mem) (H : Heap) (locs : List Loc) (ls : Array Slot) (h : b_X5_least_84 post k53 v1 v2 v4 s0 μ) (hZ : ZS D ca base ad n np μ s H locs) (hl : lv_has ls 6 [(0, .ref (ad 0 0)), (1, .int v1), (2, .int v2), (4, .int v4)]) : W p l e ({ frames := 3, cells := 0, slots := 0, locals := 73 } : Room) s m args below meth c H locs 0 0 (MQ below (ZQ D ca base ad n np (zpi post)) args s 0 0 (zB base)) (F0 m 84 ls [.int s0]) := by
  unfold b_X5_least_84 at h
  refine lv_istore_n (lv' := [(3, .int s0), (0, .ref (ad 0 0)), (1, .int v1), (2, .int v2), (4, .int v4)]) hC.1 hC.2.1 dX5_least_84 rfl hl (by decide) rfl (fun ls hl => ?_)
  refine lv_iinc (v := v4 + 1) (lv' := [(4, .int (v4 + 1)), (3, .int s0), (0, .ref (ad 0 0)), (1, .int v1), (2, .int v2)]) hC.1 hC.2.1 dX5_least_85 hl (k := 4) rfl rfl (by decide) rfl (fun ls hl => ?_)
  refine lv_goto (tgt := 53) hC.1 hC.2.1 dX5_least_88 (by decide) ?_
  exact hk53 _ _ _ _ _ _ _ _ h hZ (lv_sub hl [2, 3, 4, 1, 0] rfl)
def lb_X5_least_53 (post : Int32 → Mem → Prop) (k53 : Int32 → Int32 → Int32 → Int32 → Mem → Prop) (v1 : Int32) (v2 : Int32) (v3 : Int32) (v4 : Int32) (μ : Mem) : Prop := ((v2 ≤ v4 → (∃ fuel : Nat, l_X5_least_94 post fuel v1 v3 (0 : Int32) μ)) ∧ (¬ v2 ≤ v4 → (w_X5_orders (fun (μ15 : Mem) => (w_X5_costs (fun (r18 : Int32) (μ17 : Mem) => ((v3 ≤ r18 → b_X5_least_84 post k53 v1 v2 v4 v3 μ17) ∧ (¬ v3 ≤ r18 → b_X5_least_84 post k53 v1 v2 v4 r18 μ17))) μ15)) v1 v4 μ)))
def l_X5_least_53 (post : Int32 → Mem → Prop) : Nat → Int32 → Int32 → Int32 → Int32 → Mem → Prop
  | 0 => fun _ _ _ _ _ => False
  | fuel + 1 => lb_X5_least_53 post (l_X5_least_53 post fuel) 
set_option maxRecDepth 100000 in
set_option maxHeartbeats 4000000 in
theorem t_X5_least_53 {p : Program} {l : Launch} {e : Env} {s : State} {m : MethodId} {args : Array Value} {below : List Frame} {meth : Method} {c : Code} {D : va_G} {ca : Nat → ClassId} {base : Nat} {ad : Nat → Nat → Nat} {n np : Nat} {post : Int32 → Mem → Prop} (hC : ZC p m meth c s RX5 cX5_least 6) (hr : meth.sig.returnType = (some FieldType.int)) : ∀ (fuel : Nat) (v1 : Int32) (v2 : Int32) (v3 : Int32) (v4 : Int32) (μ : Mem) (H : Heap) (locs : List Loc) (ls : Array Slot), l_X5_least_53 post fuel v1 v2 v3 v4 μ → ZS D ca base ad n np μ s H locs → lv_has ls 6 [(0, .ref (ad 0 0)), (1, .int v1), (2, .int v2), (3, .int v3), (4, .int v4)] → W p l e ({ frames := 3, cells := 0, slots := 0, locals := 73 } : Room) s m args below meth c H locs 0 0 (MQ below (ZQ D ca base ad n np (zpi post)) args s 0 0 (zB base)) (F0 m 53 ls []) := by
  intro fuel
  induction fuel with
  | zero => exact fun _ _ _ _ _ _ _ _ h => h.elim
  | succ fuel hk53 =>
    intro v1 v2 v3 v4 μ H locs ls h hZ hl
    have h : lb_X5_least_53 post (l_X5_least_53 post fuel) v1 v2 v3 v4 μ := h
    unfold lb_X5_least_53 at h
    refine lv_iload hC.1 hC.2.1 dX5_least_53 (lv_at hl 4 rfl) ?_
    refine lv_iload_n hC.1 hC.2.1 dX5_least_55 rfl (lv_at hl 2 rfl) ?_
    refine lv_icmp_ge (tgt := 91) hC.1 hC.2.1 dX5_least_56 (by decide) (fun c10 => ?_) (fun c10 => ?_)
    · have h := h.1 c10
      refine lv_iconst (v := 0) hC.1 hC.2.1 dX5_least_91 (by decide) ?_
      refine lv_istore (lv' := [(4, .int 0), (0, .ref (ad 0 0)), (1, .int v1), (2, .int v2), (3, .int v3)]) hC.1 hC.2.1 dX5_least_92 hl (by decide) rfl (fun ls hl => ?_)
      obtain ⟨fuel, h⟩ := h
      exact t_X5_least_94 (l := l) hC hr _ _ _ _ _ _ _ _ h hZ (lv_sub hl [1, 2, 4, 0] rfl)
    · have h := h.2 c10
      refine lv_aload_n hC.1 hC.2.1 dX5_least_59 rfl (lv_at hl 0 rfl) ?_
      refine lv_iload_n hC.1 hC.2.1 dX5_least_60 rfl (lv_at hl 1 rfl) ?_
      refine lv_iload hC.1 hC.2.1 dX5_least_61 (lv_at hl 4 rfl) ?_
      refine z_cVv (As := [.int v1, .int v4]) hC hZ (zF_0 _) rfl zy_X5_orders (c_X5_orders l h) km_X5_184 rfl ⟨rfl, rfl⟩ ⟨Nat.le_of_ble_eq_true rfl, Nat.le_of_ble_eq_true rfl⟩ hl.1 rfl (Nat.le_of_ble_eq_true rfl) dX5_least_63 ⟨Nat.le_of_ble_eq_true rfl, Nat.le_of_ble_eq_true rfl⟩ (fun μ15 H locs h hZ => ?_)
      refine lv_aload_n hC.1 hC.2.1 dX5_least_66 rfl (lv_at hl 0 rfl) ?_
      refine z_cVi (As := []) hC hZ (zF_0 _) rfl zy_X5_costs (c_X5_costs l h) km_X5_146 rfl ⟨rfl, rfl⟩ ⟨Nat.le_of_ble_eq_true rfl, Nat.le_of_ble_eq_true rfl⟩ hl.1 rfl (Nat.le_of_ble_eq_true rfl) dX5_least_67 ⟨Nat.le_of_ble_eq_true rfl, Nat.le_of_ble_eq_true rfl⟩ (fun r18 μ17 H locs h hZ => ?_)
      refine lv_istore (lv' := [(5, .int r18), (0, .ref (ad 0 0)), (1, .int v1), (2, .int v2), (3, .int v3), (4, .int v4)]) hC.1 hC.2.1 dX5_least_70 hl (by decide) rfl (fun ls hl => ?_)
      refine lv_iload hC.1 hC.2.1 dX5_least_72 (lv_at hl 0 rfl) ?_
      refine lv_iload_n hC.1 hC.2.1 dX5_least_74 rfl (lv_at hl 4 rfl) ?_
      refine lv_icmp_ge (tgt := 83) hC.1 hC.2.1 dX5_least_75 (by decide) (fun c19 => ?_) (fun c19 => ?_)
      · have h := h.1 c19
        refine lv_iload_n hC.1 hC.2.1 dX5_least_83 rfl (lv_at hl 4 rfl) ?_
        exact t_X5_least_84 (l := l) hC hr hk53 _ _ _ _ _ _ _ _ h hZ (lv_sub hl [1, 2, 3, 5] rfl)
      · have h := h.2 c19
        refine lv_iload hC.1 hC.2.1 dX5_least_78 (lv_at hl 0 rfl) ?_
        refine lv_goto (tgt := 84) hC.1 hC.2.1 dX5_least_80 (by decide) ?_
        exact t_X5_least_84 (l := l) hC hr hk53 _ _ _ _ _ _ _ _ h hZ (lv_sub hl [1, 2, 3, 5] rfl)
def lb_X5_least_30 (post : Int32 → Mem → Prop) (k30 : Int32 → Int32 → Int32 → Mem → Prop) (v1 : Int32) (v2 : Int32) (v3 : Int32) (μ : Mem) : Prop := ((v1 < v3 → (w_X5_costs (fun (r9 : Int32) (μ8 : Mem) => (∃ fuel : Nat, l_X5_least_53 post fuel v1 v2 r9 (0 : Int32) μ8)) μ)) ∧ (¬ v1 < v3 → k30 v1 (v2 * v3) (v3 + 1) μ))
def l_X5_least_30 (post : Int32 → Mem → Prop) : Nat → Int32 → Int32 → Int32 → Mem → Prop
  | 0 => fun _ _ _ _ => False
  | fuel + 1 => lb_X5_least_30 post (l_X5_least_30 post fuel) 
set_option maxRecDepth 100000 in
set_option maxHeartbeats 4000000 in
theorem t_X5_least_30 {p : Program} {l : Launch} {e : Env} {s : State} {m : MethodId} {args : Array Value} {below : List Frame} {meth : Method} {c : Code} {D : va_G} {ca : Nat → ClassId} {base : Nat} {ad : Nat → Nat → Nat} {n np : Nat} {post : Int32 → Mem → Prop} (hC : ZC p m meth c s RX5 cX5_least 6) (hr : meth.sig.returnType = (some FieldType.int)) : ∀ (fuel : Nat) (v1 : Int32) (v2 : Int32) (v3 : Int32) (μ : Mem) (H : Heap) (locs : List Loc) (ls : Array Slot), l_X5_least_30 post fuel v1 v2 v3 μ → ZS D ca base ad n np μ s H locs → lv_has ls 6 [(0, .ref (ad 0 0)), (1, .int v1), (2, .int v2), (3, .int v3)] → W p l e ({ frames := 3, cells := 0, slots := 0, locals := 73 } : Room) s m args below meth c H locs 0 0 (MQ below (ZQ D ca base ad n np (zpi post)) args s 0 0 (zB base)) (F0 m 30 ls []) := by
  intro fuel
  induction fuel with
  | zero => exact fun _ _ _ _ _ _ _ h => h.elim
  | succ fuel hk30 =>
    intro v1 v2 v3 μ H locs ls h hZ hl
    have h : lb_X5_least_30 post (l_X5_least_30 post fuel) v1 v2 v3 μ := h
    unfold lb_X5_least_30 at h
    refine lv_iload_n hC.1 hC.2.1 dX5_least_30 rfl (lv_at hl 3 rfl) ?_
    refine lv_iload_n hC.1 hC.2.1 dX5_least_31 rfl (lv_at hl 1 rfl) ?_
    refine lv_icmp_gt (tgt := 45) hC.1 hC.2.1 dX5_least_32 (by decide) (fun c7 => ?_) (fun c7 => ?_)
    · have h := h.1 c7
      refine lv_aload_n hC.1 hC.2.1 dX5_least_45 rfl (lv_at hl 0 rfl) ?_
      refine z_cVi (As := []) hC hZ (zF_0 _) rfl zy_X5_costs (c_X5_costs l h) km_X5_146 rfl ⟨rfl, rfl⟩ ⟨Nat.le_of_ble_eq_true rfl, Nat.le_of_ble_eq_true rfl⟩ hl.1 rfl (Nat.le_of_ble_eq_true rfl) dX5_least_46 ⟨Nat.le_of_ble_eq_true rfl, Nat.le_of_ble_eq_true rfl⟩ (fun r9 μ8 H locs h hZ => ?_)
      refine lv_istore_n (lv' := [(3, .int r9), (0, .ref (ad 0 0)), (1, .int v1), (2, .int v2)]) hC.1 hC.2.1 dX5_least_49 rfl hl (by decide) rfl (fun ls hl => ?_)
      refine lv_iconst (v := 0) hC.1 hC.2.1 dX5_least_50 (by decide) ?_
      refine lv_istore (lv' := [(4, .int 0), (3, .int r9), (0, .ref (ad 0 0)), (1, .int v1), (2, .int v2)]) hC.1 hC.2.1 dX5_least_51 hl (by decide) rfl (fun ls hl => ?_)
      obtain ⟨fuel, h⟩ := h
      exact t_X5_least_53 (l := l) hC hr _ _ _ _ _ _ _ _ _ h hZ (lv_sub hl [2, 3, 4, 1, 0] rfl)
    · have h := h.2 c7
      refine lv_iload_n hC.1 hC.2.1 dX5_least_35 rfl (lv_at hl 2 rfl) ?_
      refine lv_iload_n hC.1 hC.2.1 dX5_least_36 rfl (lv_at hl 3 rfl) ?_
      refine lv_imul hC.1 hC.2.1 dX5_least_37 ?_
      refine lv_istore_n (lv' := [(2, .int (v2 * v3)), (0, .ref (ad 0 0)), (1, .int v1), (3, .int v3)]) hC.1 hC.2.1 dX5_least_38 rfl hl (by decide) rfl (fun ls hl => ?_)
      refine lv_iinc (v := v3 + 1) (lv' := [(3, .int (v3 + 1)), (2, .int (v2 * v3)), (0, .ref (ad 0 0)), (1, .int v1)]) hC.1 hC.2.1 dX5_least_39 hl (k := 3) rfl rfl (by decide) rfl (fun ls hl => ?_)
      refine lv_goto (tgt := 30) hC.1 hC.2.1 dX5_least_42 (by decide) ?_
      exact hk30 _ _ _ _ _ _ _ h hZ (lv_sub hl [2, 3, 1, 0] rfl)
def b_X5_least_16 (post : Int32 → Mem → Prop) (v1 : Int32) (s1 : Int32) (μ : Mem) : Prop := (w_X5_goes (fun (r5 : Int32) (μ4 : Mem) => ((¬ r5 = 0 → (∃ fuel : Nat, l_X5_least_30 post fuel v1 (1 : Int32) (2 : Int32) μ4)) ∧ (r5 = 0 → post 0 μ4))) s1 (1 : Int32) (1 : Int32) μ)
set_option maxRecDepth 100000 in
set_option maxHeartbeats 4000000 in
theorem t_X5_least_16 {p : Program} {l : Launch} {e : Env} {s : State} {m : MethodId} {args : Array Value} {below : List Frame} {meth : Method} {c : Code} {D : va_G} {ca : Nat → ClassId} {base : Nat} {ad : Nat → Nat → Nat} {n np : Nat} {post : Int32 → Mem → Prop} (hC : ZC p m meth c s RX5 cX5_least 6) (hr : meth.sig.returnType = (some FieldType.int)) (v1 : Int32) (s1 : Int32) (μ : Mem) (H : Heap) (locs : List Loc) (ls : Array Slot) (h : b_X5_least_16 post v1 s1 μ) (hZ : ZS D ca base ad n np μ s H locs) (hl : lv_has ls 6 [(0, .ref (ad 0 0)), (1, .int v1)]) : W p l e ({ frames := 3, cells := 0, slots := 0, locals := 73 } : Room) s m args below meth c H locs 0 0 (MQ below (ZQ D ca base ad n np (zpi post)) args s 0 0 (zB base)) (F0 m 16 ls [.int s1, .ref (ad 0 0)]) := by
  unfold b_X5_least_16 at h
  refine lv_iconst (v := 1) hC.1 hC.2.1 dX5_least_16 (by decide) ?_
  refine lv_iconst (v := 1) hC.1 hC.2.1 dX5_least_17 (by decide) ?_
  refine z_cVi (As := [.int s1, .int 1, .int 1]) hC hZ (zF_0 _) rfl zy_X5_goes (c_X5_goes l h) km_X5_115 rfl ⟨rfl, rfl⟩ ⟨Nat.le_of_ble_eq_true rfl, Nat.le_of_ble_eq_true rfl⟩ hl.1 rfl (Nat.le_of_ble_eq_true rfl) dX5_least_18 ⟨Nat.le_of_ble_eq_true rfl, Nat.le_of_ble_eq_true rfl⟩ (fun r5 μ4 H locs h hZ => ?_)
  refine lv_if_ne (tgt := 26) hC.1 hC.2.1 dX5_least_21 (by decide) (fun c6 => ?_) (fun c6 => ?_)
  · have h := h.1 c6
    refine lv_iconst (v := 1) hC.1 hC.2.1 dX5_least_26 (by decide) ?_
    refine lv_istore_n (lv' := [(2, .int 1), (0, .ref (ad 0 0)), (1, .int v1)]) hC.1 hC.2.1 dX5_least_27 rfl hl (by decide) rfl (fun ls hl => ?_)
    refine lv_iconst (v := 2) hC.1 hC.2.1 dX5_least_28 (by decide) ?_
    refine lv_istore_n (lv' := [(3, .int 2), (2, .int 1), (0, .ref (ad 0 0)), (1, .int v1)]) hC.1 hC.2.1 dX5_least_29 rfl hl (by decide) rfl (fun ls hl => ?_)
    obtain ⟨fuel, h⟩ := h
    exact t_X5_least_30 (l := l) hC hr _ _ _ _ _ _ _ _ h hZ (lv_sub hl [2, 3, 1, 0] rfl)
  · have h := h.2 c6
    refine lv_iconst (v := 0) hC.1 hC.2.1 dX5_least_24 (by decide) ?_
    exact z_iret hC hr hZ h dX5_least_25 (Nat.le_of_ble_eq_true rfl) (Nat.le_of_ble_eq_true rfl)
def w_X5_least (post : Int32 → Mem → Prop) (μ : Mem) : Prop := (w_X5_planned (fun (r2 : Int32) (μ1 : Mem) => ((5 < r2 → b_X5_least_16 post r2 (0 : Int32) μ1) ∧ (¬ 5 < r2 → b_X5_least_16 post r2 (1 : Int32) μ1))) μ)
set_option maxRecDepth 100000 in
set_option maxHeartbeats 4000000 in
theorem c_X5_least (l : Launch) {D : va_G} {ca : Nat → ClassId} {base : Nat} {ad : Nat → Nat → Nat} {n np : Nat} {μ : Mem} {post : Int32 → Mem → Prop} (h : w_X5_least post μ) : ZMet l yX5_least cX5_least 6 (some FieldType.int) ({ frames := 3, cells := 0, slots := 0, locals := 73 } : Room) 0 0 D ca base ad n np [.ref (ad 0 0)] μ (zpi post) := by
  unfold ZMet
  refine Met.ofW (cc := cX5_least) (maxL := 6) (ret := (some FieldType.int)) (by decide) rfl ?_
  intro p e s m args below meth c s₁ B hml hv
  obtain ⟨rfl, hU⟩ := hv
  have hZ := hU.toS
  have hC : ZC p m meth c s RX5 cX5_least 6 := ⟨B.exec, B.bytes, hml, findClass_of_methodNamed B.named, B.notSynchronized⟩
  have hr := B.returns
  have key : W p l e ({ frames := 3, cells := 0, slots := 0, locals := 73 } : Room) s m (([.ref (ad 0 0)] : List Value).toArray) below meth c s.heap [] 0 0 (MQ below (ZQ D ca base ad n np (zpi post)) (([.ref (ad 0 0)] : List Value).toArray) s 0 0 (zB base)) (entryFrame m (([.ref (ad 0 0)] : List Value).toArray) 6) := by
    have hl := lv_entry ([.ref (ad 0 0)]) (n := 6) (Nat.le_of_ble_eq_true rfl)
    rw [lg_entry_eq]
    generalize (lg_sl ([.ref (ad 0 0)]) ++ List.replicate (6 - (lg_sl ([.ref (ad 0 0)])).length) Slot.unset).toArray = ls at hl ⊢
    have hl : lv_has ls 6 [(0, .ref (ad 0 0))] := hl
    unfold w_X5_least at h
    refine lv_aload_n hC.1 hC.2.1 dX5_least_0 rfl (lv_at hl 0 rfl) ?_
    refine z_cVi (As := []) hC hZ (zF_0 _) rfl zy_X5_planned (c_X5_planned l h) km_X5_181 rfl ⟨rfl, rfl⟩ ⟨Nat.le_of_ble_eq_true rfl, Nat.le_of_ble_eq_true rfl⟩ hl.1 rfl (Nat.le_of_ble_eq_true rfl) dX5_least_1 ⟨Nat.le_of_ble_eq_true rfl, Nat.le_of_ble_eq_true rfl⟩ (fun r2 μ1 H locs h hZ => ?_)
    refine lv_istore_n (lv' := [(1, .int r2), (0, .ref (ad 0 0))]) hC.1 hC.2.1 dX5_least_4 rfl hl (by decide) rfl (fun ls hl => ?_)
    refine lv_aload_n hC.1 hC.2.1 dX5_least_5 rfl (lv_at hl 1 rfl) ?_
    refine lv_iload_n hC.1 hC.2.1 dX5_least_6 rfl (lv_at hl 0 rfl) ?_
    refine lv_iconst (v := 5) hC.1 hC.2.1 dX5_least_7 (by decide) ?_
    refine lv_icmp_gt (tgt := 15) hC.1 hC.2.1 dX5_least_8 (by decide) (fun c3 => ?_) (fun c3 => ?_)
    · have h := h.1 c3
      refine lv_iconst (v := 0) hC.1 hC.2.1 dX5_least_15 (by decide) ?_
      exact t_X5_least_16 (l := l) hC hr _ _ _ _ _ _ h hZ (lv_sub hl [1, 0] rfl)
    · have h := h.2 c3
      refine lv_iconst (v := 1) hC.1 hC.2.1 dX5_least_11 (by decide) ?_
      refine lv_goto (tgt := 16) hC.1 hC.2.1 dX5_least_12 (by decide) ?_
      exact t_X5_least_16 (l := l) hC hr _ _ _ _ _ _ h hZ (lv_sub hl [1, 0] rfl)
  exact key
def w_X5_today (post : Int32 → Mem → Prop) (μ : Mem) : Prop := (w_X5_told (fun (r2 : Int32) (μ1 : Mem) => post r2 μ1) (μ 0 0 0) μ)
set_option maxRecDepth 100000 in
set_option maxHeartbeats 4000000 in
theorem c_X5_today (l : Launch) {D : va_G} {ca : Nat → ClassId} {base : Nat} {ad : Nat → Nat → Nat} {n np : Nat} {μ : Mem} {post : Int32 → Mem → Prop} (h : w_X5_today post μ) : ZMet l yX5_today cX5_today 1 (some FieldType.int) ({ frames := 1, cells := 0, slots := 0, locals := 21 } : Room) 0 0 D ca base ad n np [.ref (ad 0 0)] μ (zpi post) := by
  unfold ZMet
  refine Met.ofW (cc := cX5_today) (maxL := 1) (ret := (some FieldType.int)) (by decide) rfl ?_
  intro p e s m args below meth c s₁ B hml hv
  obtain ⟨rfl, hU⟩ := hv
  have hZ := hU.toS
  have hC : ZC p m meth c s RX5 cX5_today 1 := ⟨B.exec, B.bytes, hml, findClass_of_methodNamed B.named, B.notSynchronized⟩
  have hr := B.returns
  have key : W p l e ({ frames := 1, cells := 0, slots := 0, locals := 21 } : Room) s m (([.ref (ad 0 0)] : List Value).toArray) below meth c s.heap [] 0 0 (MQ below (ZQ D ca base ad n np (zpi post)) (([.ref (ad 0 0)] : List Value).toArray) s 0 0 (zB base)) (entryFrame m (([.ref (ad 0 0)] : List Value).toArray) 1) := by
    have hl := lv_entry ([.ref (ad 0 0)]) (n := 1) (Nat.le_of_ble_eq_true rfl)
    rw [lg_entry_eq]
    generalize (lg_sl ([.ref (ad 0 0)]) ++ List.replicate (1 - (lg_sl ([.ref (ad 0 0)])).length) Slot.unset).toArray = ls at hl ⊢
    have hl : lv_has ls 1 [(0, .ref (ad 0 0))] := hl
    unfold w_X5_today at h
    refine lv_aload_n hC.1 hC.2.1 dX5_today_0 rfl (lv_at hl 0 rfl) ?_
    refine lv_aload_n hC.1 hC.2.1 dX5_today_1 rfl (lv_at hl 0 rfl) ?_
    refine gX5_0 hC hZ kf_X5_85 dX5_today_2 ?_
    refine z_cVi (As := [.int (μ 0 0 0)]) hC hZ (zF_0 _) rfl zy_X5_told (c_X5_told l h) km_X5_162 rfl ⟨rfl, rfl⟩ ⟨Nat.le_of_ble_eq_true rfl, Nat.le_of_ble_eq_true rfl⟩ hl.1 rfl (Nat.le_of_ble_eq_true rfl) dX5_today_5 ⟨Nat.le_of_ble_eq_true rfl, Nat.le_of_ble_eq_true rfl⟩ (fun r2 μ1 H locs h hZ => ?_)
    exact z_iret hC hr hZ h dX5_today_8 (Nat.le_of_ble_eq_true rfl) (Nat.le_of_ble_eq_true rfl)
  exact key
def w_X5_spent (post : Int32 → Mem → Prop) (μ : Mem) : Prop := (w_X5_told (fun (r2 : Int32) (μ1 : Mem) => post r2 μ1) (μ 0 0 1) μ)
set_option maxRecDepth 100000 in
set_option maxHeartbeats 4000000 in
theorem c_X5_spent (l : Launch) {D : va_G} {ca : Nat → ClassId} {base : Nat} {ad : Nat → Nat → Nat} {n np : Nat} {μ : Mem} {post : Int32 → Mem → Prop} (h : w_X5_spent post μ) : ZMet l yX5_spent cX5_spent 1 (some FieldType.int) ({ frames := 1, cells := 0, slots := 0, locals := 21 } : Room) 0 0 D ca base ad n np [.ref (ad 0 0)] μ (zpi post) := by
  unfold ZMet
  refine Met.ofW (cc := cX5_spent) (maxL := 1) (ret := (some FieldType.int)) (by decide) rfl ?_
  intro p e s m args below meth c s₁ B hml hv
  obtain ⟨rfl, hU⟩ := hv
  have hZ := hU.toS
  have hC : ZC p m meth c s RX5 cX5_spent 1 := ⟨B.exec, B.bytes, hml, findClass_of_methodNamed B.named, B.notSynchronized⟩
  have hr := B.returns
  have key : W p l e ({ frames := 1, cells := 0, slots := 0, locals := 21 } : Room) s m (([.ref (ad 0 0)] : List Value).toArray) below meth c s.heap [] 0 0 (MQ below (ZQ D ca base ad n np (zpi post)) (([.ref (ad 0 0)] : List Value).toArray) s 0 0 (zB base)) (entryFrame m (([.ref (ad 0 0)] : List Value).toArray) 1) := by
    have hl := lv_entry ([.ref (ad 0 0)]) (n := 1) (Nat.le_of_ble_eq_true rfl)
    rw [lg_entry_eq]
    generalize (lg_sl ([.ref (ad 0 0)]) ++ List.replicate (1 - (lg_sl ([.ref (ad 0 0)])).length) Slot.unset).toArray = ls at hl ⊢
    have hl : lv_has ls 1 [(0, .ref (ad 0 0))] := hl
    unfold w_X5_spent at h
    refine lv_aload_n hC.1 hC.2.1 dX5_spent_0 rfl (lv_at hl 0 rfl) ?_
    refine lv_aload_n hC.1 hC.2.1 dX5_spent_1 rfl (lv_at hl 0 rfl) ?_
    refine gX5_1 hC hZ kf_X5_159 dX5_spent_2 ?_
    refine z_cVi (As := [.int (μ 0 0 1)]) hC hZ (zF_0 _) rfl zy_X5_told (c_X5_told l h) km_X5_162 rfl ⟨rfl, rfl⟩ ⟨Nat.le_of_ble_eq_true rfl, Nat.le_of_ble_eq_true rfl⟩ hl.1 rfl (Nat.le_of_ble_eq_true rfl) dX5_spent_5 ⟨Nat.le_of_ble_eq_true rfl, Nat.le_of_ble_eq_true rfl⟩ (fun r2 μ1 H locs h hZ => ?_)
    exact z_iret hC hr hZ h dX5_spent_8 (Nat.le_of_ble_eq_true rfl) (Nat.le_of_ble_eq_true rfl)
  exact key
def w_X5_cost (post : Int32 → Mem → Prop) (μ : Mem) : Prop := (w_X5_costs (fun (r2 : Int32) (μ1 : Mem) => (w_X5_told (fun (r4 : Int32) (μ3 : Mem) => post r4 μ3) r2 μ1)) μ)
set_option maxRecDepth 100000 in
set_option maxHeartbeats 4000000 in
theorem c_X5_cost (l : Launch) {D : va_G} {ca : Nat → ClassId} {base : Nat} {ad : Nat → Nat → Nat} {n np : Nat} {μ : Mem} {post : Int32 → Mem → Prop} (h : w_X5_cost post μ) : ZMet l yX5_cost cX5_cost 1 (some FieldType.int) ({ frames := 3, cells := 0, slots := 0, locals := 73 } : Room) 0 0 D ca base ad n np [.ref (ad 0 0)] μ (zpi post) := by
  unfold ZMet
  refine Met.ofW (cc := cX5_cost) (maxL := 1) (ret := (some FieldType.int)) (by decide) rfl ?_
  intro p e s m args below meth c s₁ B hml hv
  obtain ⟨rfl, hU⟩ := hv
  have hZ := hU.toS
  have hC : ZC p m meth c s RX5 cX5_cost 1 := ⟨B.exec, B.bytes, hml, findClass_of_methodNamed B.named, B.notSynchronized⟩
  have hr := B.returns
  have key : W p l e ({ frames := 3, cells := 0, slots := 0, locals := 73 } : Room) s m (([.ref (ad 0 0)] : List Value).toArray) below meth c s.heap [] 0 0 (MQ below (ZQ D ca base ad n np (zpi post)) (([.ref (ad 0 0)] : List Value).toArray) s 0 0 (zB base)) (entryFrame m (([.ref (ad 0 0)] : List Value).toArray) 1) := by
    have hl := lv_entry ([.ref (ad 0 0)]) (n := 1) (Nat.le_of_ble_eq_true rfl)
    rw [lg_entry_eq]
    generalize (lg_sl ([.ref (ad 0 0)]) ++ List.replicate (1 - (lg_sl ([.ref (ad 0 0)])).length) Slot.unset).toArray = ls at hl ⊢
    have hl : lv_has ls 1 [(0, .ref (ad 0 0))] := hl
    unfold w_X5_cost at h
    refine lv_aload_n hC.1 hC.2.1 dX5_cost_0 rfl (lv_at hl 0 rfl) ?_
    refine lv_aload_n hC.1 hC.2.1 dX5_cost_1 rfl (lv_at hl 0 rfl) ?_
    refine z_cVi (As := []) hC hZ (zF_0 _) rfl zy_X5_costs (c_X5_costs l h) km_X5_146 rfl ⟨rfl, rfl⟩ ⟨Nat.le_of_ble_eq_true rfl, Nat.le_of_ble_eq_true rfl⟩ hl.1 rfl (Nat.le_of_ble_eq_true rfl) dX5_cost_2 ⟨Nat.le_of_ble_eq_true rfl, Nat.le_of_ble_eq_true rfl⟩ (fun r2 μ1 H locs h hZ => ?_)
    refine z_cVi (As := [.int r2]) hC hZ (zF_0 _) rfl zy_X5_told (c_X5_told l h) km_X5_162 rfl ⟨rfl, rfl⟩ ⟨Nat.le_of_ble_eq_true rfl, Nat.le_of_ble_eq_true rfl⟩ hl.1 rfl (Nat.le_of_ble_eq_true rfl) dX5_cost_5 ⟨Nat.le_of_ble_eq_true rfl, Nat.le_of_ble_eq_true rfl⟩ (fun r4 μ3 H locs h hZ => ?_)
    exact z_iret hC hr hZ h dX5_cost_8 (Nat.le_of_ble_eq_true rfl) (Nat.le_of_ble_eq_true rfl)
  exact key
def w_X5_scenes (post : Int32 → Mem → Prop) (μ : Mem) : Prop := (w_X5_told (fun (r2 : Int32) (μ1 : Mem) => post r2 μ1) (μ 0 0 3) μ)
set_option maxRecDepth 100000 in
set_option maxHeartbeats 4000000 in
theorem c_X5_scenes (l : Launch) {D : va_G} {ca : Nat → ClassId} {base : Nat} {ad : Nat → Nat → Nat} {n np : Nat} {μ : Mem} {post : Int32 → Mem → Prop} (h : w_X5_scenes post μ) : ZMet l yX5_scenes cX5_scenes 1 (some FieldType.int) ({ frames := 1, cells := 0, slots := 0, locals := 21 } : Room) 0 0 D ca base ad n np [.ref (ad 0 0)] μ (zpi post) := by
  unfold ZMet
  refine Met.ofW (cc := cX5_scenes) (maxL := 1) (ret := (some FieldType.int)) (by decide) rfl ?_
  intro p e s m args below meth c s₁ B hml hv
  obtain ⟨rfl, hU⟩ := hv
  have hZ := hU.toS
  have hC : ZC p m meth c s RX5 cX5_scenes 1 := ⟨B.exec, B.bytes, hml, findClass_of_methodNamed B.named, B.notSynchronized⟩
  have hr := B.returns
  have key : W p l e ({ frames := 1, cells := 0, slots := 0, locals := 21 } : Room) s m (([.ref (ad 0 0)] : List Value).toArray) below meth c s.heap [] 0 0 (MQ below (ZQ D ca base ad n np (zpi post)) (([.ref (ad 0 0)] : List Value).toArray) s 0 0 (zB base)) (entryFrame m (([.ref (ad 0 0)] : List Value).toArray) 1) := by
    have hl := lv_entry ([.ref (ad 0 0)]) (n := 1) (Nat.le_of_ble_eq_true rfl)
    rw [lg_entry_eq]
    generalize (lg_sl ([.ref (ad 0 0)]) ++ List.replicate (1 - (lg_sl ([.ref (ad 0 0)])).length) Slot.unset).toArray = ls at hl ⊢
    have hl : lv_has ls 1 [(0, .ref (ad 0 0))] := hl
    unfold w_X5_scenes at h
    refine lv_aload_n hC.1 hC.2.1 dX5_scenes_0 rfl (lv_at hl 0 rfl) ?_
    refine lv_aload_n hC.1 hC.2.1 dX5_scenes_1 rfl (lv_at hl 0 rfl) ?_
    refine gX5_3 hC hZ kf_X5_78 dX5_scenes_2 ?_
    refine z_cVi (As := [.int (μ 0 0 3)]) hC hZ (zF_0 _) rfl zy_X5_told (c_X5_told l h) km_X5_162 rfl ⟨rfl, rfl⟩ ⟨Nat.le_of_ble_eq_true rfl, Nat.le_of_ble_eq_true rfl⟩ hl.1 rfl (Nat.le_of_ble_eq_true rfl) dX5_scenes_5 ⟨Nat.le_of_ble_eq_true rfl, Nat.le_of_ble_eq_true rfl⟩ (fun r2 μ1 H locs h hZ => ?_)
    exact z_iret hC hr hZ h dX5_scenes_8 (Nat.le_of_ble_eq_true rfl) (Nat.le_of_ble_eq_true rfl)
  exact key
def w_X5_stateOf (post : Int32 → Mem → Prop) (a1 : Int32) (μ : Mem) : Prop := (w_X5_isScene (fun (r2 : Int32) (μ1 : Mem) => (w_X5_goes (fun (r4 : Int32) (μ3 : Mem) => ((r4 = 0 → post 0 μ3) ∧ (¬ r4 = 0 → (vp_in a1 10 ∧ post (μ3 3 0 a1.toNatClampNeg) μ3)))) r2 (1 : Int32) (1 : Int32) μ1)) a1 μ)
set_option maxRecDepth 100000 in
set_option maxHeartbeats 4000000 in
theorem c_X5_stateOf (l : Launch) {D : va_G} {ca : Nat → ClassId} {base : Nat} {ad : Nat → Nat → Nat} {n np : Nat} {μ : Mem} {post : Int32 → Mem → Prop} {a1 : Int32} (h : w_X5_stateOf post a1 μ) : ZMet l yX5_stateOf cX5_stateOf 2 (some FieldType.int) ({ frames := 2, cells := 0, slots := 0, locals := 43 } : Room) 0 0 D ca base ad n np [.ref (ad 0 0), .int a1] μ (zpi post) := by
  unfold ZMet
  refine Met.ofW (cc := cX5_stateOf) (maxL := 2) (ret := (some FieldType.int)) (by decide) rfl ?_
  intro p e s m args below meth c s₁ B hml hv
  obtain ⟨rfl, hU⟩ := hv
  have hZ := hU.toS
  have hC : ZC p m meth c s RX5 cX5_stateOf 2 := ⟨B.exec, B.bytes, hml, findClass_of_methodNamed B.named, B.notSynchronized⟩
  have hr := B.returns
  have key : W p l e ({ frames := 2, cells := 0, slots := 0, locals := 43 } : Room) s m (([.ref (ad 0 0), .int a1] : List Value).toArray) below meth c s.heap [] 0 0 (MQ below (ZQ D ca base ad n np (zpi post)) (([.ref (ad 0 0), .int a1] : List Value).toArray) s 0 0 (zB base)) (entryFrame m (([.ref (ad 0 0), .int a1] : List Value).toArray) 2) := by
    have hl := lv_entry ([.ref (ad 0 0), .int a1]) (n := 2) (Nat.le_of_ble_eq_true rfl)
    rw [lg_entry_eq]
    generalize (lg_sl ([.ref (ad 0 0), .int a1]) ++ List.replicate (2 - (lg_sl ([.ref (ad 0 0), .int a1])).length) Slot.unset).toArray = ls at hl ⊢
    have hl : lv_has ls 2 [(0, .ref (ad 0 0)), (1, .int a1)] := hl
    unfold w_X5_stateOf at h
    refine lv_aload_n hC.1 hC.2.1 dX5_stateOf_0 rfl (lv_at hl 0 rfl) ?_
    refine lv_aload_n hC.1 hC.2.1 dX5_stateOf_1 rfl (lv_at hl 0 rfl) ?_
    refine lv_iload_n hC.1 hC.2.1 dX5_stateOf_2 rfl (lv_at hl 1 rfl) ?_
    refine z_cVi (As := [.int a1]) hC hZ (zF_0 _) rfl zy_X5_isScene (c_X5_isScene l h) km_X5_123 rfl ⟨rfl, rfl⟩ ⟨Nat.le_of_ble_eq_true rfl, Nat.le_of_ble_eq_true rfl⟩ hl.1 rfl (Nat.le_of_ble_eq_true rfl) dX5_stateOf_3 ⟨Nat.le_of_ble_eq_true rfl, Nat.le_of_ble_eq_true rfl⟩ (fun r2 μ1 H locs h hZ => ?_)
    refine lv_iconst (v := 1) hC.1 hC.2.1 dX5_stateOf_6 (by decide) ?_
    refine lv_iconst (v := 1) hC.1 hC.2.1 dX5_stateOf_7 (by decide) ?_
    refine z_cVi (As := [.int r2, .int 1, .int 1]) hC hZ (zF_0 _) rfl zy_X5_goes (c_X5_goes l h) km_X5_115 rfl ⟨rfl, rfl⟩ ⟨Nat.le_of_ble_eq_true rfl, Nat.le_of_ble_eq_true rfl⟩ hl.1 rfl (Nat.le_of_ble_eq_true rfl) dX5_stateOf_8 ⟨Nat.le_of_ble_eq_true rfl, Nat.le_of_ble_eq_true rfl⟩ (fun r4 μ3 H locs h hZ => ?_)
    refine lv_if_eq (tgt := 23) hC.1 hC.2.1 dX5_stateOf_11 (by decide) (fun c5 => ?_) (fun c5 => ?_)
    · have h := h.1 c5
      refine lv_iconst (v := 0) hC.1 hC.2.1 dX5_stateOf_23 (by decide) ?_
      exact z_iret hC hr hZ h dX5_stateOf_24 (Nat.le_of_ble_eq_true rfl) (Nat.le_of_ble_eq_true rfl)
    · have h := h.2 c5
      refine lv_aload_n hC.1 hC.2.1 dX5_stateOf_14 rfl (lv_at hl 0 rfl) ?_
      refine gX5_6 hC hZ kf_X5_20 dX5_stateOf_15 ?_
      refine lv_iload_n hC.1 hC.2.1 dX5_stateOf_18 rfl (lv_at hl 1 rfl) ?_
      obtain ⟨q6, h⟩ := h
      refine aL_3 hC hZ q6 dX5_stateOf_19 ?_
      refine lv_goto (tgt := 24) hC.1 hC.2.1 dX5_stateOf_20 (by decide) ?_
      exact z_iret hC hr hZ h dX5_stateOf_24 (Nat.le_of_ble_eq_true rfl) (Nat.le_of_ble_eq_true rfl)
  exact key
def w_X5_dayOf (post : Int32 → Mem → Prop) (a1 : Int32) (μ : Mem) : Prop := (w_X5_isScene (fun (r2 : Int32) (μ1 : Mem) => (w_X5_goes (fun (r4 : Int32) (μ3 : Mem) => ((r4 = 0 → post 0 μ3) ∧ (¬ r4 = 0 → (vp_in a1 10 ∧ ((¬ (μ3 3 0 a1.toNatClampNeg) = 2 → post (μ3 4 0 a1.toNatClampNeg) μ3) ∧ ((μ3 3 0 a1.toNatClampNeg) = 2 → post (-1) μ3)))))) r2 (1 : Int32) (1 : Int32) μ1)) a1 μ)
set_option maxRecDepth 100000 in
set_option maxHeartbeats 4000000 in
theorem c_X5_dayOf (l : Launch) {D : va_G} {ca : Nat → ClassId} {base : Nat} {ad : Nat → Nat → Nat} {n np : Nat} {μ : Mem} {post : Int32 → Mem → Prop} {a1 : Int32} (h : w_X5_dayOf post a1 μ) : ZMet l yX5_dayOf cX5_dayOf 2 (some FieldType.int) ({ frames := 2, cells := 0, slots := 0, locals := 43 } : Room) 0 0 D ca base ad n np [.ref (ad 0 0), .int a1] μ (zpi post) := by
  unfold ZMet
  refine Met.ofW (cc := cX5_dayOf) (maxL := 2) (ret := (some FieldType.int)) (by decide) rfl ?_
  intro p e s m args below meth c s₁ B hml hv
  obtain ⟨rfl, hU⟩ := hv
  have hZ := hU.toS
  have hC : ZC p m meth c s RX5 cX5_dayOf 2 := ⟨B.exec, B.bytes, hml, findClass_of_methodNamed B.named, B.notSynchronized⟩
  have hr := B.returns
  have key : W p l e ({ frames := 2, cells := 0, slots := 0, locals := 43 } : Room) s m (([.ref (ad 0 0), .int a1] : List Value).toArray) below meth c s.heap [] 0 0 (MQ below (ZQ D ca base ad n np (zpi post)) (([.ref (ad 0 0), .int a1] : List Value).toArray) s 0 0 (zB base)) (entryFrame m (([.ref (ad 0 0), .int a1] : List Value).toArray) 2) := by
    have hl := lv_entry ([.ref (ad 0 0), .int a1]) (n := 2) (Nat.le_of_ble_eq_true rfl)
    rw [lg_entry_eq]
    generalize (lg_sl ([.ref (ad 0 0), .int a1]) ++ List.replicate (2 - (lg_sl ([.ref (ad 0 0), .int a1])).length) Slot.unset).toArray = ls at hl ⊢
    have hl : lv_has ls 2 [(0, .ref (ad 0 0)), (1, .int a1)] := hl
    unfold w_X5_dayOf at h
    refine lv_aload_n hC.1 hC.2.1 dX5_dayOf_0 rfl (lv_at hl 0 rfl) ?_
    refine lv_aload_n hC.1 hC.2.1 dX5_dayOf_1 rfl (lv_at hl 0 rfl) ?_
    refine lv_iload_n hC.1 hC.2.1 dX5_dayOf_2 rfl (lv_at hl 1 rfl) ?_
    refine z_cVi (As := [.int a1]) hC hZ (zF_0 _) rfl zy_X5_isScene (c_X5_isScene l h) km_X5_123 rfl ⟨rfl, rfl⟩ ⟨Nat.le_of_ble_eq_true rfl, Nat.le_of_ble_eq_true rfl⟩ hl.1 rfl (Nat.le_of_ble_eq_true rfl) dX5_dayOf_3 ⟨Nat.le_of_ble_eq_true rfl, Nat.le_of_ble_eq_true rfl⟩ (fun r2 μ1 H locs h hZ => ?_)
    refine lv_iconst (v := 1) hC.1 hC.2.1 dX5_dayOf_6 (by decide) ?_
    refine lv_iconst (v := 1) hC.1 hC.2.1 dX5_dayOf_7 (by decide) ?_
    refine z_cVi (As := [.int r2, .int 1, .int 1]) hC hZ (zF_0 _) rfl zy_X5_goes (c_X5_goes l h) km_X5_115 rfl ⟨rfl, rfl⟩ ⟨Nat.le_of_ble_eq_true rfl, Nat.le_of_ble_eq_true rfl⟩ hl.1 rfl (Nat.le_of_ble_eq_true rfl) dX5_dayOf_8 ⟨Nat.le_of_ble_eq_true rfl, Nat.le_of_ble_eq_true rfl⟩ (fun r4 μ3 H locs h hZ => ?_)
    refine lv_if_eq (tgt := 37) hC.1 hC.2.1 dX5_dayOf_11 (by decide) (fun c5 => ?_) (fun c5 => ?_)
    · have h := h.1 c5
      refine lv_iconst (v := 0) hC.1 hC.2.1 dX5_dayOf_37 (by decide) ?_
      exact z_iret hC hr hZ h dX5_dayOf_38 (Nat.le_of_ble_eq_true rfl) (Nat.le_of_ble_eq_true rfl)
    · have h := h.2 c5
      refine lv_aload_n hC.1 hC.2.1 dX5_dayOf_14 rfl (lv_at hl 0 rfl) ?_
      refine gX5_6 hC hZ kf_X5_20 dX5_dayOf_15 ?_
      refine lv_iload_n hC.1 hC.2.1 dX5_dayOf_18 rfl (lv_at hl 1 rfl) ?_
      obtain ⟨q6, h⟩ := h
      refine aL_3 hC hZ q6 dX5_dayOf_19 ?_
      refine lv_iconst (v := 2) hC.1 hC.2.1 dX5_dayOf_20 (by decide) ?_
      refine lv_icmp_ne (tgt := 28) hC.1 hC.2.1 dX5_dayOf_21 (by decide) (fun c7 => ?_) (fun c7 => ?_)
      · have h := h.1 c7
        refine lv_aload_n hC.1 hC.2.1 dX5_dayOf_28 rfl (lv_at hl 0 rfl) ?_
        refine gX5_7 hC hZ kf_X5_23 dX5_dayOf_29 ?_
        refine lv_iload_n hC.1 hC.2.1 dX5_dayOf_32 rfl (lv_at hl 1 rfl) ?_
        refine aL_4 hC hZ q6 dX5_dayOf_33 ?_
        refine lv_goto (tgt := 38) hC.1 hC.2.1 dX5_dayOf_34 (by decide) ?_
        exact z_iret hC hr hZ h dX5_dayOf_38 (Nat.le_of_ble_eq_true rfl) (Nat.le_of_ble_eq_true rfl)
      · have h := h.2 c7
        refine lv_iconst (v := (-1)) hC.1 hC.2.1 dX5_dayOf_24 (by decide) ?_
        refine lv_goto (tgt := 38) hC.1 hC.2.1 dX5_dayOf_25 (by decide) ?_
        exact z_iret hC hr hZ h dX5_dayOf_38 (Nat.le_of_ble_eq_true rfl) (Nat.le_of_ble_eq_true rfl)
  exact key
def w_X5_sceneOn (post : Int32 → Mem → Prop) (a1 : Int32) (μ : Mem) : Prop := (w_X5_isDay (fun (r2 : Int32) (μ1 : Mem) => (w_X5_goes (fun (r4 : Int32) (μ3 : Mem) => ((r4 = 0 → post 0 μ3) ∧ (¬ r4 = 0 → (vp_in a1 30 ∧ post (μ3 8 0 a1.toNatClampNeg) μ3)))) r2 (1 : Int32) (1 : Int32) μ1)) a1 μ)
set_option maxRecDepth 100000 in
set_option maxHeartbeats 4000000 in
theorem c_X5_sceneOn (l : Launch) {D : va_G} {ca : Nat → ClassId} {base : Nat} {ad : Nat → Nat → Nat} {n np : Nat} {μ : Mem} {post : Int32 → Mem → Prop} {a1 : Int32} (h : w_X5_sceneOn post a1 μ) : ZMet l yX5_sceneOn cX5_sceneOn 2 (some FieldType.int) ({ frames := 2, cells := 0, slots := 0, locals := 42 } : Room) 0 0 D ca base ad n np [.ref (ad 0 0), .int a1] μ (zpi post) := by
  unfold ZMet
  refine Met.ofW (cc := cX5_sceneOn) (maxL := 2) (ret := (some FieldType.int)) (by decide) rfl ?_
  intro p e s m args below meth c s₁ B hml hv
  obtain ⟨rfl, hU⟩ := hv
  have hZ := hU.toS
  have hC : ZC p m meth c s RX5 cX5_sceneOn 2 := ⟨B.exec, B.bytes, hml, findClass_of_methodNamed B.named, B.notSynchronized⟩
  have hr := B.returns
  have key : W p l e ({ frames := 2, cells := 0, slots := 0, locals := 42 } : Room) s m (([.ref (ad 0 0), .int a1] : List Value).toArray) below meth c s.heap [] 0 0 (MQ below (ZQ D ca base ad n np (zpi post)) (([.ref (ad 0 0), .int a1] : List Value).toArray) s 0 0 (zB base)) (entryFrame m (([.ref (ad 0 0), .int a1] : List Value).toArray) 2) := by
    have hl := lv_entry ([.ref (ad 0 0), .int a1]) (n := 2) (Nat.le_of_ble_eq_true rfl)
    rw [lg_entry_eq]
    generalize (lg_sl ([.ref (ad 0 0), .int a1]) ++ List.replicate (2 - (lg_sl ([.ref (ad 0 0), .int a1])).length) Slot.unset).toArray = ls at hl ⊢
    have hl : lv_has ls 2 [(0, .ref (ad 0 0)), (1, .int a1)] := hl
    unfold w_X5_sceneOn at h
    refine lv_aload_n hC.1 hC.2.1 dX5_sceneOn_0 rfl (lv_at hl 0 rfl) ?_
    refine lv_iload_n hC.1 hC.2.1 dX5_sceneOn_1 rfl (lv_at hl 1 rfl) ?_
    refine z_cSi (As := [.int a1]) hC hZ zy_X5_isDay (c_X5_isDay l h) km_X5_149 rfl ⟨rfl, rfl⟩ ⟨Nat.le_of_ble_eq_true rfl, Nat.le_of_ble_eq_true rfl⟩ hl.1 rfl (Nat.le_of_ble_eq_true rfl) dX5_sceneOn_2 ⟨Nat.le_of_ble_eq_true rfl, Nat.le_of_ble_eq_true rfl⟩ (fun r2 μ1 H locs h hZ => ?_)
    refine lv_iconst (v := 1) hC.1 hC.2.1 dX5_sceneOn_5 (by decide) ?_
    refine lv_iconst (v := 1) hC.1 hC.2.1 dX5_sceneOn_6 (by decide) ?_
    refine z_cVi (As := [.int r2, .int 1, .int 1]) hC hZ (zF_0 _) rfl zy_X5_goes (c_X5_goes l h) km_X5_115 rfl ⟨rfl, rfl⟩ ⟨Nat.le_of_ble_eq_true rfl, Nat.le_of_ble_eq_true rfl⟩ hl.1 rfl (Nat.le_of_ble_eq_true rfl) dX5_sceneOn_7 ⟨Nat.le_of_ble_eq_true rfl, Nat.le_of_ble_eq_true rfl⟩ (fun r4 μ3 H locs h hZ => ?_)
    refine lv_if_eq (tgt := 22) hC.1 hC.2.1 dX5_sceneOn_10 (by decide) (fun c5 => ?_) (fun c5 => ?_)
    · have h := h.1 c5
      refine lv_iconst (v := 0) hC.1 hC.2.1 dX5_sceneOn_22 (by decide) ?_
      exact z_iret hC hr hZ h dX5_sceneOn_23 (Nat.le_of_ble_eq_true rfl) (Nat.le_of_ble_eq_true rfl)
    · have h := h.2 c5
      refine lv_aload_n hC.1 hC.2.1 dX5_sceneOn_13 rfl (lv_at hl 0 rfl) ?_
      refine gX5_11 hC hZ kf_X5_35 dX5_sceneOn_14 ?_
      refine lv_iload_n hC.1 hC.2.1 dX5_sceneOn_17 rfl (lv_at hl 1 rfl) ?_
      obtain ⟨q6, h⟩ := h
      refine aL_8 hC hZ q6 dX5_sceneOn_18 ?_
      refine lv_goto (tgt := 23) hC.1 hC.2.1 dX5_sceneOn_19 (by decide) ?_
      exact z_iret hC hr hZ h dX5_sceneOn_23 (Nat.le_of_ble_eq_true rfl) (Nat.le_of_ble_eq_true rfl)
  exact key
def w_X5_refused (post : Int32 → Mem → Prop) (μ : Mem) : Prop := (w_X5_refusals (fun (r2 : Int32) (μ1 : Mem) => (w_X5_told (fun (r4 : Int32) (μ3 : Mem) => post r4 μ3) r2 μ1)) μ)
set_option maxRecDepth 100000 in
set_option maxHeartbeats 4000000 in
theorem c_X5_refused (l : Launch) {D : va_G} {ca : Nat → ClassId} {base : Nat} {ad : Nat → Nat → Nat} {n np : Nat} {μ : Mem} {post : Int32 → Mem → Prop} (h : w_X5_refused post μ) : ZMet l yX5_refused cX5_refused 1 (some FieldType.int) ({ frames := 3, cells := 0, slots := 0, locals := 68 } : Room) 0 0 D ca base ad n np [.ref (ad 0 0)] μ (zpi post) := by
  unfold ZMet
  refine Met.ofW (cc := cX5_refused) (maxL := 1) (ret := (some FieldType.int)) (by decide) rfl ?_
  intro p e s m args below meth c s₁ B hml hv
  obtain ⟨rfl, hU⟩ := hv
  have hZ := hU.toS
  have hC : ZC p m meth c s RX5 cX5_refused 1 := ⟨B.exec, B.bytes, hml, findClass_of_methodNamed B.named, B.notSynchronized⟩
  have hr := B.returns
  have key : W p l e ({ frames := 3, cells := 0, slots := 0, locals := 68 } : Room) s m (([.ref (ad 0 0)] : List Value).toArray) below meth c s.heap [] 0 0 (MQ below (ZQ D ca base ad n np (zpi post)) (([.ref (ad 0 0)] : List Value).toArray) s 0 0 (zB base)) (entryFrame m (([.ref (ad 0 0)] : List Value).toArray) 1) := by
    have hl := lv_entry ([.ref (ad 0 0)]) (n := 1) (Nat.le_of_ble_eq_true rfl)
    rw [lg_entry_eq]
    generalize (lg_sl ([.ref (ad 0 0)]) ++ List.replicate (1 - (lg_sl ([.ref (ad 0 0)])).length) Slot.unset).toArray = ls at hl ⊢
    have hl : lv_has ls 1 [(0, .ref (ad 0 0))] := hl
    unfold w_X5_refused at h
    refine lv_aload_n hC.1 hC.2.1 dX5_refused_0 rfl (lv_at hl 0 rfl) ?_
    refine lv_aload_n hC.1 hC.2.1 dX5_refused_1 rfl (lv_at hl 0 rfl) ?_
    refine z_cVi (As := []) hC hZ (zF_0 _) rfl zy_X5_refusals (c_X5_refusals l h) km_X5_152 rfl ⟨rfl, rfl⟩ ⟨Nat.le_of_ble_eq_true rfl, Nat.le_of_ble_eq_true rfl⟩ hl.1 rfl (Nat.le_of_ble_eq_true rfl) dX5_refused_2 ⟨Nat.le_of_ble_eq_true rfl, Nat.le_of_ble_eq_true rfl⟩ (fun r2 μ1 H locs h hZ => ?_)
    refine z_cVi (As := [.int r2]) hC hZ (zF_0 _) rfl zy_X5_told (c_X5_told l h) km_X5_162 rfl ⟨rfl, rfl⟩ ⟨Nat.le_of_ble_eq_true rfl, Nat.le_of_ble_eq_true rfl⟩ hl.1 rfl (Nat.le_of_ble_eq_true rfl) dX5_refused_5 ⟨Nat.le_of_ble_eq_true rfl, Nat.le_of_ble_eq_true rfl⟩ (fun r4 μ3 H locs h hZ => ?_)
    exact z_iret hC hr hZ h dX5_refused_8 (Nat.le_of_ble_eq_true rfl) (Nat.le_of_ble_eq_true rfl)
  exact key
def w_X5_isAllowed (post : Int32 → Mem → Prop) (a1 : Int32) (a2 : Int32) (μ : Mem) : Prop := (w_X5_isScene (fun (r2 : Int32) (μ1 : Mem) => (w_X5_isDay (fun (r4 : Int32) (μ3 : Mem) => (w_X5_goes (fun (r6 : Int32) (μ5 : Mem) => ((r6 = 0 → post 0 μ5) ∧ (¬ r6 = 0 → (w_X5_allows (fun (r9 : Int32) (μ8 : Mem) => ((r9 = 0 → post 0 μ8) ∧ (¬ r9 = 0 → post 1 μ8))) a1 a2 μ5)))) r2 r4 (1 : Int32) μ3)) a2 μ1)) a1 μ)
set_option maxRecDepth 100000 in
set_option maxHeartbeats 4000000 in
theorem c_X5_isAllowed (l : Launch) {D : va_G} {ca : Nat → ClassId} {base : Nat} {ad : Nat → Nat → Nat} {n np : Nat} {μ : Mem} {post : Int32 → Mem → Prop} {a1 : Int32} {a2 : Int32} (h : w_X5_isAllowed post a1 a2 μ) : ZMet l yX5_isAllowed cX5_isAllowed 3 (some FieldType.boolean) ({ frames := 2, cells := 0, slots := 0, locals := 46 } : Room) 0 0 D ca base ad n np [.ref (ad 0 0), .int a1, .int a2] μ (zpi post) := by
  unfold ZMet
  refine Met.ofW (cc := cX5_isAllowed) (maxL := 3) (ret := (some FieldType.boolean)) (by decide) rfl ?_
  intro p e s m args below meth c s₁ B hml hv
  obtain ⟨rfl, hU⟩ := hv
  have hZ := hU.toS
  have hC : ZC p m meth c s RX5 cX5_isAllowed 3 := ⟨B.exec, B.bytes, hml, findClass_of_methodNamed B.named, B.notSynchronized⟩
  have hr := B.returns
  have key : W p l e ({ frames := 2, cells := 0, slots := 0, locals := 46 } : Room) s m (([.ref (ad 0 0), .int a1, .int a2] : List Value).toArray) below meth c s.heap [] 0 0 (MQ below (ZQ D ca base ad n np (zpi post)) (([.ref (ad 0 0), .int a1, .int a2] : List Value).toArray) s 0 0 (zB base)) (entryFrame m (([.ref (ad 0 0), .int a1, .int a2] : List Value).toArray) 3) := by
    have hl := lv_entry ([.ref (ad 0 0), .int a1, .int a2]) (n := 3) (Nat.le_of_ble_eq_true rfl)
    rw [lg_entry_eq]
    generalize (lg_sl ([.ref (ad 0 0), .int a1, .int a2]) ++ List.replicate (3 - (lg_sl ([.ref (ad 0 0), .int a1, .int a2])).length) Slot.unset).toArray = ls at hl ⊢
    have hl : lv_has ls 3 [(0, .ref (ad 0 0)), (1, .int a1), (2, .int a2)] := hl
    unfold w_X5_isAllowed at h
    refine lv_aload_n hC.1 hC.2.1 dX5_isAllowed_0 rfl (lv_at hl 0 rfl) ?_
    refine lv_aload_n hC.1 hC.2.1 dX5_isAllowed_1 rfl (lv_at hl 0 rfl) ?_
    refine lv_iload_n hC.1 hC.2.1 dX5_isAllowed_2 rfl (lv_at hl 1 rfl) ?_
    refine z_cVi (As := [.int a1]) hC hZ (zF_0 _) rfl zy_X5_isScene (c_X5_isScene l h) km_X5_123 rfl ⟨rfl, rfl⟩ ⟨Nat.le_of_ble_eq_true rfl, Nat.le_of_ble_eq_true rfl⟩ hl.1 rfl (Nat.le_of_ble_eq_true rfl) dX5_isAllowed_3 ⟨Nat.le_of_ble_eq_true rfl, Nat.le_of_ble_eq_true rfl⟩ (fun r2 μ1 H locs h hZ => ?_)
    refine lv_iload_n hC.1 hC.2.1 dX5_isAllowed_6 rfl (lv_at hl 2 rfl) ?_
    refine z_cSi (As := [.int a2]) hC hZ zy_X5_isDay (c_X5_isDay l h) km_X5_149 rfl ⟨rfl, rfl⟩ ⟨Nat.le_of_ble_eq_true rfl, Nat.le_of_ble_eq_true rfl⟩ hl.1 rfl (Nat.le_of_ble_eq_true rfl) dX5_isAllowed_7 ⟨Nat.le_of_ble_eq_true rfl, Nat.le_of_ble_eq_true rfl⟩ (fun r4 μ3 H locs h hZ => ?_)
    refine lv_iconst (v := 1) hC.1 hC.2.1 dX5_isAllowed_10 (by decide) ?_
    refine z_cVi (As := [.int r2, .int r4, .int 1]) hC hZ (zF_0 _) rfl zy_X5_goes (c_X5_goes l h) km_X5_115 rfl ⟨rfl, rfl⟩ ⟨Nat.le_of_ble_eq_true rfl, Nat.le_of_ble_eq_true rfl⟩ hl.1 rfl (Nat.le_of_ble_eq_true rfl) dX5_isAllowed_11 ⟨Nat.le_of_ble_eq_true rfl, Nat.le_of_ble_eq_true rfl⟩ (fun r6 μ5 H locs h hZ => ?_)
    refine lv_if_eq (tgt := 30) hC.1 hC.2.1 dX5_isAllowed_14 (by decide) (fun c7 => ?_) (fun c7 => ?_)
    · have h := h.1 c7
      refine lv_iconst (v := 0) hC.1 hC.2.1 dX5_isAllowed_30 (by decide) ?_
      exact z_bret hC hr hZ (by decide) h dX5_isAllowed_31 (Nat.le_of_ble_eq_true rfl) (Nat.le_of_ble_eq_true rfl)
    · have h := h.2 c7
      refine lv_aload_n hC.1 hC.2.1 dX5_isAllowed_17 rfl (lv_at hl 0 rfl) ?_
      refine lv_iload_n hC.1 hC.2.1 dX5_isAllowed_18 rfl (lv_at hl 1 rfl) ?_
      refine lv_iload_n hC.1 hC.2.1 dX5_isAllowed_19 rfl (lv_at hl 2 rfl) ?_
      refine z_cVi (As := [.int a1, .int a2]) hC hZ (zF_0 _) rfl zy_X5_allows (c_X5_allows l h) km_X5_104 rfl ⟨rfl, rfl⟩ ⟨Nat.le_of_ble_eq_true rfl, Nat.le_of_ble_eq_true rfl⟩ hl.1 rfl (Nat.le_of_ble_eq_true rfl) dX5_isAllowed_20 ⟨Nat.le_of_ble_eq_true rfl, Nat.le_of_ble_eq_true rfl⟩ (fun r9 μ8 H locs h hZ => ?_)
      refine lv_if_eq (tgt := 30) hC.1 hC.2.1 dX5_isAllowed_23 (by decide) (fun c10 => ?_) (fun c10 => ?_)
      · have h := h.1 c10
        refine lv_iconst (v := 0) hC.1 hC.2.1 dX5_isAllowed_30 (by decide) ?_
        exact z_bret hC hr hZ (by decide) h dX5_isAllowed_31 (Nat.le_of_ble_eq_true rfl) (Nat.le_of_ble_eq_true rfl)
      · have h := h.2 c10
        refine lv_iconst (v := 1) hC.1 hC.2.1 dX5_isAllowed_26 (by decide) ?_
        refine lv_goto (tgt := 31) hC.1 hC.2.1 dX5_isAllowed_27 (by decide) ?_
        exact z_bret hC hr hZ (by decide) h dX5_isAllowed_31 (Nat.le_of_ble_eq_true rfl) (Nat.le_of_ble_eq_true rfl)
  exact key
def b_X5_ahead_67 (post : Int32 → Mem → Prop) (k36 : Int32 → Int32 → Mem → Prop) (a1 : Int32) (a2 : Int32) (v4 : Int32) (s0 : Int32) (μ : Mem) : Prop := k36 s0 (v4 + 1) μ
set_option maxRecDepth 100000 in
set_option maxHeartbeats 4000000 in
theorem t_X5_ahead_67 {p : Program} {l : Launch} {e : Env} {s : State} {m : MethodId} {args : Array Value} {below : List Frame} {meth : Method} {c : Code} {D : va_G} {ca : Nat → ClassId} {base : Nat} {ad : Nat → Nat → Nat} {n np : Nat} {post : Int32 → Mem → Prop} {k36 : Int32 → Int32 → Mem → Prop} (hC : ZC p m meth c s RX5 cX5_ahead 5) (hr : meth.sig.returnType = (some FieldType.int)) (a1 : Int32) (a2 : Int32) (hk36 : ∀ (v3 : Int32) (v4 : Int32) (μ : Mem) (H : Heap) (locs : List Loc) (ls : Array Slot), k36 v3 v4 μ → ZS D ca base ad n np μ s H locs → lv_has ls 5 [(0, .ref (ad 0 0)), (1, .int a1), (2, .int a2), (3, .int v3), (4, .int v4)] → W p l e ({ frames := 2, cells := 0, slots := 0, locals := 43 } : Room) s m args below meth c H locs 0 0 (MQ below (ZQ D ca base ad n np (zpi post)) args s 0 0 (zB base)) (F0 m 36 ls [])) (v4 : Int32) (s0 : Int32) (μ : Mem) (H : Heap) (locs : List Loc) (ls : Array Slot) (h : b_X5_ahead_67 post k36 a1 a2 v4 s0 μ) (hZ : ZS D ca base ad n np μ s H locs) (hl : lv_has ls 5 [(0, .ref (ad 0 0)), (1, .int a1), (2, .int a2), (4, .int v4)]) : W p l e ({ frames := 2, cells := 0, slots := 0, locals := 43 } : Room) s m args below meth c H locs 0 0 (MQ below (ZQ D ca base ad n np (zpi post)) args s 0 0 (zB base)) (F0 m 67 ls [.int s0]) := by
  unfold b_X5_ahead_67 at h
  refine lv_istore_n (lv' := [(3, .int s0), (0, .ref (ad 0 0)), (1, .int a1), (2, .int a2), (4, .int v4)]) hC.1 hC.2.1 dX5_ahead_67 rfl hl (by decide) rfl (fun ls hl => ?_)
  refine lv_iinc (v := v4 + 1) (lv' := [(4, .int (v4 + 1)), (3, .int s0), (0, .ref (ad 0 0)), (1, .int a1), (2, .int a2)]) hC.1 hC.2.1 dX5_ahead_68 hl (k := 4) rfl rfl (by decide) rfl (fun ls hl => ?_)
  refine lv_goto (tgt := 36) hC.1 hC.2.1 dX5_ahead_71 (by decide) ?_
  exact hk36 _ _ _ _ _ _ h hZ (lv_sub hl [2, 3, 4, 1, 0] rfl)
def lb_X5_ahead_36 (post : Int32 → Mem → Prop) (k36 : Int32 → Int32 → Mem → Prop) (a1 : Int32) (a2 : Int32) (v3 : Int32) (v4 : Int32) (μ : Mem) : Prop := ((a1 ≤ v4 → post v3 μ) ∧ (¬ a1 ≤ v4 → (w_X5_isUsed (fun (r9 : Int32) (μ8 : Mem) => ((r9 = 0 → b_X5_ahead_67 post k36 a1 a2 v4 v3 μ8) ∧ (¬ r9 = 0 → (vp_in ((5 * v4) + a2) 50 ∧ b_X5_ahead_67 post k36 a1 a2 v4 (μ8 7 0 ((5 * v4) + a2).toNatClampNeg) μ8)))) v4 a2 μ)))
def l_X5_ahead_36 (post : Int32 → Mem → Prop) (a1 : Int32) (a2 : Int32) : Nat → Int32 → Int32 → Mem → Prop
  | 0 => fun _ _ _ => False
  | fuel + 1 => lb_X5_ahead_36 post (l_X5_ahead_36 post a1 a2 fuel) a1 a2 
set_option maxRecDepth 100000 in
set_option maxHeartbeats 4000000 in
theorem t_X5_ahead_36 {p : Program} {l : Launch} {e : Env} {s : State} {m : MethodId} {args : Array Value} {below : List Frame} {meth : Method} {c : Code} {D : va_G} {ca : Nat → ClassId} {base : Nat} {ad : Nat → Nat → Nat} {n np : Nat} {post : Int32 → Mem → Prop} (hC : ZC p m meth c s RX5 cX5_ahead 5) (hr : meth.sig.returnType = (some FieldType.int)) (a1 : Int32) (a2 : Int32) : ∀ (fuel : Nat) (v3 : Int32) (v4 : Int32) (μ : Mem) (H : Heap) (locs : List Loc) (ls : Array Slot), l_X5_ahead_36 post a1 a2 fuel v3 v4 μ → ZS D ca base ad n np μ s H locs → lv_has ls 5 [(0, .ref (ad 0 0)), (1, .int a1), (2, .int a2), (3, .int v3), (4, .int v4)] → W p l e ({ frames := 2, cells := 0, slots := 0, locals := 43 } : Room) s m args below meth c H locs 0 0 (MQ below (ZQ D ca base ad n np (zpi post)) args s 0 0 (zB base)) (F0 m 36 ls []) := by
  intro fuel
  induction fuel with
  | zero => exact fun _ _ _ _ _ _ h => h.elim
  | succ fuel hk36 =>
    intro v3 v4 μ H locs ls h hZ hl
    have h : lb_X5_ahead_36 post (l_X5_ahead_36 post a1 a2 fuel) a1 a2 v3 v4 μ := h
    unfold lb_X5_ahead_36 at h
    refine lv_iload hC.1 hC.2.1 dX5_ahead_36 (lv_at hl 4 rfl) ?_
    refine lv_iload_n hC.1 hC.2.1 dX5_ahead_38 rfl (lv_at hl 1 rfl) ?_
    refine lv_icmp_ge (tgt := 74) hC.1 hC.2.1 dX5_ahead_39 (by decide) (fun c7 => ?_) (fun c7 => ?_)
    · have h := h.1 c7
      refine lv_iload_n hC.1 hC.2.1 dX5_ahead_74 rfl (lv_at hl 3 rfl) ?_
      exact z_iret hC hr hZ h dX5_ahead_75 (Nat.le_of_ble_eq_true rfl) (Nat.le_of_ble_eq_true rfl)
    · have h := h.2 c7
      refine lv_aload_n hC.1 hC.2.1 dX5_ahead_42 rfl (lv_at hl 0 rfl) ?_
      refine lv_iload hC.1 hC.2.1 dX5_ahead_43 (lv_at hl 4 rfl) ?_
      refine lv_iload_n hC.1 hC.2.1 dX5_ahead_45 rfl (lv_at hl 2 rfl) ?_
      refine z_cVi (As := [.int v4, .int a2]) hC hZ (zF_0 _) rfl zy_X5_isUsed (c_X5_isUsed l h) km_X5_130 rfl ⟨rfl, rfl⟩ ⟨Nat.le_of_ble_eq_true rfl, Nat.le_of_ble_eq_true rfl⟩ hl.1 rfl (Nat.le_of_ble_eq_true rfl) dX5_ahead_46 ⟨Nat.le_of_ble_eq_true rfl, Nat.le_of_ble_eq_true rfl⟩ (fun r9 μ8 H locs h hZ => ?_)
      refine lv_if_eq (tgt := 66) hC.1 hC.2.1 dX5_ahead_49 (by decide) (fun c10 => ?_) (fun c10 => ?_)
      · have h := h.1 c10
        refine lv_iload_n hC.1 hC.2.1 dX5_ahead_66 rfl (lv_at hl 3 rfl) ?_
        exact t_X5_ahead_67 (l := l) hC hr _ _ hk36 _ _ _ _ _ _ h hZ (lv_sub hl [0, 1, 2, 4] rfl)
      · have h := h.2 c10
        refine lv_aload_n hC.1 hC.2.1 dX5_ahead_52 rfl (lv_at hl 0 rfl) ?_
        refine gX5_10 hC hZ kf_X5_32 dX5_ahead_53 ?_
        refine lv_iconst (v := 5) hC.1 hC.2.1 dX5_ahead_56 (by decide) ?_
        refine lv_iload hC.1 hC.2.1 dX5_ahead_57 (lv_at hl 4 rfl) ?_
        refine lv_imul hC.1 hC.2.1 dX5_ahead_59 ?_
        refine lv_iload_n hC.1 hC.2.1 dX5_ahead_60 rfl (lv_at hl 2 rfl) ?_
        refine lv_iadd hC.1 hC.2.1 dX5_ahead_61 ?_
        obtain ⟨q11, h⟩ := h
        refine aL_7 hC hZ q11 dX5_ahead_62 ?_
        refine lv_goto (tgt := 67) hC.1 hC.2.1 dX5_ahead_63 (by decide) ?_
        exact t_X5_ahead_67 (l := l) hC hr _ _ hk36 _ _ _ _ _ _ h hZ (lv_sub hl [0, 1, 2, 4] rfl)
def b_X5_ahead_21 (post : Int32 → Mem → Prop) (a1 : Int32) (a2 : Int32) (s1 : Int32) (μ : Mem) : Prop := (w_X5_goes (fun (r5 : Int32) (μ4 : Mem) => ((¬ r5 = 0 → (∃ fuel : Nat, l_X5_ahead_36 post a1 a2 fuel (0 : Int32) (0 : Int32) μ4)) ∧ (r5 = 0 → post 0 μ4))) s1 (1 : Int32) (1 : Int32) μ)
set_option maxRecDepth 100000 in
set_option maxHeartbeats 4000000 in
theorem t_X5_ahead_21 {p : Program} {l : Launch} {e : Env} {s : State} {m : MethodId} {args : Array Value} {below : List Frame} {meth : Method} {c : Code} {D : va_G} {ca : Nat → ClassId} {base : Nat} {ad : Nat → Nat → Nat} {n np : Nat} {post : Int32 → Mem → Prop} (hC : ZC p m meth c s RX5 cX5_ahead 5) (hr : meth.sig.returnType = (some FieldType.int)) (a1 : Int32) (a2 : Int32) (s1 : Int32) (μ : Mem) (H : Heap) (locs : List Loc) (ls : Array Slot) (h : b_X5_ahead_21 post a1 a2 s1 μ) (hZ : ZS D ca base ad n np μ s H locs) (hl : lv_has ls 5 [(0, .ref (ad 0 0)), (1, .int a1), (2, .int a2)]) : W p l e ({ frames := 2, cells := 0, slots := 0, locals := 43 } : Room) s m args below meth c H locs 0 0 (MQ below (ZQ D ca base ad n np (zpi post)) args s 0 0 (zB base)) (F0 m 21 ls [.int s1, .ref (ad 0 0)]) := by
  unfold b_X5_ahead_21 at h
  refine lv_iconst (v := 1) hC.1 hC.2.1 dX5_ahead_21 (by decide) ?_
  refine lv_iconst (v := 1) hC.1 hC.2.1 dX5_ahead_22 (by decide) ?_
  refine z_cVi (As := [.int s1, .int 1, .int 1]) hC hZ (zF_0 _) rfl zy_X5_goes (c_X5_goes l h) km_X5_115 rfl ⟨rfl, rfl⟩ ⟨Nat.le_of_ble_eq_true rfl, Nat.le_of_ble_eq_true rfl⟩ hl.1 rfl (Nat.le_of_ble_eq_true rfl) dX5_ahead_23 ⟨Nat.le_of_ble_eq_true rfl, Nat.le_of_ble_eq_true rfl⟩ (fun r5 μ4 H locs h hZ => ?_)
  refine lv_if_ne (tgt := 31) hC.1 hC.2.1 dX5_ahead_26 (by decide) (fun c6 => ?_) (fun c6 => ?_)
  · have h := h.1 c6
    refine lv_iconst (v := 0) hC.1 hC.2.1 dX5_ahead_31 (by decide) ?_
    refine lv_istore_n (lv' := [(3, .int 0), (0, .ref (ad 0 0)), (1, .int a1), (2, .int a2)]) hC.1 hC.2.1 dX5_ahead_32 rfl hl (by decide) rfl (fun ls hl => ?_)
    refine lv_iconst (v := 0) hC.1 hC.2.1 dX5_ahead_33 (by decide) ?_
    refine lv_istore (lv' := [(4, .int 0), (3, .int 0), (0, .ref (ad 0 0)), (1, .int a1), (2, .int a2)]) hC.1 hC.2.1 dX5_ahead_34 hl (by decide) rfl (fun ls hl => ?_)
    obtain ⟨fuel, h⟩ := h
    exact t_X5_ahead_36 (l := l) hC hr _ _ _ _ _ _ _ _ _ h hZ (lv_sub hl [2, 3, 4, 1, 0] rfl)
  · have h := h.2 c6
    refine lv_iconst (v := 0) hC.1 hC.2.1 dX5_ahead_29 (by decide) ?_
    exact z_iret hC hr hZ h dX5_ahead_30 (Nat.le_of_ble_eq_true rfl) (Nat.le_of_ble_eq_true rfl)
def b_X5_ahead_20 (post : Int32 → Mem → Prop) (a1 : Int32) (a2 : Int32) (μ : Mem) : Prop := b_X5_ahead_21 post a1 a2 (0 : Int32) μ
set_option maxRecDepth 100000 in
set_option maxHeartbeats 4000000 in
theorem t_X5_ahead_20 {p : Program} {l : Launch} {e : Env} {s : State} {m : MethodId} {args : Array Value} {below : List Frame} {meth : Method} {c : Code} {D : va_G} {ca : Nat → ClassId} {base : Nat} {ad : Nat → Nat → Nat} {n np : Nat} {post : Int32 → Mem → Prop} (hC : ZC p m meth c s RX5 cX5_ahead 5) (hr : meth.sig.returnType = (some FieldType.int)) (a1 : Int32) (a2 : Int32) (μ : Mem) (H : Heap) (locs : List Loc) (ls : Array Slot) (h : b_X5_ahead_20 post a1 a2 μ) (hZ : ZS D ca base ad n np μ s H locs) (hl : lv_has ls 5 [(0, .ref (ad 0 0)), (1, .int a1), (2, .int a2)]) : W p l e ({ frames := 2, cells := 0, slots := 0, locals := 43 } : Room) s m args below meth c H locs 0 0 (MQ below (ZQ D ca base ad n np (zpi post)) args s 0 0 (zB base)) (F0 m 20 ls [.ref (ad 0 0)]) := by
  unfold b_X5_ahead_20 at h
  refine lv_iconst (v := 0) hC.1 hC.2.1 dX5_ahead_20 (by decide) ?_
  exact t_X5_ahead_21 (l := l) hC hr _ _ _ _ _ _ _ h hZ (lv_sub hl [0, 1, 2] rfl)
def w_X5_ahead (post : Int32 → Mem → Prop) (a1 : Int32) (a2 : Int32) (μ : Mem) : Prop := (w_X5_isScene (fun (r2 : Int32) (μ1 : Mem) => ((r2 = 0 → b_X5_ahead_20 post a1 a2 μ1) ∧ (¬ r2 = 0 → (w_X5_isProp (fun (r13 : Int32) (μ12 : Mem) => ((r13 = 0 → b_X5_ahead_20 post a1 a2 μ12) ∧ (¬ r13 = 0 → b_X5_ahead_21 post a1 a2 (1 : Int32) μ12))) a2 μ1)))) a1 μ)
set_option maxRecDepth 100000 in
set_option maxHeartbeats 4000000 in
theorem c_X5_ahead (l : Launch) {D : va_G} {ca : Nat → ClassId} {base : Nat} {ad : Nat → Nat → Nat} {n np : Nat} {μ : Mem} {post : Int32 → Mem → Prop} {a1 : Int32} {a2 : Int32} (h : w_X5_ahead post a1 a2 μ) : ZMet l yX5_ahead cX5_ahead 5 (some FieldType.int) ({ frames := 2, cells := 0, slots := 0, locals := 43 } : Room) 0 0 D ca base ad n np [.ref (ad 0 0), .int a1, .int a2] μ (zpi post) := by
  unfold ZMet
  refine Met.ofW (cc := cX5_ahead) (maxL := 5) (ret := (some FieldType.int)) (by decide) rfl ?_
  intro p e s m args below meth c s₁ B hml hv
  obtain ⟨rfl, hU⟩ := hv
  have hZ := hU.toS
  have hC : ZC p m meth c s RX5 cX5_ahead 5 := ⟨B.exec, B.bytes, hml, findClass_of_methodNamed B.named, B.notSynchronized⟩
  have hr := B.returns
  have key : W p l e ({ frames := 2, cells := 0, slots := 0, locals := 43 } : Room) s m (([.ref (ad 0 0), .int a1, .int a2] : List Value).toArray) below meth c s.heap [] 0 0 (MQ below (ZQ D ca base ad n np (zpi post)) (([.ref (ad 0 0), .int a1, .int a2] : List Value).toArray) s 0 0 (zB base)) (entryFrame m (([.ref (ad 0 0), .int a1, .int a2] : List Value).toArray) 5) := by
    have hl := lv_entry ([.ref (ad 0 0), .int a1, .int a2]) (n := 5) (Nat.le_of_ble_eq_true rfl)
    rw [lg_entry_eq]
    generalize (lg_sl ([.ref (ad 0 0), .int a1, .int a2]) ++ List.replicate (5 - (lg_sl ([.ref (ad 0 0), .int a1, .int a2])).length) Slot.unset).toArray = ls at hl ⊢
    have hl : lv_has ls 5 [(0, .ref (ad 0 0)), (1, .int a1), (2, .int a2)] := hl
    unfold w_X5_ahead at h
    refine lv_aload_n hC.1 hC.2.1 dX5_ahead_0 rfl (lv_at hl 0 rfl) ?_
    refine lv_aload_n hC.1 hC.2.1 dX5_ahead_1 rfl (lv_at hl 0 rfl) ?_
    refine lv_iload_n hC.1 hC.2.1 dX5_ahead_2 rfl (lv_at hl 1 rfl) ?_
    refine z_cVi (As := [.int a1]) hC hZ (zF_0 _) rfl zy_X5_isScene (c_X5_isScene l h) km_X5_123 rfl ⟨rfl, rfl⟩ ⟨Nat.le_of_ble_eq_true rfl, Nat.le_of_ble_eq_true rfl⟩ hl.1 rfl (Nat.le_of_ble_eq_true rfl) dX5_ahead_3 ⟨Nat.le_of_ble_eq_true rfl, Nat.le_of_ble_eq_true rfl⟩ (fun r2 μ1 H locs h hZ => ?_)
    refine lv_if_eq (tgt := 20) hC.1 hC.2.1 dX5_ahead_6 (by decide) (fun c3 => ?_) (fun c3 => ?_)
    · have h := h.1 c3
      exact t_X5_ahead_20 (l := l) hC hr _ _  _ _ _ _ h hZ (lv_sub hl [0, 1, 2] rfl)
    · have h := h.2 c3
      refine lv_iload_n hC.1 hC.2.1 dX5_ahead_9 rfl (lv_at hl 2 rfl) ?_
      refine z_cSi (As := [.int a2]) hC hZ zy_X5_isProp (c_X5_isProp l h) km_X5_133 rfl ⟨rfl, rfl⟩ ⟨Nat.le_of_ble_eq_true rfl, Nat.le_of_ble_eq_true rfl⟩ hl.1 rfl (Nat.le_of_ble_eq_true rfl) dX5_ahead_10 ⟨Nat.le_of_ble_eq_true rfl, Nat.le_of_ble_eq_true rfl⟩ (fun r13 μ12 H locs h hZ => ?_)
      refine lv_if_eq (tgt := 20) hC.1 hC.2.1 dX5_ahead_13 (by decide) (fun c14 => ?_) (fun c14 => ?_)
      · have h := h.1 c14
        exact t_X5_ahead_20 (l := l) hC hr _ _  _ _ _ _ h hZ (lv_sub hl [0, 1, 2] rfl)
      · have h := h.2 c14
        refine lv_iconst (v := 1) hC.1 hC.2.1 dX5_ahead_16 (by decide) ?_
        refine lv_goto (tgt := 21) hC.1 hC.2.1 dX5_ahead_17 (by decide) ?_
        exact t_X5_ahead_21 (l := l) hC hr _ _ _ _ _ _ _ h hZ (lv_sub hl [0, 1, 2] rfl)
  exact key
