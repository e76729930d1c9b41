def b_X4_countRefused_24 (n np : Nat) (post : Int32 → Mem → Prop) (k7 : Int32 → Int32 → Mem → Prop) (v1 : Int32) (v2 : Int32) (μ : Mem) : Prop := k7 v1 (v2 + 1) μ
set_option maxRecDepth 100000 in
set_option maxHeartbeats 4000000 in
theorem t_X4_countRefused_24 {p : Program} {l : Launch} {e : Env} {s : State} {m : MethodId} {args : Array Value} {below : List Frame} {meth : Method} {c : Code} {D : va_G} {ca : Nat → ClassId} {base : Nat} {ad : Nat → Nat → Nat} {n np : Nat} {post : Int32 → Mem → Prop} {k7 : Int32 → Int32 → Mem → Prop} (hC : ZC p m meth c s RX4 cX4_countRefused 3) (hr : meth.sig.returnType = (some FieldType.int)) (hk7 : ∀ (v1 : Int32) (v2 : Int32) (μ : Mem) (H : Heap) (locs : List Loc) (ls : Array Slot), k7 v1 v2 μ → ZS D ca base ad n np μ s H locs → lv_has ls 3 [(0, .ref (ad 30 0)), (1, .int v1), (2, .int v2)] → W p l e ({ frames := 5, cells := 0, slots := 0, locals := 113 } : Room) s m args below meth c H locs 0 0 (MQ below (ZQ D ca base ad n np (zpi post)) args s 0 0 (zB base)) (F0 m 7 ls [])) (v1 : Int32) (v2 : Int32) (μ : Mem) (H : Heap) (locs : List Loc) (ls : Array Slot) (h : b_X4_countRefused_24 n np post k7 v1 v2 μ) (hZ : ZS D ca base ad n np μ s H locs) (hl : lv_has ls 3 [(0, .ref (ad 30 0)), (1, .int v1), (2, .int v2)]) : W p l e ({ frames := 5, cells := 0, slots := 0, locals := 113 } : Room) s m args below meth c H locs 0 0 (MQ below (ZQ D ca base ad n np (zpi post)) args s 0 0 (zB base)) (F0 m 24 ls []) := by
  unfold b_X4_countRefused_24 at h
  refine lv_iinc (v := v2 + 1) (lv' := [(2, .int (v2 + 1)), (0, .ref (ad 30 0)), (1, .int v1)]) hC.1 hC.2.1 dX4_countRefused_24 hl (k := 2) rfl rfl (by decide) rfl (fun ls hl => ?_)
  refine lv_goto (tgt := 7) hC.1 hC.2.1 dX4_countRefused_27 (by decide) ?_
  exact hk7 _ _ _ _ _ _ h hZ (lv_sub hl [1, 2, 0] rfl)
def lb_X4_countRefused_7 (n np : Nat) (post : Int32 → Mem → Prop) (k7 : Int32 → Int32 → Mem → Prop) (v1 : Int32) (v2 : Int32) (μ : Mem) : Prop := ((30 ≤ v2 → post v1 μ) ∧ (¬ 30 ≤ v2 → (w_X4_isRefusedOn n np (fun (r3 : Int32) (μ2 : Mem) => ((r3 = 0 → b_X4_countRefused_24 n np post k7 v1 v2 μ2) ∧ (¬ r3 = 0 → b_X4_countRefused_24 n np post k7 (v1 + 1) v2 μ2))) v2 μ)))
def l_X4_countRefused_7 (n np : Nat) (post : Int32 → Mem → Prop) : Nat → Int32 → Int32 → Mem → Prop
  | 0 => fun _ _ _ => False
  | fuel + 1 => lb_X4_countRefused_7 n np post (l_X4_countRefused_7 n np post fuel) 
set_option maxRecDepth 100000 in
set_option maxHeartbeats 4000000 in
theorem t_X4_countRefused_7 {p : Program} {l : Launch} {e : Env} {s : State} {m : MethodId} {args : Array Value} {below : List Frame} {meth : Method} {c : Code} {D : va_G} {ca : Nat → ClassId} {base : Nat} {ad : Nat → Nat → Nat} {n np : Nat} {post : Int32 → Mem → Prop} (hC : ZC p m meth c s RX4 cX4_countRefused 3) (hr : meth.sig.returnType = (some FieldType.int)) : ∀ (fuel : Nat) (v1 : Int32) (v2 : Int32) (μ : Mem) (H : Heap) (locs : List Loc) (ls : Array Slot), l_X4_countRefused_7 n np post fuel v1 v2 μ → ZS D ca base ad n np μ s H locs → lv_has ls 3 [(0, .ref (ad 30 0)), (1, .int v1), (2, .int v2)] → W p l e ({ frames := 5, cells := 0, slots := 0, locals := 113 } : Room) s m args below meth c H locs 0 0 (MQ below (ZQ D ca base ad n np (zpi post)) args s 0 0 (zB base)) (F0 m 7 ls []) := by
  intro fuel
  induction fuel with
  | zero => exact fun _ _ _ _ _ _ h => h.elim
  | succ fuel hk7 =>
    intro v1 v2 μ H locs ls h hZ hl
    have h : lb_X4_countRefused_7 n np post (l_X4_countRefused_7 n np post fuel) v1 v2 μ := h
    unfold lb_X4_countRefused_7 at h
    refine lv_iload_n hC.1 hC.2.1 dX4_countRefused_7 rfl (lv_at hl 2 rfl) ?_
    refine lv_bipush (v := 30) hC.1 hC.2.1 dX4_countRefused_8 (by decide) ?_
    refine lv_icmp_ge (tgt := 30) hC.1 hC.2.1 dX4_countRefused_10 (by decide) (fun c1 => ?_) (fun c1 => ?_)
    · have h := h.1 c1
      refine lv_iload_n hC.1 hC.2.1 dX4_countRefused_30 rfl (lv_at hl 1 rfl) ?_
      exact z_iret hC hr hZ h dX4_countRefused_31 (Nat.le_of_ble_eq_true rfl) (Nat.le_of_ble_eq_true rfl)
    · have h := h.2 c1
      refine lv_aload_n hC.1 hC.2.1 dX4_countRefused_13 rfl (lv_at hl 0 rfl) ?_
      refine lv_iload_n hC.1 hC.2.1 dX4_countRefused_14 rfl (lv_at hl 2 rfl) ?_
      refine z_cVi (As := [.int v2]) hC hZ (zF_30 _) rfl zy_X4_isRefusedOn (c_X4_isRefusedOn l h) km_X4_199 rfl ⟨rfl, rfl⟩ ⟨Nat.le_of_ble_eq_true rfl, Nat.le_of_ble_eq_true rfl⟩ hl.1 rfl (Nat.le_of_ble_eq_true rfl) dX4_countRefused_15 ⟨Nat.le_of_ble_eq_true rfl, Nat.le_of_ble_eq_true rfl⟩ (fun r3 μ2 H locs h hZ => ?_)
      refine lv_if_eq (tgt := 24) hC.1 hC.2.1 dX4_countRefused_18 (by decide) (fun c4 => ?_) (fun c4 => ?_)
      · have h := h.1 c4
        exact t_X4_countRefused_24 (l := l) hC hr hk7 _ _ _ _ _ _ h hZ (lv_sub hl [0, 1, 2] rfl)
      · have h := h.2 c4
        refine lv_iinc (v := v1 + 1) (lv' := [(1, .int (v1 + 1)), (0, .ref (ad 30 0)), (2, .int v2)]) hC.1 hC.2.1 dX4_countRefused_21 hl (k := 1) rfl rfl (by decide) rfl (fun ls hl => ?_)
        exact t_X4_countRefused_24 (l := l) hC hr hk7 _ _ _ _ _ _ h hZ (lv_sub hl [1, 0, 2] rfl)
def w_X4_countRefused (n np : Nat) (post : Int32 → Mem → Prop) (μ : Mem) : Prop := (∃ fuel : Nat, l_X4_countRefused_7 n np post fuel (0 : Int32) (μ 30 0 9) μ)
set_option maxRecDepth 100000 in
set_option maxHeartbeats 4000000 in
theorem c_X4_countRefused (l : Launch) {D : va_G} {ca : Nat → ClassId} {base : Nat} {ad : Nat → Nat → Nat} {n np : Nat} {μ : Mem} {post : Int32 → Mem → Prop} (h : w_X4_countRefused n np post μ) : ZMet l yX4_countRefused cX4_countRefused 3 (some FieldType.int) ({ frames := 5, cells := 0, slots := 0, locals := 113 } : Room) 0 0 D ca base ad n np [.ref (ad 30 0)] μ (zpi post) := by
  unfold ZMet
  refine Met.ofW (cc := cX4_countRefused) (maxL := 3) (ret := (some FieldType.int)) (by decide) rfl ?_
  intro p e s m args below meth c s₁ B hml hv
  obtain ⟨rfl, hU⟩ := hv
  have hZ := hU.toS
  have hC : ZC p m meth c s RX4 cX4_countRefused 3 := ⟨B.exec, B.bytes, hml, findClass_of_methodNamed B.named, B.notSynchronized⟩
  have hr := B.returns
  have key : W p l e ({ frames := 5, cells := 0, slots := 0, locals := 113 } : Room) s m (([.ref (ad 30 0)] : List Value).toArray) below meth c s.heap [] 0 0 (MQ below (ZQ D ca base ad n np (zpi post)) (([.ref (ad 30 0)] : List Value).toArray) s 0 0 (zB base)) (entryFrame m (([.ref (ad 30 0)] : List Value).toArray) 3) := by
    have hl := lv_entry ([.ref (ad 30 0)]) (n := 3) (Nat.le_of_ble_eq_true rfl)
    rw [lg_entry_eq]
    generalize (lg_sl ([.ref (ad 30 0)]) ++ List.replicate (3 - (lg_sl ([.ref (ad 30 0)])).length) Slot.unset).toArray = ls at hl ⊢
    have hl : lv_has ls 3 [(0, .ref (ad 30 0))] := hl
    unfold w_X4_countRefused at h
    refine lv_iconst (v := 0) hC.1 hC.2.1 dX4_countRefused_0 (by decide) ?_
    refine lv_istore_n (lv' := [(1, .int 0), (0, .ref (ad 30 0))]) hC.1 hC.2.1 dX4_countRefused_1 rfl hl (by decide) rfl (fun ls hl => ?_)
    refine lv_aload_n hC.1 hC.2.1 dX4_countRefused_2 rfl (lv_at hl 1 rfl) ?_
    refine gX4_9 hC hZ kf_X4_52 dX4_countRefused_3 ?_
    refine lv_istore_n (lv' := [(2, .int (μ 30 0 9)), (1, .int 0), (0, .ref (ad 30 0))]) hC.1 hC.2.1 dX4_countRefused_6 rfl hl (by decide) rfl (fun ls hl => ?_)
    obtain ⟨fuel, h⟩ := h
    exact t_X4_countRefused_7 (l := l) hC hr _ _ _ _ _ _ _ h hZ (lv_sub hl [2, 1, 0] rfl)
  exact key
def w_X4_revoke (n np : Nat) (post : Int32 → Mem → Prop) (xpost : String → Mem → Prop) (a1 : Int32) (μ : Mem) : Prop := (w_X4_permitNumbered n np (fun (r2 : Int32) (μ1 : Mem) => (¬ r2 < 0 ∧ r2.toNatClampNeg < np ∧ (((μ1 80 r2.toNatClampNeg 4) = 0 → (w_X4_countRefused n np (fun (r7 : Int32) (μ6 : Mem) => (∀ μ8 : Mem, μ8 = zst μ6 80 r2.toNatClampNeg 4 1 → (w_X4_countRefused n np (fun (r10 : Int32) (μ9 : Mem) => post (r10 - r7) μ9) μ8))) μ1)) ∧ (¬ (μ1 80 r2.toNatClampNeg 4) = 0 → xpost "java/lang/IllegalStateException" μ1)))) xpost a1 μ)
set_option maxRecDepth 100000 in
set_option maxHeartbeats 4000000 in
theorem c_X4_revoke (l : Launch) (hst : l.stackTraces = false) {D : va_G} {ca : Nat → ClassId} {base : Nat} {ad : Nat → Nat → Nat} {n np : Nat} {μ : Mem} {post : Int32 → Mem → Prop} {xpost : String → Mem → Prop} {a1 : Int32} (h : w_X4_revoke n np post xpost a1 μ) : ZXMet l yX4_revoke cX4_revoke 4 (some FieldType.int) ({ frames := 7, cells := 2, slots := 12, locals := 135 } : Room) 2 12 D ca base ad n np [.ref (ad 30 0), .int a1] μ (zpi post) xpost := by
  unfold ZXMet
  refine vx_ofW (cc := cX4_revoke) (maxL := 4) (ret := (some FieldType.int)) (by decide) rfl ?_
  intro p e s m args below meth c s₁ B hml hnx hv
  obtain ⟨rfl, hU⟩ := hv
  have hZ := hU.toS
  have hC : ZC p m meth c s RX4 cX4_revoke 4 := ⟨B.exec, B.bytes, hml, findClass_of_methodNamed B.named, B.notSynchronized⟩
  have hr := B.returns
  have key : W p l e ({ frames := 7, cells := 2, slots := 12, locals := 135 } : Room) s m (([.ref (ad 30 0), .int a1] : List Value).toArray) below meth c s.heap [] 0 0 (vx_MQ below (ZQ D ca base ad n np (zpi post)) (ZX D ca base ad n np xpost) (([.ref (ad 30 0), .int a1] : List Value).toArray) s 2 12 (zB base)) (entryFrame m (([.ref (ad 30 0), .int a1] : List Value).toArray) 4) := by
    have hl := lv_entry ([.ref (ad 30 0), .int a1]) (n := 4) (Nat.le_of_ble_eq_true rfl)
    rw [lg_entry_eq]
    generalize (lg_sl ([.ref (ad 30 0), .int a1]) ++ List.replicate (4 - (lg_sl ([.ref (ad 30 0), .int a1])).length) Slot.unset).toArray = ls at hl ⊢
    have hl : lv_has ls 4 [(0, .ref (ad 30 0)), (1, .int a1)] := hl
    unfold w_X4_revoke at h
    refine lv_aload_n hC.1 hC.2.1 dX4_revoke_0 rfl (lv_at hl 0 rfl) ?_
    refine lv_iload_n hC.1 hC.2.1 dX4_revoke_1 rfl (lv_at hl 1 rfl) ?_
    refine z_cVXq (As := [.int a1]) hC hZ (zF_30 _) rfl zy_X4_permitNumbered (c_X4_permitNumbered l hst h) km_X4_147 rfl ⟨rfl, rfl⟩ ⟨Nat.le_of_ble_eq_true rfl, Nat.le_of_ble_eq_true rfl⟩ hl.1 rfl (Nat.le_of_ble_eq_true rfl) dX4_revoke_2 ⟨Nat.le_of_ble_eq_true rfl, Nat.le_of_ble_eq_true rfl⟩ (fun E ce q9 u H locs hx hZ hce hcv hcl => z_xout hC hnx hZ hx hce hcv hcl (Nat.le_of_ble_eq_true rfl) (Nat.le_of_ble_eq_true rfl)) (fun r2 μ1 H locs h hZ => ?_)
    refine z_astore_nq (lv' := [(2, va_rf (zr ad 80 r2)), (0, .ref (ad 30 0)), (1, .int a1)]) hC dX4_revoke_5 rfl hl (by decide) rfl (fun ls hl => ?_)
    refine z_aload_nq hC dX4_revoke_6 rfl (lv_at hl 0 rfl) ?_
    obtain ⟨q3, h⟩ := h
    refine z_df0 q3 ?_
    obtain ⟨q4, h⟩ := h
    refine gX1_4 hC hZ q4 kf_X4_151 dX4_revoke_7 ?_
    refine lv_if_eq (tgt := 23) hC.1 hC.2.1 dX4_revoke_10 (by decide) (fun c5 => ?_) (fun c5 => ?_)
    · have h := h.1 c5
      refine lv_aload_n hC.1 hC.2.1 dX4_revoke_23 rfl (lv_at hl 1 rfl) ?_
      refine z_cVi (As := []) hC hZ (zF_30 _) rfl zy_X4_countRefused (c_X4_countRefused l h) km_X4_157 rfl ⟨rfl, rfl⟩ ⟨Nat.le_of_ble_eq_true rfl, Nat.le_of_ble_eq_true rfl⟩ hl.1 rfl (Nat.le_of_ble_eq_true rfl) dX4_revoke_24 ⟨Nat.le_of_ble_eq_true rfl, Nat.le_of_ble_eq_true rfl⟩ (fun r7 μ6 H locs h hZ => ?_)
      refine lv_istore_n (i := 3) (lv' := [(3, .int r7), (2, va_rf (zr ad 80 r2)), (0, .ref (ad 30 0)), (1, .int a1)]) hC.1 hC.2.1 dX4_revoke_27 rfl hl (by decide) (by simp [zcat]) (fun ls hl => ?_)
      refine z_aload_nq hC dX4_revoke_28 rfl (lv_at hl 1 rfl) ?_
      refine lv_iconst (v := 1) hC.1 hC.2.1 dX4_revoke_29 (by decide) ?_
      refine z_df1 q3 ?_
      refine pX1_4 hC hZ q4 kf_X4_151 (by decide) dX4_revoke_30 (fun μ8 H locs eμ8 hZ => ?_)
      have h := h μ8 eμ8
      refine lv_aload_n hC.1 hC.2.1 dX4_revoke_33 rfl (lv_at hl 2 rfl) ?_
      refine z_cVi (As := []) hC hZ (zF_30 _) rfl zy_X4_countRefused (c_X4_countRefused l h) km_X4_157 rfl ⟨rfl, rfl⟩ ⟨Nat.le_of_ble_eq_true rfl, Nat.le_of_ble_eq_true rfl⟩ hl.1 rfl (Nat.le_of_ble_eq_true rfl) dX4_revoke_34 ⟨Nat.le_of_ble_eq_true rfl, Nat.le_of_ble_eq_true rfl⟩ (fun r10 μ9 H locs h hZ => ?_)
      refine lv_iload_n hC.1 hC.2.1 dX4_revoke_37 rfl (lv_at hl 0 rfl) ?_
      refine lv_isub hC.1 hC.2.1 dX4_revoke_38 ?_
      exact vx_ret (z_iret hC hr hZ h dX4_revoke_39 (Nat.le_of_ble_eq_true rfl) (Nat.le_of_ble_eq_true rfl))
    · have h := h.2 c5
      exact z_throw_ise hC hnx hst hZ hl.1 zs_155 dX4_revoke_13 dX4_revoke_16 dX4_revoke_17 dX4_revoke_19 dX4_revoke_22 (Nat.le_of_ble_eq_true rfl) (Nat.le_of_ble_eq_true rfl) (Nat.le_of_ble_eq_true rfl) (Nat.le_of_ble_eq_true rfl) (Nat.le_of_ble_eq_true rfl) (Nat.le_of_ble_eq_true rfl) h
  exact key
def b_X4_requireDay_10 (n np : Nat) (post : Mem → Prop) (xpost : String → Mem → Prop) (a1 : Int32) (μ : Mem) : Prop := xpost "java/lang/IllegalArgumentException" μ
set_option maxRecDepth 100000 in
set_option maxHeartbeats 4000000 in
theorem t_X4_requireDay_10 {p : Program} {l : Launch} {e : Env} {s : State} {m : MethodId} {args : Array Value} {below : List Frame} {meth : Method} {c : Code} {D : va_G} {ca : Nat → ClassId} {base : Nat} {ad : Nat → Nat → Nat} {n np : Nat} {post : Mem → Prop} {xpost : String → Mem → Prop} (hC : ZC p m meth c s RX4 cX4_requireDay 1) (hnx : ∀ x ∈ c.exceptionTable.toList, False) (hst : l.stackTraces = false) (hr : meth.sig.returnType = none) (a1 : Int32) (μ : Mem) (H : Heap) (locs : List Loc) (ls : Array Slot) (h : b_X4_requireDay_10 n np post xpost a1 μ) (hZ : ZS D ca base ad n np μ s H locs) (hl : lv_has ls 1 []) : W p l e ({ frames := 6, cells := 1, slots := 6, locals := 82 } : Room) s m args below meth c H locs 0 0 (vx_MQ below (ZQ D ca base ad n np (zpv post)) (ZX D ca base ad n np xpost) args s 1 6 (zB base)) (F0 m 10 ls []) := by
  unfold b_X4_requireDay_10 at h
  exact z_throw_iae hC hnx hst hZ hl.1 zs_253 dX4_requireDay_10 dX4_requireDay_13 dX4_requireDay_14 dX4_requireDay_16 dX4_requireDay_19 (Nat.le_of_ble_eq_true rfl) (Nat.le_of_ble_eq_true rfl) (Nat.le_of_ble_eq_true rfl) (Nat.le_of_ble_eq_true rfl) (Nat.le_of_ble_eq_true rfl) (Nat.le_of_ble_eq_true rfl) h
def w_X4_requireDay (n np : Nat) (post : Mem → Prop) (xpost : String → Mem → Prop) (a1 : Int32) (μ : Mem) : Prop := ((a1 < 0 → b_X4_requireDay_10 n np post xpost a1 μ) ∧ (¬ a1 < 0 → ((a1 < 30 → post μ) ∧ (¬ a1 < 30 → b_X4_requireDay_10 n np post xpost a1 μ))))
set_option maxRecDepth 100000 in
set_option maxHeartbeats 4000000 in
theorem c_X4_requireDay (l : Launch) (hst : l.stackTraces = false) {D : va_G} {ca : Nat → ClassId} {base : Nat} {ad : Nat → Nat → Nat} {n np : Nat} {μ : Mem} {post : Mem → Prop} {xpost : String → Mem → Prop} {a1 : Int32} (h : w_X4_requireDay n np post xpost a1 μ) : ZXMet l yX4_requireDay cX4_requireDay 1 none ({ frames := 6, cells := 1, slots := 6, locals := 82 } : Room) 1 6 D ca base ad n np [.int a1] μ (zpv post) xpost := by
  unfold ZXMet
  refine vx_ofW (cc := cX4_requireDay) (maxL := 1) (ret := none) (by decide) rfl ?_
  intro p e s m args below meth c s₁ B hml hnx hv
  obtain ⟨rfl, hU⟩ := hv
  have hZ := hU.toS
  have hC : ZC p m meth c s RX4 cX4_requireDay 1 := ⟨B.exec, B.bytes, hml, findClass_of_methodNamed B.named, B.notSynchronized⟩
  have hr := B.returns
  have key : W p l e ({ frames := 6, cells := 1, slots := 6, locals := 82 } : Room) s m (([.int a1] : List Value).toArray) below meth c s.heap [] 0 0 (vx_MQ below (ZQ D ca base ad n np (zpv post)) (ZX D ca base ad n np xpost) (([.int a1] : List Value).toArray) s 1 6 (zB base)) (entryFrame m (([.int a1] : List Value).toArray) 1) := by
    have hl := lv_entry ([.int a1]) (n := 1) (Nat.le_of_ble_eq_true rfl)
    rw [lg_entry_eq]
    generalize (lg_sl ([.int a1]) ++ List.replicate (1 - (lg_sl ([.int a1])).length) Slot.unset).toArray = ls at hl ⊢
    have hl : lv_has ls 1 [(0, .int a1)] := hl
    unfold w_X4_requireDay at h
    refine lv_iload_n hC.1 hC.2.1 dX4_requireDay_0 rfl (lv_at hl 0 rfl) ?_
    refine lv_if_lt (tgt := 10) hC.1 hC.2.1 dX4_requireDay_1 (by decide) (fun c1 => ?_) (fun c1 => ?_)
    · have h := h.1 c1
      exact t_X4_requireDay_10 (l := l) hC hnx hst hr _  _ _ _ _ h hZ (lv_sub hl [] rfl)
    · have h := h.2 c1
      refine lv_iload_n hC.1 hC.2.1 dX4_requireDay_4 rfl (lv_at hl 0 rfl) ?_
      refine lv_bipush (v := 30) hC.1 hC.2.1 dX4_requireDay_5 (by decide) ?_
      refine lv_icmp_lt (tgt := 20) hC.1 hC.2.1 dX4_requireDay_7 (by decide) (fun c2 => ?_) (fun c2 => ?_)
      · have h := h.1 c2
        exact vx_ret (z_vret hC hr hZ h dX4_requireDay_20 (Nat.le_of_ble_eq_true rfl) (Nat.le_of_ble_eq_true rfl))
      · have h := h.2 c2
        exact t_X4_requireDay_10 (l := l) hC hnx hst hr _  _ _ _ _ h hZ (lv_sub hl [] rfl)
  exact key
def w_X4_away (n np : Nat) (post : Int32 → Mem → Prop) (xpost : String → Mem → Prop) (a1 : Int32) (a2 : Int32) (a3 : Int32) (μ : Mem) : Prop := (w_X4_requireActor n np (fun (μ1 : Mem) => (w_X4_requireDay n np (fun (μ3 : Mem) => (w_X4_isAwayOn n np (fun (r6 : Int32) (μ5 : Mem) => ((r6 = a3 → ((r6 = 0 ∨ r6 = 1) ∧ post r6 μ5)) ∧ (¬ r6 = a3 → (vp_in a1 5 ∧ (∀ μ10 : Mem, μ10 = zst μ5 34 0 a1.toNatClampNeg ((μ5 34 0 a1.toNatClampNeg) ^^^ ((1 : Int32) <<< (a2 &&& 31))) → ((r6 = 0 ∨ r6 = 1) ∧ post r6 μ10)))))) a1 a2 μ3)) xpost a2 μ1)) xpost a1 μ)
set_option maxRecDepth 100000 in
set_option maxHeartbeats 4000000 in
theorem c_X4_away (l : Launch) (hst : l.stackTraces = false) {D : va_G} {ca : Nat → ClassId} {base : Nat} {ad : Nat → Nat → Nat} {n np : Nat} {μ : Mem} {post : Int32 → Mem → Prop} {xpost : String → Mem → Prop} {a1 : Int32} {a2 : Int32} {a3 : Int32} (h : w_X4_away n np post xpost a1 a2 a3 μ) : ZXMet l yX4_away cX4_away 5 (some FieldType.boolean) ({ frames := 7, cells := 2, slots := 12, locals := 102 } : Room) 2 12 D ca base ad n np [.ref (ad 30 0), .int a1, .int a2, .int a3] μ (zpi post) xpost := by
  unfold ZXMet
  refine vx_ofW (cc := cX4_away) (maxL := 5) (ret := (some FieldType.boolean)) (by decide) rfl ?_
  intro p e s m args below meth c s₁ B hml hnx hv
  obtain ⟨rfl, hU⟩ := hv
  have hZ := hU.toS
  have hC : ZC p m meth c s RX4 cX4_away 5 := ⟨B.exec, B.bytes, hml, findClass_of_methodNamed B.named, B.notSynchronized⟩
  have hr := B.returns
  have key : W p l e ({ frames := 7, cells := 2, slots := 12, locals := 102 } : Room) s m (([.ref (ad 30 0), .int a1, .int a2, .int a3] : List Value).toArray) below meth c s.heap [] 0 0 (vx_MQ below (ZQ D ca base ad n np (zpi post)) (ZX D ca base ad n np xpost) (([.ref (ad 30 0), .int a1, .int a2, .int a3] : List Value).toArray) s 2 12 (zB base)) (entryFrame m (([.ref (ad 30 0), .int a1, .int a2, .int a3] : List Value).toArray) 5) := by
    have hl := lv_entry ([.ref (ad 30 0), .int a1, .int a2, .int a3]) (n := 5) (Nat.le_of_ble_eq_true rfl)
    rw [lg_entry_eq]
    generalize (lg_sl ([.ref (ad 30 0), .int a1, .int a2, .int a3]) ++ List.replicate (5 - (lg_sl ([.ref (ad 30 0), .int a1, .int a2, .int a3])).length) Slot.unset).toArray = ls at hl ⊢
    have hl : lv_has ls 5 [(0, .ref (ad 30 0)), (1, .int a1), (2, .int a2), (3, .int a3)] := hl
    unfold w_X4_away at h
    refine lv_iload_n hC.1 hC.2.1 dX4_away_0 rfl (lv_at hl 1 rfl) ?_
    refine z_cSXv (As := [.int a1]) hC hZ zy_X4_requireActor (c_X4_requireActor l hst h) km_X4_84 rfl ⟨rfl, rfl⟩ ⟨Nat.le_of_ble_eq_true rfl, Nat.le_of_ble_eq_true rfl⟩ hl.1 rfl (Nat.le_of_ble_eq_true rfl) dX4_away_1 ⟨Nat.le_of_ble_eq_true rfl, Nat.le_of_ble_eq_true rfl⟩ (fun E ce q9 u H locs hx hZ hce hcv hcl => z_xout hC hnx hZ hx hce hcv hcl (Nat.le_of_ble_eq_true rfl) (Nat.le_of_ble_eq_true rfl)) (fun μ1 H locs h hZ => ?_)
    refine lv_iload_n hC.1 hC.2.1 dX4_away_4 rfl (lv_at hl 2 rfl) ?_
    refine z_cSXv (As := [.int a2]) hC hZ zy_X4_requireDay (c_X4_requireDay l hst h) km_X4_160 rfl ⟨rfl, rfl⟩ ⟨Nat.le_of_ble_eq_true rfl, Nat.le_of_ble_eq_true rfl⟩ hl.1 rfl (Nat.le_of_ble_eq_true rfl) dX4_away_5 ⟨Nat.le_of_ble_eq_true rfl, Nat.le_of_ble_eq_true rfl⟩ (fun E ce q9 u H locs hx hZ hce hcv hcl => z_xout hC hnx hZ hx hce hcv hcl (Nat.le_of_ble_eq_true rfl) (Nat.le_of_ble_eq_true rfl)) (fun μ3 H locs h hZ => ?_)
    refine lv_aload_n hC.1 hC.2.1 dX4_away_8 rfl (lv_at hl 0 rfl) ?_
    refine lv_iload_n hC.1 hC.2.1 dX4_away_9 rfl (lv_at hl 1 rfl) ?_
    refine lv_iload_n hC.1 hC.2.1 dX4_away_10 rfl (lv_at hl 2 rfl) ?_
    refine z_cVi (As := [.int a1, .int a2]) hC hZ (zF_30 _) rfl zy_X4_isAwayOn (c_X4_isAwayOn l h) km_X4_163 rfl ⟨rfl, rfl⟩ ⟨Nat.le_of_ble_eq_true rfl, Nat.le_of_ble_eq_true rfl⟩ hl.1 rfl (Nat.le_of_ble_eq_true rfl) dX4_away_11 ⟨Nat.le_of_ble_eq_true rfl, Nat.le_of_ble_eq_true rfl⟩ (fun r6 μ5 H locs h hZ => ?_)
    refine lv_istore (lv' := [(4, .int r6), (0, .ref (ad 30 0)), (1, .int a1), (2, .int a2), (3, .int a3)]) hC.1 hC.2.1 dX4_away_14 hl (by decide) rfl (fun ls hl => ?_)
    refine lv_iload hC.1 hC.2.1 dX4_away_16 (lv_at hl 0 rfl) ?_
    refine lv_iload_n hC.1 hC.2.1 dX4_away_18 rfl (lv_at hl 4 rfl) ?_
    refine lv_icmp_eq (tgt := 34) hC.1 hC.2.1 dX4_away_19 (by decide) (fun c7 => ?_) (fun c7 => ?_)
    · have h := h.1 c7
      refine lv_iload hC.1 hC.2.1 dX4_away_34 (lv_at hl 0 rfl) ?_
      obtain ⟨q8, h⟩ := h
      exact vx_ret (z_bret hC hr hZ q8 h dX4_away_36 (Nat.le_of_ble_eq_true rfl) (Nat.le_of_ble_eq_true rfl))
    · have h := h.2 c7
      refine lv_aload_n hC.1 hC.2.1 dX4_away_22 rfl (lv_at hl 1 rfl) ?_
      refine gX4_3 hC hZ kf_X4_24 dX4_away_23 ?_
      refine lv_iload_n hC.1 hC.2.1 dX4_away_26 rfl (lv_at hl 2 rfl) ?_
      refine lv_dup2_11 hC.1 hC.2.1 dX4_away_27 rfl rfl ?_
      obtain ⟨q9, h⟩ := h
      refine aL_34 hC hZ q9 dX4_away_28 ?_
      refine lv_iconst (v := 1) hC.1 hC.2.1 dX4_away_29 (by decide) ?_
      refine lv_iload_n hC.1 hC.2.1 dX4_away_30 rfl (lv_at hl 3 rfl) ?_
      refine lv_ishl hC.1 hC.2.1 dX4_away_31 ?_
      refine lv_ixor hC.1 hC.2.1 dX4_away_32 ?_
      refine aS_34 hC hZ q9 dX4_away_33 (fun μ10 H locs eμ10 hZ => ?_)
      have h := h μ10 eμ10
      refine lv_iload hC.1 hC.2.1 dX4_away_34 (lv_at hl 0 rfl) ?_
      obtain ⟨q11, h⟩ := h
      exact vx_ret (z_bret hC hr hZ q11 h dX4_away_36 (Nat.le_of_ble_eq_true rfl) (Nat.le_of_ble_eq_true rfl))
  exact key
def w_X4_buy (n np : Nat) (post : Int32 → Mem → Prop) (xpost : String → Mem → Prop) (a1 : Int32) (μ : Mem) : Prop := (w_X4_requireProp n np (fun (μ1 : Mem) => (w_X3_countCopies n np (fun (r4 : Int32) (μ3 : Mem) => ((r4 < 20 → (vp_in a1 5 ∧ ((5 * 0 + a1.toNatClampNeg) < 10 ∧ (∀ μ8 : Mem, μ8 = zst μ3 43 (5 * 0 + a1.toNatClampNeg) ((0 : Int32).toNatClampNeg) ((μ3 43 (5 * 0 + a1.toNatClampNeg) (0 : Int32).toNatClampNeg) + 1) → (∀ μ9 : Mem, μ9 = zst μ8 30 0 10 ((μ8 30 0 10) + 5) → post (r4 + 1) μ9))))) ∧ (¬ r4 < 20 → xpost "java/lang/IllegalStateException" μ3))) 0 a1 μ1)) xpost a1 μ)
set_option maxRecDepth 100000 in
set_option maxHeartbeats 4000000 in
theorem c_X4_buy (l : Launch) (hst : l.stackTraces = false) {D : va_G} {ca : Nat → ClassId} {base : Nat} {ad : Nat → Nat → Nat} {n np : Nat} {μ : Mem} {post : Int32 → Mem → Prop} {xpost : String → Mem → Prop} {a1 : Int32} (h : w_X4_buy n np post xpost a1 μ) : ZXMet l yX4_buy cX4_buy 3 (some FieldType.int) ({ frames := 7, cells := 2, slots := 12, locals := 102 } : Room) 2 12 D ca base ad n np [.ref (ad 30 0), .int a1] μ (zpi post) xpost := by
  unfold ZXMet
  refine vx_ofW (cc := cX4_buy) (maxL := 3) (ret := (some FieldType.int)) (by decide) rfl ?_
  intro p e s m args below meth c s₁ B hml hnx hv
  obtain ⟨rfl, hU⟩ := hv
  have hZ := hU.toS
  have hC : ZC p m meth c s RX4 cX4_buy 3 := ⟨B.exec, B.bytes, hml, findClass_of_methodNamed B.named, B.notSynchronized⟩
  have hr := B.returns
  have key : W p l e ({ frames := 7, cells := 2, slots := 12, locals := 102 } : Room) s m (([.ref (ad 30 0), .int a1] : List Value).toArray) below meth c s.heap [] 0 0 (vx_MQ below (ZQ D ca base ad n np (zpi post)) (ZX D ca base ad n np xpost) (([.ref (ad 30 0), .int a1] : List Value).toArray) s 2 12 (zB base)) (entryFrame m (([.ref (ad 30 0), .int a1] : List Value).toArray) 3) := by
    have hl := lv_entry ([.ref (ad 30 0), .int a1]) (n := 3) (Nat.le_of_ble_eq_true rfl)
    rw [lg_entry_eq]
    generalize (lg_sl ([.ref (ad 30 0), .int a1]) ++ List.replicate (3 - (lg_sl ([.ref (ad 30 0), .int a1])).length) Slot.unset).toArray = ls at hl ⊢
    have hl : lv_has ls 3 [(0, .ref (ad 30 0)), (1, .int a1)] := hl
    unfold w_X4_buy at h
    refine lv_iload_n hC.1 hC.2.1 dX4_buy_0 rfl (lv_at hl 1 rfl) ?_
    refine z_cSXv (As := [.int a1]) hC hZ zy_X4_requireProp (c_X4_requireProp l hst h) km_X4_100 rfl ⟨rfl, rfl⟩ ⟨Nat.le_of_ble_eq_true rfl, Nat.le_of_ble_eq_true rfl⟩ hl.1 rfl (Nat.le_of_ble_eq_true rfl) dX4_buy_1 ⟨Nat.le_of_ble_eq_true rfl, Nat.le_of_ble_eq_true rfl⟩ (fun E ce q9 u H locs hx hZ hce hcv hcl => z_xout hC hnx hZ hx hce hcv hcl (Nat.le_of_ble_eq_true rfl) (Nat.le_of_ble_eq_true rfl)) (fun μ1 H locs h hZ => ?_)
    refine lv_aload_n hC.1 hC.2.1 dX4_buy_4 rfl (lv_at hl 0 rfl) ?_
    refine gX4_4 hC hZ kf_X4_31 dX4_buy_5 ?_
    refine lv_iload_n hC.1 hC.2.1 dX4_buy_8 rfl (lv_at hl 1 rfl) ?_
    refine z_cVi (As := [.int a1]) hC hZ (zF_40 (by decide) _) rfl zy_X3_countCopies (c_X3_countCopies l h) km_X4_167 rfl ⟨rfl, rfl⟩ ⟨Nat.le_of_ble_eq_true rfl, Nat.le_of_ble_eq_true rfl⟩ hl.1 rfl (Nat.le_of_ble_eq_true rfl) dX4_buy_9 ⟨Nat.le_of_ble_eq_true rfl, Nat.le_of_ble_eq_true rfl⟩ (fun r4 μ3 H locs h hZ => ?_)
    refine lv_istore_n (lv' := [(2, .int r4), (0, .ref (ad 30 0)), (1, .int a1)]) hC.1 hC.2.1 dX4_buy_12 rfl hl (by decide) rfl (fun ls hl => ?_)
    refine lv_iload_n hC.1 hC.2.1 dX4_buy_13 rfl (lv_at hl 0 rfl) ?_
    refine lv_bipush (v := 20) hC.1 hC.2.1 dX4_buy_14 (by decide) ?_
    refine lv_icmp_lt (tgt := 29) hC.1 hC.2.1 dX4_buy_16 (by decide) (fun c5 => ?_) (fun c5 => ?_)
    · have h := h.1 c5
      refine lv_aload_n hC.1 hC.2.1 dX4_buy_29 rfl (lv_at hl 1 rfl) ?_
      refine gX4_4 hC hZ kf_X4_31 dX4_buy_30 ?_
      refine gX3_0 hC hZ (by decide) kf_X4_173 dX4_buy_33 ?_
      refine lv_iload_n hC.1 hC.2.1 dX4_buy_36 rfl (lv_at hl 2 rfl) ?_
      obtain ⟨q6, h⟩ := h
      refine aL_41 hC hZ (by decide) q6 dX4_buy_37 ?_
      refine lv_iconst (v := 0) hC.1 hC.2.1 dX4_buy_38 (by decide) ?_
      refine lv_dup2_11 hC.1 hC.2.1 dX4_buy_39 rfl rfl ?_
      obtain ⟨q7, h⟩ := h
      refine aL_43 hC hZ q7 (by unfold vp_in; decide) dX4_buy_40 ?_
      refine lv_iconst (v := 1) hC.1 hC.2.1 dX4_buy_41 (by decide) ?_
      refine lv_iadd hC.1 hC.2.1 dX4_buy_42 ?_
      refine aS_43 hC hZ q7 (by unfold vp_in; decide) dX4_buy_43 (fun μ8 H locs eμ8 hZ => ?_)
      have h := h μ8 eμ8
      refine lv_aload_n hC.1 hC.2.1 dX4_buy_44 rfl (lv_at hl 1 rfl) ?_
      refine lv_dup hC.1 hC.2.1 dX4_buy_45 rfl ?_
      refine gX4_10 hC hZ kf_X4_55 dX4_buy_46 ?_
      refine lv_iconst (v := 5) hC.1 hC.2.1 dX4_buy_49 (by decide) ?_
      refine lv_iadd hC.1 hC.2.1 dX4_buy_50 ?_
      refine pX4_10 hC hZ kf_X4_55 dX4_buy_51 (fun μ9 H locs eμ9 hZ => ?_)
      have h := h μ9 eμ9
      refine lv_iload_n hC.1 hC.2.1 dX4_buy_54 rfl (lv_at hl 0 rfl) ?_
      refine lv_iconst (v := 1) hC.1 hC.2.1 dX4_buy_55 (by decide) ?_
      refine lv_iadd hC.1 hC.2.1 dX4_buy_56 ?_
      exact vx_ret (z_iret hC hr hZ h dX4_buy_57 (Nat.le_of_ble_eq_true rfl) (Nat.le_of_ble_eq_true rfl))
    · have h := h.2 c5
      exact z_throw_ise hC hnx hst hZ hl.1 zs_171 dX4_buy_19 dX4_buy_22 dX4_buy_23 dX4_buy_25 dX4_buy_28 (Nat.le_of_ble_eq_true rfl) (Nat.le_of_ble_eq_true rfl) (Nat.le_of_ble_eq_true rfl) (Nat.le_of_ble_eq_true rfl) (Nat.le_of_ble_eq_true rfl) (Nat.le_of_ble_eq_true rfl) h
  exact key
def lb_X4_clear_4 (n np : Nat) (post : Int32 → Mem → Prop) (k4 : Int32 → Int32 → Mem → Prop) (v1 : Int32) (v2 : Int32) (μ : Mem) : Prop := ((5 ≤ v2 → post v1 μ) ∧ (¬ 5 ≤ v2 → (vp_in v2 5 ∧ ((5 * 0 + v2.toNatClampNeg) < 10 ∧ (∀ x4 : Int32, x4 = v1 + (μ 43 (5 * 0 + v2.toNatClampNeg) (3 : Int32).toNatClampNeg) → (∀ μ5 : Mem, μ5 = zst μ 43 (5 * 0 + v2.toNatClampNeg) ((3 : Int32).toNatClampNeg) 0 → k4 x4 (v2 + 1) μ5))))))
def l_X4_clear_4 (n np : Nat) (post : Int32 → Mem → Prop) : Nat → Int32 → Int32 → Mem → Prop
  | 0 => fun _ _ _ => False
  | fuel + 1 => lb_X4_clear_4 n np post (l_X4_clear_4 n np post fuel) 
set_option maxRecDepth 100000 in
set_option maxHeartbeats 4000000 in
theorem t_X4_clear_4 {p : Program} {l : Launch} {e : Env} {s : State} {m : MethodId} {args : Array Value} {below : List Frame} {meth : Method} {c : Code} {D : va_G} {ca : Nat → ClassId} {base : Nat} {ad : Nat → Nat → Nat} {n np : Nat} {post : Int32 → Mem → Prop} (hC : ZC p m meth c s RX4 cX4_clear 3) (hr : meth.sig.returnType = (some FieldType.int)) : ∀ (fuel : Nat) (v1 : Int32) (v2 : Int32) (μ : Mem) (H : Heap) (locs : List Loc) (ls : Array Slot), l_X4_clear_4 n np post fuel v1 v2 μ → ZS D ca base ad n np μ s H locs → lv_has ls 3 [(0, .ref (ad 30 0)), (1, .int v1), (2, .int v2)] → W p l e ({ frames := 0, cells := 0, slots := 0, locals := 0 } : Room) s m args below meth c H locs 0 0 (MQ below (ZQ D ca base ad n np (zpi post)) args s 0 0 (zB base)) (F0 m 4 ls []) := by
  intro fuel
  induction fuel with
  | zero => exact fun _ _ _ _ _ _ h => h.elim
  | succ fuel hk4 =>
    intro v1 v2 μ H locs ls h hZ hl
    have h : lb_X4_clear_4 n np post (l_X4_clear_4 n np post fuel) v1 v2 μ := h
    unfold lb_X4_clear_4 at h
    refine lv_iload_n hC.1 hC.2.1 dX4_clear_4 rfl (lv_at hl 2 rfl) ?_
    refine lv_iconst (v := 5) hC.1 hC.2.1 dX4_clear_5 (by decide) ?_
    refine lv_icmp_ge (tgt := 41) hC.1 hC.2.1 dX4_clear_6 (by decide) (fun c1 => ?_) (fun c1 => ?_)
    · have h := h.1 c1
      refine lv_iload_n hC.1 hC.2.1 dX4_clear_41 rfl (lv_at hl 1 rfl) ?_
      exact z_iret hC hr hZ h dX4_clear_42 (Nat.le_of_ble_eq_true rfl) (Nat.le_of_ble_eq_true rfl)
    · have h := h.2 c1
      refine lv_iload_n hC.1 hC.2.1 dX4_clear_9 rfl (lv_at hl 1 rfl) ?_
      refine lv_aload_n hC.1 hC.2.1 dX4_clear_10 rfl (lv_at hl 0 rfl) ?_
      refine gX4_4 hC hZ kf_X4_31 dX4_clear_11 ?_
      refine gX3_0 hC hZ (by decide) kf_X4_173 dX4_clear_14 ?_
      refine lv_iload_n hC.1 hC.2.1 dX4_clear_17 rfl (lv_at hl 2 rfl) ?_
      obtain ⟨q2, h⟩ := h
      refine aL_41 hC hZ (by decide) q2 dX4_clear_18 ?_
      refine lv_iconst (v := 3) hC.1 hC.2.1 dX4_clear_19 (by decide) ?_
      obtain ⟨q3, h⟩ := h
      refine aL_43 hC hZ q3 (by unfold vp_in; decide) dX4_clear_20 ?_
      refine lv_iadd hC.1 hC.2.1 dX4_clear_21 ?_
      refine lv_topi (fun x4 ex4 => ?_)
      have h := h x4 ex4
      refine lv_istore_n (lv' := [(1, .int x4), (0, .ref (ad 30 0)), (2, .int v2)]) hC.1 hC.2.1 dX4_clear_22 rfl hl (by decide) rfl (fun ls hl => ?_)
      refine lv_aload_n hC.1 hC.2.1 dX4_clear_23 rfl (lv_at hl 1 rfl) ?_
      refine gX4_4 hC hZ kf_X4_31 dX4_clear_24 ?_
      refine gX3_0 hC hZ (by decide) kf_X4_173 dX4_clear_27 ?_
      refine lv_iload_n hC.1 hC.2.1 dX4_clear_30 rfl (lv_at hl 2 rfl) ?_
      refine aL_41 hC hZ (by decide) q2 dX4_clear_31 ?_
      refine lv_iconst (v := 3) hC.1 hC.2.1 dX4_clear_32 (by decide) ?_
      refine lv_iconst (v := 0) hC.1 hC.2.1 dX4_clear_33 (by decide) ?_
      refine aS_43 hC hZ q3 (by unfold vp_in; decide) dX4_clear_34 (fun μ5 H locs eμ5 hZ => ?_)
      have h := h μ5 eμ5
      refine lv_iinc (v := v2 + 1) (lv' := [(2, .int (v2 + 1)), (1, .int x4), (0, .ref (ad 30 0))]) hC.1 hC.2.1 dX4_clear_35 hl (k := 2) rfl rfl (by decide) rfl (fun ls hl => ?_)
      refine lv_goto (tgt := 4) hC.1 hC.2.1 dX4_clear_38 (by decide) ?_
      exact hk4 _ _ _ _ _ _ h hZ (lv_sub hl [2, 1, 0] rfl)
def w_X4_clear (n np : Nat) (post : Int32 → Mem → Prop) (μ : Mem) : Prop := (∃ fuel : Nat, l_X4_clear_4 n np post fuel (0 : Int32) (0 : Int32) μ)
set_option maxRecDepth 100000 in
set_option maxHeartbeats 4000000 in
theorem c_X4_clear (l : Launch) {D : va_G} {ca : Nat → ClassId} {base : Nat} {ad : Nat → Nat → Nat} {n np : Nat} {μ : Mem} {post : Int32 → Mem → Prop} (h : w_X4_clear n np post μ) : ZMet l yX4_clear cX4_clear 3 (some FieldType.int) ({ frames := 0, cells := 0, slots := 0, locals := 0 } : Room) 0 0 D ca base ad n np [.ref (ad 30 0)] μ (zpi post) := by
  unfold ZMet
  refine Met.ofW (cc := cX4_clear) (maxL := 3) (ret := (some FieldType.int)) (by decide) rfl ?_
  intro p e s m args below meth c s₁ B hml hv
  obtain ⟨rfl, hU⟩ := hv
  have hZ := hU.toS
  have hC : ZC p m meth c s RX4 cX4_clear 3 := ⟨B.exec, B.bytes, hml, findClass_of_methodNamed B.named, B.notSynchronized⟩
  have hr := B.returns
  have key : W p l e ({ frames := 0, cells := 0, slots := 0, locals := 0 } : Room) s m (([.ref (ad 30 0)] : List Value).toArray) below meth c s.heap [] 0 0 (MQ below (ZQ D ca base ad n np (zpi post)) (([.ref (ad 30 0)] : List Value).toArray) s 0 0 (zB base)) (entryFrame m (([.ref (ad 30 0)] : List Value).toArray) 3) := by
    have hl := lv_entry ([.ref (ad 30 0)]) (n := 3) (Nat.le_of_ble_eq_true rfl)
    rw [lg_entry_eq]
    generalize (lg_sl ([.ref (ad 30 0)]) ++ List.replicate (3 - (lg_sl ([.ref (ad 30 0)])).length) Slot.unset).toArray = ls at hl ⊢
    have hl : lv_has ls 3 [(0, .ref (ad 30 0))] := hl
    unfold w_X4_clear at h
    refine lv_iconst (v := 0) hC.1 hC.2.1 dX4_clear_0 (by decide) ?_
    refine lv_istore_n (lv' := [(1, .int 0), (0, .ref (ad 30 0))]) hC.1 hC.2.1 dX4_clear_1 rfl hl (by decide) rfl (fun ls hl => ?_)
    refine lv_iconst (v := 0) hC.1 hC.2.1 dX4_clear_2 (by decide) ?_
    refine lv_istore_n (lv' := [(2, .int 0), (1, .int 0), (0, .ref (ad 30 0))]) hC.1 hC.2.1 dX4_clear_3 rfl hl (by decide) rfl (fun ls hl => ?_)
    obtain ⟨fuel, h⟩ := h
    exact t_X4_clear_4 (l := l) hC hr _ _ _ _ _ _ _ h hZ (lv_sub hl [2, 1, 0] rfl)
  exact key
def b_X4_mishap_13 (n np : Nat) (post : Int32 → Mem → Prop) (xpost : String → Mem → Prop) (a1 : Int32) (a2 : Int32) (μ : Mem) : Prop := xpost "java/lang/IllegalArgumentException" μ
set_option maxRecDepth 100000 in
set_option maxHeartbeats 4000000 in
theorem t_X4_mishap_13 {p : Program} {l : Launch} {e : Env} {s : State} {m : MethodId} {args : Array Value} {below : List Frame} {meth : Method} {c : Code} {D : va_G} {ca : Nat → ClassId} {base : Nat} {ad : Nat → Nat → Nat} {n np : Nat} {post : Int32 → Mem → Prop} {xpost : String → Mem → Prop} (hC : ZC p m meth c s RX4 cX4_mishap 4) (hnx : ∀ x ∈ c.exceptionTable.toList, False) (hst : l.stackTraces = false) (hr : meth.sig.returnType = (some FieldType.int)) (a1 : Int32) (a2 : Int32) (μ : Mem) (H : Heap) (locs : List Loc) (ls : Array Slot) (h : b_X4_mishap_13 n np post xpost a1 a2 μ) (hZ : ZS D ca base ad n np μ s H locs) (hl : lv_has ls 4 []) : W p l e ({ frames := 7, cells := 2, slots := 12, locals := 102 } : Room) s m args below meth c H locs 1 6 (vx_MQ below (ZQ D ca base ad n np (zpi post)) (ZX D ca base ad n np xpost) args s 2 12 (zB base)) (F0 m 13 ls []) := by
  unfold b_X4_mishap_13 at h
  exact z_throw_iae hC hnx hst hZ hl.1 zs_177 dX4_mishap_13 dX4_mishap_16 dX4_mishap_17 dX4_mishap_19 dX4_mishap_22 (Nat.le_of_ble_eq_true rfl) (Nat.le_of_ble_eq_true rfl) (Nat.le_of_ble_eq_true rfl) (Nat.le_of_ble_eq_true rfl) (Nat.le_of_ble_eq_true rfl) (Nat.le_of_ble_eq_true rfl) h
def w_X4_mishap (n np : Nat) (post : Int32 → Mem → Prop) (xpost : String → Mem → Prop) (a1 : Int32) (a2 : Int32) (μ : Mem) : Prop := (w_X4_requireProp n np (fun (μ1 : Mem) => ((a2 < 0 → b_X4_mishap_13 n np post xpost a1 a2 μ1) ∧ (¬ a2 < 0 → ((a2 < 3 → (vp_in a1 5 ∧ ((5 * 0 + a1.toNatClampNeg) < 10 ∧ vp_in a2 4 ∧ ((0 < (μ1 43 (5 * 0 + a1.toNatClampNeg) a2.toNatClampNeg) → (∀ μ9 : Mem, μ9 = zst μ1 43 (5 * 0 + a1.toNatClampNeg) a2.toNatClampNeg ((μ1 43 (5 * 0 + a1.toNatClampNeg) a2.toNatClampNeg) - 1) → (∀ μ10 : Mem, μ10 = zst μ9 43 (5 * 0 + a1.toNatClampNeg) ((3 : Int32).toNatClampNeg) ((μ9 43 (5 * 0 + a1.toNatClampNeg) (3 : Int32).toNatClampNeg) + 1) → post (μ10 43 (5 * 0 + a1.toNatClampNeg) (3 : Int32).toNatClampNeg) μ10))) ∧ (¬ 0 < (μ1 43 (5 * 0 + a1.toNatClampNeg) a2.toNatClampNeg) → xpost "java/lang/IllegalStateException" μ1))))) ∧ (¬ a2 < 3 → b_X4_mishap_13 n np post xpost a1 a2 μ1))))) xpost a1 μ)
set_option maxRecDepth 100000 in
set_option maxHeartbeats 4000000 in
theorem c_X4_mishap (l : Launch) (hst : l.stackTraces = false) {D : va_G} {ca : Nat → ClassId} {base : Nat} {ad : Nat → Nat → Nat} {n np : Nat} {μ : Mem} {post : Int32 → Mem → Prop} {xpost : String → Mem → Prop} {a1 : Int32} {a2 : Int32} (h : w_X4_mishap n np post xpost a1 a2 μ) : ZXMet l yX4_mishap cX4_mishap 4 (some FieldType.int) ({ frames := 7, cells := 2, slots := 12, locals := 102 } : Room) 2 12 D ca base ad n np [.ref (ad 30 0), .int a1, .int a2] μ (zpi post) xpost := by
  unfold ZXMet
  refine vx_ofW (cc := cX4_mishap) (maxL := 4) (ret := (some FieldType.int)) (by decide) rfl ?_
  intro p e s m args below meth c s₁ B hml hnx hv
  obtain ⟨rfl, hU⟩ := hv
  have hZ := hU.toS
  have hC : ZC p m meth c s RX4 cX4_mishap 4 := ⟨B.exec, B.bytes, hml, findClass_of_methodNamed B.named, B.notSynchronized⟩
  have hr := B.returns
  have key : W p l e ({ frames := 7, cells := 2, slots := 12, locals := 102 } : Room) s m (([.ref (ad 30 0), .int a1, .int a2] : List Value).toArray) below meth c s.heap [] 0 0 (vx_MQ below (ZQ D ca base ad n np (zpi post)) (ZX D ca base ad n np xpost) (([.ref (ad 30 0), .int a1, .int a2] : List Value).toArray) s 2 12 (zB base)) (entryFrame m (([.ref (ad 30 0), .int a1, .int a2] : List Value).toArray) 4) := by
    have hl := lv_entry ([.ref (ad 30 0), .int a1, .int a2]) (n := 4) (Nat.le_of_ble_eq_true rfl)
    rw [lg_entry_eq]
    generalize (lg_sl ([.ref (ad 30 0), .int a1, .int a2]) ++ List.replicate (4 - (lg_sl ([.ref (ad 30 0), .int a1, .int a2])).length) Slot.unset).toArray = ls at hl ⊢
    have hl : lv_has ls 4 [(0, .ref (ad 30 0)), (1, .int a1), (2, .int a2)] := hl
    unfold w_X4_mishap at h
    refine lv_iload_n hC.1 hC.2.1 dX4_mishap_0 rfl (lv_at hl 1 rfl) ?_
    refine z_cSXv (As := [.int a1]) hC hZ zy_X4_requireProp (c_X4_requireProp l hst h) km_X4_100 rfl ⟨rfl, rfl⟩ ⟨Nat.le_of_ble_eq_true rfl, Nat.le_of_ble_eq_true rfl⟩ hl.1 rfl (Nat.le_of_ble_eq_true rfl) dX4_mishap_1 ⟨Nat.le_of_ble_eq_true rfl, Nat.le_of_ble_eq_true rfl⟩ (fun E ce q9 u H locs hx hZ hce hcv hcl => z_xout hC hnx hZ hx hce hcv hcl (Nat.le_of_ble_eq_true rfl) (Nat.le_of_ble_eq_true rfl)) (fun μ1 H locs h hZ => ?_)
    refine lv_iload_n hC.1 hC.2.1 dX4_mishap_4 rfl (lv_at hl 2 rfl) ?_
    refine lv_if_lt (tgt := 13) hC.1 hC.2.1 dX4_mishap_5 (by decide) (fun c3 => ?_) (fun c3 => ?_)
    · have h := h.1 c3
      exact t_X4_mishap_13 (l := l) hC hnx hst hr _ _  _ _ _ _ h hZ (lv_sub hl [] rfl)
    · have h := h.2 c3
      refine lv_iload_n hC.1 hC.2.1 dX4_mishap_8 rfl (lv_at hl 2 rfl) ?_
      refine lv_iconst (v := 3) hC.1 hC.2.1 dX4_mishap_9 (by decide) ?_
      refine lv_icmp_lt (tgt := 23) hC.1 hC.2.1 dX4_mishap_10 (by decide) (fun c4 => ?_) (fun c4 => ?_)
      · have h := h.1 c4
        refine lv_aload_n hC.1 hC.2.1 dX4_mishap_23 rfl (lv_at hl 0 rfl) ?_
        refine gX4_4 hC hZ kf_X4_31 dX4_mishap_24 ?_
        refine gX3_0 hC hZ (by decide) kf_X4_173 dX4_mishap_27 ?_
        refine lv_iload_n hC.1 hC.2.1 dX4_mishap_30 rfl (lv_at hl 1 rfl) ?_
        obtain ⟨q5, h⟩ := h
        refine aL_41 hC hZ (by decide) q5 dX4_mishap_31 ?_
        refine lv_astore_n (lv' := [(3, .ref (ad 43 (5 * 0 + a1.toNatClampNeg))), (0, .ref (ad 30 0)), (1, .int a1), (2, .int a2)]) hC.1 hC.2.1 dX4_mishap_32 rfl hl (by decide) rfl (fun ls hl => ?_)
        refine lv_aload_n hC.1 hC.2.1 dX4_mishap_33 rfl (lv_at hl 0 rfl) ?_
        refine lv_iload_n hC.1 hC.2.1 dX4_mishap_34 rfl (lv_at hl 3 rfl) ?_
        obtain ⟨q6, h⟩ := h
        obtain ⟨q7, h⟩ := h
        refine aL_43 hC hZ q6 q7 dX4_mishap_35 ?_
        refine lv_if_gt (tgt := 49) hC.1 hC.2.1 dX4_mishap_36 (by decide) (fun c8 => ?_) (fun c8 => ?_)
        · have h := h.1 c8
          refine lv_aload_n hC.1 hC.2.1 dX4_mishap_49 rfl (lv_at hl 0 rfl) ?_
          refine lv_iload_n hC.1 hC.2.1 dX4_mishap_50 rfl (lv_at hl 3 rfl) ?_
          refine lv_dup2_11 hC.1 hC.2.1 dX4_mishap_51 rfl rfl ?_
          refine aL_43 hC hZ q6 q7 dX4_mishap_52 ?_
          refine lv_iconst (v := 1) hC.1 hC.2.1 dX4_mishap_53 (by decide) ?_
          refine lv_isub hC.1 hC.2.1 dX4_mishap_54 ?_
          refine aS_43 hC hZ q6 q7 dX4_mishap_55 (fun μ9 H locs eμ9 hZ => ?_)
          have h := h μ9 eμ9
          refine lv_aload_n hC.1 hC.2.1 dX4_mishap_56 rfl (lv_at hl 0 rfl) ?_
          refine lv_iconst (v := 3) hC.1 hC.2.1 dX4_mishap_57 (by decide) ?_
          refine lv_dup2_11 hC.1 hC.2.1 dX4_mishap_58 rfl rfl ?_
          refine aL_43 hC hZ q6 (by unfold vp_in; decide) dX4_mishap_59 ?_
          refine lv_iconst (v := 1) hC.1 hC.2.1 dX4_mishap_60 (by decide) ?_
          refine lv_iadd hC.1 hC.2.1 dX4_mishap_61 ?_
          refine aS_43 hC hZ q6 (by unfold vp_in; decide) dX4_mishap_62 (fun μ10 H locs eμ10 hZ => ?_)
          have h := h μ10 eμ10
          refine lv_aload_n hC.1 hC.2.1 dX4_mishap_63 rfl (lv_at hl 0 rfl) ?_
          refine lv_iconst (v := 3) hC.1 hC.2.1 dX4_mishap_64 (by decide) ?_
          refine aL_43 hC hZ q6 (by unfold vp_in; decide) dX4_mishap_65 ?_
          exact vx_ret (z_iret hC hr hZ h dX4_mishap_66 (Nat.le_of_ble_eq_true rfl) (Nat.le_of_ble_eq_true rfl))
        · have h := h.2 c8
          exact z_throw_ise hC hnx hst hZ hl.1 zs_179 dX4_mishap_39 dX4_mishap_42 dX4_mishap_43 dX4_mishap_45 dX4_mishap_48 (Nat.le_of_ble_eq_true rfl) (Nat.le_of_ble_eq_true rfl) (Nat.le_of_ble_eq_true rfl) (Nat.le_of_ble_eq_true rfl) (Nat.le_of_ble_eq_true rfl) (Nat.le_of_ble_eq_true rfl) h
      · have h := h.2 c4
        exact t_X4_mishap_13 (l := l) hC hnx hst hr _ _  _ _ _ _ h hZ (lv_sub hl [] rfl)
  exact key
def lb_X4_putOff_7 (n np : Nat) (post : Mem → Prop) (k7 : Int32 → Mem → Prop) (a1 : Int32) (v2 : Int32) (μ : Mem) : Prop := ((30 ≤ v2 → (¬ a1 < 0 ∧ a1.toNatClampNeg < n ∧ ∀ μ4 : Mem, μ4 = zst μ 70 a1.toNatClampNeg 6 2 → post μ4)) ∧ (¬ 30 ≤ v2 → (vp_in v2 30 ∧ ((¬ (μ 32 0 v2.toNatClampNeg) < 0 → k7 (v2 + 1) μ) ∧ ((μ 32 0 v2.toNatClampNeg) < 0 → ((¬ a1 < 0 → a1.toNatClampNeg < n) ∧ ∀ μ8 : Mem, μ8 = zst μ 32 0 v2.toNatClampNeg a1 → post μ8))))))
def l_X4_putOff_7 (n np : Nat) (post : Mem → Prop) (a1 : Int32) : Nat → Int32 → Mem → Prop
  | 0 => fun _ _ => False
  | fuel + 1 => lb_X4_putOff_7 n np post (l_X4_putOff_7 n np post a1 fuel) a1 
set_option maxRecDepth 100000 in
set_option maxHeartbeats 4000000 in
theorem t_X4_putOff_7 {p : Program} {l : Launch} {e : Env} {s : State} {m : MethodId} {args : Array Value} {below : List Frame} {meth : Method} {c : Code} {D : va_G} {ca : Nat → ClassId} {base : Nat} {ad : Nat → Nat → Nat} {n np : Nat} {post : Mem → Prop} (hC : ZC p m meth c s RX4 cX4_putOff 3) (hr : meth.sig.returnType = none) (a1 : Int32) : ∀ (fuel : Nat) (v2 : Int32) (μ : Mem) (H : Heap) (locs : List Loc) (ls : Array Slot), l_X4_putOff_7 n np post a1 fuel v2 μ → ZS D ca base ad n np μ s H locs → lv_has ls 3 [(0, .ref (ad 30 0)), (1, va_rf (zr ad 70 a1)), (2, .int v2)] → W p l e ({ frames := 0, cells := 0, slots := 0, locals := 0 } : Room) s m args below meth c H locs 0 0 (MQ below (ZQ D ca base ad n np (zpv post)) args s 0 0 (zB base)) (F0 m 7 ls []) := by
  intro fuel
  induction fuel with
  | zero => exact fun _ _ _ _ _ h => h.elim
  | succ fuel hk7 =>
    intro v2 μ H locs ls h hZ hl
    have h : lb_X4_putOff_7 n np post (l_X4_putOff_7 n np post a1 fuel) a1 v2 μ := h
    unfold lb_X4_putOff_7 at h
    refine lv_iload_n hC.1 hC.2.1 dX4_putOff_7 rfl (lv_at hl 2 rfl) ?_
    refine lv_bipush (v := 30) hC.1 hC.2.1 dX4_putOff_8 (by decide) ?_
    refine lv_icmp_ge (tgt := 36) hC.1 hC.2.1 dX4_putOff_10 (by decide) (fun c1 => ?_) (fun c1 => ?_)
    · have h := h.1 c1
      refine z_aload_nq hC dX4_putOff_36 rfl (lv_at hl 1 rfl) ?_
      refine lv_iconst (v := 2) hC.1 hC.2.1 dX4_putOff_37 (by decide) ?_
      obtain ⟨q2, h⟩ := h
      refine z_df1 q2 ?_
      obtain ⟨q3, h⟩ := h
      refine pX2_6 hC hZ q3 kf_X4_128 dX4_putOff_38 (fun μ4 H locs eμ4 hZ => ?_)
      have h := h μ4 eμ4
      exact z_vret hC hr hZ h dX4_putOff_41 (Nat.le_of_ble_eq_true rfl) (Nat.le_of_ble_eq_true rfl)
    · have h := h.2 c1
      refine lv_aload_n hC.1 hC.2.1 dX4_putOff_13 rfl (lv_at hl 0 rfl) ?_
      refine gX4_1 hC hZ kf_X4_15 dX4_putOff_14 ?_
      refine lv_iload_n hC.1 hC.2.1 dX4_putOff_17 rfl (lv_at hl 2 rfl) ?_
      obtain ⟨q5, h⟩ := h
      refine aL_32 hC hZ q5 dX4_putOff_18 ?_
      refine z_ifnonnullq (tgt := 30) hC dX4_putOff_19 (by decide) (fun c6 => ?_) (fun c6 => ?_)
      · have h := h.1 c6
        refine lv_iinc (v := v2 + 1) (lv' := [(2, .int (v2 + 1)), (0, .ref (ad 30 0)), (1, va_rf (zr ad 70 a1))]) hC.1 hC.2.1 dX4_putOff_30 hl (k := 2) rfl rfl (by decide) (by simp [zcat]) (fun ls hl => ?_)
        refine lv_goto (tgt := 7) hC.1 hC.2.1 dX4_putOff_33 (by decide) ?_
        exact hk7 _ _ _ _ _ h hZ (lv_sub hl [1, 2, 0] rfl)
      · have h := h.2 c6
        refine lv_aload_n hC.1 hC.2.1 dX4_putOff_22 rfl (lv_at hl 0 rfl) ?_
        refine gX4_1 hC hZ kf_X4_15 dX4_putOff_23 ?_
        refine lv_iload_n hC.1 hC.2.1 dX4_putOff_26 rfl (lv_at hl 2 rfl) ?_
        refine z_aload_nq hC dX4_putOff_27 rfl (lv_at hl 1 rfl) ?_
        obtain ⟨q7, h⟩ := h
        refine aS_32 hC hZ q5 q7 dX4_putOff_28 (fun μ8 H locs eμ8 hZ => ?_)
        have h := h μ8 eμ8
        exact z_vret hC hr hZ h dX4_putOff_29 (Nat.le_of_ble_eq_true rfl) (Nat.le_of_ble_eq_true rfl)
def w_X4_putOff (n np : Nat) (post : Mem → Prop) (a1 : Int32) (μ : Mem) : Prop := (∃ fuel : Nat, l_X4_putOff_7 n np post a1 fuel ((μ 30 0 9) + 1) μ)
set_option maxRecDepth 100000 in
set_option maxHeartbeats 4000000 in
theorem c_X4_putOff (l : Launch) {D : va_G} {ca : Nat → ClassId} {base : Nat} {ad : Nat → Nat → Nat} {n np : Nat} {μ : Mem} {post : Mem → Prop} {a1 : Int32} (h : w_X4_putOff n np post a1 μ) : ZMet l yX4_putOff cX4_putOff 3 none ({ frames := 0, cells := 0, slots := 0, locals := 0 } : Room) 0 0 D ca base ad n np [.ref (ad 30 0), va_rf (zr ad 70 a1)] μ (zpv post) := by
  unfold ZMet
  refine Met.ofW (cc := cX4_putOff) (maxL := 3) (ret := none) (by decide) rfl ?_
  intro p e s m args below meth c s₁ B hml hv
  obtain ⟨rfl, hU⟩ := hv
  have hZ := hU.toS
  have hC : ZC p m meth c s RX4 cX4_putOff 3 := ⟨B.exec, B.bytes, hml, findClass_of_methodNamed B.named, B.notSynchronized⟩
  have hr := B.returns
  have key : W p l e ({ frames := 0, cells := 0, slots := 0, locals := 0 } : Room) s m (([.ref (ad 30 0), va_rf (zr ad 70 a1)] : List Value).toArray) below meth c s.heap [] 0 0 (MQ below (ZQ D ca base ad n np (zpv post)) (([.ref (ad 30 0), va_rf (zr ad 70 a1)] : List Value).toArray) s 0 0 (zB base)) (entryFrame m (([.ref (ad 30 0), va_rf (zr ad 70 a1)] : List Value).toArray) 3) := by
    obtain ⟨ls, hls, hl⟩ : ∃ ls : Array Slot, entryFrame m ([.ref (ad 30 0), va_rf (zr ad 70 a1)]).toArray 3 = F0 m 0 ls [] ∧ lv_has ls 3 [(0, .ref (ad 30 0)), (1, va_rf (zr ad 70 a1))] := by
      cases zr ad 70 a1 with
      | none => exact ⟨_, lg_entry_eq m ([.ref (ad 30 0), .null]) 3, lv_entry ([.ref (ad 30 0), .null]) (n := 3) (Nat.le_of_ble_eq_true rfl)⟩
      | some a => exact ⟨_, lg_entry_eq m ([.ref (ad 30 0), .ref a]) 3, lv_entry ([.ref (ad 30 0), .ref a]) (n := 3) (Nat.le_of_ble_eq_true rfl)⟩
    rw [hls]
    unfold w_X4_putOff at h
    refine lv_aload_n hC.1 hC.2.1 dX4_putOff_0 rfl (lv_at hl 0 rfl) ?_
    refine gX4_9 hC hZ kf_X4_52 dX4_putOff_1 ?_
    refine lv_iconst (v := 1) hC.1 hC.2.1 dX4_putOff_4 (by decide) ?_
    refine lv_iadd hC.1 hC.2.1 dX4_putOff_5 ?_
    refine lv_istore_n (i := 2) (lv' := [(2, .int ((μ 30 0 9) + 1)), (0, .ref (ad 30 0)), (1, va_rf (zr ad 70 a1))]) hC.1 hC.2.1 dX4_putOff_6 rfl hl (by decide) (by simp [zcat]) (fun ls hl => ?_)
    obtain ⟨fuel, h⟩ := h
    exact t_X4_putOff_7 (l := l) hC hr _ _ _ _ _ _ _ h hZ (lv_sub hl [1, 2, 0] rfl)
  exact key
def b_X4_shoot_104 (n np : Nat) (post : Int32 → Mem → Prop) (xpost : String → Mem → Prop) (v2 : Int32) (μ : Mem) : Prop := (w_X3_growBeards n np (fun (μ6 : Mem) => (∀ μ8 : Mem, μ8 = zst μ6 30 0 9 ((μ6 30 0 9) + 1) → post v2 μ8)) 0 (1 : Int32) μ)
set_option maxRecDepth 100000 in
set_option maxHeartbeats 4000000 in
theorem t_X4_shoot_104 {p : Program} {l : Launch} {e : Env} {s : State} {m : MethodId} {args : Array Value} {below : List Frame} {meth : Method} {c : Code} {D : va_G} {ca : Nat → ClassId} {base : Nat} {ad : Nat → Nat → Nat} {n np : Nat} {post : Int32 → Mem → Prop} {xpost : String → Mem → Prop} (hC : ZC p m meth c s RX4 cX4_shoot 3) (hnx : ∀ x ∈ c.exceptionTable.toList, False) (hst : l.stackTraces = false) (hr : meth.sig.returnType = (some FieldType.int)) (v2 : Int32) (μ : Mem) (H : Heap) (locs : List Loc) (ls : Array Slot) (h : b_X4_shoot_104 n np post xpost v2 μ) (hZ : ZS D ca base ad n np μ s H locs) (hl : lv_has ls 3 [(0, .ref (ad 30 0)), (2, .int v2)]) : W p l e ({ frames := 6, cells := 1, slots := 6, locals := 82 } : Room) s m args below meth c H locs 0 0 (vx_MQ below (ZQ D ca base ad n np (zpi post)) (ZX D ca base ad n np xpost) args s 1 6 (zB base)) (F0 m 104 ls []) := by
  unfold b_X4_shoot_104 at h
  refine lv_aload_n hC.1 hC.2.1 dX4_shoot_104 rfl (lv_at hl 0 rfl) ?_
  refine gX4_4 hC hZ kf_X4_31 dX4_shoot_105 ?_
  refine lv_iconst (v := 1) hC.1 hC.2.1 dX4_shoot_108 (by decide) ?_
  refine z_cVv (As := [.int 1]) hC hZ (zF_40 (by decide) _) rfl zy_X3_growBeards (c_X3_growBeards l h) km_X4_196 rfl ⟨rfl, rfl⟩ ⟨Nat.le_of_ble_eq_true rfl, Nat.le_of_ble_eq_true rfl⟩ hl.1 rfl (Nat.le_of_ble_eq_true rfl) dX4_shoot_109 ⟨Nat.le_of_ble_eq_true rfl, Nat.le_of_ble_eq_true rfl⟩ (fun μ6 H locs h hZ => ?_)
  refine lv_aload_n hC.1 hC.2.1 dX4_shoot_112 rfl (lv_at hl 0 rfl) ?_
  refine lv_dup hC.1 hC.2.1 dX4_shoot_113 rfl ?_
  refine gX4_9 hC hZ kf_X4_52 dX4_shoot_114 ?_
  refine lv_iconst (v := 1) hC.1 hC.2.1 dX4_shoot_117 (by decide) ?_
  refine lv_iadd hC.1 hC.2.1 dX4_shoot_118 ?_
  refine pX4_9 hC hZ kf_X4_52 dX4_shoot_119 (fun μ8 H locs eμ8 hZ => ?_)
  have h := h μ8 eμ8
  refine lv_iload_n hC.1 hC.2.1 dX4_shoot_122 rfl (lv_at hl 1 rfl) ?_
  exact vx_ret (z_iret hC hr hZ h dX4_shoot_123 (Nat.le_of_ble_eq_true rfl) (Nat.le_of_ble_eq_true rfl))
def b_X4_shoot_95 (n np : Nat) (post : Int32 → Mem → Prop) (xpost : String → Mem → Prop) (v1 : Int32) (v2 : Int32) (μ : Mem) : Prop := ((v1 < 0 → b_X4_shoot_104 n np post xpost v2 μ) ∧ (¬ v1 < 0 → (w_X4_putOff n np (fun (μ9 : Mem) => b_X4_shoot_104 n np post xpost v2 μ9) v1 μ)))
set_option maxRecDepth 100000 in
set_option maxHeartbeats 4000000 in
theorem t_X4_shoot_95 {p : Program} {l : Launch} {e : Env} {s : State} {m : MethodId} {args : Array Value} {below : List Frame} {meth : Method} {c : Code} {D : va_G} {ca : Nat → ClassId} {base : Nat} {ad : Nat → Nat → Nat} {n np : Nat} {post : Int32 → Mem → Prop} {xpost : String → Mem → Prop} (hC : ZC p m meth c s RX4 cX4_shoot 3) (hnx : ∀ x ∈ c.exceptionTable.toList, False) (hst : l.stackTraces = false) (hr : meth.sig.returnType = (some FieldType.int)) (v1 : Int32) (v2 : Int32) (μ : Mem) (H : Heap) (locs : List Loc) (ls : Array Slot) (h : b_X4_shoot_95 n np post xpost v1 v2 μ) (hZ : ZS D ca base ad n np μ s H locs) (hl : lv_has ls 3 [(0, .ref (ad 30 0)), (1, va_rf (zr ad 70 v1)), (2, .int v2)]) : W p l e ({ frames := 6, cells := 1, slots := 6, locals := 82 } : Room) s m args below meth c H locs 0 0 (vx_MQ below (ZQ D ca base ad n np (zpi post)) (ZX D ca base ad n np xpost) args s 1 6 (zB base)) (F0 m 95 ls []) := by
  unfold b_X4_shoot_95 at h
  refine z_aload_nq hC dX4_shoot_95 rfl (lv_at hl 1 rfl) ?_
  refine z_ifnullq (tgt := 104) hC dX4_shoot_96 (by decide) (fun c5 => ?_) (fun c5 => ?_)
  · have h := h.1 c5
    exact t_X4_shoot_104 (l := l) hC hnx hst hr _ _ _ _ _ h hZ (lv_sub hl [0, 2] rfl)
  · have h := h.2 c5
    refine lv_aload_n hC.1 hC.2.1 dX4_shoot_99 rfl (lv_at hl 0 rfl) ?_
    refine z_aload_nq hC dX4_shoot_100 rfl (lv_at hl 1 rfl) ?_
    refine z_cVv (As := [va_rf (zr ad 70 v1)]) hC hZ (zF_30 _) rfl zy_X4_putOff (c_X4_putOff l h) km_X4_193 rfl ⟨rfl, rfl⟩ ⟨Nat.le_of_ble_eq_true rfl, Nat.le_of_ble_eq_true rfl⟩ hl.1 rfl (Nat.le_of_ble_eq_true rfl) dX4_shoot_101 ⟨Nat.le_of_ble_eq_true rfl, Nat.le_of_ble_eq_true rfl⟩ (fun μ9 H locs h hZ => ?_)
    exact t_X4_shoot_104 (l := l) hC hnx hst hr _ _ _ _ _ h hZ (lv_sub hl [0, 2] rfl)
def w_X4_shoot (n np : Nat) (post : Int32 → Mem → Prop) (xpost : String → Mem → Prop) (μ : Mem) : Prop := (((μ 30 0 9) < 30 → (vp_in (μ 30 0 9) 30 ∧ (∀ μ3 : Mem, μ3 = zst μ 32 0 ((μ 30 0 9).toNatClampNeg) (-1) → (((μ 32 0 (μ 30 0 9).toNatClampNeg) < 0 → b_X4_shoot_95 n np post xpost (μ 32 0 (μ 30 0 9).toNatClampNeg) (-1 : Int32) μ3) ∧ (¬ (μ 32 0 (μ 30 0 9).toNatClampNeg) < 0 → (w_X4_allows n np (fun (r12 : Int32) (μ11 : Mem) => ((r12 = 0 → b_X4_shoot_95 n np post xpost (μ 32 0 (μ 30 0 9).toNatClampNeg) (-1 : Int32) μ11) ∧ (¬ r12 = 0 → (w_X3_film n np (fun (r15 : Int32) (μ14 : Mem) => (∀ μ16 : Mem, μ16 = zst μ14 30 0 10 ((μ11 30 0 10) + r15) → (((μ 32 0 (μ 30 0 9).toNatClampNeg).toNatClampNeg) < n ∧ ∀ μ18 : Mem, μ18 = zst μ16 70 ((μ 32 0 (μ 30 0 9).toNatClampNeg).toNatClampNeg) 6 1 → (∀ μ19 : Mem, μ19 = zst μ18 70 ((μ 32 0 (μ 30 0 9).toNatClampNeg).toNatClampNeg) 7 (μ18 30 0 9) → b_X4_shoot_104 n np post xpost (μ19 70 ((μ 32 0 (μ 30 0 9).toNatClampNeg).toNatClampNeg) 0) μ19)))) 0 ((μ 32 0 (μ 30 0 9).toNatClampNeg).toNatClampNeg) μ11)))) ((μ 32 0 (μ 30 0 9).toNatClampNeg).toNatClampNeg) (μ3 30 0 9) μ3)))))) ∧ (¬ (μ 30 0 9) < 30 → xpost "java/lang/IllegalStateException" μ))
set_option maxRecDepth 100000 in
set_option maxHeartbeats 4000000 in
theorem c_X4_shoot (l : Launch) (hst : l.stackTraces = false) {D : va_G} {ca : Nat → ClassId} {base : Nat} {ad : Nat → Nat → Nat} {n np : Nat} {μ : Mem} {post : Int32 → Mem → Prop} {xpost : String → Mem → Prop} (h : w_X4_shoot n np post xpost μ) : ZXMet l yX4_shoot cX4_shoot 3 (some FieldType.int) ({ frames := 6, cells := 1, slots := 6, locals := 82 } : Room) 1 6 D ca base ad n np [.ref (ad 30 0)] μ (zpi post) xpost := by
  unfold ZXMet
  refine vx_ofW (cc := cX4_shoot) (maxL := 3) (ret := (some FieldType.int)) (by decide) rfl ?_
  intro p e s m args below meth c s₁ B hml hnx hv
  obtain ⟨rfl, hU⟩ := hv
  have hZ := hU.toS
  have hC : ZC p m meth c s RX4 cX4_shoot 3 := ⟨B.exec, B.bytes, hml, findClass_of_methodNamed B.named, B.notSynchronized⟩
  have hr := B.returns
  have key : W p l e ({ frames := 6, cells := 1, slots := 6, locals := 82 } : Room) s m (([.ref (ad 30 0)] : List Value).toArray) below meth c s.heap [] 0 0 (vx_MQ below (ZQ D ca base ad n np (zpi post)) (ZX D ca base ad n np xpost) (([.ref (ad 30 0)] : List Value).toArray) s 1 6 (zB base)) (entryFrame m (([.ref (ad 30 0)] : List Value).toArray) 3) := by
    have hl := lv_entry ([.ref (ad 30 0)]) (n := 3) (Nat.le_of_ble_eq_true rfl)
    rw [lg_entry_eq]
    generalize (lg_sl ([.ref (ad 30 0)]) ++ List.replicate (3 - (lg_sl ([.ref (ad 30 0)])).length) Slot.unset).toArray = ls at hl ⊢
    have hl : lv_has ls 3 [(0, .ref (ad 30 0))] := hl
    unfold w_X4_shoot at h
    refine lv_aload_n hC.1 hC.2.1 dX4_shoot_0 rfl (lv_at hl 0 rfl) ?_
    refine gX4_9 hC hZ kf_X4_52 dX4_shoot_1 ?_
    refine lv_bipush (v := 30) hC.1 hC.2.1 dX4_shoot_4 (by decide) ?_
    refine lv_icmp_lt (tgt := 19) hC.1 hC.2.1 dX4_shoot_6 (by decide) (fun c1 => ?_) (fun c1 => ?_)
    · have h := h.1 c1
      refine lv_aload_n hC.1 hC.2.1 dX4_shoot_19 rfl (lv_at hl 0 rfl) ?_
      refine gX4_1 hC hZ kf_X4_15 dX4_shoot_20 ?_
      refine lv_aload_n hC.1 hC.2.1 dX4_shoot_23 rfl (lv_at hl 0 rfl) ?_
      refine gX4_9 hC hZ kf_X4_52 dX4_shoot_24 ?_
      obtain ⟨q2, h⟩ := h
      refine aL_32 hC hZ q2 dX4_shoot_27 ?_
      refine z_astore_nq (lv' := [(1, va_rf (zr ad 70 (μ 32 0 (μ 30 0 9).toNatClampNeg))), (0, .ref (ad 30 0))]) hC dX4_shoot_28 rfl hl (by decide) rfl (fun ls hl => ?_)
      refine lv_aload_n hC.1 hC.2.1 dX4_shoot_29 rfl (lv_at hl 1 rfl) ?_
      refine gX4_1 hC hZ kf_X4_15 dX4_shoot_30 ?_
      refine lv_aload_n hC.1 hC.2.1 dX4_shoot_33 rfl (lv_at hl 1 rfl) ?_
      refine gX4_9 hC hZ kf_X4_52 dX4_shoot_34 ?_
      refine z_null hC ad 70 dX4_shoot_37 ?_
      refine aS_32 hC hZ q2 (fun z => absurd (by decide) z) dX4_shoot_38 (fun μ3 H locs eμ3 hZ => ?_)
      have h := h μ3 eμ3
      refine lv_iconst (v := (-1)) hC.1 hC.2.1 dX4_shoot_39 (by decide) ?_
      refine lv_istore_n (i := 2) (lv' := [(2, .int (-1)), (1, va_rf (zr ad 70 (μ 32 0 (μ 30 0 9).toNatClampNeg))), (0, .ref (ad 30 0))]) hC.1 hC.2.1 dX4_shoot_40 rfl hl (by decide) (by simp [zcat]) (fun ls hl => ?_)
      refine z_aload_nq hC dX4_shoot_41 rfl (lv_at hl 1 rfl) ?_
      refine z_ifnullq (tgt := 95) hC dX4_shoot_42 (by decide) (fun c4 => ?_) (fun c4 => ?_)
      · have h := h.1 c4
        exact t_X4_shoot_95 (l := l) hC hnx hst hr _ _ _ _ _ _ h hZ (lv_sub hl [2, 1, 0] rfl)
      · have h := h.2 c4
        refine lv_aload_n hC.1 hC.2.1 dX4_shoot_45 rfl (lv_at hl 2 rfl) ?_
        refine z_aload_nq hC dX4_shoot_46 rfl (lv_at hl 1 rfl) ?_
        refine lv_aload_n hC.1 hC.2.1 dX4_shoot_47 rfl (lv_at hl 2 rfl) ?_
        refine gX4_9 hC hZ kf_X4_52 dX4_shoot_48 ?_
        refine z_df1 c4 ?_
        refine z_cVi (As := [.ref (ad 70 ((μ 32 0 (μ 30 0 9).toNatClampNeg).toNatClampNeg)), .int (μ3 30 0 9)]) hC hZ (zF_30 _) rfl zy_X4_allows (c_X4_allows l h) km_X4_183 rfl ⟨rfl, rfl⟩ ⟨Nat.le_of_ble_eq_true rfl, Nat.le_of_ble_eq_true rfl⟩ hl.1 rfl (Nat.le_of_ble_eq_true rfl) dX4_shoot_51 ⟨Nat.le_of_ble_eq_true rfl, Nat.le_of_ble_eq_true rfl⟩ (fun r12 μ11 H locs h hZ => ?_)
        refine lv_if_eq (tgt := 95) hC.1 hC.2.1 dX4_shoot_54 (by decide) (fun c13 => ?_) (fun c13 => ?_)
        · have h := h.1 c13
          exact t_X4_shoot_95 (l := l) hC hnx hst hr _ _ _ _ _ _ h hZ (lv_sub hl [2, 1, 0] rfl)
        · have h := h.2 c13
          refine lv_aload_n hC.1 hC.2.1 dX4_shoot_57 rfl (lv_at hl 2 rfl) ?_
          refine lv_dup hC.1 hC.2.1 dX4_shoot_58 rfl ?_
          refine gX4_10 hC hZ kf_X4_55 dX4_shoot_59 ?_
          refine lv_aload_n hC.1 hC.2.1 dX4_shoot_62 rfl (lv_at hl 2 rfl) ?_
          refine gX4_4 hC hZ kf_X4_31 dX4_shoot_63 ?_
          refine z_aload_nq hC dX4_shoot_66 rfl (lv_at hl 1 rfl) ?_
          refine z_df0 c4 ?_
          refine z_cVi (As := [.ref (ad 70 ((μ 32 0 (μ 30 0 9).toNatClampNeg).toNatClampNeg))]) hC hZ (zF_40 (by decide) _) rfl zy_X3_film (c_X3_film l h) km_X4_187 rfl ⟨rfl, rfl⟩ ⟨Nat.le_of_ble_eq_true rfl, Nat.le_of_ble_eq_true rfl⟩ hl.1 rfl (Nat.le_of_ble_eq_true rfl) dX4_shoot_67 ⟨Nat.le_of_ble_eq_true rfl, Nat.le_of_ble_eq_true rfl⟩ (fun r15 μ14 H locs h hZ => ?_)
          refine lv_iadd hC.1 hC.2.1 dX4_shoot_70 ?_
          refine pX4_10 hC hZ kf_X4_55 dX4_shoot_71 (fun μ16 H locs eμ16 hZ => ?_)
          have h := h μ16 eμ16
          refine z_aload_nq hC dX4_shoot_74 rfl (lv_at hl 1 rfl) ?_
          refine lv_iconst (v := 1) hC.1 hC.2.1 dX4_shoot_75 (by decide) ?_
          refine z_df1 c4 ?_
          obtain ⟨q17, h⟩ := h
          refine pX2_6 hC hZ q17 kf_X4_128 dX4_shoot_76 (fun μ18 H locs eμ18 hZ => ?_)
          have h := h μ18 eμ18
          refine z_aload_nq hC dX4_shoot_79 rfl (lv_at hl 1 rfl) ?_
          refine lv_aload_n hC.1 hC.2.1 dX4_shoot_80 rfl (lv_at hl 2 rfl) ?_
          refine gX4_9 hC hZ kf_X4_52 dX4_shoot_81 ?_
          refine z_df1 c4 ?_
          refine pX2_7 hC hZ q17 kf_X4_190 dX4_shoot_84 (fun μ19 H locs eμ19 hZ => ?_)
          have h := h μ19 eμ19
          refine z_aload_nq hC dX4_shoot_87 rfl (lv_at hl 1 rfl) ?_
          refine z_df0 c4 ?_
          refine gX2_0 hC hZ q17 kf_X4_77 dX4_shoot_88 ?_
          refine lv_istore_n (i := 2) (lv' := [(2, .int (μ19 70 ((μ 32 0 (μ 30 0 9).toNatClampNeg).toNatClampNeg) 0)), (1, va_rf (zr ad 70 (μ 32 0 (μ 30 0 9).toNatClampNeg))), (0, .ref (ad 30 0))]) hC.1 hC.2.1 dX4_shoot_91 rfl hl (by decide) (by simp [zcat]) (fun ls hl => ?_)
          refine lv_goto (tgt := 104) hC.1 hC.2.1 dX4_shoot_92 (by decide) ?_
          exact t_X4_shoot_104 (l := l) hC hnx hst hr _ _ _ _ _ h hZ (lv_sub hl [2, 0] rfl)
    · have h := h.2 c1
      exact z_throw_ise hC hnx hst hZ hl.1 zs_181 dX4_shoot_9 dX4_shoot_12 dX4_shoot_13 dX4_shoot_15 dX4_shoot_18 (Nat.le_of_ble_eq_true rfl) (Nat.le_of_ble_eq_true rfl) (Nat.le_of_ble_eq_true rfl) (Nat.le_of_ble_eq_true rfl) (Nat.le_of_ble_eq_true rfl) (Nat.le_of_ble_eq_true rfl) h
  exact key
def w_X4_wouldMend (n np : Nat) (post : Int32 → Mem → Prop) (a1 : Int32) (a2 : Int32) (μ : Mem) : Prop := (vp_in a1 30 ∧ (w_X4_isFree n np (fun (r3 : Int32) (μ2 : Mem) => ((r3 = 0 → post 0 μ2) ∧ (¬ r3 = 0 → (vp_in a2 30 ∧ (w_X4_isFree n np (fun (r7 : Int32) (μ6 : Mem) => ((r7 = 0 → post 0 μ6) ∧ (¬ r7 = 0 → post 1 μ6))) (μ2 32 0 a2.toNatClampNeg) a1 μ2))))) (μ 32 0 a1.toNatClampNeg) a2 μ))
set_option maxRecDepth 100000 in
set_option maxHeartbeats 4000000 in
theorem c_X4_wouldMend (l : Launch) {D : va_G} {ca : Nat → ClassId} {base : Nat} {ad : Nat → Nat → Nat} {n np : Nat} {μ : Mem} {post : Int32 → Mem → Prop} {a1 : Int32} {a2 : Int32} (h : w_X4_wouldMend n np post a1 a2 μ) : ZMet l yX4_wouldMend cX4_wouldMend 3 (some FieldType.boolean) ({ frames := 4, cells := 0, slots := 0, locals := 92 } : Room) 0 0 D ca base ad n np [.ref (ad 30 0), .int a1, .int a2] μ (zpi post) := by
  unfold ZMet
  refine Met.ofW (cc := cX4_wouldMend) (maxL := 3) (ret := (some FieldType.boolean)) (by decide) rfl ?_
  intro p e s m args below meth c s₁ B hml hv
  obtain ⟨rfl, hU⟩ := hv
  have hZ := hU.toS
  have hC : ZC p m meth c s RX4 cX4_wouldMend 3 := ⟨B.exec, B.bytes, hml, findClass_of_methodNamed B.named, B.notSynchronized⟩
  have hr := B.returns
  have key : W p l e ({ frames := 4, cells := 0, slots := 0, locals := 92 } : Room) s m (([.ref (ad 30 0), .int a1, .int a2] : List Value).toArray) below meth c s.heap [] 0 0 (MQ below (ZQ D ca base ad n np (zpi post)) (([.ref (ad 30 0), .int a1, .int a2] : List Value).toArray) s 0 0 (zB base)) (entryFrame m (([.ref (ad 30 0), .int a1, .int a2] : List Value).toArray) 3) := by
    have hl := lv_entry ([.ref (ad 30 0), .int a1, .int a2]) (n := 3) (Nat.le_of_ble_eq_true rfl)
    rw [lg_entry_eq]
    generalize (lg_sl ([.ref (ad 30 0), .int a1, .int a2]) ++ List.replicate (3 - (lg_sl ([.ref (ad 30 0), .int a1, .int a2])).length) Slot.unset).toArray = ls at hl ⊢
    have hl : lv_has ls 3 [(0, .ref (ad 30 0)), (1, .int a1), (2, .int a2)] := hl
    unfold w_X4_wouldMend at h
    refine lv_aload_n hC.1 hC.2.1 dX4_wouldMend_0 rfl (lv_at hl 0 rfl) ?_
    refine lv_aload_n hC.1 hC.2.1 dX4_wouldMend_1 rfl (lv_at hl 0 rfl) ?_
    refine gX4_1 hC hZ kf_X4_15 dX4_wouldMend_2 ?_
    refine lv_iload_n hC.1 hC.2.1 dX4_wouldMend_5 rfl (lv_at hl 1 rfl) ?_
    obtain ⟨q1, h⟩ := h
    refine aL_32 hC hZ q1 dX4_wouldMend_6 ?_
    refine lv_iload_n hC.1 hC.2.1 dX4_wouldMend_7 rfl (lv_at hl 2 rfl) ?_
    refine z_cVi (As := [va_rf (zr ad 70 (μ 32 0 a1.toNatClampNeg)), .int a2]) hC hZ (zF_30 _) rfl zy_X4_isFree (c_X4_isFree l h) km_X4_271 rfl ⟨rfl, rfl⟩ ⟨Nat.le_of_ble_eq_true rfl, Nat.le_of_ble_eq_true rfl⟩ hl.1 rfl (Nat.le_of_ble_eq_true rfl) dX4_wouldMend_8 ⟨Nat.le_of_ble_eq_true rfl, Nat.le_of_ble_eq_true rfl⟩ (fun r3 μ2 H locs h hZ => ?_)
    refine lv_if_eq (tgt := 32) hC.1 hC.2.1 dX4_wouldMend_11 (by decide) (fun c4 => ?_) (fun c4 => ?_)
    · have h := h.1 c4
      refine lv_iconst (v := 0) hC.1 hC.2.1 dX4_wouldMend_32 (by decide) ?_
      exact z_bret hC hr hZ (by decide) h dX4_wouldMend_33 (Nat.le_of_ble_eq_true rfl) (Nat.le_of_ble_eq_true rfl)
    · have h := h.2 c4
      refine lv_aload_n hC.1 hC.2.1 dX4_wouldMend_14 rfl (lv_at hl 0 rfl) ?_
      refine lv_aload_n hC.1 hC.2.1 dX4_wouldMend_15 rfl (lv_at hl 0 rfl) ?_
      refine gX4_1 hC hZ kf_X4_15 dX4_wouldMend_16 ?_
      refine lv_iload_n hC.1 hC.2.1 dX4_wouldMend_19 rfl (lv_at hl 2 rfl) ?_
      obtain ⟨q5, h⟩ := h
      refine aL_32 hC hZ q5 dX4_wouldMend_20 ?_
      refine lv_iload_n hC.1 hC.2.1 dX4_wouldMend_21 rfl (lv_at hl 1 rfl) ?_
      refine z_cVi (As := [va_rf (zr ad 70 (μ2 32 0 a2.toNatClampNeg)), .int a1]) hC hZ (zF_30 _) rfl zy_X4_isFree (c_X4_isFree l h) km_X4_271 rfl ⟨rfl, rfl⟩ ⟨Nat.le_of_ble_eq_true rfl, Nat.le_of_ble_eq_true rfl⟩ hl.1 rfl (Nat.le_of_ble_eq_true rfl) dX4_wouldMend_22 ⟨Nat.le_of_ble_eq_true rfl, Nat.le_of_ble_eq_true rfl⟩ (fun r7 μ6 H locs h hZ => ?_)
      refine lv_if_eq (tgt := 32) hC.1 hC.2.1 dX4_wouldMend_25 (by decide) (fun c8 => ?_) (fun c8 => ?_)
      · have h := h.1 c8
        refine lv_iconst (v := 0) hC.1 hC.2.1 dX4_wouldMend_32 (by decide) ?_
        exact z_bret hC hr hZ (by decide) h dX4_wouldMend_33 (Nat.le_of_ble_eq_true rfl) (Nat.le_of_ble_eq_true rfl)
      · have h := h.2 c8
        refine lv_iconst (v := 1) hC.1 hC.2.1 dX4_wouldMend_28 (by decide) ?_
        refine lv_goto (tgt := 33) hC.1 hC.2.1 dX4_wouldMend_29 (by decide) ?_
        exact z_bret hC hr hZ (by decide) h dX4_wouldMend_33 (Nat.le_of_ble_eq_true rfl) (Nat.le_of_ble_eq_true rfl)
  exact key
def w_X4_costAfterSwap (n np : Nat) (post : Int32 → Mem → Prop) (a1 : Int32) (a2 : Int32) (μ : Mem) : Prop := (w_X4_swapDays n np (fun (μ1 : Mem) => (w_X4_planCost n np (fun (r4 : Int32) (μ3 : Mem) => (w_X4_swapDays n np (fun (μ5 : Mem) => post r4 μ5) a1 a2 μ3)) μ1)) a1 a2 μ)
set_option maxRecDepth 100000 in
set_option maxHeartbeats 4000000 in
theorem c_X4_costAfterSwap (l : Launch) {D : va_G} {ca : Nat → ClassId} {base : Nat} {ad : Nat → Nat → Nat} {n np : Nat} {μ : Mem} {post : Int32 → Mem → Prop} {a1 : Int32} {a2 : Int32} (h : w_X4_costAfterSwap n np post a1 a2 μ) : ZMet l yX4_costAfterSwap cX4_costAfterSwap 4 (some FieldType.int) ({ frames := 4, cells := 0, slots := 0, locals := 94 } : Room) 0 0 D ca base ad n np [.ref (ad 30 0), .int a1, .int a2] μ (zpi post) := by
  unfold ZMet
  refine Met.ofW (cc := cX4_costAfterSwap) (maxL := 4) (ret := (some FieldType.int)) (by decide) rfl ?_
  intro p e s m args below meth c s₁ B hml hv
  obtain ⟨rfl, hU⟩ := hv
  have hZ := hU.toS
  have hC : ZC p m meth c s RX4 cX4_costAfterSwap 4 := ⟨B.exec, B.bytes, hml, findClass_of_methodNamed B.named, B.notSynchronized⟩
  have hr := B.returns
  have key : W p l e ({ frames := 4, cells := 0, slots := 0, locals := 94 } : Room) s m (([.ref (ad 30 0), .int a1, .int a2] : List Value).toArray) below meth c s.heap [] 0 0 (MQ below (ZQ D ca base ad n np (zpi post)) (([.ref (ad 30 0), .int a1, .int a2] : List Value).toArray) s 0 0 (zB base)) (entryFrame m (([.ref (ad 30 0), .int a1, .int a2] : List Value).toArray) 4) := by
    have hl := lv_entry ([.ref (ad 30 0), .int a1, .int a2]) (n := 4) (Nat.le_of_ble_eq_true rfl)
    rw [lg_entry_eq]
    generalize (lg_sl ([.ref (ad 30 0), .int a1, .int a2]) ++ List.replicate (4 - (lg_sl ([.ref (ad 30 0), .int a1, .int a2])).length) Slot.unset).toArray = ls at hl ⊢
    have hl : lv_has ls 4 [(0, .ref (ad 30 0)), (1, .int a1), (2, .int a2)] := hl
    unfold w_X4_costAfterSwap at h
    refine lv_aload_n hC.1 hC.2.1 dX4_costAfterSwap_0 rfl (lv_at hl 0 rfl) ?_
    refine lv_iload_n hC.1 hC.2.1 dX4_costAfterSwap_1 rfl (lv_at hl 1 rfl) ?_
    refine lv_iload_n hC.1 hC.2.1 dX4_costAfterSwap_2 rfl (lv_at hl 2 rfl) ?_
    refine z_cVv (As := [.int a1, .int a2]) hC hZ (zF_30 _) rfl zy_X4_swapDays (c_X4_swapDays l h) km_X4_133 rfl ⟨rfl, rfl⟩ ⟨Nat.le_of_ble_eq_true rfl, Nat.le_of_ble_eq_true rfl⟩ hl.1 rfl (Nat.le_of_ble_eq_true rfl) dX4_costAfterSwap_3 ⟨Nat.le_of_ble_eq_true rfl, Nat.le_of_ble_eq_true rfl⟩ (fun μ1 H locs h hZ => ?_)
    refine lv_aload_n hC.1 hC.2.1 dX4_costAfterSwap_6 rfl (lv_at hl 0 rfl) ?_
    refine z_cVi (As := []) hC hZ (zF_30 _) rfl zy_X4_planCost (c_X4_planCost l h) km_X4_137 rfl ⟨rfl, rfl⟩ ⟨Nat.le_of_ble_eq_true rfl, Nat.le_of_ble_eq_true rfl⟩ hl.1 rfl (Nat.le_of_ble_eq_true rfl) dX4_costAfterSwap_7 ⟨Nat.le_of_ble_eq_true rfl, Nat.le_of_ble_eq_true rfl⟩ (fun r4 μ3 H locs h hZ => ?_)
    refine lv_istore_n (lv' := [(3, .int r4), (0, .ref (ad 30 0)), (1, .int a1), (2, .int a2)]) hC.1 hC.2.1 dX4_costAfterSwap_10 rfl hl (by decide) rfl (fun ls hl => ?_)
    refine lv_aload_n hC.1 hC.2.1 dX4_costAfterSwap_11 rfl (lv_at hl 1 rfl) ?_
    refine lv_iload_n hC.1 hC.2.1 dX4_costAfterSwap_12 rfl (lv_at hl 2 rfl) ?_
    refine lv_iload_n hC.1 hC.2.1 dX4_costAfterSwap_13 rfl (lv_at hl 3 rfl) ?_
    refine z_cVv (As := [.int a1, .int a2]) hC hZ (zF_30 _) rfl zy_X4_swapDays (c_X4_swapDays l h) km_X4_133 rfl ⟨rfl, rfl⟩ ⟨Nat.le_of_ble_eq_true rfl, Nat.le_of_ble_eq_true rfl⟩ hl.1 rfl (Nat.le_of_ble_eq_true rfl) dX4_costAfterSwap_14 ⟨Nat.le_of_ble_eq_true rfl, Nat.le_of_ble_eq_true rfl⟩ (fun μ5 H locs h hZ => ?_)
    refine lv_iload_n hC.1 hC.2.1 dX4_costAfterSwap_17 rfl (lv_at hl 0 rfl) ?_
    exact z_iret hC hr hZ h dX4_costAfterSwap_18 (Nat.le_of_ble_eq_true rfl) (Nat.le_of_ble_eq_true rfl)
  exact key
def b_X4_mendingDay_62 (n np : Nat) (post : Int32 → Mem → Prop) (k10 : Int32 → Int32 → Int32 → Mem → Prop) (a1 : Int32) (v2 : Int32) (v3 : Int32) (v4 : Int32) (μ : Mem) : Prop := k10 v2 v3 (v4 + 1) μ
set_option maxRecDepth 100000 in
set_option maxHeartbeats 4000000 in
theorem t_X4_mendingDay_62 {p : Program} {l : Launch} {e : Env} {s : State} {m : MethodId} {args : Array Value} {below : List Frame} {meth : Method} {c : Code} {D : va_G} {ca : Nat → ClassId} {base : Nat} {ad : Nat → Nat → Nat} {n np : Nat} {post : Int32 → Mem → Prop} {k10 : Int32 → Int32 → Int32 → Mem → Prop} (hC : ZC p m meth c s RX4 cX4_mendingDay 6) (hr : meth.sig.returnType = (some FieldType.int)) (a1 : Int32) (hk10 : ∀ (v2 : Int32) (v3 : Int32) (v4 : Int32) (μ : Mem) (H : Heap) (locs : List Loc) (ls : Array Slot), k10 v2 v3 v4 μ → ZS D ca base ad n np μ s H locs → lv_has ls 6 [(0, .ref (ad 30 0)), (1, .int a1), (2, .int v2), (3, .int v3), (4, .int v4)] → W p l e ({ frames := 5, cells := 0, slots := 0, locals := 117 } : Room) s m args below meth c H locs 0 0 (MQ below (ZQ D ca base ad n np (zpi post)) args s 0 0 (zB base)) (F0 m 10 ls [])) (v2 : Int32) (v3 : Int32) (v4 : Int32) (μ : Mem) (H : Heap) (locs : List Loc) (ls : Array Slot) (h : b_X4_mendingDay_62 n np post k10 a1 v2 v3 v4 μ) (hZ : ZS D ca base ad n np μ s H locs) (hl : lv_has ls 6 [(0, .ref (ad 30 0)), (1, .int a1), (2, .int v2), (3, .int v3), (4, .int v4)]) : W p l e ({ frames := 5, cells := 0, slots := 0, locals := 117 } : Room) s m args below meth c H locs 0 0 (MQ below (ZQ D ca base ad n np (zpi post)) args s 0 0 (zB base)) (F0 m 62 ls []) := by
  unfold b_X4_mendingDay_62 at h
  refine lv_iinc (v := v4 + 1) (lv' := [(4, .int (v4 + 1)), (0, .ref (ad 30 0)), (1, .int a1), (2, .int v2), (3, .int v3)]) hC.1 hC.2.1 dX4_mendingDay_62 hl (k := 4) rfl rfl (by decide) rfl (fun ls hl => ?_)
  refine lv_goto (tgt := 10) hC.1 hC.2.1 dX4_mendingDay_65 (by decide) ?_
  exact hk10 _ _ _ _ _ _ _ h hZ (lv_sub hl [1, 2, 3, 4, 0] rfl)
def b_X4_mendingDay_56 (n np : Nat) (post : Int32 → Mem → Prop) (k10 : Int32 → Int32 → Int32 → Mem → Prop) (a1 : Int32) (v4 : Int32) (v5 : Int32) (μ : Mem) : Prop := b_X4_mendingDay_62 n np post k10 a1 v4 v5 v4 μ
set_option maxRecDepth 100000 in
set_option maxHeartbeats 4000000 in
theorem t_X4_mendingDay_56 {p : Program} {l : Launch} {e : Env} {s : State} {m : MethodId} {args : Array Value} {below : List Frame} {meth : Method} {c : Code} {D : va_G} {ca : Nat → ClassId} {base : Nat} {ad : Nat → Nat → Nat} {n np : Nat} {post : Int32 → Mem → Prop} {k10 : Int32 → Int32 → Int32 → Mem → Prop} (hC : ZC p m meth c s RX4 cX4_mendingDay 6) (hr : meth.sig.returnType = (some FieldType.int)) (a1 : Int32) (hk10 : ∀ (v2 : Int32) (v3 : Int32) (v4 : Int32) (μ : Mem) (H : Heap) (locs : List Loc) (ls : Array Slot), k10 v2 v3 v4 μ → ZS D ca base ad n np μ s H locs → lv_has ls 6 [(0, .ref (ad 30 0)), (1, .int a1), (2, .int v2), (3, .int v3), (4, .int v4)] → W p l e ({ frames := 5, cells := 0, slots := 0, locals := 117 } : Room) s m args below meth c H locs 0 0 (MQ below (ZQ D ca base ad n np (zpi post)) args s 0 0 (zB base)) (F0 m 10 ls [])) (v4 : Int32) (v5 : Int32) (μ : Mem) (H : Heap) (locs : List Loc) (ls : Array Slot) (h : b_X4_mendingDay_56 n np post k10 a1 v4 v5 μ) (hZ : ZS D ca base ad n np μ s H locs) (hl : lv_has ls 6 [(0, .ref (ad 30 0)), (1, .int a1), (4, .int v4), (5, .int v5)]) : W p l e ({ frames := 5, cells := 0, slots := 0, locals := 117 } : Room) s m args below meth c H locs 0 0 (MQ below (ZQ D ca base ad n np (zpi post)) args s 0 0 (zB base)) (F0 m 56 ls []) := by
  unfold b_X4_mendingDay_56 at h
  refine lv_iload hC.1 hC.2.1 dX4_mendingDay_56 (lv_at hl 2 rfl) ?_
  refine lv_istore_n (lv' := [(2, .int v4), (0, .ref (ad 30 0)), (1, .int a1), (4, .int v4), (5, .int v5)]) hC.1 hC.2.1 dX4_mendingDay_58 rfl hl (by decide) rfl (fun ls hl => ?_)
  refine lv_iload hC.1 hC.2.1 dX4_mendingDay_59 (lv_at hl 4 rfl) ?_
  refine lv_istore_n (lv' := [(3, .int v5), (2, .int v4), (0, .ref (ad 30 0)), (1, .int a1), (4, .int v4), (5, .int v5)]) hC.1 hC.2.1 dX4_mendingDay_61 rfl hl (by decide) rfl (fun ls hl => ?_)
  exact t_X4_mendingDay_62 (l := l) hC hr _ hk10 _ _ _ _ _ _ _ h hZ (lv_sub hl [2, 3, 1, 0, 4] rfl)
def lb_X4_mendingDay_10 (n np : Nat) (post : Int32 → Mem → Prop) (k10 : Int32 → Int32 → Int32 → Mem → Prop) (a1 : Int32) (v2 : Int32) (v3 : Int32) (v4 : Int32) (μ : Mem) : Prop := ((30 ≤ v4 → post v2 μ) ∧ (¬ 30 ≤ v4 → ((v4 = a1 → b_X4_mendingDay_62 n np post k10 a1 v2 v3 v4 μ) ∧ (¬ v4 = a1 → (w_X4_wouldMend n np (fun (r4 : Int32) (μ3 : Mem) => ((¬ r4 = 0 → (w_X4_costAfterSwap n np (fun (r7 : Int32) (μ6 : Mem) => ((v2 = (-1) → b_X4_mendingDay_56 n np post k10 a1 v4 r7 μ6) ∧ (¬ v2 = (-1) → ((v3 ≤ r7 → b_X4_mendingDay_62 n np post k10 a1 v2 v3 v4 μ6) ∧ (¬ v3 ≤ r7 → b_X4_mendingDay_56 n np post k10 a1 v4 r7 μ6))))) a1 v4 μ3)) ∧ (r4 = 0 → b_X4_mendingDay_62 n np post k10 a1 v2 v3 v4 μ3))) a1 v4 μ)))))
def l_X4_mendingDay_10 (n np : Nat) (post : Int32 → Mem → Prop) (a1 : Int32) : Nat → Int32 → Int32 → Int32 → Mem → Prop
  | 0 => fun _ _ _ _ => False
  | fuel + 1 => lb_X4_mendingDay_10 n np post (l_X4_mendingDay_10 n np post a1 fuel) a1 
set_option maxRecDepth 100000 in
set_option maxHeartbeats 4000000 in
theorem t_X4_mendingDay_10 {p : Program} {l : Launch} {e : Env} {s : State} {m : MethodId} {args : Array Value} {below : List Frame} {meth : Method} {c : Code} {D : va_G} {ca : Nat → ClassId} {base : Nat} {ad : Nat → Nat → Nat} {n np : Nat} {post : Int32 → Mem → Prop} (hC : ZC p m meth c s RX4 cX4_mendingDay 6) (hr : meth.sig.returnType = (some FieldType.int)) (a1 : Int32) : ∀ (fuel : Nat) (v2 : Int32) (v3 : Int32) (v4 : Int32) (μ : Mem) (H : Heap) (locs : List Loc) (ls : Array Slot), l_X4_mendingDay_10 n np post a1 fuel v2 v3 v4 μ → ZS D ca base ad n np μ s H locs → lv_has ls 6 [(0, .ref (ad 30 0)), (1, .int a1), (2, .int v2), (3, .int v3), (4, .int v4)] → W p l e ({ frames := 5, cells := 0, slots := 0, locals := 117 } : Room) s m args below meth c H locs 0 0 (MQ below (ZQ D ca base ad n np (zpi post)) args s 0 0 (zB base)) (F0 m 10 ls []) := by
  intro fuel
  induction fuel with
  | zero => exact fun _ _ _ _ _ _ _ h => h.elim
  | succ fuel hk10 =>
    intro v2 v3 v4 μ H locs ls h hZ hl
    have h : lb_X4_mendingDay_10 n np post (l_X4_mendingDay_10 n np post a1 fuel) a1 v2 v3 v4 μ := h
    unfold lb_X4_mendingDay_10 at h
    refine lv_iload hC.1 hC.2.1 dX4_mendingDay_10 (lv_at hl 4 rfl) ?_
    refine lv_bipush (v := 30) hC.1 hC.2.1 dX4_mendingDay_12 (by decide) ?_
    refine lv_icmp_ge (tgt := 68) hC.1 hC.2.1 dX4_mendingDay_14 (by decide) (fun c1 => ?_) (fun c1 => ?_)
    · have h := h.1 c1
      refine lv_iload_n hC.1 hC.2.1 dX4_mendingDay_68 rfl (lv_at hl 2 rfl) ?_
      exact z_iret hC hr hZ h dX4_mendingDay_69 (Nat.le_of_ble_eq_true rfl) (Nat.le_of_ble_eq_true rfl)
    · have h := h.2 c1
      refine lv_iload hC.1 hC.2.1 dX4_mendingDay_17 (lv_at hl 4 rfl) ?_
      refine lv_iload_n hC.1 hC.2.1 dX4_mendingDay_19 rfl (lv_at hl 1 rfl) ?_
      refine lv_icmp_eq (tgt := 62) hC.1 hC.2.1 dX4_mendingDay_20 (by decide) (fun c2 => ?_) (fun c2 => ?_)
      · have h := h.1 c2
        exact t_X4_mendingDay_62 (l := l) hC hr _ hk10 _ _ _ _ _ _ _ h hZ (lv_sub hl [0, 1, 2, 3, 4] rfl)
      · have h := h.2 c2
        refine lv_aload_n hC.1 hC.2.1 dX4_mendingDay_23 rfl (lv_at hl 0 rfl) ?_
        refine lv_iload_n hC.1 hC.2.1 dX4_mendingDay_24 rfl (lv_at hl 1 rfl) ?_
        refine lv_iload hC.1 hC.2.1 dX4_mendingDay_25 (lv_at hl 4 rfl) ?_
        refine z_cVi (As := [.int a1, .int v4]) hC hZ (zF_30 _) rfl zy_X4_wouldMend (c_X4_wouldMend l h) km_X4_265 rfl ⟨rfl, rfl⟩ ⟨Nat.le_of_ble_eq_true rfl, Nat.le_of_ble_eq_true rfl⟩ hl.1 rfl (Nat.le_of_ble_eq_true rfl) dX4_mendingDay_27 ⟨Nat.le_of_ble_eq_true rfl, Nat.le_of_ble_eq_true rfl⟩ (fun r4 μ3 H locs h hZ => ?_)
        refine lv_if_ne (tgt := 36) hC.1 hC.2.1 dX4_mendingDay_30 (by decide) (fun c5 => ?_) (fun c5 => ?_)
        · have h := h.1 c5
          refine lv_aload_n hC.1 hC.2.1 dX4_mendingDay_36 rfl (lv_at hl 0 rfl) ?_
          refine lv_iload_n hC.1 hC.2.1 dX4_mendingDay_37 rfl (lv_at hl 1 rfl) ?_
          refine lv_iload hC.1 hC.2.1 dX4_mendingDay_38 (lv_at hl 4 rfl) ?_
          refine z_cVi (As := [.int a1, .int v4]) hC hZ (zF_30 _) rfl zy_X4_costAfterSwap (c_X4_costAfterSwap l h) km_X4_268 rfl ⟨rfl, rfl⟩ ⟨Nat.le_of_ble_eq_true rfl, Nat.le_of_ble_eq_true rfl⟩ hl.1 rfl (Nat.le_of_ble_eq_true rfl) dX4_mendingDay_40 ⟨Nat.le_of_ble_eq_true rfl, Nat.le_of_ble_eq_true rfl⟩ (fun r7 μ6 H locs h hZ => ?_)
          refine lv_istore (lv' := [(5, .int r7), (0, .ref (ad 30 0)), (1, .int a1), (2, .int v2), (3, .int v3), (4, .int v4)]) hC.1 hC.2.1 dX4_mendingDay_43 hl (by decide) rfl (fun ls hl => ?_)
          refine lv_iload_n hC.1 hC.2.1 dX4_mendingDay_45 rfl (lv_at hl 3 rfl) ?_
          refine lv_iconst (v := (-1)) hC.1 hC.2.1 dX4_mendingDay_46 (by decide) ?_
          refine lv_icmp_eq (tgt := 56) hC.1 hC.2.1 dX4_mendingDay_47 (by decide) (fun c8 => ?_) (fun c8 => ?_)
          · have h := h.1 c8
            exact t_X4_mendingDay_56 (l := l) hC hr _ hk10 _ _ _ _ _ _ h hZ (lv_sub hl [1, 2, 5, 0] rfl)
          · have h := h.2 c8
            refine lv_iload hC.1 hC.2.1 dX4_mendingDay_50 (lv_at hl 0 rfl) ?_
            refine lv_iload_n hC.1 hC.2.1 dX4_mendingDay_52 rfl (lv_at hl 4 rfl) ?_
            refine lv_icmp_ge (tgt := 62) hC.1 hC.2.1 dX4_mendingDay_53 (by decide) (fun c9 => ?_) (fun c9 => ?_)
            · have h := h.1 c9
              exact t_X4_mendingDay_62 (l := l) hC hr _ hk10 _ _ _ _ _ _ _ h hZ (lv_sub hl [1, 2, 3, 4, 5] rfl)
            · have h := h.2 c9
              exact t_X4_mendingDay_56 (l := l) hC hr _ hk10 _ _ _ _ _ _ h hZ (lv_sub hl [1, 2, 5, 0] rfl)
        · have h := h.2 c5
          refine lv_goto (tgt := 62) hC.1 hC.2.1 dX4_mendingDay_33 (by decide) ?_
          exact t_X4_mendingDay_62 (l := l) hC hr _ hk10 _ _ _ _ _ _ _ h hZ (lv_sub hl [0, 1, 2, 3, 4] rfl)
def w_X4_mendingDay (n np : Nat) (post : Int32 → Mem → Prop) (a1 : Int32) (μ : Mem) : Prop := (∃ fuel : Nat, l_X4_mendingDay_10 n np post a1 fuel (-1 : Int32) (0 : Int32) (μ 30 0 9) μ)
set_option maxRecDepth 100000 in
set_option maxHeartbeats 4000000 in
theorem c_X4_mendingDay (l : Launch) {D : va_G} {ca : Nat → ClassId} {base : Nat} {ad : Nat → Nat → Nat} {n np : Nat} {μ : Mem} {post : Int32 → Mem → Prop} {a1 : Int32} (h : w_X4_mendingDay n np post a1 μ) : ZMet l yX4_mendingDay cX4_mendingDay 6 (some FieldType.int) ({ frames := 5, cells := 0, slots := 0, locals := 117 } : Room) 0 0 D ca base ad n np [.ref (ad 30 0), .int a1] μ (zpi post) := by
  unfold ZMet
  refine Met.ofW (cc := cX4_mendingDay) (maxL := 6) (ret := (some FieldType.int)) (by decide) rfl ?_
  intro p e s m args below meth c s₁ B hml hv
  obtain ⟨rfl, hU⟩ := hv
  have hZ := hU.toS
  have hC : ZC p m meth c s RX4 cX4_mendingDay 6 := ⟨B.exec, B.bytes, hml, findClass_of_methodNamed B.named, B.notSynchronized⟩
  have hr := B.returns
  have key : W p l e ({ frames := 5, cells := 0, slots := 0, locals := 117 } : Room) s m (([.ref (ad 30 0), .int a1] : List Value).toArray) below meth c s.heap [] 0 0 (MQ below (ZQ D ca base ad n np (zpi post)) (([.ref (ad 30 0), .int a1] : List Value).toArray) s 0 0 (zB base)) (entryFrame m (([.ref (ad 30 0), .int a1] : List Value).toArray) 6) := by
    have hl := lv_entry ([.ref (ad 30 0), .int a1]) (n := 6) (Nat.le_of_ble_eq_true rfl)
    rw [lg_entry_eq]
    generalize (lg_sl ([.ref (ad 30 0), .int a1]) ++ List.replicate (6 - (lg_sl ([.ref (ad 30 0), .int a1])).length) Slot.unset).toArray = ls at hl ⊢
    have hl : lv_has ls 6 [(0, .ref (ad 30 0)), (1, .int a1)] := hl
    unfold w_X4_mendingDay at h
    refine lv_iconst (v := (-1)) hC.1 hC.2.1 dX4_mendingDay_0 (by decide) ?_
    refine lv_istore_n (lv' := [(2, .int (-1)), (0, .ref (ad 30 0)), (1, .int a1)]) hC.1 hC.2.1 dX4_mendingDay_1 rfl hl (by decide) rfl (fun ls hl => ?_)
    refine lv_iconst (v := 0) hC.1 hC.2.1 dX4_mendingDay_2 (by decide) ?_
    refine lv_istore_n (lv' := [(3, .int 0), (2, .int (-1)), (0, .ref (ad 30 0)), (1, .int a1)]) hC.1 hC.2.1 dX4_mendingDay_3 rfl hl (by decide) rfl (fun ls hl => ?_)
    refine lv_aload_n hC.1 hC.2.1 dX4_mendingDay_4 rfl (lv_at hl 2 rfl) ?_
    refine gX4_9 hC hZ kf_X4_52 dX4_mendingDay_5 ?_
    refine lv_istore (lv' := [(4, .int (μ 30 0 9)), (3, .int 0), (2, .int (-1)), (0, .ref (ad 30 0)), (1, .int a1)]) hC.1 hC.2.1 dX4_mendingDay_8 hl (by decide) rfl (fun ls hl => ?_)
    obtain ⟨fuel, h⟩ := h
    exact t_X4_mendingDay_10 (l := l) hC hr _ _ _ _ _ _ _ _ _ h hZ (lv_sub hl [3, 4, 2, 1, 0] rfl)
  exact key
def b_X4_mend_45 (n np : Nat) (post : Int32 → Mem → Prop) (k7 : Int32 → Int32 → Mem → Prop) (v1 : Int32) (v2 : Int32) (μ : Mem) : Prop := k7 v1 (v2 + 1) μ
set_option maxRecDepth 100000 in
set_option maxHeartbeats 4000000 in
theorem t_X4_mend_45 {p : Program} {l : Launch} {e : Env} {s : State} {m : MethodId} {args : Array Value} {below : List Frame} {meth : Method} {c : Code} {D : va_G} {ca : Nat → ClassId} {base : Nat} {ad : Nat → Nat → Nat} {n np : Nat} {post : Int32 → Mem → Prop} {k7 : Int32 → Int32 → Mem → Prop} (hC : ZC p m meth c s RX4 cX4_mend 4) (hr : meth.sig.returnType = (some FieldType.int)) (hk7 : ∀ (v1 : Int32) (v2 : Int32) (μ : Mem) (H : Heap) (locs : List Loc) (ls : Array Slot), k7 v1 v2 μ → ZS D ca base ad n np μ s H locs → lv_has ls 4 [(0, .ref (ad 30 0)), (1, .int v1), (2, .int v2)] → W p l e ({ frames := 6, cells := 0, slots := 0, locals := 142 } : Room) s m args below meth c H locs 0 0 (MQ below (ZQ D ca base ad n np (zpi post)) args s 0 0 (zB base)) (F0 m 7 ls [])) (v1 : Int32) (v2 : Int32) (μ : Mem) (H : Heap) (locs : List Loc) (ls : Array Slot) (h : b_X4_mend_45 n np post k7 v1 v2 μ) (hZ : ZS D ca base ad n np μ s H locs) (hl : lv_has ls 4 [(0, .ref (ad 30 0)), (1, .int v1), (2, .int v2)]) : W p l e ({ frames := 6, cells := 0, slots := 0, locals := 142 } : Room) s m args below meth c H locs 0 0 (MQ below (ZQ D ca base ad n np (zpi post)) args s 0 0 (zB base)) (F0 m 45 ls []) := by
  unfold b_X4_mend_45 at h
  refine lv_iinc (v := v2 + 1) (lv' := [(2, .int (v2 + 1)), (0, .ref (ad 30 0)), (1, .int v1)]) hC.1 hC.2.1 dX4_mend_45 hl (k := 2) rfl rfl (by decide) rfl (fun ls hl => ?_)
  refine lv_goto (tgt := 7) hC.1 hC.2.1 dX4_mend_48 (by decide) ?_
  exact hk7 _ _ _ _ _ _ h hZ (lv_sub hl [1, 2, 0] rfl)
def b_X4_mend_30 (n np : Nat) (post : Int32 → Mem → Prop) (k7 : Int32 → Int32 → Mem → Prop) (v1 : Int32) (v2 : Int32) (s0 : Int32) (μ : Mem) : Prop := ((s0 = (-1) → b_X4_mend_45 n np post k7 v1 v2 μ) ∧ (¬ s0 = (-1) → (w_X4_swapDays n np (fun (μ6 : Mem) => b_X4_mend_45 n np post k7 (v1 + 1) v2 μ6) v2 s0 μ)))
set_option maxRecDepth 100000 in
set_option maxHeartbeats 4000000 in
theorem t_X4_mend_30 {p : Program} {l : Launch} {e : Env} {s : State} {m : MethodId} {args : Array Value} {below : List Frame} {meth : Method} {c : Code} {D : va_G} {ca : Nat → ClassId} {base : Nat} {ad : Nat → Nat → Nat} {n np : Nat} {post : Int32 → Mem → Prop} {k7 : Int32 → Int32 → Mem → Prop} (hC : ZC p m meth c s RX4 cX4_mend 4) (hr : meth.sig.returnType = (some FieldType.int)) (hk7 : ∀ (v1 : Int32) (v2 : Int32) (μ : Mem) (H : Heap) (locs : List Loc) (ls : Array Slot), k7 v1 v2 μ → ZS D ca base ad n np μ s H locs → lv_has ls 4 [(0, .ref (ad 30 0)), (1, .int v1), (2, .int v2)] → W p l e ({ frames := 6, cells := 0, slots := 0, locals := 142 } : Room) s m args below meth c H locs 0 0 (MQ below (ZQ D ca base ad n np (zpi post)) args s 0 0 (zB base)) (F0 m 7 ls [])) (v1 : Int32) (v2 : Int32) (s0 : Int32) (μ : Mem) (H : Heap) (locs : List Loc) (ls : Array Slot) (h : b_X4_mend_30 n np post k7 v1 v2 s0 μ) (hZ : ZS D ca base ad n np μ s H locs) (hl : lv_has ls 4 [(0, .ref (ad 30 0)), (1, .int v1), (2, .int v2)]) : W p l e ({ frames := 6, cells := 0, slots := 0, locals := 142 } : Room) s m args below meth c H locs 0 0 (MQ below (ZQ D ca base ad n np (zpi post)) args s 0 0 (zB base)) (F0 m 30 ls [.int s0]) := by
  unfold b_X4_mend_30 at h
  refine lv_istore_n (lv' := [(3, .int s0), (0, .ref (ad 30 0)), (1, .int v1), (2, .int v2)]) hC.1 hC.2.1 dX4_mend_30 rfl hl (by decide) rfl (fun ls hl => ?_)
  refine lv_iload_n hC.1 hC.2.1 dX4_mend_31 rfl (lv_at hl 0 rfl) ?_
  refine lv_iconst (v := (-1)) hC.1 hC.2.1 dX4_mend_32 (by decide) ?_
  refine lv_icmp_eq (tgt := 45) hC.1 hC.2.1 dX4_mend_33 (by decide) (fun c5 => ?_) (fun c5 => ?_)
  · have h := h.1 c5
    exact t_X4_mend_45 (l := l) hC hr hk7 _ _ _ _ _ _ h hZ (lv_sub hl [1, 2, 3] rfl)
  · have h := h.2 c5
    refine lv_aload_n hC.1 hC.2.1 dX4_mend_36 rfl (lv_at hl 1 rfl) ?_
    refine lv_iload_n hC.1 hC.2.1 dX4_mend_37 rfl (lv_at hl 3 rfl) ?_
    refine lv_iload_n hC.1 hC.2.1 dX4_mend_38 rfl (lv_at hl 0 rfl) ?_
    refine z_cVv (As := [.int v2, .int s0]) hC hZ (zF_30 _) rfl zy_X4_swapDays (c_X4_swapDays l h) km_X4_133 rfl ⟨rfl, rfl⟩ ⟨Nat.le_of_ble_eq_true rfl, Nat.le_of_ble_eq_true rfl⟩ hl.1 rfl (Nat.le_of_ble_eq_true rfl) dX4_mend_39 ⟨Nat.le_of_ble_eq_true rfl, Nat.le_of_ble_eq_true rfl⟩ (fun μ6 H locs h hZ => ?_)
    refine lv_iinc (v := v1 + 1) (lv' := [(1, .int (v1 + 1)), (3, .int s0), (0, .ref (ad 30 0)), (2, .int v2)]) hC.1 hC.2.1 dX4_mend_42 hl (k := 2) rfl rfl (by decide) rfl (fun ls hl => ?_)
    exact t_X4_mend_45 (l := l) hC hr hk7 _ _ _ _ _ _ h hZ (lv_sub hl [2, 0, 3] rfl)
def lb_X4_mend_7 (n np : Nat) (post : Int32 → Mem → Prop) (k7 : Int32 → Int32 → Mem → Prop) (v1 : Int32) (v2 : Int32) (μ : Mem) : Prop := ((30 ≤ v2 → post v1 μ) ∧ (¬ 30 ≤ v2 → (w_X4_isRefusedOn n np (fun (r3 : Int32) (μ2 : Mem) => ((r3 = 0 → b_X4_mend_30 n np post k7 v1 v2 (-1 : Int32) μ2) ∧ (¬ r3 = 0 → (w_X4_mendingDay n np (fun (r9 : Int32) (μ8 : Mem) => b_X4_mend_30 n np post k7 v1 v2 r9 μ8) v2 μ2)))) v2 μ)))
def l_X4_mend_7 (n np : Nat) (post : Int32 → Mem → Prop) : Nat → Int32 → Int32 → Mem → Prop
  | 0 => fun _ _ _ => False
  | fuel + 1 => lb_X4_mend_7 n np post (l_X4_mend_7 n np post fuel) 
set_option maxRecDepth 100000 in
set_option maxHeartbeats 4000000 in
theorem t_X4_mend_7 {p : Program} {l : Launch} {e : Env} {s : State} {m : MethodId} {args : Array Value} {below : List Frame} {meth : Method} {c : Code} {D : va_G} {ca : Nat → ClassId} {base : Nat} {ad : Nat → Nat → Nat} {n np : Nat} {post : Int32 → Mem → Prop} (hC : ZC p m meth c s RX4 cX4_mend 4) (hr : meth.sig.returnType = (some FieldType.int)) : ∀ (fuel : Nat) (v1 : Int32) (v2 : Int32) (μ : Mem) (H : Heap) (locs : List Loc) (ls : Array Slot), l_X4_mend_7 n np post fuel v1 v2 μ → ZS D ca base ad n np μ s H locs → lv_has ls 4 [(0, .ref (ad 30 0)), (1, .int v1), (2, .int v2)] → W p l e ({ frames := 6, cells := 0, slots := 0, locals := 142 } : Room) s m args below meth c H locs 0 0 (MQ below (ZQ D ca base ad n np (zpi post)) args s 0 0 (zB base)) (F0 m 7 ls []) := by
  intro fuel
  induction fuel with
  | zero => exact fun _ _ _ _ _ _ h => h.elim
  | succ fuel hk7 =>
    intro v1 v2 μ H locs ls h hZ hl
    have h : lb_X4_mend_7 n np post (l_X4_mend_7 n np post fuel) v1 v2 μ := h
    unfold lb_X4_mend_7 at h
    refine lv_iload_n hC.1 hC.2.1 dX4_mend_7 rfl (lv_at hl 2 rfl) ?_
    refine lv_bipush (v := 30) hC.1 hC.2.1 dX4_mend_8 (by decide) ?_
    refine lv_icmp_ge (tgt := 51) hC.1 hC.2.1 dX4_mend_10 (by decide) (fun c1 => ?_) (fun c1 => ?_)
    · have h := h.1 c1
      refine lv_iload_n hC.1 hC.2.1 dX4_mend_51 rfl (lv_at hl 1 rfl) ?_
      exact z_iret hC hr hZ h dX4_mend_52 (Nat.le_of_ble_eq_true rfl) (Nat.le_of_ble_eq_true rfl)
    · have h := h.2 c1
      refine lv_aload_n hC.1 hC.2.1 dX4_mend_13 rfl (lv_at hl 0 rfl) ?_
      refine lv_iload_n hC.1 hC.2.1 dX4_mend_14 rfl (lv_at hl 2 rfl) ?_
      refine z_cVi (As := [.int v2]) hC hZ (zF_30 _) rfl zy_X4_isRefusedOn (c_X4_isRefusedOn l h) km_X4_199 rfl ⟨rfl, rfl⟩ ⟨Nat.le_of_ble_eq_true rfl, Nat.le_of_ble_eq_true rfl⟩ hl.1 rfl (Nat.le_of_ble_eq_true rfl) dX4_mend_15 ⟨Nat.le_of_ble_eq_true rfl, Nat.le_of_ble_eq_true rfl⟩ (fun r3 μ2 H locs h hZ => ?_)
      refine lv_if_eq (tgt := 29) hC.1 hC.2.1 dX4_mend_18 (by decide) (fun c4 => ?_) (fun c4 => ?_)
      · have h := h.1 c4
        refine lv_iconst (v := (-1)) hC.1 hC.2.1 dX4_mend_29 (by decide) ?_
        exact t_X4_mend_30 (l := l) hC hr hk7 _ _ _ _ _ _ _ h hZ (lv_sub hl [0, 1, 2] rfl)
      · have h := h.2 c4
        refine lv_aload_n hC.1 hC.2.1 dX4_mend_21 rfl (lv_at hl 0 rfl) ?_
        refine lv_iload_n hC.1 hC.2.1 dX4_mend_22 rfl (lv_at hl 2 rfl) ?_
        refine z_cVi (As := [.int v2]) hC hZ (zF_30 _) rfl zy_X4_mendingDay (c_X4_mendingDay l h) km_X4_203 rfl ⟨rfl, rfl⟩ ⟨Nat.le_of_ble_eq_true rfl, Nat.le_of_ble_eq_true rfl⟩ hl.1 rfl (Nat.le_of_ble_eq_true rfl) dX4_mend_23 ⟨Nat.le_of_ble_eq_true rfl, Nat.le_of_ble_eq_true rfl⟩ (fun r9 μ8 H locs h hZ => ?_)
        refine lv_goto (tgt := 30) hC.1 hC.2.1 dX4_mend_26 (by decide) ?_
        exact t_X4_mend_30 (l := l) hC hr hk7 _ _ _ _ _ _ _ h hZ (lv_sub hl [0, 1, 2] rfl)
def w_X4_mend (n np : Nat) (post : Int32 → Mem → Prop) (μ : Mem) : Prop := (∃ fuel : Nat, l_X4_mend_7 n np post fuel (0 : Int32) (μ 30 0 9) μ)
set_option maxRecDepth 100000 in
set_option maxHeartbeats 4000000 in
theorem c_X4_mend (l : Launch) {D : va_G} {ca : Nat → ClassId} {base : Nat} {ad : Nat → Nat → Nat} {n np : Nat} {μ : Mem} {post : Int32 → Mem → Prop} (h : w_X4_mend n np post μ) : ZMet l yX4_mend cX4_mend 4 (some FieldType.int) ({ frames := 6, cells := 0, slots := 0, locals := 142 } : Room) 0 0 D ca base ad n np [.ref (ad 30 0)] μ (zpi post) := by
  unfold ZMet
  refine Met.ofW (cc := cX4_mend) (maxL := 4) (ret := (some FieldType.int)) (by decide) rfl ?_
  intro p e s m args below meth c s₁ B hml hv
  obtain ⟨rfl, hU⟩ := hv
  have hZ := hU.toS
  have hC : ZC p m meth c s RX4 cX4_mend 4 := ⟨B.exec, B.bytes, hml, findClass_of_methodNamed B.named, B.notSynchronized⟩
  have hr := B.returns
  have key : W p l e ({ frames := 6, cells := 0, slots := 0, locals := 142 } : Room) s m (([.ref (ad 30 0)] : List Value).toArray) below meth c s.heap [] 0 0 (MQ below (ZQ D ca base ad n np (zpi post)) (([.ref (ad 30 0)] : List Value).toArray) s 0 0 (zB base)) (entryFrame m (([.ref (ad 30 0)] : List Value).toArray) 4) := by
    have hl := lv_entry ([.ref (ad 30 0)]) (n := 4) (Nat.le_of_ble_eq_true rfl)
    rw [lg_entry_eq]
    generalize (lg_sl ([.ref (ad 30 0)]) ++ List.replicate (4 - (lg_sl ([.ref (ad 30 0)])).length) Slot.unset).toArray = ls at hl ⊢
    have hl : lv_has ls 4 [(0, .ref (ad 30 0))] := hl
    unfold w_X4_mend at h
    refine lv_iconst (v := 0) hC.1 hC.2.1 dX4_mend_0 (by decide) ?_
    refine lv_istore_n (lv' := [(1, .int 0), (0, .ref (ad 30 0))]) hC.1 hC.2.1 dX4_mend_1 rfl hl (by decide) rfl (fun ls hl => ?_)
    refine lv_aload_n hC.1 hC.2.1 dX4_mend_2 rfl (lv_at hl 1 rfl) ?_
    refine gX4_9 hC hZ kf_X4_52 dX4_mend_3 ?_
    refine lv_istore_n (lv' := [(2, .int (μ 30 0 9)), (1, .int 0), (0, .ref (ad 30 0))]) hC.1 hC.2.1 dX4_mend_6 rfl hl (by decide) rfl (fun ls hl => ?_)
    obtain ⟨fuel, h⟩ := h
    exact t_X4_mend_7 (l := l) hC hr _ _ _ _ _ _ _ h hZ (lv_sub hl [2, 1, 0] rfl)
  exact key
def b_X4_makeBestSwap_83 (n np : Nat) (post : Int32 → Mem → Prop) (k15 : Int32 → Int32 → Int32 → Int32 → Mem → Prop) (k28 : Int32 → Int32 → Int32 → Int32 → Int32 → Mem → Prop) (v1 : Int32) (v2 : Int32) (v3 : Int32) (v4 : Int32) (v5 : Int32) (μ : Mem) : Prop := k28 v1 v2 v3 v4 (v5 + 1) μ
set_option maxRecDepth 100000 in
set_option maxHeartbeats 4000000 in
theorem t_X4_makeBestSwap_83 {p : Program} {l : Launch} {e : Env} {s : State} {m : MethodId} {args : Array Value} {below : List Frame} {meth : Method} {c : Code} {D : va_G} {ca : Nat → ClassId} {base : Nat} {ad : Nat → Nat → Nat} {n np : Nat} {post : Int32 → Mem → Prop} {k15 : Int32 → Int32 → Int32 → Int32 → Mem → Prop} {k28 : Int32 → Int32 → Int32 → Int32 → Int32 → Mem → Prop} (hC : ZC p m meth c s RX4 cX4_makeBestSwap 7) (hr : meth.sig.returnType = (some FieldType.boolean)) (hk15 : ∀ (v1 : Int32) (v2 : Int32) (v3 : Int32) (v4 : Int32) (μ : Mem) (H : Heap) (locs : List Loc) (ls : Array Slot), k15 v1 v2 v3 v4 μ → ZS D ca base ad n np μ s H locs → lv_has ls 7 [(0, .ref (ad 30 0)), (1, .int v1), (2, .int v2), (3, .int v3), (4, .int v4)] → W p l e ({ frames := 5, cells := 0, slots := 0, locals := 117 } : Room) s m args below meth c H locs 0 0 (MQ below (ZQ D ca base ad n np (zpi post)) args s 0 0 (zB base)) (F0 m 15 ls [])) (hk28 : ∀ (v1 : Int32) (v2 : Int32) (v3 : Int32) (v4 : Int32) (v5 : Int32) (μ : Mem) (H : Heap) (locs : List Loc) (ls : Array Slot), k28 v1 v2 v3 v4 v5 μ → ZS D ca base ad n np μ s H locs → lv_has ls 7 [(0, .ref (ad 30 0)), (1, .int v1), (2, .int v2), (3, .int v3), (4, .int v4), (5, .int v5)] → W p l e ({ frames := 5, cells := 0, slots := 0, locals := 117 } : Room) s m args below meth c H locs 0 0 (MQ below (ZQ D ca base ad n np (zpi post)) args s 0 0 (zB base)) (F0 m 28 ls [])) (v1 : Int32) (v2 : Int32) (v3 : Int32) (v4 : Int32) (v5 : Int32) (μ : Mem) (H : Heap) (locs : List Loc) (ls : Array Slot) (h : b_X4_makeBestSwap_83 n np post k15 k28 v1 v2 v3 v4 v5 μ) (hZ : ZS D ca base ad n np μ s H locs) (hl : lv_has ls 7 [(0, .ref (ad 30 0)), (1, .int v1), (2, .int v2), (3, .int v3), (4, .int v4), (5, .int v5)]) : W p l e ({ frames := 5, cells := 0, slots := 0, locals := 117 } : Room) s m args below meth c H locs 0 0 (MQ below (ZQ D ca base ad n np (zpi post)) args s 0 0 (zB base)) (F0 m 83 ls []) := by
  unfold b_X4_makeBestSwap_83 at h
  refine lv_iinc (v := v5 + 1) (lv' := [(5, .int (v5 + 1)), (0, .ref (ad 30 0)), (1, .int v1), (2, .int v2), (3, .int v3), (4, .int v4)]) hC.1 hC.2.1 dX4_makeBestSwap_83 hl (k := 5) rfl rfl (by decide) rfl (fun ls hl => ?_)
  refine lv_goto (tgt := 28) hC.1 hC.2.1 dX4_makeBestSwap_86 (by decide) ?_
  exact hk28 _ _ _ _ _ _ _ _ _ h hZ (lv_sub hl [1, 2, 3, 4, 5, 0] rfl)
def b_X4_makeBestSwap_58 (n np : Nat) (post : Int32 → Mem → Prop) (k15 : Int32 → Int32 → Int32 → Int32 → Mem → Prop) (k28 : Int32 → Int32 → Int32 → Int32 → Int32 → Mem → Prop) (v1 : Int32) (v2 : Int32) (v3 : Int32) (v4 : Int32) (v5 : Int32) (μ : Mem) : Prop := (w_X4_costAfterSwap n np (fun (r11 : Int32) (μ10 : Mem) => ((v1 ≤ r11 → b_X4_makeBestSwap_83 n np post k15 k28 v1 v2 v3 v4 v5 μ10) ∧ (¬ v1 ≤ r11 → b_X4_makeBestSwap_83 n np post k15 k28 r11 v4 v5 v4 v5 μ10))) v4 v5 μ)
set_option maxRecDepth 100000 in
set_option maxHeartbeats 4000000 in
theorem t_X4_makeBestSwap_58 {p : Program} {l : Launch} {e : Env} {s : State} {m : MethodId} {args : Array Value} {below : List Frame} {meth : Method} {c : Code} {D : va_G} {ca : Nat → ClassId} {base : Nat} {ad : Nat → Nat → Nat} {n np : Nat} {post : Int32 → Mem → Prop} {k15 : Int32 → Int32 → Int32 → Int32 → Mem → Prop} {k28 : Int32 → Int32 → Int32 → Int32 → Int32 → Mem → Prop} (hC : ZC p m meth c s RX4 cX4_makeBestSwap 7) (hr : meth.sig.returnType = (some FieldType.boolean)) (hk15 : ∀ (v1 : Int32) (v2 : Int32) (v3 : Int32) (v4 : Int32) (μ : Mem) (H : Heap) (locs : List Loc) (ls : Array Slot), k15 v1 v2 v3 v4 μ → ZS D ca base ad n np μ s H locs → lv_has ls 7 [(0, .ref (ad 30 0)), (1, .int v1), (2, .int v2), (3, .int v3), (4, .int v4)] → W p l e ({ frames := 5, cells := 0, slots := 0, locals := 117 } : Room) s m args below meth c H locs 0 0 (MQ below (ZQ D ca base ad n np (zpi post)) args s 0 0 (zB base)) (F0 m 15 ls [])) (hk28 : ∀ (v1 : Int32) (v2 : Int32) (v3 : Int32) (v4 : Int32) (v5 : Int32) (μ : Mem) (H : Heap) (locs : List Loc) (ls : Array Slot), k28 v1 v2 v3 v4 v5 μ → ZS D ca base ad n np μ s H locs → lv_has ls 7 [(0, .ref (ad 30 0)), (1, .int v1), (2, .int v2), (3, .int v3), (4, .int v4), (5, .int v5)] → W p l e ({ frames := 5, cells := 0, slots := 0, locals := 117 } : Room) s m args below meth c H locs 0 0 (MQ below (ZQ D ca base ad n np (zpi post)) args s 0 0 (zB base)) (F0 m 28 ls [])) (v1 : Int32) (v2 : Int32) (v3 : Int32) (v4 : Int32) (v5 : Int32) (μ : Mem) (H : Heap) (locs : List Loc) (ls : Array Slot) (h : b_X4_makeBestSwap_58 n np post k15 k28 v1 v2 v3 v4 v5 μ) (hZ : ZS D ca base ad n np μ s H locs) (hl : lv_has ls 7 [(0, .ref (ad 30 0)), (1, .int v1), (2, .int v2), (3, .int v3), (4, .int v4), (5, .int v5)]) : W p l e ({ frames := 5, cells := 0, slots := 0, locals := 117 } : Room) s m args below meth c H locs 0 0 (MQ below (ZQ D ca base ad n np (zpi post)) args s 0 0 (zB base)) (F0 m 58 ls []) := by
  unfold b_X4_makeBestSwap_58 at h
  refine lv_aload_n hC.1 hC.2.1 dX4_makeBestSwap_58 rfl (lv_at hl 0 rfl) ?_
  refine lv_iload hC.1 hC.2.1 dX4_makeBestSwap_59 (lv_at hl 4 rfl) ?_
  refine lv_iload hC.1 hC.2.1 dX4_makeBestSwap_61 (lv_at hl 5 rfl) ?_
  refine z_cVi (As := [.int v4, .int v5]) hC hZ (zF_30 _) rfl zy_X4_costAfterSwap (c_X4_costAfterSwap l h) km_X4_268 rfl ⟨rfl, rfl⟩ ⟨Nat.le_of_ble_eq_true rfl, Nat.le_of_ble_eq_true rfl⟩ hl.1 rfl (Nat.le_of_ble_eq_true rfl) dX4_makeBestSwap_63 ⟨Nat.le_of_ble_eq_true rfl, Nat.le_of_ble_eq_true rfl⟩ (fun r11 μ10 H locs h hZ => ?_)
  refine lv_istore (lv' := [(6, .int r11), (0, .ref (ad 30 0)), (1, .int v1), (2, .int v2), (3, .int v3), (4, .int v4), (5, .int v5)]) hC.1 hC.2.1 dX4_makeBestSwap_66 hl (by decide) rfl (fun ls hl => ?_)
  refine lv_iload hC.1 hC.2.1 dX4_makeBestSwap_68 (lv_at hl 0 rfl) ?_
  refine lv_iload_n hC.1 hC.2.1 dX4_makeBestSwap_70 rfl (lv_at hl 2 rfl) ?_
  refine lv_icmp_ge (tgt := 83) hC.1 hC.2.1 dX4_makeBestSwap_71 (by decide) (fun c12 => ?_) (fun c12 => ?_)
  · have h := h.1 c12
    exact t_X4_makeBestSwap_83 (l := l) hC hr hk15 hk28 _ _ _ _ _ _ _ _ _ h hZ (lv_sub hl [1, 2, 3, 4, 5, 6] rfl)
  · have h := h.2 c12
    refine lv_iload hC.1 hC.2.1 dX4_makeBestSwap_74 (lv_at hl 0 rfl) ?_
    refine lv_istore_n (lv' := [(1, .int r11), (6, .int r11), (0, .ref (ad 30 0)), (2, .int v2), (3, .int v3), (4, .int v4), (5, .int v5)]) hC.1 hC.2.1 dX4_makeBestSwap_76 rfl hl (by decide) rfl (fun ls hl => ?_)
    refine lv_iload hC.1 hC.2.1 dX4_makeBestSwap_77 (lv_at hl 5 rfl) ?_
    refine lv_istore_n (lv' := [(2, .int v4), (1, .int r11), (6, .int r11), (0, .ref (ad 30 0)), (3, .int v3), (4, .int v4), (5, .int v5)]) hC.1 hC.2.1 dX4_makeBestSwap_79 rfl hl (by decide) rfl (fun ls hl => ?_)
    refine lv_iload hC.1 hC.2.1 dX4_makeBestSwap_80 (lv_at hl 6 rfl) ?_
    refine lv_istore_n (lv' := [(3, .int v5), (2, .int v4), (1, .int r11), (6, .int r11), (0, .ref (ad 30 0)), (4, .int v4), (5, .int v5)]) hC.1 hC.2.1 dX4_makeBestSwap_82 rfl hl (by decide) rfl (fun ls hl => ?_)
    exact t_X4_makeBestSwap_83 (l := l) hC hr hk15 hk28 _ _ _ _ _ _ _ _ _ h hZ (lv_sub hl [4, 2, 1, 0, 5, 6] rfl)
def lb_X4_makeBestSwap_28 (n np : Nat) (post : Int32 → Mem → Prop) (k15 : Int32 → Int32 → Int32 → Int32 → Mem → Prop) (k28 : Int32 → Int32 → Int32 → Int32 → Int32 → Mem → Prop) (v1 : Int32) (v2 : Int32) (v3 : Int32) (v4 : Int32) (v5 : Int32) (μ : Mem) : Prop := ((30 ≤ v5 → k15 v1 v2 v3 (v4 + 1) μ) ∧ (¬ 30 ≤ v5 → (vp_in v4 30 ∧ ((¬ (μ 32 0 v4.toNatClampNeg) < 0 → b_X4_makeBestSwap_58 n np post k15 k28 v1 v2 v3 v4 v5 μ) ∧ ((μ 32 0 v4.toNatClampNeg) < 0 → (vp_in v5 30 ∧ ((¬ (μ 32 0 v5.toNatClampNeg) < 0 → b_X4_makeBestSwap_58 n np post k15 k28 v1 v2 v3 v4 v5 μ) ∧ ((μ 32 0 v5.toNatClampNeg) < 0 → b_X4_makeBestSwap_83 n np post k15 k28 v1 v2 v3 v4 v5 μ))))))))
def l_X4_makeBestSwap_28 (n np : Nat) (post : Int32 → Mem → Prop) (k15 : Int32 → Int32 → Int32 → Int32 → Mem → Prop) : Nat → Int32 → Int32 → Int32 → Int32 → Int32 → Mem → Prop
  | 0 => fun _ _ _ _ _ _ => False
  | fuel + 1 => lb_X4_makeBestSwap_28 n np post k15 (l_X4_makeBestSwap_28 n np post k15 fuel) 
set_option maxRecDepth 100000 in
set_option maxHeartbeats 4000000 in
theorem t_X4_makeBestSwap_28 {p : Program} {l : Launch} {e : Env} {s : State} {m : MethodId} {args : Array Value} {below : List Frame} {meth : Method} {c : Code} {D : va_G} {ca : Nat → ClassId} {base : Nat} {ad : Nat → Nat → Nat} {n np : Nat} {post : Int32 → Mem → Prop} {k15 : Int32 → Int32 → Int32 → Int32 → Mem → Prop} (hC : ZC p m meth c s RX4 cX4_makeBestSwap 7) (hr : meth.sig.returnType = (some FieldType.boolean)) (hk15 : ∀ (v1 : Int32) (v2 : Int32) (v3 : Int32) (v4 : Int32) (μ : Mem) (H : Heap) (locs : List Loc) (ls : Array Slot), k15 v1 v2 v3 v4 μ → ZS D ca base ad n np μ s H locs → lv_has ls 7 [(0, .ref (ad 30 0)), (1, .int v1), (2, .int v2), (3, .int v3), (4, .int v4)] → W p l e ({ frames := 5, cells := 0, slots := 0, locals := 117 } : Room) s m args below meth c H locs 0 0 (MQ below (ZQ D ca base ad n np (zpi post)) args s 0 0 (zB base)) (F0 m 15 ls [])) : ∀ (fuel : Nat) (v1 : Int32) (v2 : Int32) (v3 : Int32) (v4 : Int32) (v5 : Int32) (μ : Mem) (H : Heap) (locs : List Loc) (ls : Array Slot), l_X4_makeBestSwap_28 n np post k15 fuel v1 v2 v3 v4 v5 μ → ZS D ca base ad n np μ s H locs → lv_has ls 7 [(0, .ref (ad 30 0)), (1, .int v1), (2, .int v2), (3, .int v3), (4, .int v4), (5, .int v5)] → W p l e ({ frames := 5, cells := 0, slots := 0, locals := 117 } : Room) s m args below meth c H locs 0 0 (MQ below (ZQ D ca base ad n np (zpi post)) args s 0 0 (zB base)) (F0 m 28 ls []) := by
  intro fuel
  induction fuel with
  | zero => exact fun _ _ _ _ _ _ _ _ _ h => h.elim
  | succ fuel hk28 =>
    intro v1 v2 v3 v4 v5 μ H locs ls h hZ hl
    have h : lb_X4_makeBestSwap_28 n np post k15 (l_X4_makeBestSwap_28 n np post k15 fuel) v1 v2 v3 v4 v5 μ := h
    unfold lb_X4_makeBestSwap_28 at h
    refine lv_iload hC.1 hC.2.1 dX4_makeBestSwap_28 (lv_at hl 5 rfl) ?_
    refine lv_bipush (v := 30) hC.1 hC.2.1 dX4_makeBestSwap_30 (by decide) ?_
    refine lv_icmp_ge (tgt := 89) hC.1 hC.2.1 dX4_makeBestSwap_32 (by decide) (fun c7 => ?_) (fun c7 => ?_)
    · have h := h.1 c7
      refine lv_iinc (v := v4 + 1) (lv' := [(4, .int (v4 + 1)), (0, .ref (ad 30 0)), (1, .int v1), (2, .int v2), (3, .int v3), (5, .int v5)]) hC.1 hC.2.1 dX4_makeBestSwap_89 hl (k := 4) rfl rfl (by decide) rfl (fun ls hl => ?_)
      refine lv_goto (tgt := 15) hC.1 hC.2.1 dX4_makeBestSwap_92 (by decide) ?_
      exact hk15 _ _ _ _ _ _ _ _ h hZ (lv_sub hl [1, 2, 3, 4, 0] rfl)
    · have h := h.2 c7
      refine lv_aload_n hC.1 hC.2.1 dX4_makeBestSwap_35 rfl (lv_at hl 0 rfl) ?_
      refine gX4_1 hC hZ kf_X4_15 dX4_makeBestSwap_36 ?_
      refine lv_iload hC.1 hC.2.1 dX4_makeBestSwap_39 (lv_at hl 4 rfl) ?_
      obtain ⟨q8, h⟩ := h
      refine aL_32 hC hZ q8 dX4_makeBestSwap_41 ?_
      refine z_ifnonnullq (tgt := 58) hC dX4_makeBestSwap_42 (by decide) (fun c9 => ?_) (fun c9 => ?_)
      · have h := h.1 c9
        exact t_X4_makeBestSwap_58 (l := l) hC hr hk15 hk28 _ _ _ _ _ _ _ _ _ h hZ (lv_sub hl [0, 1, 2, 3, 4, 5] rfl)
      · have h := h.2 c9
        refine lv_aload_n hC.1 hC.2.1 dX4_makeBestSwap_45 rfl (lv_at hl 0 rfl) ?_
        refine gX4_1 hC hZ kf_X4_15 dX4_makeBestSwap_46 ?_
        refine lv_iload hC.1 hC.2.1 dX4_makeBestSwap_49 (lv_at hl 5 rfl) ?_
        obtain ⟨q13, h⟩ := h
        refine aL_32 hC hZ q13 dX4_makeBestSwap_51 ?_
        refine z_ifnonnullq (tgt := 58) hC dX4_makeBestSwap_52 (by decide) (fun c14 => ?_) (fun c14 => ?_)
        · have h := h.1 c14
          exact t_X4_makeBestSwap_58 (l := l) hC hr hk15 hk28 _ _ _ _ _ _ _ _ _ h hZ (lv_sub hl [0, 1, 2, 3, 4, 5] rfl)
        · have h := h.2 c14
          refine lv_goto (tgt := 83) hC.1 hC.2.1 dX4_makeBestSwap_55 (by decide) ?_
          exact t_X4_makeBestSwap_83 (l := l) hC hr hk15 hk28 _ _ _ _ _ _ _ _ _ h hZ (lv_sub hl [0, 1, 2, 3, 4, 5] rfl)
def lb_X4_makeBestSwap_15 (n np : Nat) (post : Int32 → Mem → Prop) (k15 : Int32 → Int32 → Int32 → Int32 → Mem → Prop) (v1 : Int32) (v2 : Int32) (v3 : Int32) (v4 : Int32) (μ : Mem) : Prop := ((30 ≤ v4 → (w_X4_swapDays n np (fun (μ4 : Mem) => ((v2 = (-1) → post 0 μ4) ∧ (¬ v2 = (-1) → post 1 μ4))) v2 v3 μ)) ∧ (¬ 30 ≤ v4 → (∃ fuel : Nat, l_X4_makeBestSwap_28 n np post k15 fuel v1 v2 v3 v4 (v4 + 1) μ)))
def l_X4_makeBestSwap_15 (n np : Nat) (post : Int32 → Mem → Prop) : Nat → Int32 → Int32 → Int32 → Int32 → Mem → Prop
  | 0 => fun _ _ _ _ _ => False
  | fuel + 1 => lb_X4_makeBestSwap_15 n np post (l_X4_makeBestSwap_15 n np post fuel) 
set_option maxRecDepth 100000 in
set_option maxHeartbeats 4000000 in
theorem t_X4_makeBestSwap_15 {p : Program} {l : Launch} {e : Env} {s : State} {m : MethodId} {args : Array Value} {below : List Frame} {meth : Method} {c : Code} {D : va_G} {ca : Nat → ClassId} {base : Nat} {ad : Nat → Nat → Nat} {n np : Nat} {post : Int32 → Mem → Prop} (hC : ZC p m meth c s RX4 cX4_makeBestSwap 7) (hr : meth.sig.returnType = (some FieldType.boolean)) : ∀ (fuel : Nat) (v1 : Int32) (v2 : Int32) (v3 : Int32) (v4 : Int32) (μ : Mem) (H : Heap) (locs : List Loc) (ls : Array Slot), l_X4_makeBestSwap_15 n np post fuel v1 v2 v3 v4 μ → ZS D ca base ad n np μ s H locs → lv_has ls 7 [(0, .ref (ad 30 0)), (1, .int v1), (2, .int v2), (3, .int v3), (4, .int v4)] → W p l e ({ frames := 5, cells := 0, slots := 0, locals := 117 } : Room) s m args below meth c H locs 0 0 (MQ below (ZQ D ca base ad n np (zpi post)) args s 0 0 (zB base)) (F0 m 15 ls []) := by
  intro fuel
  induction fuel with
  | zero => exact fun _ _ _ _ _ _ _ _ h => h.elim
  | succ fuel hk15 =>
    intro v1 v2 v3 v4 μ H locs ls h hZ hl
    have h : lb_X4_makeBestSwap_15 n np post (l_X4_makeBestSwap_15 n np post fuel) v1 v2 v3 v4 μ := h
    unfold lb_X4_makeBestSwap_15 at h
    refine lv_iload hC.1 hC.2.1 dX4_makeBestSwap_15 (lv_at hl 4 rfl) ?_
    refine lv_bipush (v := 30) hC.1 hC.2.1 dX4_makeBestSwap_17 (by decide) ?_
    refine lv_icmp_ge (tgt := 95) hC.1 hC.2.1 dX4_makeBestSwap_19 (by decide) (fun c3 => ?_) (fun c3 => ?_)
    · have h := h.1 c3
      refine lv_aload_n hC.1 hC.2.1 dX4_makeBestSwap_95 rfl (lv_at hl 0 rfl) ?_
      refine lv_iload_n hC.1 hC.2.1 dX4_makeBestSwap_96 rfl (lv_at hl 2 rfl) ?_
      refine lv_iload_n hC.1 hC.2.1 dX4_makeBestSwap_97 rfl (lv_at hl 3 rfl) ?_
      refine z_cVv (As := [.int v2, .int v3]) hC hZ (zF_30 _) rfl zy_X4_swapDays (c_X4_swapDays l h) km_X4_133 rfl ⟨rfl, rfl⟩ ⟨Nat.le_of_ble_eq_true rfl, Nat.le_of_ble_eq_true rfl⟩ hl.1 rfl (Nat.le_of_ble_eq_true rfl) dX4_makeBestSwap_98 ⟨Nat.le_of_ble_eq_true rfl, Nat.le_of_ble_eq_true rfl⟩ (fun μ4 H locs h hZ => ?_)
      refine lv_iload_n hC.1 hC.2.1 dX4_makeBestSwap_101 rfl (lv_at hl 2 rfl) ?_
      refine lv_iconst (v := (-1)) hC.1 hC.2.1 dX4_makeBestSwap_102 (by decide) ?_
      refine lv_icmp_eq (tgt := 110) hC.1 hC.2.1 dX4_makeBestSwap_103 (by decide) (fun c6 => ?_) (fun c6 => ?_)
      · have h := h.1 c6
        refine lv_iconst (v := 0) hC.1 hC.2.1 dX4_makeBestSwap_110 (by decide) ?_
        exact z_bret hC hr hZ (by decide) h dX4_makeBestSwap_111 (Nat.le_of_ble_eq_true rfl) (Nat.le_of_ble_eq_true rfl)
      · have h := h.2 c6
        refine lv_iconst (v := 1) hC.1 hC.2.1 dX4_makeBestSwap_106 (by decide) ?_
        refine lv_goto (tgt := 111) hC.1 hC.2.1 dX4_makeBestSwap_107 (by decide) ?_
        exact z_bret hC hr hZ (by decide) h dX4_makeBestSwap_111 (Nat.le_of_ble_eq_true rfl) (Nat.le_of_ble_eq_true rfl)
    · have h := h.2 c3
      refine lv_iload hC.1 hC.2.1 dX4_makeBestSwap_22 (lv_at hl 4 rfl) ?_
      refine lv_iconst (v := 1) hC.1 hC.2.1 dX4_makeBestSwap_24 (by decide) ?_
      refine lv_iadd hC.1 hC.2.1 dX4_makeBestSwap_25 ?_
      refine lv_istore (lv' := [(5, .int (v4 + 1)), (0, .ref (ad 30 0)), (1, .int v1), (2, .int v2), (3, .int v3), (4, .int v4)]) hC.1 hC.2.1 dX4_makeBestSwap_26 hl (by decide) rfl (fun ls hl => ?_)
      obtain ⟨fuel, h⟩ := h
      exact t_X4_makeBestSwap_28 (l := l) hC hr hk15 _ _ _ _ _ _ _ _ _ _ h hZ (lv_sub hl [1, 2, 3, 4, 5, 0] rfl)
def w_X4_makeBestSwap (n np : Nat) (post : Int32 → Mem → Prop) (μ : Mem) : Prop := (w_X4_planCost n np (fun (r2 : Int32) (μ1 : Mem) => (∃ fuel : Nat, l_X4_makeBestSwap_15 n np post fuel r2 (-1 : Int32) (-1 : Int32) (μ1 30 0 9) μ1)) μ)
set_option maxRecDepth 100000 in
set_option maxHeartbeats 4000000 in
theorem c_X4_makeBestSwap (l : Launch) {D : va_G} {ca : Nat → ClassId} {base : Nat} {ad : Nat → Nat → Nat} {n np : Nat} {μ : Mem} {post : Int32 → Mem → Prop} (h : w_X4_makeBestSwap n np post μ) : ZMet l yX4_makeBestSwap cX4_makeBestSwap 7 (some FieldType.boolean) ({ frames := 5, cells := 0, slots := 0, locals := 117 } : Room) 0 0 D ca base ad n np [.ref (ad 30 0)] μ (zpi post) := by
  unfold ZMet
  refine Met.ofW (cc := cX4_makeBestSwap) (maxL := 7) (ret := (some FieldType.boolean)) (by decide) rfl ?_
  intro p e s m args below meth c s₁ B hml hv
  obtain ⟨rfl, hU⟩ := hv
  have hZ := hU.toS
  have hC : ZC p m meth c s RX4 cX4_makeBestSwap 7 := ⟨B.exec, B.bytes, hml, findClass_of_methodNamed B.named, B.notSynchronized⟩
  have hr := B.returns
  have key : W p l e ({ frames := 5, cells := 0, slots := 0, locals := 117 } : Room) s m (([.ref (ad 30 0)] : List Value).toArray) below meth c s.heap [] 0 0 (MQ below (ZQ D ca base ad n np (zpi post)) (([.ref (ad 30 0)] : List Value).toArray) s 0 0 (zB base)) (entryFrame m (([.ref (ad 30 0)] : List Value).toArray) 7) := by
    have hl := lv_entry ([.ref (ad 30 0)]) (n := 7) (Nat.le_of_ble_eq_true rfl)
    rw [lg_entry_eq]
    generalize (lg_sl ([.ref (ad 30 0)]) ++ List.replicate (7 - (lg_sl ([.ref (ad 30 0)])).length) Slot.unset).toArray = ls at hl ⊢
    have hl : lv_has ls 7 [(0, .ref (ad 30 0))] := hl
    unfold w_X4_makeBestSwap at h
    refine lv_aload_n hC.1 hC.2.1 dX4_makeBestSwap_0 rfl (lv_at hl 0 rfl) ?_
    refine z_cVi (As := []) hC hZ (zF_30 _) rfl zy_X4_planCost (c_X4_planCost l h) km_X4_137 rfl ⟨rfl, rfl⟩ ⟨Nat.le_of_ble_eq_true rfl, Nat.le_of_ble_eq_true rfl⟩ hl.1 rfl (Nat.le_of_ble_eq_true rfl) dX4_makeBestSwap_1 ⟨Nat.le_of_ble_eq_true rfl, Nat.le_of_ble_eq_true rfl⟩ (fun r2 μ1 H locs h hZ => ?_)
    refine lv_istore_n (lv' := [(1, .int r2), (0, .ref (ad 30 0))]) hC.1 hC.2.1 dX4_makeBestSwap_4 rfl hl (by decide) rfl (fun ls hl => ?_)
    refine lv_iconst (v := (-1)) hC.1 hC.2.1 dX4_makeBestSwap_5 (by decide) ?_
    refine lv_istore_n (lv' := [(2, .int (-1)), (1, .int r2), (0, .ref (ad 30 0))]) hC.1 hC.2.1 dX4_makeBestSwap_6 rfl hl (by decide) rfl (fun ls hl => ?_)
    refine lv_iconst (v := (-1)) hC.1 hC.2.1 dX4_makeBestSwap_7 (by decide) ?_
    refine lv_istore_n (lv' := [(3, .int (-1)), (2, .int (-1)), (1, .int r2), (0, .ref (ad 30 0))]) hC.1 hC.2.1 dX4_makeBestSwap_8 rfl hl (by decide) rfl (fun ls hl => ?_)
    refine lv_aload_n hC.1 hC.2.1 dX4_makeBestSwap_9 rfl (lv_at hl 3 rfl) ?_
    refine gX4_9 hC hZ kf_X4_52 dX4_makeBestSwap_10 ?_
    refine lv_istore (lv' := [(4, .int (μ1 30 0 9)), (3, .int (-1)), (2, .int (-1)), (1, .int r2), (0, .ref (ad 30 0))]) hC.1 hC.2.1 dX4_makeBestSwap_13 hl (by decide) rfl (fun ls hl => ?_)
    obtain ⟨fuel, h⟩ := h
    exact t_X4_makeBestSwap_15 (l := l) hC hr _ _ _ _ _ _ _ _ _ h hZ (lv_sub hl [4, 3, 2, 1, 0] rfl)
  exact key
def lb_X4_better_2 (n np : Nat) (post : Int32 → Mem → Prop) (k2 : Int32 → Mem → Prop) (v1 : Int32) (μ : Mem) : Prop := ((1000000 ≤ v1 → post v1 μ) ∧ (¬ 1000000 ≤ v1 → (w_X4_makeBestSwap n np (fun (r3 : Int32) (μ2 : Mem) => ((r3 = 0 → post v1 μ2) ∧ (¬ r3 = 0 → k2 (v1 + 1) μ2))) μ)))
def l_X4_better_2 (n np : Nat) (post : Int32 → Mem → Prop) : Nat → Int32 → Mem → Prop
  | 0 => fun _ _ => False
  | fuel + 1 => lb_X4_better_2 n np post (l_X4_better_2 n np post fuel) 
set_option maxRecDepth 100000 in
set_option maxHeartbeats 4000000 in
theorem t_X4_better_2 {p : Program} {l : Launch} {e : Env} {s : State} {m : MethodId} {args : Array Value} {below : List Frame} {meth : Method} {c : Code} {D : va_G} {ca : Nat → ClassId} {base : Nat} {ad : Nat → Nat → Nat} {n np : Nat} {post : Int32 → Mem → Prop} (hC : ZC p m meth c s RX4 cX4_better 2) (hr : meth.sig.returnType = (some FieldType.int)) : ∀ (fuel : Nat) (v1 : Int32) (μ : Mem) (H : Heap) (locs : List Loc) (ls : Array Slot), l_X4_better_2 n np post fuel v1 μ → ZS D ca base ad n np μ s H locs → lv_has ls 2 [(0, .ref (ad 30 0)), (1, .int v1)] → W p l e ({ frames := 6, cells := 0, slots := 0, locals := 143 } : Room) s m args below meth c H locs 0 0 (MQ below (ZQ D ca base ad n np (zpi post)) args s 0 0 (zB base)) (F0 m 2 ls []) := by
  intro fuel
  induction fuel with
  | zero => exact fun _ _ _ _ _ h => h.elim
  | succ fuel hk2 =>
    intro v1 μ H locs ls h hZ hl
    have h : lb_X4_better_2 n np post (l_X4_better_2 n np post fuel) v1 μ := h
    unfold lb_X4_better_2 at h
    refine lv_iload_n hC.1 hC.2.1 dX4_better_2 rfl (lv_at hl 1 rfl) ?_
    refine lv_ldc (v := 1000000) hC.1 hC.2.1 hC.2.2.2.1 (hZ.1.2.1.use args kk_X4_206 rfl) dX4_better_3 ?_
    refine lv_icmp_ge (tgt := 21) hC.1 hC.2.1 dX4_better_5 (by decide) (fun c1 => ?_) (fun c1 => ?_)
    · have h := h.1 c1
      refine lv_iload_n hC.1 hC.2.1 dX4_better_21 rfl (lv_at hl 1 rfl) ?_
      exact z_iret hC hr hZ h dX4_better_22 (Nat.le_of_ble_eq_true rfl) (Nat.le_of_ble_eq_true rfl)
    · have h := h.2 c1
      refine lv_aload_n hC.1 hC.2.1 dX4_better_8 rfl (lv_at hl 0 rfl) ?_
      refine z_cVi (As := []) hC hZ (zF_30 _) rfl zy_X4_makeBestSwap (c_X4_makeBestSwap l h) km_X4_207 rfl ⟨rfl, rfl⟩ ⟨Nat.le_of_ble_eq_true rfl, Nat.le_of_ble_eq_true rfl⟩ hl.1 rfl (Nat.le_of_ble_eq_true rfl) dX4_better_9 ⟨Nat.le_of_ble_eq_true rfl, Nat.le_of_ble_eq_true rfl⟩ (fun r3 μ2 H locs h hZ => ?_)
      refine lv_if_eq (tgt := 21) hC.1 hC.2.1 dX4_better_12 (by decide) (fun c4 => ?_) (fun c4 => ?_)
      · have h := h.1 c4
        refine lv_iload_n hC.1 hC.2.1 dX4_better_21 rfl (lv_at hl 1 rfl) ?_
        exact z_iret hC hr hZ h dX4_better_22 (Nat.le_of_ble_eq_true rfl) (Nat.le_of_ble_eq_true rfl)
      · have h := h.2 c4
        refine lv_iinc (v := v1 + 1) (lv' := [(1, .int (v1 + 1)), (0, .ref (ad 30 0))]) hC.1 hC.2.1 dX4_better_15 hl (k := 1) rfl rfl (by decide) rfl (fun ls hl => ?_)
        refine lv_goto (tgt := 2) hC.1 hC.2.1 dX4_better_18 (by decide) ?_
        exact hk2 _ _ _ _ _ h hZ (lv_sub hl [1, 0] rfl)
def w_X4_better (n np : Nat) (post : Int32 → Mem → Prop) (μ : Mem) : Prop := (∃ fuel : Nat, l_X4_better_2 n np post fuel (0 : Int32) μ)
set_option maxRecDepth 100000 in
set_option maxHeartbeats 4000000 in
theorem c_X4_better (l : Launch) {D : va_G} {ca : Nat → ClassId} {base : Nat} {ad : Nat → Nat → Nat} {n np : Nat} {μ : Mem} {post : Int32 → Mem → Prop} (h : w_X4_better n np post μ) : ZMet l yX4_better cX4_better 2 (some FieldType.int) ({ frames := 6, cells := 0, slots := 0, locals := 143 } : Room) 0 0 D ca base ad n np [.ref (ad 30 0)] μ (zpi post) := by
  unfold ZMet
  refine Met.ofW (cc := cX4_better) (maxL := 2) (ret := (some FieldType.int)) (by decide) rfl ?_
  intro p e s m args below meth c s₁ B hml hv
  obtain ⟨rfl, hU⟩ := hv
  have hZ := hU.toS
  have hC : ZC p m meth c s RX4 cX4_better 2 := ⟨B.exec, B.bytes, hml, findClass_of_methodNamed B.named, B.notSynchronized⟩
  have hr := B.returns
  have key : W p l e ({ frames := 6, cells := 0, slots := 0, locals := 143 } : Room) s m (([.ref (ad 30 0)] : List Value).toArray) below meth c s.heap [] 0 0 (MQ below (ZQ D ca base ad n np (zpi post)) (([.ref (ad 30 0)] : List Value).toArray) s 0 0 (zB base)) (entryFrame m (([.ref (ad 30 0)] : List Value).toArray) 2) := by
    have hl := lv_entry ([.ref (ad 30 0)]) (n := 2) (Nat.le_of_ble_eq_true rfl)
    rw [lg_entry_eq]
    generalize (lg_sl ([.ref (ad 30 0)]) ++ List.replicate (2 - (lg_sl ([.ref (ad 30 0)])).length) Slot.unset).toArray = ls at hl ⊢
    have hl : lv_has ls 2 [(0, .ref (ad 30 0))] := hl
    unfold w_X4_better at h
    refine lv_iconst (v := 0) hC.1 hC.2.1 dX4_better_0 (by decide) ?_
    refine lv_istore_n (lv' := [(1, .int 0), (0, .ref (ad 30 0))]) hC.1 hC.2.1 dX4_better_1 rfl hl (by decide) rfl (fun ls hl => ?_)
    obtain ⟨fuel, h⟩ := h
    exact t_X4_better_2 (l := l) hC hr _ _ _ _ _ _ h hZ (lv_sub hl [1, 0] rfl)
  exact key
