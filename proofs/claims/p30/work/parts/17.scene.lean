def b_X4_scene_19 (n np : Nat) (post : Int32 → Nat → Nat → Mem → Prop) (xpost : String → Mem → Prop) (a1 : Int32) (a2 : Int32) (μ : Mem) : Prop := xpost "java/lang/IllegalArgumentException" μ
set_option maxRecDepth 100000 in
set_option maxHeartbeats 4000000 in
theorem t_X4_scene_19 {p : Program} {l : Launch} {e : Env} {s : State} {m : MethodId} {args : Array Value} {below : List Frame} {meth : Method} {c : Code} {D : va_G} {ca : Nat → ClassId} {base : Nat} {ad : Nat → Nat → Nat} {n np : Nat} {post : Int32 → Nat → Nat → Mem → Prop} {xpost : String → Mem → Prop} (hC : ZC p m meth c s RX4 cX4_scene 5) (hnx : ∀ x ∈ c.exceptionTable.toList, False) (hst : l.stackTraces = false) (hr : meth.sig.returnType = (some FieldType.int)) (a1 : Int32) (a2 : Int32) (μ : Mem) (H : Heap) (locs : List Loc) (ls : Array Slot) (h : b_X4_scene_19 n np post xpost a1 a2 μ) (hZ : ZS D ca base ad n np μ s H locs) (hl : lv_has ls 5 []) : W p l e ({ frames := 6, cells := 4, slots := 23, locals := 82 } : Room) s m args below meth c H locs 0 0 (vx_MQ below (ZQN D ca base ad post) (ZX D ca base ad n np xpost) args s 4 23 (zB base)) (F0 m 19 ls []) := by
  unfold b_X4_scene_19 at h
  exact z_throw_iae hC hnx hst hZ hl.1 zs_60 dX4_scene_19 dX4_scene_22 dX4_scene_23 dX4_scene_25 dX4_scene_28 (Nat.le_of_ble_eq_true rfl) (Nat.le_of_ble_eq_true rfl) (Nat.le_of_ble_eq_true rfl) (Nat.le_of_ble_eq_true rfl) (Nat.le_of_ble_eq_true rfl) (Nat.le_of_ble_eq_true rfl) h
def b_X4_scene_55 (n np : Nat) (post : Int32 → Nat → Nat → Mem → Prop) (xpost : String → Mem → Prop) (a1 : Int32) (a2 : Int32) (μ : Mem) : Prop := xpost "java/lang/IllegalStateException" μ
set_option maxRecDepth 100000 in
set_option maxHeartbeats 4000000 in
theorem t_X4_scene_55 {p : Program} {l : Launch} {e : Env} {s : State} {m : MethodId} {args : Array Value} {below : List Frame} {meth : Method} {c : Code} {D : va_G} {ca : Nat → ClassId} {base : Nat} {ad : Nat → Nat → Nat} {n np : Nat} {post : Int32 → Nat → Nat → Mem → Prop} {xpost : String → Mem → Prop} (hC : ZC p m meth c s RX4 cX4_scene 5) (hnx : ∀ x ∈ c.exceptionTable.toList, False) (hst : l.stackTraces = false) (hr : meth.sig.returnType = (some FieldType.int)) (a1 : Int32) (a2 : Int32) (μ : Mem) (H : Heap) (locs : List Loc) (ls : Array Slot) (h : b_X4_scene_55 n np post xpost a1 a2 μ) (hZ : ZS D ca base ad n np μ s H locs) (hl : lv_has ls 5 []) : W p l e ({ frames := 6, cells := 4, slots := 23, locals := 82 } : Room) s m args below meth c H locs 0 0 (vx_MQ below (ZQN D ca base ad post) (ZX D ca base ad n np xpost) args s 4 23 (zB base)) (F0 m 55 ls []) := by
  unfold b_X4_scene_55 at h
  exact z_throw_ise hC hnx hst hZ hl.1 zs_71 dX4_scene_55 dX4_scene_58 dX4_scene_59 dX4_scene_61 dX4_scene_64 (Nat.le_of_ble_eq_true rfl) (Nat.le_of_ble_eq_true rfl) (Nat.le_of_ble_eq_true rfl) (Nat.le_of_ble_eq_true rfl) (Nat.le_of_ble_eq_true rfl) (Nat.le_of_ble_eq_true rfl) h
def b_X4_scene_78 (n np : Nat) (post : Int32 → Nat → Nat → Mem → Prop) (xpost : String → Mem → Prop) (a1 : Int32) (a2 : Int32) (v3 : Int32) (s0 : Int32) (μ : Mem) : Prop := (vp_in (μ 30 0 7) 10 ∧ (¬ s0 < 0 → s0.toNatClampNeg < n) ∧ ∀ μ16 : Mem, μ16 = zst μ 31 0 ((μ 30 0 7).toNatClampNeg) s0 → (∀ μ17 : Mem, μ17 = zst μ16 30 0 7 ((μ16 30 0 7) + 1) → (vp_in v3 30 ∧ ∀ μ19 : Mem, μ19 = zst μ17 32 0 v3.toNatClampNeg s0 → (¬ s0 < 0 ∧ s0.toNatClampNeg < n ∧ post (μ19 70 s0.toNatClampNeg 0) n np μ19))))
set_option maxRecDepth 100000 in
set_option maxHeartbeats 4000000 in
theorem t_X4_scene_78 {p : Program} {l : Launch} {e : Env} {s : State} {m : MethodId} {args : Array Value} {below : List Frame} {meth : Method} {c : Code} {D : va_G} {ca : Nat → ClassId} {base : Nat} {ad : Nat → Nat → Nat} {n np : Nat} {ad0 : Nat → Nat → Nat} {n0 np0 : Nat} {post : Int32 → Nat → Nat → Mem → Prop} {xpost : String → Mem → Prop} (hC : ZC p m meth c s RX4 cX4_scene 5) (hnx : ∀ x ∈ c.exceptionTable.toList, False) (hst : l.stackTraces = false) (hr : meth.sig.returnType = (some FieldType.int)) (hag : zagr ad0 ad) (a1 : Int32) (a2 : Int32) (v3 : Int32) (s0 : Int32) (μ : Mem) (H : Heap) (locs : List Loc) (ls : Array Slot) (h : b_X4_scene_78 n np post xpost a1 a2 v3 s0 μ) (hZ : ZS D ca base ad n np μ s H locs) (hl : lv_has ls 5 [(0, .ref (ad 30 0)), (3, .int v3)]) : W p l e ({ frames := 6, cells := 4, slots := 23, locals := 82 } : Room) s m args below meth c H locs 4 23 (vx_MQ below (ZQN D ca base ad0 post) (ZX D ca base ad0 n0 np0 xpost) args s 4 23 (zB base)) (F0 m 78 ls [va_rf (zr ad 70 s0)]) := by
  unfold b_X4_scene_78 at h
  refine z_astoreq (lv' := [(4, va_rf (zr ad 70 s0)), (0, .ref (ad 30 0)), (3, .int v3)]) hC dX4_scene_78 hl (by decide) rfl (fun ls hl => ?_)
  refine lv_aload_n hC.1 hC.2.1 dX4_scene_80 rfl (lv_at hl 1 rfl) ?_
  refine gX4_0 hC hZ kf_X4_11 dX4_scene_81 ?_
  refine lv_aload_n hC.1 hC.2.1 dX4_scene_84 rfl (lv_at hl 1 rfl) ?_
  refine gX4_7 hC hZ kf_X4_45 dX4_scene_85 ?_
  refine z_aloadq hC dX4_scene_88 (lv_at hl 0 rfl) ?_
  obtain ⟨q14, h⟩ := h
  obtain ⟨q15, h⟩ := h
  refine aS_31 hC hZ q14 q15 dX4_scene_90 (fun μ16 H locs eμ16 hZ => ?_)
  have h := h μ16 eμ16
  refine lv_aload_n hC.1 hC.2.1 dX4_scene_91 rfl (lv_at hl 1 rfl) ?_
  refine lv_dup hC.1 hC.2.1 dX4_scene_92 rfl ?_
  refine gX4_7 hC hZ kf_X4_45 dX4_scene_93 ?_
  refine lv_iconst (v := 1) hC.1 hC.2.1 dX4_scene_96 (by decide) ?_
  refine lv_iadd hC.1 hC.2.1 dX4_scene_97 ?_
  refine pX4_7 hC hZ kf_X4_45 dX4_scene_98 (fun μ17 H locs eμ17 hZ => ?_)
  have h := h μ17 eμ17
  refine lv_aload_n hC.1 hC.2.1 dX4_scene_101 rfl (lv_at hl 1 rfl) ?_
  refine gX4_1 hC hZ kf_X4_15 dX4_scene_102 ?_
  refine lv_iload_n hC.1 hC.2.1 dX4_scene_105 rfl (lv_at hl 2 rfl) ?_
  refine z_aloadq hC dX4_scene_106 (lv_at hl 0 rfl) ?_
  obtain ⟨q18, h⟩ := h
  refine aS_32 hC hZ q18 q15 dX4_scene_108 (fun μ19 H locs eμ19 hZ => ?_)
  have h := h μ19 eμ19
  refine z_aloadq hC dX4_scene_109 (lv_at hl 0 rfl) ?_
  obtain ⟨q20, h⟩ := h
  refine z_df0 q20 ?_
  obtain ⟨q21, h⟩ := h
  refine gX2_0 hC hZ q21 kf_X4_77 dX4_scene_111 ?_
  exact vx_ret (z_nret hC hr hZ hag h dX4_scene_114 (Nat.le_of_ble_eq_true rfl) (Nat.le_of_ble_eq_true rfl))
def w_X4_scene (n np : Nat) (post : Int32 → Nat → Nat → Mem → Prop) (xpost : String → Mem → Prop) (a1 : Int32) (a2 : Int32) (μ : Mem) : Prop := ((a1 < 0 → b_X4_scene_19 n np post xpost a1 a2 μ) ∧ (¬ a1 < 0 → ((4 ≤ a1 → b_X4_scene_19 n np post xpost a1 a2 μ) ∧ (¬ 4 ≤ a1 → ((a2 < 0 → b_X4_scene_19 n np post xpost a1 a2 μ) ∧ (¬ a2 < 0 → ((a2 ≤ 9 → (w_X4_dayBehindPlan n np (fun (r6 : Int32) (μ5 : Mem) => ((10 ≤ (μ5 30 0 7) → b_X4_scene_55 n np post xpost a1 a2 μ5) ∧ (¬ 10 ≤ (μ5 30 0 7) → ((r6 < 30 → (n < 10 ∧ zval n 10 (μ5 31 0) ∧ zval n 30 (μ5 32 0) ∧ zval n 10 (μ5 62 0) ∧ ∀ μ13 : Mem, μ13 = zaddS n (μ5 30 0 7) a1 a2 μ5 → b_X4_scene_78 (n + 1) np post xpost a1 a2 r6 (nI n) μ13)) ∧ (¬ r6 < 30 → b_X4_scene_55 n np post xpost a1 a2 μ5))))) μ)) ∧ (¬ a2 ≤ 9 → b_X4_scene_19 n np post xpost a1 a2 μ))))))))
set_option maxRecDepth 100000 in
set_option maxHeartbeats 4000000 in
theorem c_X4_scene (l : Launch) (hst : l.stackTraces = false) {D : va_G} {ca : Nat → ClassId} {base : Nat} {ad : Nat → Nat → Nat} {n np : Nat} {μ : Mem} {post : Int32 → Nat → Nat → Mem → Prop} {xpost : String → Mem → Prop} {a1 : Int32} {a2 : Int32} (h : w_X4_scene n np post xpost a1 a2 μ) : ZNMet l yX4_scene cX4_scene 5 (some FieldType.int) ({ frames := 6, cells := 4, slots := 23, locals := 82 } : Room) 4 23 D ca base ad n np [.ref (ad 30 0), .int a1, .int a2] μ (post) xpost := by
  unfold ZNMet
  refine vx_ofW (cc := cX4_scene) (maxL := 5) (ret := (some FieldType.int)) (by decide) rfl ?_
  intro p e s m args below meth c s₁ B hml hnx hv
  obtain ⟨rfl, hU⟩ := hv
  have hZ := hU.toS
  have hC : ZC p m meth c s RX4 cX4_scene 5 := ⟨B.exec, B.bytes, hml, findClass_of_methodNamed B.named, B.notSynchronized⟩
  have hr := B.returns
  have key : W p l e ({ frames := 6, cells := 4, slots := 23, locals := 82 } : Room) s m (([.ref (ad 30 0), .int a1, .int a2] : List Value).toArray) below meth c s.heap [] 0 0 (vx_MQ below (ZQN D ca base ad post) (ZX D ca base ad n np xpost) (([.ref (ad 30 0), .int a1, .int a2] : List Value).toArray) s 4 23 (zB base)) (entryFrame m (([.ref (ad 30 0), .int a1, .int a2] : List Value).toArray) 5) := by
    have hl := lv_entry ([.ref (ad 30 0), .int a1, .int a2]) (n := 5) (Nat.le_of_ble_eq_true rfl)
    rw [lg_entry_eq]
    generalize (lg_sl ([.ref (ad 30 0), .int a1, .int a2]) ++ List.replicate (5 - (lg_sl ([.ref (ad 30 0), .int a1, .int a2])).length) Slot.unset).toArray = ls at hl ⊢
    have hl : lv_has ls 5 [(0, .ref (ad 30 0)), (1, .int a1), (2, .int a2)] := hl
    unfold w_X4_scene at h
    refine lv_iload_n hC.1 hC.2.1 dX4_scene_0 rfl (lv_at hl 1 rfl) ?_
    refine lv_if_lt (tgt := 19) hC.1 hC.2.1 dX4_scene_1 (by decide) (fun c1 => ?_) (fun c1 => ?_)
    · have h := h.1 c1
      exact t_X4_scene_19 (l := l) hC hnx hst hr _ _  _ _ _ _ h hZ (lv_sub hl [] rfl)
    · have h := h.2 c1
      refine lv_iload_n hC.1 hC.2.1 dX4_scene_4 rfl (lv_at hl 1 rfl) ?_
      refine lv_iconst (v := 4) hC.1 hC.2.1 dX4_scene_5 (by decide) ?_
      refine lv_icmp_ge (tgt := 19) hC.1 hC.2.1 dX4_scene_6 (by decide) (fun c2 => ?_) (fun c2 => ?_)
      · have h := h.1 c2
        exact t_X4_scene_19 (l := l) hC hnx hst hr _ _  _ _ _ _ h hZ (lv_sub hl [] rfl)
      · have h := h.2 c2
        refine lv_iload_n hC.1 hC.2.1 dX4_scene_9 rfl (lv_at hl 2 rfl) ?_
        refine lv_if_lt (tgt := 19) hC.1 hC.2.1 dX4_scene_10 (by decide) (fun c3 => ?_) (fun c3 => ?_)
        · have h := h.1 c3
          exact t_X4_scene_19 (l := l) hC hnx hst hr _ _  _ _ _ _ h hZ (lv_sub hl [] rfl)
        · have h := h.2 c3
          refine lv_iload_n hC.1 hC.2.1 dX4_scene_13 rfl (lv_at hl 2 rfl) ?_
          refine lv_bipush (v := 9) hC.1 hC.2.1 dX4_scene_14 (by decide) ?_
          refine lv_icmp_le (tgt := 29) hC.1 hC.2.1 dX4_scene_16 (by decide) (fun c4 => ?_) (fun c4 => ?_)
          · have h := h.1 c4
            refine lv_aload_n hC.1 hC.2.1 dX4_scene_29 rfl (lv_at hl 0 rfl) ?_
            refine z_cVi (As := []) hC hZ (zF_30 _) rfl zy_X4_dayBehindPlan (c_X4_dayBehindPlan l h) km_X4_65 rfl ⟨rfl, rfl⟩ ⟨Nat.le_of_ble_eq_true rfl, Nat.le_of_ble_eq_true rfl⟩ hl.1 rfl (Nat.le_of_ble_eq_true rfl) dX4_scene_30 ⟨Nat.le_of_ble_eq_true rfl, Nat.le_of_ble_eq_true rfl⟩ (fun r6 μ5 H locs h hZ => ?_)
            refine lv_istore_n (lv' := [(3, .int r6), (0, .ref (ad 30 0)), (1, .int a1), (2, .int a2)]) hC.1 hC.2.1 dX4_scene_33 rfl hl (by decide) rfl (fun ls hl => ?_)
            refine lv_aload_n hC.1 hC.2.1 dX4_scene_34 rfl (lv_at hl 1 rfl) ?_
            refine gX4_7 hC hZ kf_X4_45 dX4_scene_35 ?_
            refine lv_aload_n hC.1 hC.2.1 dX4_scene_38 rfl (lv_at hl 1 rfl) ?_
            refine gX4_0 hC hZ kf_X4_11 dX4_scene_39 ?_
            refine aN_31 hC hZ dX4_scene_42 ?_
            refine lv_icmp_ge (tgt := 55) hC.1 hC.2.1 dX4_scene_43 (by decide) (fun c7 => ?_) (fun c7 => ?_)
            · have h := h.1 c7
              exact t_X4_scene_55 (l := l) hC hnx hst hr _ _  _ _ _ _ h hZ (lv_sub hl [] rfl)
            · have h := h.2 c7
              refine lv_iload_n hC.1 hC.2.1 dX4_scene_46 rfl (lv_at hl 0 rfl) ?_
              refine lv_aload_n hC.1 hC.2.1 dX4_scene_47 rfl (lv_at hl 1 rfl) ?_
              refine gX4_1 hC hZ kf_X4_15 dX4_scene_48 ?_
              refine aN_32 hC hZ dX4_scene_51 ?_
              refine lv_icmp_lt (tgt := 65) hC.1 hC.2.1 dX4_scene_52 (by decide) (fun c8 => ?_) (fun c8 => ?_)
              · have h := h.1 c8
                refine z_newO hC hZ inX2 tyX2 tyX2_ok kc_X4_9 kI_X2 kini_X2 (ci := 2) rfl (fs := [.int 0, .int 0, .int 0, .null, .null, .null, .int 0, .int 0]) (fun j hj => by rcases (show j = 0 ∨ j = 1 ∨ j = 2 ∨ j = 3 ∨ j = 4 ∨ j = 5 ∨ j = 6 ∨ j = 7 by omega) with rfl | rfl | rfl | rfl | rfl | rfl | rfl | rfl <;> rfl) (Nat.le_of_ble_eq_true rfl) (Nat.le_of_ble_eq_true rfl) dX4_scene_65 (fun q H hZ hat hne hbq => ?_)
                refine lv_dup hC.1 hC.2.1 dX4_scene_68 rfl ?_
                refine lv_aload_n hC.1 hC.2.1 dX4_scene_69 rfl (lv_at hl 1 rfl) ?_
                refine gX4_7 hC hZ kf_X4_45 dX4_scene_70 ?_
                refine lv_iload_n hC.1 hC.2.1 dX4_scene_73 rfl (lv_at hl 2 rfl) ?_
                refine lv_iload_n hC.1 hC.2.1 dX4_scene_74 rfl (lv_at hl 3 rfl) ?_
                obtain ⟨q9, h⟩ := h
                refine z_init hC hZ hat hne hbq (c_X2_init l) km_X4_74 zc_X2_init zi_X2_init kini_X2 rfl (by decide +kernel) (na := 3) (by decide +kernel) (As := [.int (μ5 30 0 7), .int a1, .int a2]) rfl ⟨rfl, rfl⟩ ⟨(Nat.le_of_ble_eq_true rfl), (Nat.le_of_ble_eq_true rfl)⟩ hl.1 rfl (Nat.le_of_ble_eq_true rfl) dX4_scene_75 ⟨(Nat.le_of_ble_eq_true rfl), (Nat.le_of_ble_eq_true rfl)⟩ (fun H locs hPH hZ hold hbs => ?_)
                obtain ⟨q10, h⟩ := h
                obtain ⟨q11, h⟩ := h
                obtain ⟨q12, h⟩ := h
                obtain ⟨q1, q2, q3, hP1, hD1⟩ := hPH
                have hZ := hZ.addS hP1 hD1 hold hbq hbs q10 q11 q12
                obtain ⟨μ13, eμ13⟩ : ∃ z, z = zaddS n (μ5 30 0 7) a1 a2 μ5 := ⟨_, rfl⟩
                have h := h μ13 eμ13
                rw [← eμ13] at hZ
                refine W.eq (g2 := F0 m 78 ls [va_rf (zr (zadS n q q1 q2 q3 ad) 70 (nI n))]) (by rw [zr_nI (by omega)]; simp [zadS]) ?_
                exact t_X4_scene_78 (l := l) hC hnx hst hr zagr_S _ _ _ _ _ _ _ _ h hZ (lv_sub hl [1, 0] rfl)
              · have h := h.2 c8
                exact t_X4_scene_55 (l := l) hC hnx hst hr _ _  _ _ _ _ h hZ (lv_sub hl [] rfl)
          · have h := h.2 c4
            exact t_X4_scene_19 (l := l) hC hnx hst hr _ _  _ _ _ _ h hZ (lv_sub hl [] rfl)
  exact key
def b_X4_permit_22 (n np : Nat) (post : Int32 → Nat → Nat → Mem → Prop) (xpost : String → Mem → Prop) (a1 : Int32) (a2 : Int32) (a3 : Int32) (a4 : Int32) (μ : Mem) : Prop := xpost "java/lang/IllegalArgumentException" μ
set_option maxRecDepth 100000 in
set_option maxHeartbeats 4000000 in
theorem t_X4_permit_22 {p : Program} {l : Launch} {e : Env} {s : State} {m : MethodId} {args : Array Value} {below : List Frame} {meth : Method} {c : Code} {D : va_G} {ca : Nat → ClassId} {base : Nat} {ad : Nat → Nat → Nat} {n np : Nat} {post : Int32 → Nat → Nat → Mem → Prop} {xpost : String → Mem → Prop} (hC : ZC p m meth c s RX4 cX4_permit 6) (hnx : ∀ x ∈ c.exceptionTable.toList, False) (hst : l.stackTraces = false) (hr : meth.sig.returnType = (some FieldType.int)) (a1 : Int32) (a2 : Int32) (a3 : Int32) (a4 : Int32) (μ : Mem) (H : Heap) (locs : List Loc) (ls : Array Slot) (h : b_X4_permit_22 n np post xpost a1 a2 a3 a4 μ) (hZ : ZS D ca base ad n np μ s H locs) (hl : lv_has ls 6 []) : W p l e ({ frames := 6, cells := 1, slots := 6, locals := 82 } : Room) s m args below meth c H locs 0 0 (vx_MQ below (ZQN D ca base ad post) (ZX D ca base ad n np xpost) args s 1 6 (zB base)) (F0 m 22 ls []) := by
  unfold b_X4_permit_22 at h
  exact z_throw_iae hC hnx hst hZ hl.1 zs_60 dX4_permit_22 dX4_permit_25 dX4_permit_26 dX4_permit_28 dX4_permit_31 (Nat.le_of_ble_eq_true rfl) (Nat.le_of_ble_eq_true rfl) (Nat.le_of_ble_eq_true rfl) (Nat.le_of_ble_eq_true rfl) (Nat.le_of_ble_eq_true rfl) (Nat.le_of_ble_eq_true rfl) h
def b_X4_permit_53 (n np : Nat) (post : Int32 → Nat → Nat → Mem → Prop) (xpost : String → Mem → Prop) (a1 : Int32) (a2 : Int32) (a3 : Int32) (a4 : Int32) (μ : Mem) : Prop := xpost "java/lang/IllegalArgumentException" μ
set_option maxRecDepth 100000 in
set_option maxHeartbeats 4000000 in
theorem t_X4_permit_53 {p : Program} {l : Launch} {e : Env} {s : State} {m : MethodId} {args : Array Value} {below : List Frame} {meth : Method} {c : Code} {D : va_G} {ca : Nat → ClassId} {base : Nat} {ad : Nat → Nat → Nat} {n np : Nat} {post : Int32 → Nat → Nat → Mem → Prop} {xpost : String → Mem → Prop} (hC : ZC p m meth c s RX4 cX4_permit 6) (hnx : ∀ x ∈ c.exceptionTable.toList, False) (hst : l.stackTraces = false) (hr : meth.sig.returnType = (some FieldType.int)) (a1 : Int32) (a2 : Int32) (a3 : Int32) (a4 : Int32) (μ : Mem) (H : Heap) (locs : List Loc) (ls : Array Slot) (h : b_X4_permit_53 n np post xpost a1 a2 a3 a4 μ) (hZ : ZS D ca base ad n np μ s H locs) (hl : lv_has ls 6 []) : W p l e ({ frames := 6, cells := 1, slots := 6, locals := 82 } : Room) s m args below meth c H locs 0 0 (vx_MQ below (ZQN D ca base ad post) (ZX D ca base ad n np xpost) args s 1 6 (zB base)) (F0 m 53 ls []) := by
  unfold b_X4_permit_53 at h
  exact z_throw_iae hC hnx hst hZ hl.1 zs_140 dX4_permit_53 dX4_permit_56 dX4_permit_57 dX4_permit_59 dX4_permit_62 (Nat.le_of_ble_eq_true rfl) (Nat.le_of_ble_eq_true rfl) (Nat.le_of_ble_eq_true rfl) (Nat.le_of_ble_eq_true rfl) (Nat.le_of_ble_eq_true rfl) (Nat.le_of_ble_eq_true rfl) h
def b_X4_permit_109 (n np : Nat) (post : Int32 → Nat → Nat → Mem → Prop) (xpost : String → Mem → Prop) (a1 : Int32) (a2 : Int32) (a3 : Int32) (a4 : Int32) (v5 : Int32) (s1 : Int32) (s2 : Int32) (μ : Mem) : Prop := (vp_in s1 20 ∧ (¬ s2 < 0 → s2.toNatClampNeg < np) ∧ ∀ μ15 : Mem, μ15 = zst μ 33 0 s1.toNatClampNeg s2 → (∀ μ16 : Mem, μ16 = zst μ15 30 0 8 ((μ15 30 0 8) + 1) → post v5 n np μ16))
set_option maxRecDepth 100000 in
set_option maxHeartbeats 4000000 in
theorem t_X4_permit_109 {p : Program} {l : Launch} {e : Env} {s : State} {m : MethodId} {args : Array Value} {below : List Frame} {meth : Method} {c : Code} {D : va_G} {ca : Nat → ClassId} {base : Nat} {ad : Nat → Nat → Nat} {n np : Nat} {ad0 : Nat → Nat → Nat} {n0 np0 : Nat} {post : Int32 → Nat → Nat → Mem → Prop} {xpost : String → Mem → Prop} (hC : ZC p m meth c s RX4 cX4_permit 6) (hnx : ∀ x ∈ c.exceptionTable.toList, False) (hst : l.stackTraces = false) (hr : meth.sig.returnType = (some FieldType.int)) (hag : zagr ad0 ad) (a1 : Int32) (a2 : Int32) (a3 : Int32) (a4 : Int32) (v5 : Int32) (s1 : Int32) (s2 : Int32) (μ : Mem) (H : Heap) (locs : List Loc) (ls : Array Slot) (h : b_X4_permit_109 n np post xpost a1 a2 a3 a4 v5 s1 s2 μ) (hZ : ZS D ca base ad n np μ s H locs) (hl : lv_has ls 6 [(0, .ref (ad 30 0)), (5, .int v5)]) : W p l e ({ frames := 6, cells := 1, slots := 6, locals := 82 } : Room) s m args below meth c H locs 1 5 (vx_MQ below (ZQN D ca base ad0 post) (ZX D ca base ad0 n0 np0 xpost) args s 1 6 (zB base)) (F0 m 109 ls [va_rf (zr ad 80 s2), .int s1, .ref (ad 33 0)]) := by
  unfold b_X4_permit_109 at h
  obtain ⟨q13, h⟩ := h
  obtain ⟨q14, h⟩ := h
  refine aS_33 hC hZ q13 q14 dX4_permit_109 (fun μ15 H locs eμ15 hZ => ?_)
  have h := h μ15 eμ15
  refine lv_aload_n hC.1 hC.2.1 dX4_permit_110 rfl (lv_at hl 0 rfl) ?_
  refine lv_dup hC.1 hC.2.1 dX4_permit_111 rfl ?_
  refine gX4_8 hC hZ kf_X4_49 dX4_permit_112 ?_
  refine lv_iconst (v := 1) hC.1 hC.2.1 dX4_permit_115 (by decide) ?_
  refine lv_iadd hC.1 hC.2.1 dX4_permit_116 ?_
  refine pX4_8 hC hZ kf_X4_49 dX4_permit_117 (fun μ16 H locs eμ16 hZ => ?_)
  have h := h μ16 eμ16
  refine lv_iload hC.1 hC.2.1 dX4_permit_120 (lv_at hl 1 rfl) ?_
  exact vx_ret (z_nret hC hr hZ hag h dX4_permit_122 (Nat.le_of_ble_eq_true rfl) (Nat.le_of_ble_eq_true rfl))
def w_X4_permit (n np : Nat) (post : Int32 → Nat → Nat → Mem → Prop) (xpost : String → Mem → Prop) (a1 : Int32) (a2 : Int32) (a3 : Int32) (a4 : Int32) (μ : Mem) : Prop := ((a1 < 0 → b_X4_permit_22 n np post xpost a1 a2 a3 a4 μ) ∧ (¬ a1 < 0 → ((4 ≤ a1 → b_X4_permit_22 n np post xpost a1 a2 a3 a4 μ) ∧ (¬ 4 ≤ a1 → ((a4 < 1 → b_X4_permit_22 n np post xpost a1 a2 a3 a4 μ) ∧ (¬ a4 < 1 → ((a4 ≤ 9 → ((a2 < 0 → b_X4_permit_53 n np post xpost a1 a2 a3 a4 μ) ∧ (¬ a2 < 0 → ((30 ≤ a2 → b_X4_permit_53 n np post xpost a1 a2 a3 a4 μ) ∧ (¬ 30 ≤ a2 → ((a3 < a2 → b_X4_permit_53 n np post xpost a1 a2 a3 a4 μ) ∧ (¬ a3 < a2 → ((a3 < 30 → (((μ 30 0 8) < 20 → (np < 20 ∧ zval np 20 (μ 33 0) ∧ ∀ μ12 : Mem, μ12 = zaddP np a1 a2 a3 a4 μ → b_X4_permit_109 n (np + 1) post xpost a1 a2 a3 a4 (μ 30 0 8) (μ 30 0 8) (nI np) μ12)) ∧ (¬ (μ 30 0 8) < 20 → xpost "java/lang/IllegalStateException" μ))) ∧ (¬ a3 < 30 → b_X4_permit_53 n np post xpost a1 a2 a3 a4 μ))))))))) ∧ (¬ a4 ≤ 9 → b_X4_permit_22 n np post xpost a1 a2 a3 a4 μ))))))))
set_option maxRecDepth 100000 in
set_option maxHeartbeats 4000000 in
theorem c_X4_permit (l : Launch) (hst : l.stackTraces = false) {D : va_G} {ca : Nat → ClassId} {base : Nat} {ad : Nat → Nat → Nat} {n np : Nat} {μ : Mem} {post : Int32 → Nat → Nat → Mem → Prop} {xpost : String → Mem → Prop} {a1 : Int32} {a2 : Int32} {a3 : Int32} {a4 : Int32} (h : w_X4_permit n np post xpost a1 a2 a3 a4 μ) : ZNMet l yX4_permit cX4_permit 6 (some FieldType.int) ({ frames := 6, cells := 1, slots := 6, locals := 82 } : Room) 1 6 D ca base ad n np [.ref (ad 30 0), .int a1, .int a2, .int a3, .int a4] μ (post) xpost := by
  unfold ZNMet
  refine vx_ofW (cc := cX4_permit) (maxL := 6) (ret := (some FieldType.int)) (by decide) rfl ?_
  intro p e s m args below meth c s₁ B hml hnx hv
  obtain ⟨rfl, hU⟩ := hv
  have hZ := hU.toS
  have hC : ZC p m meth c s RX4 cX4_permit 6 := ⟨B.exec, B.bytes, hml, findClass_of_methodNamed B.named, B.notSynchronized⟩
  have hr := B.returns
  have key : W p l e ({ frames := 6, cells := 1, slots := 6, locals := 82 } : Room) s m (([.ref (ad 30 0), .int a1, .int a2, .int a3, .int a4] : List Value).toArray) below meth c s.heap [] 0 0 (vx_MQ below (ZQN D ca base ad post) (ZX D ca base ad n np xpost) (([.ref (ad 30 0), .int a1, .int a2, .int a3, .int a4] : List Value).toArray) s 1 6 (zB base)) (entryFrame m (([.ref (ad 30 0), .int a1, .int a2, .int a3, .int a4] : List Value).toArray) 6) := by
    have hl := lv_entry ([.ref (ad 30 0), .int a1, .int a2, .int a3, .int a4]) (n := 6) (Nat.le_of_ble_eq_true rfl)
    rw [lg_entry_eq]
    generalize (lg_sl ([.ref (ad 30 0), .int a1, .int a2, .int a3, .int a4]) ++ List.replicate (6 - (lg_sl ([.ref (ad 30 0), .int a1, .int a2, .int a3, .int a4])).length) Slot.unset).toArray = ls at hl ⊢
    have hl : lv_has ls 6 [(0, .ref (ad 30 0)), (1, .int a1), (2, .int a2), (3, .int a3), (4, .int a4)] := hl
    unfold w_X4_permit at h
    refine lv_iload_n hC.1 hC.2.1 dX4_permit_0 rfl (lv_at hl 1 rfl) ?_
    refine lv_if_lt (tgt := 22) hC.1 hC.2.1 dX4_permit_1 (by decide) (fun c1 => ?_) (fun c1 => ?_)
    · have h := h.1 c1
      exact t_X4_permit_22 (l := l) hC hnx hst hr _ _ _ _  _ _ _ _ h hZ (lv_sub hl [] rfl)
    · have h := h.2 c1
      refine lv_iload_n hC.1 hC.2.1 dX4_permit_4 rfl (lv_at hl 1 rfl) ?_
      refine lv_iconst (v := 4) hC.1 hC.2.1 dX4_permit_5 (by decide) ?_
      refine lv_icmp_ge (tgt := 22) hC.1 hC.2.1 dX4_permit_6 (by decide) (fun c2 => ?_) (fun c2 => ?_)
      · have h := h.1 c2
        exact t_X4_permit_22 (l := l) hC hnx hst hr _ _ _ _  _ _ _ _ h hZ (lv_sub hl [] rfl)
      · have h := h.2 c2
        refine lv_iload hC.1 hC.2.1 dX4_permit_9 (lv_at hl 4 rfl) ?_
        refine lv_iconst (v := 1) hC.1 hC.2.1 dX4_permit_11 (by decide) ?_
        refine lv_icmp_lt (tgt := 22) hC.1 hC.2.1 dX4_permit_12 (by decide) (fun c3 => ?_) (fun c3 => ?_)
        · have h := h.1 c3
          exact t_X4_permit_22 (l := l) hC hnx hst hr _ _ _ _  _ _ _ _ h hZ (lv_sub hl [] rfl)
        · have h := h.2 c3
          refine lv_iload hC.1 hC.2.1 dX4_permit_15 (lv_at hl 4 rfl) ?_
          refine lv_bipush (v := 9) hC.1 hC.2.1 dX4_permit_17 (by decide) ?_
          refine lv_icmp_le (tgt := 32) hC.1 hC.2.1 dX4_permit_19 (by decide) (fun c4 => ?_) (fun c4 => ?_)
          · have h := h.1 c4
            refine lv_iload_n hC.1 hC.2.1 dX4_permit_32 rfl (lv_at hl 2 rfl) ?_
            refine lv_if_lt (tgt := 53) hC.1 hC.2.1 dX4_permit_33 (by decide) (fun c5 => ?_) (fun c5 => ?_)
            · have h := h.1 c5
              exact t_X4_permit_53 (l := l) hC hnx hst hr _ _ _ _  _ _ _ _ h hZ (lv_sub hl [] rfl)
            · have h := h.2 c5
              refine lv_iload_n hC.1 hC.2.1 dX4_permit_36 rfl (lv_at hl 2 rfl) ?_
              refine lv_bipush (v := 30) hC.1 hC.2.1 dX4_permit_37 (by decide) ?_
              refine lv_icmp_ge (tgt := 53) hC.1 hC.2.1 dX4_permit_39 (by decide) (fun c6 => ?_) (fun c6 => ?_)
              · have h := h.1 c6
                exact t_X4_permit_53 (l := l) hC hnx hst hr _ _ _ _  _ _ _ _ h hZ (lv_sub hl [] rfl)
              · have h := h.2 c6
                refine lv_iload_n hC.1 hC.2.1 dX4_permit_42 rfl (lv_at hl 3 rfl) ?_
                refine lv_iload_n hC.1 hC.2.1 dX4_permit_43 rfl (lv_at hl 2 rfl) ?_
                refine lv_icmp_lt (tgt := 53) hC.1 hC.2.1 dX4_permit_44 (by decide) (fun c7 => ?_) (fun c7 => ?_)
                · have h := h.1 c7
                  exact t_X4_permit_53 (l := l) hC hnx hst hr _ _ _ _  _ _ _ _ h hZ (lv_sub hl [] rfl)
                · have h := h.2 c7
                  refine lv_iload_n hC.1 hC.2.1 dX4_permit_47 rfl (lv_at hl 3 rfl) ?_
                  refine lv_bipush (v := 30) hC.1 hC.2.1 dX4_permit_48 (by decide) ?_
                  refine lv_icmp_lt (tgt := 63) hC.1 hC.2.1 dX4_permit_50 (by decide) (fun c8 => ?_) (fun c8 => ?_)
                  · have h := h.1 c8
                    refine lv_aload_n hC.1 hC.2.1 dX4_permit_63 rfl (lv_at hl 0 rfl) ?_
                    refine gX4_8 hC hZ kf_X4_49 dX4_permit_64 ?_
                    refine lv_aload_n hC.1 hC.2.1 dX4_permit_67 rfl (lv_at hl 0 rfl) ?_
                    refine gX4_2 hC hZ kf_X4_20 dX4_permit_68 ?_
                    refine aN_33 hC hZ dX4_permit_71 ?_
                    refine lv_icmp_lt (tgt := 85) hC.1 hC.2.1 dX4_permit_72 (by decide) (fun c9 => ?_) (fun c9 => ?_)
                    · have h := h.1 c9
                      refine lv_aload_n hC.1 hC.2.1 dX4_permit_85 rfl (lv_at hl 0 rfl) ?_
                      refine gX4_8 hC hZ kf_X4_49 dX4_permit_86 ?_
                      refine lv_istore (lv' := [(5, .int (μ 30 0 8)), (0, .ref (ad 30 0)), (1, .int a1), (2, .int a2), (3, .int a3), (4, .int a4)]) hC.1 hC.2.1 dX4_permit_89 hl (by decide) rfl (fun ls hl => ?_)
                      refine lv_aload_n hC.1 hC.2.1 dX4_permit_91 rfl (lv_at hl 1 rfl) ?_
                      refine gX4_2 hC hZ kf_X4_20 dX4_permit_92 ?_
                      refine lv_iload hC.1 hC.2.1 dX4_permit_95 (lv_at hl 0 rfl) ?_
                      refine z_newO hC hZ inX1 tyX1 tyX1_ok kc_X4_18 kI_X1 kini_X1 (ci := 1) rfl (fs := [.int 0, .int 0, .int 0, .int 0, .int 0]) (fun j hj => by rcases (show j = 0 ∨ j = 1 ∨ j = 2 ∨ j = 3 ∨ j = 4 by omega) with rfl | rfl | rfl | rfl | rfl <;> rfl) (Nat.le_of_ble_eq_true rfl) (Nat.le_of_ble_eq_true rfl) dX4_permit_97 (fun q H hZ hat hne hbq => ?_)
                      refine lv_dup hC.1 hC.2.1 dX4_permit_100 rfl ?_
                      refine lv_iload_n hC.1 hC.2.1 dX4_permit_101 rfl (lv_at hl 2 rfl) ?_
                      refine lv_iload_n hC.1 hC.2.1 dX4_permit_102 rfl (lv_at hl 3 rfl) ?_
                      refine lv_iload_n hC.1 hC.2.1 dX4_permit_103 rfl (lv_at hl 4 rfl) ?_
                      refine lv_iload hC.1 hC.2.1 dX4_permit_104 (lv_at hl 5 rfl) ?_
                      obtain ⟨q10, h⟩ := h
                      refine z_init hC hZ hat hne hbq (c_X1_init l) km_X4_144 zc_X1_init zi_X1_init kini_X1 rfl (by decide +kernel) (na := 4) (by decide +kernel) (As := [.int a1, .int a2, .int a3, .int a4]) rfl ⟨rfl, rfl⟩ ⟨(Nat.le_of_ble_eq_true rfl), (Nat.le_of_ble_eq_true rfl)⟩ hl.1 rfl (Nat.le_of_ble_eq_true rfl) dX4_permit_106 ⟨(Nat.le_of_ble_eq_true rfl), (Nat.le_of_ble_eq_true rfl)⟩ (fun H locs hPH hZ hold hbs => ?_)
                      obtain ⟨q11, h⟩ := h
                      have hZ := hZ.addP hPH.1 hold hbq q11
                      obtain ⟨μ12, eμ12⟩ : ∃ z, z = zaddP np a1 a2 a3 a4 μ := ⟨_, rfl⟩
                      have h := h μ12 eμ12
                      rw [← eμ12] at hZ
                      refine W.eq (g2 := F0 m 109 ls [va_rf (zr (zadP np q ad) 80 (nI np)), .int (μ 30 0 8), .ref ((zadP np q ad) 33 0)]) (by rw [zr_nI (by omega)]; simp [zadP]) ?_
                      exact t_X4_permit_109 (l := l) hC hnx hst hr zagr_P _ _ _ _ _ _ _ _ _ _ _ h hZ (lv_sub hl [1, 0] rfl)
                    · have h := h.2 c9
                      exact z_throw_ise hC hnx hst hZ hl.1 zs_142 dX4_permit_75 dX4_permit_78 dX4_permit_79 dX4_permit_81 dX4_permit_84 (Nat.le_of_ble_eq_true rfl) (Nat.le_of_ble_eq_true rfl) (Nat.le_of_ble_eq_true rfl) (Nat.le_of_ble_eq_true rfl) (Nat.le_of_ble_eq_true rfl) (Nat.le_of_ble_eq_true rfl) h
                  · have h := h.2 c8
                    exact t_X4_permit_53 (l := l) hC hnx hst hr _ _ _ _  _ _ _ _ h hZ (lv_sub hl [] rfl)
          · have h := h.2 c4
            exact t_X4_permit_22 (l := l) hC hnx hst hr _ _ _ _  _ _ _ _ h hZ (lv_sub hl [] rfl)
  exact key
