theorem zy_L_scene : zYW yL_scene cL_scene 5 [(0, 10, 13, 13), (0, 10, 17, 15)] 4 := ⟨tin1 _ (List.mem_of_getElem? (i := 220) (by decide +kernel)), kini_L, tin1 _ (List.mem_of_getElem? (i := 221) rfl), by decide +kernel, by decide +kernel⟩
def w_L_scene (n np : Nat) (post : Int32 → Nat → Nat → Mem → Prop) (a1 : Int32) (a2 : Int32) (μ : Mem) : Prop := w_X4_scene n np (fun (r : Int32) (n2 np2 : Nat) (u : Mem) => post 0 n2 np2 (zst u 21 0 0 r)) (fun (E : String) (u : Mem) => (E = "java/lang/IllegalArgumentException" ∧ post 1 n np u) ∨ (E = "java/lang/IllegalStateException" ∧ post 2 n np u)) a1 a2 μ
set_option maxRecDepth 100000 in
set_option maxHeartbeats 4000000 in
theorem c_L_scene (l : Launch) (hst : l.stackTraces = false) {D : va_G} {ca : Nat → ClassId} {base : Nat} {ad : Nat → Nat → Nat} {n np : Nat} {μ : Mem} {post : Int32 → Nat → Nat → Mem → Prop} {a1 : Int32} {a2 : Int32} (h : w_L_scene n np post a1 a2 μ) : ZWMet l yL_scene cL_scene 5 [(0, 10, 13, 13), (0, 10, 17, 15)] ({ frames := 7, cells := 4, slots := 23, locals := 106 } : Room) 4 23 D ca base ad n np [.ref (ad 30 0), .int a1, .int a2, .ref (ad 21 0)] μ post := by
  unfold ZWMet
  refine vx_ofWH (cc := cL_scene) (maxL := 5) (ret := (some FieldType.int)) (hh := [(0, 10, 13, 13), (0, 10, 17, 15)]) (by decide) rfl ?_
  intro p e s m args below meth c s₁ B hml hv
  obtain ⟨rfl, hU⟩ := hv
  have hZ := hU.toS
  have hC : ZC p m meth c s RL cL_scene 5 := ⟨B.exec, B.bytes, hml, findClass_of_methodNamed B.named, B.notSynchronized⟩
  have hr := B.returns
  have hxt := vx_table (x := yL_scene) B (hU.1.2.1.use (([.ref (ad 30 0), .int a1, .int a2, .ref (ad 21 0)] : List Value).toArray) zy_L_scene.2.2.1 rfl)
  have key : W p l e ({ frames := 7, cells := 4, slots := 23, locals := 106 } : Room) s m (([.ref (ad 30 0), .int a1, .int a2, .ref (ad 21 0)] : List Value).toArray) below meth c s.heap [] 0 0 (vx_MQ below (ZQN D ca base ad post) (ZX D ca base ad n np (fun _ _ => False)) (([.ref (ad 30 0), .int a1, .int a2, .ref (ad 21 0)] : List Value).toArray) s 4 23 (zB base)) (entryFrame m (([.ref (ad 30 0), .int a1, .int a2, .ref (ad 21 0)] : List Value).toArray) 5) := by
    have hl := lv_entry ([.ref (ad 30 0), .int a1, .int a2, .ref (ad 21 0)]) (n := 5) (Nat.le_of_ble_eq_true rfl)
    rw [lg_entry_eq]
    generalize (lg_sl ([.ref (ad 30 0), .int a1, .int a2, .ref (ad 21 0)]) ++ List.replicate (5 - (lg_sl ([.ref (ad 30 0), .int a1, .int a2, .ref (ad 21 0)])).length) Slot.unset).toArray = ls at hl ⊢
    have hl : lv_has ls 5 [(0, .ref (ad 30 0)), (1, .int a1), (2, .int a2), (3, .ref (ad 21 0))] := hl
    unfold w_L_scene at h
    refine lv_aload_n hC.1 hC.2.1 dL_scene_0 rfl (lv_at hl 3 rfl) ?_
    refine lv_iconst (v := 0) hC.1 hC.2.1 dL_scene_1 (by decide) ?_
    refine lv_aload_n hC.1 hC.2.1 dL_scene_2 rfl (lv_at hl 0 rfl) ?_
    refine lv_iload_n hC.1 hC.2.1 dL_scene_3 rfl (lv_at hl 1 rfl) ?_
    refine lv_iload_n hC.1 hC.2.1 dL_scene_4 rfl (lv_at hl 2 rfl) ?_
    refine z_callVN (As := [.int a1, .int a2]) hC hZ (zF_30 _) rfl zy_X4_scene (c_X4_scene l hst h) km_L_7 rfl ⟨rfl, rfl⟩ ⟨(Nat.le_of_ble_eq_true rfl), (Nat.le_of_ble_eq_true rfl)⟩ hl.1 rfl (Nat.le_of_ble_eq_true rfl) dL_scene_5 ⟨(Nat.le_of_ble_eq_true rfl), (Nat.le_of_ble_eq_true rfl)⟩ (fun E ce q9 u H locs h hZ hce hcv hcl => ?_) (fun r n2 np2 ad2 u H locs h hag hZ => ?_)
    · rcases h with ⟨rfl, h⟩ | ⟨rfl, h⟩
      · refine z_catch hC hZ [] (⟨0, 10, 13, 13⟩ : ExceptionTableEntry) [(⟨0, 10, 17, 15⟩ : ExceptionTableEntry)] hxt (fun z hz => absurd hz List.not_mem_nil) (by decide) (by decide) kc_L_13 kcast_13 hce hcv hcl ?_
        refine lv_astore (lv' := [(4, .ref q9), (0, .ref (ad 30 0)), (1, .int a1), (2, .int a2), (3, .ref (ad 21 0))]) hC.1 hC.2.1 dL_scene_13 hl (by decide) rfl (fun ls hl => ?_)
        refine lv_iconst (v := 1) hC.1 hC.2.1 dL_scene_15 (by decide) ?_
        exact vx_ret (z_nret hC hr hZ (fun _ _ _ => rfl) h dL_scene_16 (Nat.le_of_ble_eq_true rfl) (Nat.le_of_ble_eq_true rfl))
      · refine z_catch hC hZ [(⟨0, 10, 13, 13⟩ : ExceptionTableEntry)] (⟨0, 10, 17, 15⟩ : ExceptionTableEntry) [] hxt (fun z hz => by rw [List.mem_singleton.mp hz]; exact ⟨(by decide), _, kc_L_13, znc_15_13⟩) (by decide) (by decide) kc_L_15 kcast_15 hce hcv hcl ?_
        refine lv_astore (lv' := [(4, .ref q9), (0, .ref (ad 30 0)), (1, .int a1), (2, .int a2), (3, .ref (ad 21 0))]) hC.1 hC.2.1 dL_scene_17 hl (by decide) rfl (fun ls hl => ?_)
        refine lv_iconst (v := 2) hC.1 hC.2.1 dL_scene_19 (by decide) ?_
        exact vx_ret (z_nret hC hr hZ (fun _ _ _ => rfl) h dL_scene_20 (Nat.le_of_ble_eq_true rfl) (Nat.le_of_ble_eq_true rfl))
    · refine lv_i2l hC.1 hC.2.1 dL_scene_8 rfl ?_
      rw [show ad 21 0 = ad2 21 0 from (hag 21 0 (by decide)).symm]
      refine aS_21 hC hZ z01 dL_scene_9 (fun μ1 H locs eμ hZ => ?_)
      refine lv_goto (tgt := 21) hC.1 hC.2.1 dL_scene_10 (by decide) ?_
      refine lv_iconst (v := 0) hC.1 hC.2.1 dL_scene_21 (by decide) ?_
      rw [show ((0 : Int32).toNatClampNeg) = 0 from rfl] at eμ
      subst eμ
      exact vx_ret (z_nret hC hr hZ hag h dL_scene_22 (Nat.le_of_ble_eq_true rfl) (Nat.le_of_ble_eq_true rfl))
  exact key
theorem zy_L_plays : zYW yL_plays cL_plays 6 [(0, 12, 15, 21), (0, 12, 19, 13), (0, 12, 23, 15)] 5 := ⟨tin2 _ (List.mem_of_getElem? (i := 123) (by decide +kernel)), kini_L, tin2 _ (List.mem_of_getElem? (i := 124) rfl), by decide +kernel, by decide +kernel⟩
def w_L_plays (n np : Nat) (post : Int32 → Nat → Nat → Mem → Prop) (a1 : Int32) (a2 : Int32) (a3 : Int32) (μ : Mem) : Prop := w_X4_plays n np (fun (r : Int32) (u : Mem) => post 0 n np (zst u 21 0 0 r)) (fun (E : String) (u : Mem) => (E = "java/lang/IndexOutOfBoundsException" ∧ post 1 n np u) ∨ (E = "java/lang/IllegalArgumentException" ∧ post 2 n np u) ∨ (E = "java/lang/IllegalStateException" ∧ post 3 n np u)) a1 a2 a3 μ
set_option maxRecDepth 100000 in
set_option maxHeartbeats 4000000 in
theorem c_L_plays (l : Launch) (hst : l.stackTraces = false) {D : va_G} {ca : Nat → ClassId} {base : Nat} {ad : Nat → Nat → Nat} {n np : Nat} {μ : Mem} {post : Int32 → Nat → Nat → Mem → Prop} {a1 : Int32} {a2 : Int32} {a3 : Int32} (h : w_L_plays n np post a1 a2 a3 μ) : ZWMet l yL_plays cL_plays 6 [(0, 12, 15, 21), (0, 12, 19, 13), (0, 12, 23, 15)] ({ frames := 8, cells := 3, slots := 18, locals := 127 } : Room) 3 18 D ca base ad n np [.ref (ad 30 0), .int a1, .int a2, .int a3, .ref (ad 21 0)] μ post := by
  unfold ZWMet
  refine vx_ofWH (cc := cL_plays) (maxL := 6) (ret := (some FieldType.int)) (hh := [(0, 12, 15, 21), (0, 12, 19, 13), (0, 12, 23, 15)]) (by decide) rfl ?_
  intro p e s m args below meth c s₁ B hml hv
  obtain ⟨rfl, hU⟩ := hv
  have hZ := hU.toS
  have hC : ZC p m meth c s RL cL_plays 6 := ⟨B.exec, B.bytes, hml, findClass_of_methodNamed B.named, B.notSynchronized⟩
  have hr := B.returns
  have hxt := vx_table (x := yL_plays) B (hU.1.2.1.use (([.ref (ad 30 0), .int a1, .int a2, .int a3, .ref (ad 21 0)] : List Value).toArray) zy_L_plays.2.2.1 rfl)
  have key : W p l e ({ frames := 8, cells := 3, slots := 18, locals := 127 } : Room) s m (([.ref (ad 30 0), .int a1, .int a2, .int a3, .ref (ad 21 0)] : List Value).toArray) below meth c s.heap [] 0 0 (vx_MQ below (ZQN D ca base ad post) (ZX D ca base ad n np (fun _ _ => False)) (([.ref (ad 30 0), .int a1, .int a2, .int a3, .ref (ad 21 0)] : List Value).toArray) s 3 18 (zB base)) (entryFrame m (([.ref (ad 30 0), .int a1, .int a2, .int a3, .ref (ad 21 0)] : List Value).toArray) 6) := by
    have hl := lv_entry ([.ref (ad 30 0), .int a1, .int a2, .int a3, .ref (ad 21 0)]) (n := 6) (Nat.le_of_ble_eq_true rfl)
    rw [lg_entry_eq]
    generalize (lg_sl ([.ref (ad 30 0), .int a1, .int a2, .int a3, .ref (ad 21 0)]) ++ List.replicate (6 - (lg_sl ([.ref (ad 30 0), .int a1, .int a2, .int a3, .ref (ad 21 0)])).length) Slot.unset).toArray = ls at hl ⊢
    have hl : lv_has ls 6 [(0, .ref (ad 30 0)), (1, .int a1), (2, .int a2), (3, .int a3), (4, .ref (ad 21 0))] := hl
    unfold w_L_plays at h
    refine lv_aload hC.1 hC.2.1 dL_plays_0 (lv_at hl 4 rfl) ?_
    refine lv_iconst (v := 0) hC.1 hC.2.1 dL_plays_2 (by decide) ?_
    refine lv_aload_n hC.1 hC.2.1 dL_plays_3 rfl (lv_at hl 0 rfl) ?_
    refine lv_iload_n hC.1 hC.2.1 dL_plays_4 rfl (lv_at hl 1 rfl) ?_
    refine lv_iload_n hC.1 hC.2.1 dL_plays_5 rfl (lv_at hl 2 rfl) ?_
    refine lv_iload_n hC.1 hC.2.1 dL_plays_6 rfl (lv_at hl 3 rfl) ?_
    refine z_cVXi (As := [.int a1, .int a2, .int a3]) hC hZ (zF_30 _) rfl zy_X4_plays (c_X4_plays l hst h) km_L_17 rfl ⟨rfl, rfl⟩ ⟨(Nat.le_of_ble_eq_true rfl), (Nat.le_of_ble_eq_true rfl)⟩ hl.1 rfl (Nat.le_of_ble_eq_true rfl) dL_plays_7 ⟨(Nat.le_of_ble_eq_true rfl), (Nat.le_of_ble_eq_true rfl)⟩ (fun E ce q9 u H locs h hZ hce hcv hcl => ?_) (fun r u H locs h hZ => ?_)
    · rcases h with ⟨rfl, h⟩ | ⟨rfl, h⟩ | ⟨rfl, h⟩
      · refine z_catch hC hZ [] (⟨0, 12, 15, 21⟩ : ExceptionTableEntry) [(⟨0, 12, 19, 13⟩ : ExceptionTableEntry), (⟨0, 12, 23, 15⟩ : ExceptionTableEntry)] hxt (fun z hz => absurd hz List.not_mem_nil) (by decide) (by decide) kc_L_21 kcast_21 hce hcv hcl ?_
        refine lv_astore (lv' := [(5, .ref q9), (0, .ref (ad 30 0)), (1, .int a1), (2, .int a2), (3, .int a3), (4, .ref (ad 21 0))]) hC.1 hC.2.1 dL_plays_15 hl (by decide) rfl (fun ls hl => ?_)
        refine lv_iconst (v := 1) hC.1 hC.2.1 dL_plays_17 (by decide) ?_
        exact vx_ret (z_nret hC hr hZ (fun _ _ _ => rfl) h dL_plays_18 (Nat.le_of_ble_eq_true rfl) (Nat.le_of_ble_eq_true rfl))
      · refine z_catch hC hZ [(⟨0, 12, 15, 21⟩ : ExceptionTableEntry)] (⟨0, 12, 19, 13⟩ : ExceptionTableEntry) [(⟨0, 12, 23, 15⟩ : ExceptionTableEntry)] hxt (fun z hz => by rw [List.mem_singleton.mp hz]; exact ⟨(by decide), _, kc_L_21, znc_13_21⟩) (by decide) (by decide) kc_L_13 kcast_13 hce hcv hcl ?_
        refine lv_astore (lv' := [(5, .ref q9), (0, .ref (ad 30 0)), (1, .int a1), (2, .int a2), (3, .int a3), (4, .ref (ad 21 0))]) hC.1 hC.2.1 dL_plays_19 hl (by decide) rfl (fun ls hl => ?_)
        refine lv_iconst (v := 2) hC.1 hC.2.1 dL_plays_21 (by decide) ?_
        exact vx_ret (z_nret hC hr hZ (fun _ _ _ => rfl) h dL_plays_22 (Nat.le_of_ble_eq_true rfl) (Nat.le_of_ble_eq_true rfl))
      · refine z_catch hC hZ [(⟨0, 12, 15, 21⟩ : ExceptionTableEntry), (⟨0, 12, 19, 13⟩ : ExceptionTableEntry)] (⟨0, 12, 23, 15⟩ : ExceptionTableEntry) [] hxt (fun z hz => by rcases List.mem_cons.mp hz with rfl | hz; exact ⟨(by decide), _, kc_L_21, znc_15_21⟩; rw [List.mem_singleton.mp hz]; exact ⟨(by decide), _, kc_L_13, znc_15_13⟩) (by decide) (by decide) kc_L_15 kcast_15 hce hcv hcl ?_
        refine lv_astore (lv' := [(5, .ref q9), (0, .ref (ad 30 0)), (1, .int a1), (2, .int a2), (3, .int a3), (4, .ref (ad 21 0))]) hC.1 hC.2.1 dL_plays_23 hl (by decide) rfl (fun ls hl => ?_)
        refine lv_iconst (v := 3) hC.1 hC.2.1 dL_plays_25 (by decide) ?_
        exact vx_ret (z_nret hC hr hZ (fun _ _ _ => rfl) h dL_plays_26 (Nat.le_of_ble_eq_true rfl) (Nat.le_of_ble_eq_true rfl))
    · refine lv_i2l hC.1 hC.2.1 dL_plays_10 rfl ?_
      refine aS_21 hC hZ z01 dL_plays_11 (fun μ1 H locs eμ hZ => ?_)
      refine lv_goto (tgt := 27) hC.1 hC.2.1 dL_plays_12 (by decide) ?_
      refine lv_iconst (v := 0) hC.1 hC.2.1 dL_plays_27 (by decide) ?_
      rw [show ((0 : Int32).toNatClampNeg) = 0 from rfl] at eμ
      subst eμ
      exact vx_ret (z_nret hC hr hZ (fun _ _ _ => rfl) h dL_plays_28 (Nat.le_of_ble_eq_true rfl) (Nat.le_of_ble_eq_true rfl))
  exact key
theorem zy_L_uses : zYW yL_uses cL_uses 7 [(0, 14, 17, 21), (0, 14, 21, 13), (0, 14, 25, 15)] 6 := ⟨tin2 _ (List.mem_of_getElem? (i := 164) (by decide +kernel)), kini_L, tin2 _ (List.mem_of_getElem? (i := 165) rfl), by decide +kernel, by decide +kernel⟩
def w_L_uses (n np : Nat) (post : Int32 → Nat → Nat → Mem → Prop) (a1 : Int32) (a2 : Int32) (a3 : Int32) (a4 : Int32) (μ : Mem) : Prop := w_X4_uses n np (fun (r : Int32) (u : Mem) => post 0 n np (zst u 21 0 0 r)) (fun (E : String) (u : Mem) => (E = "java/lang/IndexOutOfBoundsException" ∧ post 1 n np u) ∨ (E = "java/lang/IllegalArgumentException" ∧ post 2 n np u) ∨ (E = "java/lang/IllegalStateException" ∧ post 3 n np u)) a1 a2 a3 a4 μ
set_option maxRecDepth 100000 in
set_option maxHeartbeats 4000000 in
theorem c_L_uses (l : Launch) (hst : l.stackTraces = false) {D : va_G} {ca : Nat → ClassId} {base : Nat} {ad : Nat → Nat → Nat} {n np : Nat} {μ : Mem} {post : Int32 → Nat → Nat → Mem → Prop} {a1 : Int32} {a2 : Int32} {a3 : Int32} {a4 : Int32} (h : w_L_uses n np post a1 a2 a3 a4 μ) : ZWMet l yL_uses cL_uses 7 [(0, 14, 17, 21), (0, 14, 21, 13), (0, 14, 25, 15)] ({ frames := 8, cells := 4, slots := 24, locals := 128 } : Room) 4 24 D ca base ad n np [.ref (ad 30 0), .int a1, .int a2, .int a3, .int a4, .ref (ad 21 0)] μ post := by
  unfold ZWMet
  refine vx_ofWH (cc := cL_uses) (maxL := 7) (ret := (some FieldType.int)) (hh := [(0, 14, 17, 21), (0, 14, 21, 13), (0, 14, 25, 15)]) (by decide) rfl ?_
  intro p e s m args below meth c s₁ B hml hv
  obtain ⟨rfl, hU⟩ := hv
  have hZ := hU.toS
  have hC : ZC p m meth c s RL cL_uses 7 := ⟨B.exec, B.bytes, hml, findClass_of_methodNamed B.named, B.notSynchronized⟩
  have hr := B.returns
  have hxt := vx_table (x := yL_uses) B (hU.1.2.1.use (([.ref (ad 30 0), .int a1, .int a2, .int a3, .int a4, .ref (ad 21 0)] : List Value).toArray) zy_L_uses.2.2.1 rfl)
  have key : W p l e ({ frames := 8, cells := 4, slots := 24, locals := 128 } : Room) s m (([.ref (ad 30 0), .int a1, .int a2, .int a3, .int a4, .ref (ad 21 0)] : List Value).toArray) below meth c s.heap [] 0 0 (vx_MQ below (ZQN D ca base ad post) (ZX D ca base ad n np (fun _ _ => False)) (([.ref (ad 30 0), .int a1, .int a2, .int a3, .int a4, .ref (ad 21 0)] : List Value).toArray) s 4 24 (zB base)) (entryFrame m (([.ref (ad 30 0), .int a1, .int a2, .int a3, .int a4, .ref (ad 21 0)] : List Value).toArray) 7) := by
    have hl := lv_entry ([.ref (ad 30 0), .int a1, .int a2, .int a3, .int a4, .ref (ad 21 0)]) (n := 7) (Nat.le_of_ble_eq_true rfl)
    rw [lg_entry_eq]
    generalize (lg_sl ([.ref (ad 30 0), .int a1, .int a2, .int a3, .int a4, .ref (ad 21 0)]) ++ List.replicate (7 - (lg_sl ([.ref (ad 30 0), .int a1, .int a2, .int a3, .int a4, .ref (ad 21 0)])).length) Slot.unset).toArray = ls at hl ⊢
    have hl : lv_has ls 7 [(0, .ref (ad 30 0)), (1, .int a1), (2, .int a2), (3, .int a3), (4, .int a4), (5, .ref (ad 21 0))] := hl
    unfold w_L_uses at h
    refine lv_aload hC.1 hC.2.1 dL_uses_0 (lv_at hl 5 rfl) ?_
    refine lv_iconst (v := 0) hC.1 hC.2.1 dL_uses_2 (by decide) ?_
    refine lv_aload_n hC.1 hC.2.1 dL_uses_3 rfl (lv_at hl 0 rfl) ?_
    refine lv_iload_n hC.1 hC.2.1 dL_uses_4 rfl (lv_at hl 1 rfl) ?_
    refine lv_iload_n hC.1 hC.2.1 dL_uses_5 rfl (lv_at hl 2 rfl) ?_
    refine lv_iload_n hC.1 hC.2.1 dL_uses_6 rfl (lv_at hl 3 rfl) ?_
    refine lv_iload hC.1 hC.2.1 dL_uses_7 (lv_at hl 4 rfl) ?_
    refine z_cVXi (As := [.int a1, .int a2, .int a3, .int a4]) hC hZ (zF_30 _) rfl zy_X4_uses (c_X4_uses l hst h) km_L_23 rfl ⟨rfl, rfl⟩ ⟨(Nat.le_of_ble_eq_true rfl), (Nat.le_of_ble_eq_true rfl)⟩ hl.1 rfl (Nat.le_of_ble_eq_true rfl) dL_uses_9 ⟨(Nat.le_of_ble_eq_true rfl), (Nat.le_of_ble_eq_true rfl)⟩ (fun E ce q9 u H locs h hZ hce hcv hcl => ?_) (fun r u H locs h hZ => ?_)
    · rcases h with ⟨rfl, h⟩ | ⟨rfl, h⟩ | ⟨rfl, h⟩
      · refine z_catch hC hZ [] (⟨0, 14, 17, 21⟩ : ExceptionTableEntry) [(⟨0, 14, 21, 13⟩ : ExceptionTableEntry), (⟨0, 14, 25, 15⟩ : ExceptionTableEntry)] hxt (fun z hz => absurd hz List.not_mem_nil) (by decide) (by decide) kc_L_21 kcast_21 hce hcv hcl ?_
        refine lv_astore (lv' := [(6, .ref q9), (0, .ref (ad 30 0)), (1, .int a1), (2, .int a2), (3, .int a3), (4, .int a4), (5, .ref (ad 21 0))]) hC.1 hC.2.1 dL_uses_17 hl (by decide) rfl (fun ls hl => ?_)
        refine lv_iconst (v := 1) hC.1 hC.2.1 dL_uses_19 (by decide) ?_
        exact vx_ret (z_nret hC hr hZ (fun _ _ _ => rfl) h dL_uses_20 (Nat.le_of_ble_eq_true rfl) (Nat.le_of_ble_eq_true rfl))
      · refine z_catch hC hZ [(⟨0, 14, 17, 21⟩ : ExceptionTableEntry)] (⟨0, 14, 21, 13⟩ : ExceptionTableEntry) [(⟨0, 14, 25, 15⟩ : ExceptionTableEntry)] hxt (fun z hz => by rw [List.mem_singleton.mp hz]; exact ⟨(by decide), _, kc_L_21, znc_13_21⟩) (by decide) (by decide) kc_L_13 kcast_13 hce hcv hcl ?_
        refine lv_astore (lv' := [(6, .ref q9), (0, .ref (ad 30 0)), (1, .int a1), (2, .int a2), (3, .int a3), (4, .int a4), (5, .ref (ad 21 0))]) hC.1 hC.2.1 dL_uses_21 hl (by decide) rfl (fun ls hl => ?_)
        refine lv_iconst (v := 2) hC.1 hC.2.1 dL_uses_23 (by decide) ?_
        exact vx_ret (z_nret hC hr hZ (fun _ _ _ => rfl) h dL_uses_24 (Nat.le_of_ble_eq_true rfl) (Nat.le_of_ble_eq_true rfl))
      · refine z_catch hC hZ [(⟨0, 14, 17, 21⟩ : ExceptionTableEntry), (⟨0, 14, 21, 13⟩ : ExceptionTableEntry)] (⟨0, 14, 25, 15⟩ : ExceptionTableEntry) [] hxt (fun z hz => by rcases List.mem_cons.mp hz with rfl | hz; exact ⟨(by decide), _, kc_L_21, znc_15_21⟩; rw [List.mem_singleton.mp hz]; exact ⟨(by decide), _, kc_L_13, znc_15_13⟩) (by decide) (by decide) kc_L_15 kcast_15 hce hcv hcl ?_
        refine lv_astore (lv' := [(6, .ref q9), (0, .ref (ad 30 0)), (1, .int a1), (2, .int a2), (3, .int a3), (4, .int a4), (5, .ref (ad 21 0))]) hC.1 hC.2.1 dL_uses_25 hl (by decide) rfl (fun ls hl => ?_)
        refine lv_iconst (v := 3) hC.1 hC.2.1 dL_uses_27 (by decide) ?_
        exact vx_ret (z_nret hC hr hZ (fun _ _ _ => rfl) h dL_uses_28 (Nat.le_of_ble_eq_true rfl) (Nat.le_of_ble_eq_true rfl))
    · refine lv_i2l hC.1 hC.2.1 dL_uses_12 rfl ?_
      refine aS_21 hC hZ z01 dL_uses_13 (fun μ1 H locs eμ hZ => ?_)
      refine lv_goto (tgt := 29) hC.1 hC.2.1 dL_uses_14 (by decide) ?_
      refine lv_iconst (v := 0) hC.1 hC.2.1 dL_uses_29 (by decide) ?_
      rw [show ((0 : Int32).toNatClampNeg) = 0 from rfl] at eμ
      subst eμ
      exact vx_ret (z_nret hC hr hZ (fun _ _ _ => rfl) h dL_uses_30 (Nat.le_of_ble_eq_true rfl) (Nat.le_of_ble_eq_true rfl))
  exact key
theorem zy_L_cut : zYW yL_cut cL_cut 4 [(0, 9, 12, 21), (0, 9, 15, 15)] 3 := ⟨tin2 _ (List.mem_of_getElem? (i := 189) (by decide +kernel)), kini_L, tin2 _ (List.mem_of_getElem? (i := 190) rfl), by decide +kernel, by decide +kernel⟩
def w_L_cut (n np : Nat) (post : Int32 → Nat → Nat → Mem → Prop) (a1 : Int32) (μ : Mem) : Prop := w_X4_cut n np (fun (r : Int32) (u : Mem) => post 0 n np (zst u 21 0 0 r)) (fun (E : String) (u : Mem) => (E = "java/lang/IndexOutOfBoundsException" ∧ post 1 n np u) ∨ (E = "java/lang/IllegalStateException" ∧ post 2 n np u)) a1 μ
set_option maxRecDepth 100000 in
set_option maxHeartbeats 4000000 in
theorem c_L_cut (l : Launch) (hst : l.stackTraces = false) {D : va_G} {ca : Nat → ClassId} {base : Nat} {ad : Nat → Nat → Nat} {n np : Nat} {μ : Mem} {post : Int32 → Nat → Nat → Mem → Prop} {a1 : Int32} (h : w_L_cut n np post a1 μ) : ZWMet l yL_cut cL_cut 4 [(0, 9, 12, 21), (0, 9, 15, 15)] ({ frames := 8, cells := 2, slots := 12, locals := 126 } : Room) 2 12 D ca base ad n np [.ref (ad 30 0), .int a1, .ref (ad 21 0)] μ post := by
  unfold ZWMet
  refine vx_ofWH (cc := cL_cut) (maxL := 4) (ret := (some FieldType.int)) (hh := [(0, 9, 12, 21), (0, 9, 15, 15)]) (by decide) rfl ?_
  intro p e s m args below meth c s₁ B hml hv
  obtain ⟨rfl, hU⟩ := hv
  have hZ := hU.toS
  have hC : ZC p m meth c s RL cL_cut 4 := ⟨B.exec, B.bytes, hml, findClass_of_methodNamed B.named, B.notSynchronized⟩
  have hr := B.returns
  have hxt := vx_table (x := yL_cut) B (hU.1.2.1.use (([.ref (ad 30 0), .int a1, .ref (ad 21 0)] : List Value).toArray) zy_L_cut.2.2.1 rfl)
  have key : W p l e ({ frames := 8, cells := 2, slots := 12, locals := 126 } : Room) s m (([.ref (ad 30 0), .int a1, .ref (ad 21 0)] : List Value).toArray) below meth c s.heap [] 0 0 (vx_MQ below (ZQN D ca base ad post) (ZX D ca base ad n np (fun _ _ => False)) (([.ref (ad 30 0), .int a1, .ref (ad 21 0)] : List Value).toArray) s 2 12 (zB base)) (entryFrame m (([.ref (ad 30 0), .int a1, .ref (ad 21 0)] : List Value).toArray) 4) := by
    have hl := lv_entry ([.ref (ad 30 0), .int a1, .ref (ad 21 0)]) (n := 4) (Nat.le_of_ble_eq_true rfl)
    rw [lg_entry_eq]
    generalize (lg_sl ([.ref (ad 30 0), .int a1, .ref (ad 21 0)]) ++ List.replicate (4 - (lg_sl ([.ref (ad 30 0), .int a1, .ref (ad 21 0)])).length) Slot.unset).toArray = ls at hl ⊢
    have hl : lv_has ls 4 [(0, .ref (ad 30 0)), (1, .int a1), (2, .ref (ad 21 0))] := hl
    unfold w_L_cut at h
    refine lv_aload_n hC.1 hC.2.1 dL_cut_0 rfl (lv_at hl 2 rfl) ?_
    refine lv_iconst (v := 0) hC.1 hC.2.1 dL_cut_1 (by decide) ?_
    refine lv_aload_n hC.1 hC.2.1 dL_cut_2 rfl (lv_at hl 0 rfl) ?_
    refine lv_iload_n hC.1 hC.2.1 dL_cut_3 rfl (lv_at hl 1 rfl) ?_
    refine z_cVXi (As := [.int a1]) hC hZ (zF_30 _) rfl zy_X4_cut (c_X4_cut l hst h) km_L_27 rfl ⟨rfl, rfl⟩ ⟨(Nat.le_of_ble_eq_true rfl), (Nat.le_of_ble_eq_true rfl)⟩ hl.1 rfl (Nat.le_of_ble_eq_true rfl) dL_cut_4 ⟨(Nat.le_of_ble_eq_true rfl), (Nat.le_of_ble_eq_true rfl)⟩ (fun E ce q9 u H locs h hZ hce hcv hcl => ?_) (fun r u H locs h hZ => ?_)
    · rcases h with ⟨rfl, h⟩ | ⟨rfl, h⟩
      · refine z_catch hC hZ [] (⟨0, 9, 12, 21⟩ : ExceptionTableEntry) [(⟨0, 9, 15, 15⟩ : ExceptionTableEntry)] hxt (fun z hz => absurd hz List.not_mem_nil) (by decide) (by decide) kc_L_21 kcast_21 hce hcv hcl ?_
        refine lv_astore_n (lv' := [(3, .ref q9), (0, .ref (ad 30 0)), (1, .int a1), (2, .ref (ad 21 0))]) hC.1 hC.2.1 dL_cut_12 rfl hl (by decide) rfl (fun ls hl => ?_)
        refine lv_iconst (v := 1) hC.1 hC.2.1 dL_cut_13 (by decide) ?_
        exact vx_ret (z_nret hC hr hZ (fun _ _ _ => rfl) h dL_cut_14 (Nat.le_of_ble_eq_true rfl) (Nat.le_of_ble_eq_true rfl))
      · refine z_catch hC hZ [(⟨0, 9, 12, 21⟩ : ExceptionTableEntry)] (⟨0, 9, 15, 15⟩ : ExceptionTableEntry) [] hxt (fun z hz => by rw [List.mem_singleton.mp hz]; exact ⟨(by decide), _, kc_L_21, znc_15_21⟩) (by decide) (by decide) kc_L_15 kcast_15 hce hcv hcl ?_
        refine lv_astore_n (lv' := [(3, .ref q9), (0, .ref (ad 30 0)), (1, .int a1), (2, .ref (ad 21 0))]) hC.1 hC.2.1 dL_cut_15 rfl hl (by decide) rfl (fun ls hl => ?_)
        refine lv_iconst (v := 2) hC.1 hC.2.1 dL_cut_16 (by decide) ?_
        exact vx_ret (z_nret hC hr hZ (fun _ _ _ => rfl) h dL_cut_17 (Nat.le_of_ble_eq_true rfl) (Nat.le_of_ble_eq_true rfl))
    · refine lv_i2l hC.1 hC.2.1 dL_cut_7 rfl ?_
      refine aS_21 hC hZ z01 dL_cut_8 (fun μ1 H locs eμ hZ => ?_)
      refine lv_goto (tgt := 18) hC.1 hC.2.1 dL_cut_9 (by decide) ?_
      refine lv_iconst (v := 0) hC.1 hC.2.1 dL_cut_18 (by decide) ?_
      rw [show ((0 : Int32).toNatClampNeg) = 0 from rfl] at eμ
      subst eμ
      exact vx_ret (z_nret hC hr hZ (fun _ _ _ => rfl) h dL_cut_19 (Nat.le_of_ble_eq_true rfl) (Nat.le_of_ble_eq_true rfl))
  exact key
theorem zy_L_swap : zYW yL_swap cL_swap 5 [(0, 10, 13, 13)] 4 := ⟨tin2 _ (List.mem_of_getElem? (i := 203) (by decide +kernel)), kini_L, tin2 _ (List.mem_of_getElem? (i := 204) rfl), by decide +kernel, by decide +kernel⟩
def w_L_swap (n np : Nat) (post : Int32 → Nat → Nat → Mem → Prop) (a1 : Int32) (a2 : Int32) (μ : Mem) : Prop := w_X4_swap n np (fun (r : Int32) (u : Mem) => post 0 n np (zst u 21 0 0 r)) (fun (E : String) (u : Mem) => (E = "java/lang/IllegalArgumentException" ∧ post 1 n np u)) a1 a2 μ
set_option maxRecDepth 100000 in
set_option maxHeartbeats 4000000 in
theorem c_L_swap (l : Launch) (hst : l.stackTraces = false) {D : va_G} {ca : Nat → ClassId} {base : Nat} {ad : Nat → Nat → Nat} {n np : Nat} {μ : Mem} {post : Int32 → Nat → Nat → Mem → Prop} {a1 : Int32} {a2 : Int32} (h : w_L_swap n np post a1 a2 μ) : ZWMet l yL_swap cL_swap 5 [(0, 10, 13, 13)] ({ frames := 7, cells := 1, slots := 6, locals := 116 } : Room) 1 6 D ca base ad n np [.ref (ad 30 0), .int a1, .int a2, .ref (ad 21 0)] μ post := by
  unfold ZWMet
  refine vx_ofWH (cc := cL_swap) (maxL := 5) (ret := (some FieldType.int)) (hh := [(0, 10, 13, 13)]) (by decide) rfl ?_
  intro p e s m args below meth c s₁ B hml hv
  obtain ⟨rfl, hU⟩ := hv
  have hZ := hU.toS
  have hC : ZC p m meth c s RL cL_swap 5 := ⟨B.exec, B.bytes, hml, findClass_of_methodNamed B.named, B.notSynchronized⟩
  have hr := B.returns
  have hxt := vx_table (x := yL_swap) B (hU.1.2.1.use (([.ref (ad 30 0), .int a1, .int a2, .ref (ad 21 0)] : List Value).toArray) zy_L_swap.2.2.1 rfl)
  have key : W p l e ({ frames := 7, cells := 1, slots := 6, locals := 116 } : Room) s m (([.ref (ad 30 0), .int a1, .int a2, .ref (ad 21 0)] : List Value).toArray) below meth c s.heap [] 0 0 (vx_MQ below (ZQN D ca base ad post) (ZX D ca base ad n np (fun _ _ => False)) (([.ref (ad 30 0), .int a1, .int a2, .ref (ad 21 0)] : List Value).toArray) s 1 6 (zB base)) (entryFrame m (([.ref (ad 30 0), .int a1, .int a2, .ref (ad 21 0)] : List Value).toArray) 5) := by
    have hl := lv_entry ([.ref (ad 30 0), .int a1, .int a2, .ref (ad 21 0)]) (n := 5) (Nat.le_of_ble_eq_true rfl)
    rw [lg_entry_eq]
    generalize (lg_sl ([.ref (ad 30 0), .int a1, .int a2, .ref (ad 21 0)]) ++ List.replicate (5 - (lg_sl ([.ref (ad 30 0), .int a1, .int a2, .ref (ad 21 0)])).length) Slot.unset).toArray = ls at hl ⊢
    have hl : lv_has ls 5 [(0, .ref (ad 30 0)), (1, .int a1), (2, .int a2), (3, .ref (ad 21 0))] := hl
    unfold w_L_swap at h
    refine lv_aload_n hC.1 hC.2.1 dL_swap_0 rfl (lv_at hl 3 rfl) ?_
    refine lv_iconst (v := 0) hC.1 hC.2.1 dL_swap_1 (by decide) ?_
    refine lv_aload_n hC.1 hC.2.1 dL_swap_2 rfl (lv_at hl 0 rfl) ?_
    refine lv_iload_n hC.1 hC.2.1 dL_swap_3 rfl (lv_at hl 1 rfl) ?_
    refine lv_iload_n hC.1 hC.2.1 dL_swap_4 rfl (lv_at hl 2 rfl) ?_
    refine z_cVXi (As := [.int a1, .int a2]) hC hZ (zF_30 _) rfl zy_X4_swap (c_X4_swap l hst h) km_L_31 rfl ⟨rfl, rfl⟩ ⟨(Nat.le_of_ble_eq_true rfl), (Nat.le_of_ble_eq_true rfl)⟩ hl.1 rfl (Nat.le_of_ble_eq_true rfl) dL_swap_5 ⟨(Nat.le_of_ble_eq_true rfl), (Nat.le_of_ble_eq_true rfl)⟩ (fun E ce q9 u H locs h hZ hce hcv hcl => ?_) (fun r u H locs h hZ => ?_)
    · obtain ⟨rfl, h⟩ := h
      refine z_catch hC hZ [] (⟨0, 10, 13, 13⟩ : ExceptionTableEntry) [] hxt (fun z hz => absurd hz List.not_mem_nil) (by decide) (by decide) kc_L_13 kcast_13 hce hcv hcl ?_
      refine lv_astore (lv' := [(4, .ref q9), (0, .ref (ad 30 0)), (1, .int a1), (2, .int a2), (3, .ref (ad 21 0))]) hC.1 hC.2.1 dL_swap_13 hl (by decide) rfl (fun ls hl => ?_)
      refine lv_iconst (v := 1) hC.1 hC.2.1 dL_swap_15 (by decide) ?_
      exact vx_ret (z_nret hC hr hZ (fun _ _ _ => rfl) h dL_swap_16 (Nat.le_of_ble_eq_true rfl) (Nat.le_of_ble_eq_true rfl))
    · refine lv_i2l hC.1 hC.2.1 dL_swap_8 rfl ?_
      refine aS_21 hC hZ z01 dL_swap_9 (fun μ1 H locs eμ hZ => ?_)
      refine lv_goto (tgt := 17) hC.1 hC.2.1 dL_swap_10 (by decide) ?_
      refine lv_iconst (v := 0) hC.1 hC.2.1 dL_swap_17 (by decide) ?_
      rw [show ((0 : Int32).toNatClampNeg) = 0 from rfl] at eμ
      subst eμ
      exact vx_ret (z_nret hC hr hZ (fun _ _ _ => rfl) h dL_swap_18 (Nat.le_of_ble_eq_true rfl) (Nat.le_of_ble_eq_true rfl))
  exact key
theorem zy_L_permit : zYW yL_permit cL_permit 7 [(0, 14, 17, 13), (0, 14, 21, 15)] 6 := ⟨tin2 _ (List.mem_of_getElem? (i := 211) (by decide +kernel)), kini_L, tin2 _ (List.mem_of_getElem? (i := 212) rfl), by decide +kernel, by decide +kernel⟩
def w_L_permit (n np : Nat) (post : Int32 → Nat → Nat → Mem → Prop) (a1 : Int32) (a2 : Int32) (a3 : Int32) (a4 : Int32) (μ : Mem) : Prop := w_X4_permit n np (fun (r : Int32) (n2 np2 : Nat) (u : Mem) => post 0 n2 np2 (zst u 21 0 0 r)) (fun (E : String) (u : Mem) => (E = "java/lang/IllegalArgumentException" ∧ post 1 n np u) ∨ (E = "java/lang/IllegalStateException" ∧ post 2 n np u)) a1 a2 a3 a4 μ
set_option maxRecDepth 100000 in
set_option maxHeartbeats 4000000 in
theorem c_L_permit (l : Launch) (hst : l.stackTraces = false) {D : va_G} {ca : Nat → ClassId} {base : Nat} {ad : Nat → Nat → Nat} {n np : Nat} {μ : Mem} {post : Int32 → Nat → Nat → Mem → Prop} {a1 : Int32} {a2 : Int32} {a3 : Int32} {a4 : Int32} (h : w_L_permit n np post a1 a2 a3 a4 μ) : ZWMet l yL_permit cL_permit 7 [(0, 14, 17, 13), (0, 14, 21, 15)] ({ frames := 7, cells := 1, slots := 6, locals := 107 } : Room) 1 6 D ca base ad n np [.ref (ad 30 0), .int a1, .int a2, .int a3, .int a4, .ref (ad 21 0)] μ post := by
  unfold ZWMet
  refine vx_ofWH (cc := cL_permit) (maxL := 7) (ret := (some FieldType.int)) (hh := [(0, 14, 17, 13), (0, 14, 21, 15)]) (by decide) rfl ?_
  intro p e s m args below meth c s₁ B hml hv
  obtain ⟨rfl, hU⟩ := hv
  have hZ := hU.toS
  have hC : ZC p m meth c s RL cL_permit 7 := ⟨B.exec, B.bytes, hml, findClass_of_methodNamed B.named, B.notSynchronized⟩
  have hr := B.returns
  have hxt := vx_table (x := yL_permit) B (hU.1.2.1.use (([.ref (ad 30 0), .int a1, .int a2, .int a3, .int a4, .ref (ad 21 0)] : List Value).toArray) zy_L_permit.2.2.1 rfl)
  have key : W p l e ({ frames := 7, cells := 1, slots := 6, locals := 107 } : Room) s m (([.ref (ad 30 0), .int a1, .int a2, .int a3, .int a4, .ref (ad 21 0)] : List Value).toArray) below meth c s.heap [] 0 0 (vx_MQ below (ZQN D ca base ad post) (ZX D ca base ad n np (fun _ _ => False)) (([.ref (ad 30 0), .int a1, .int a2, .int a3, .int a4, .ref (ad 21 0)] : List Value).toArray) s 1 6 (zB base)) (entryFrame m (([.ref (ad 30 0), .int a1, .int a2, .int a3, .int a4, .ref (ad 21 0)] : List Value).toArray) 7) := by
    have hl := lv_entry ([.ref (ad 30 0), .int a1, .int a2, .int a3, .int a4, .ref (ad 21 0)]) (n := 7) (Nat.le_of_ble_eq_true rfl)
    rw [lg_entry_eq]
    generalize (lg_sl ([.ref (ad 30 0), .int a1, .int a2, .int a3, .int a4, .ref (ad 21 0)]) ++ List.replicate (7 - (lg_sl ([.ref (ad 30 0), .int a1, .int a2, .int a3, .int a4, .ref (ad 21 0)])).length) Slot.unset).toArray = ls at hl ⊢
    have hl : lv_has ls 7 [(0, .ref (ad 30 0)), (1, .int a1), (2, .int a2), (3, .int a3), (4, .int a4), (5, .ref (ad 21 0))] := hl
    unfold w_L_permit at h
    refine lv_aload hC.1 hC.2.1 dL_permit_0 (lv_at hl 5 rfl) ?_
    refine lv_iconst (v := 0) hC.1 hC.2.1 dL_permit_2 (by decide) ?_
    refine lv_aload_n hC.1 hC.2.1 dL_permit_3 rfl (lv_at hl 0 rfl) ?_
    refine lv_iload_n hC.1 hC.2.1 dL_permit_4 rfl (lv_at hl 1 rfl) ?_
    refine lv_iload_n hC.1 hC.2.1 dL_permit_5 rfl (lv_at hl 2 rfl) ?_
    refine lv_iload_n hC.1 hC.2.1 dL_permit_6 rfl (lv_at hl 3 rfl) ?_
    refine lv_iload hC.1 hC.2.1 dL_permit_7 (lv_at hl 4 rfl) ?_
    refine z_callVN (As := [.int a1, .int a2, .int a3, .int a4]) hC hZ (zF_30 _) rfl zy_X4_permit (c_X4_permit l hst h) km_L_34 rfl ⟨rfl, rfl⟩ ⟨(Nat.le_of_ble_eq_true rfl), (Nat.le_of_ble_eq_true rfl)⟩ hl.1 rfl (Nat.le_of_ble_eq_true rfl) dL_permit_9 ⟨(Nat.le_of_ble_eq_true rfl), (Nat.le_of_ble_eq_true rfl)⟩ (fun E ce q9 u H locs h hZ hce hcv hcl => ?_) (fun r n2 np2 ad2 u H locs h hag hZ => ?_)
    · rcases h with ⟨rfl, h⟩ | ⟨rfl, h⟩
      · refine z_catch hC hZ [] (⟨0, 14, 17, 13⟩ : ExceptionTableEntry) [(⟨0, 14, 21, 15⟩ : ExceptionTableEntry)] hxt (fun z hz => absurd hz List.not_mem_nil) (by decide) (by decide) kc_L_13 kcast_13 hce hcv hcl ?_
        refine lv_astore (lv' := [(6, .ref q9), (0, .ref (ad 30 0)), (1, .int a1), (2, .int a2), (3, .int a3), (4, .int a4), (5, .ref (ad 21 0))]) hC.1 hC.2.1 dL_permit_17 hl (by decide) rfl (fun ls hl => ?_)
        refine lv_iconst (v := 1) hC.1 hC.2.1 dL_permit_19 (by decide) ?_
        exact vx_ret (z_nret hC hr hZ (fun _ _ _ => rfl) h dL_permit_20 (Nat.le_of_ble_eq_true rfl) (Nat.le_of_ble_eq_true rfl))
      · refine z_catch hC hZ [(⟨0, 14, 17, 13⟩ : ExceptionTableEntry)] (⟨0, 14, 21, 15⟩ : ExceptionTableEntry) [] hxt (fun z hz => by rw [List.mem_singleton.mp hz]; exact ⟨(by decide), _, kc_L_13, znc_15_13⟩) (by decide) (by decide) kc_L_15 kcast_15 hce hcv hcl ?_
        refine lv_astore (lv' := [(6, .ref q9), (0, .ref (ad 30 0)), (1, .int a1), (2, .int a2), (3, .int a3), (4, .int a4), (5, .ref (ad 21 0))]) hC.1 hC.2.1 dL_permit_21 hl (by decide) rfl (fun ls hl => ?_)
        refine lv_iconst (v := 2) hC.1 hC.2.1 dL_permit_23 (by decide) ?_
        exact vx_ret (z_nret hC hr hZ (fun _ _ _ => rfl) h dL_permit_24 (Nat.le_of_ble_eq_true rfl) (Nat.le_of_ble_eq_true rfl))
    · refine lv_i2l hC.1 hC.2.1 dL_permit_12 rfl ?_
      rw [show ad 21 0 = ad2 21 0 from (hag 21 0 (by decide)).symm]
      refine aS_21 hC hZ z01 dL_permit_13 (fun μ1 H locs eμ hZ => ?_)
      refine lv_goto (tgt := 25) hC.1 hC.2.1 dL_permit_14 (by decide) ?_
      refine lv_iconst (v := 0) hC.1 hC.2.1 dL_permit_25 (by decide) ?_
      rw [show ((0 : Int32).toNatClampNeg) = 0 from rfl] at eμ
      subst eμ
      exact vx_ret (z_nret hC hr hZ hag h dL_permit_26 (Nat.le_of_ble_eq_true rfl) (Nat.le_of_ble_eq_true rfl))
  exact key
theorem zy_L_revoke : zYW yL_revoke cL_revoke 4 [(0, 9, 12, 21), (0, 9, 15, 15)] 3 := ⟨tin3 _ (List.mem_of_getElem? (i := 2) (by decide +kernel)), kini_L, tin3 _ (List.mem_of_getElem? (i := 3) rfl), by decide +kernel, by decide +kernel⟩
def w_L_revoke (n np : Nat) (post : Int32 → Nat → Nat → Mem → Prop) (a1 : Int32) (μ : Mem) : Prop := w_X4_revoke n np (fun (r : Int32) (u : Mem) => post 0 n np (zst u 21 0 0 r)) (fun (E : String) (u : Mem) => (E = "java/lang/IndexOutOfBoundsException" ∧ post 1 n np u) ∨ (E = "java/lang/IllegalStateException" ∧ post 2 n np u)) a1 μ
set_option maxRecDepth 100000 in
set_option maxHeartbeats 4000000 in
theorem c_L_revoke (l : Launch) (hst : l.stackTraces = false) {D : va_G} {ca : Nat → ClassId} {base : Nat} {ad : Nat → Nat → Nat} {n np : Nat} {μ : Mem} {post : Int32 → Nat → Nat → Mem → Prop} {a1 : Int32} (h : w_L_revoke n np post a1 μ) : ZWMet l yL_revoke cL_revoke 4 [(0, 9, 12, 21), (0, 9, 15, 15)] ({ frames := 8, cells := 2, slots := 12, locals := 158 } : Room) 2 12 D ca base ad n np [.ref (ad 30 0), .int a1, .ref (ad 21 0)] μ post := by
  unfold ZWMet
  refine vx_ofWH (cc := cL_revoke) (maxL := 4) (ret := (some FieldType.int)) (hh := [(0, 9, 12, 21), (0, 9, 15, 15)]) (by decide) rfl ?_
  intro p e s m args below meth c s₁ B hml hv
  obtain ⟨rfl, hU⟩ := hv
  have hZ := hU.toS
  have hC : ZC p m meth c s RL cL_revoke 4 := ⟨B.exec, B.bytes, hml, findClass_of_methodNamed B.named, B.notSynchronized⟩
  have hr := B.returns
  have hxt := vx_table (x := yL_revoke) B (hU.1.2.1.use (([.ref (ad 30 0), .int a1, .ref (ad 21 0)] : List Value).toArray) zy_L_revoke.2.2.1 rfl)
  have key : W p l e ({ frames := 8, cells := 2, slots := 12, locals := 158 } : Room) s m (([.ref (ad 30 0), .int a1, .ref (ad 21 0)] : List Value).toArray) below meth c s.heap [] 0 0 (vx_MQ below (ZQN D ca base ad post) (ZX D ca base ad n np (fun _ _ => False)) (([.ref (ad 30 0), .int a1, .ref (ad 21 0)] : List Value).toArray) s 2 12 (zB base)) (entryFrame m (([.ref (ad 30 0), .int a1, .ref (ad 21 0)] : List Value).toArray) 4) := by
    have hl := lv_entry ([.ref (ad 30 0), .int a1, .ref (ad 21 0)]) (n := 4) (Nat.le_of_ble_eq_true rfl)
    rw [lg_entry_eq]
    generalize (lg_sl ([.ref (ad 30 0), .int a1, .ref (ad 21 0)]) ++ List.replicate (4 - (lg_sl ([.ref (ad 30 0), .int a1, .ref (ad 21 0)])).length) Slot.unset).toArray = ls at hl ⊢
    have hl : lv_has ls 4 [(0, .ref (ad 30 0)), (1, .int a1), (2, .ref (ad 21 0))] := hl
    unfold w_L_revoke at h
    refine lv_aload_n hC.1 hC.2.1 dL_revoke_0 rfl (lv_at hl 2 rfl) ?_
    refine lv_iconst (v := 0) hC.1 hC.2.1 dL_revoke_1 (by decide) ?_
    refine lv_aload_n hC.1 hC.2.1 dL_revoke_2 rfl (lv_at hl 0 rfl) ?_
    refine lv_iload_n hC.1 hC.2.1 dL_revoke_3 rfl (lv_at hl 1 rfl) ?_
    refine z_cVXi (As := [.int a1]) hC hZ (zF_30 _) rfl zy_X4_revoke (c_X4_revoke l hst h) km_L_37 rfl ⟨rfl, rfl⟩ ⟨(Nat.le_of_ble_eq_true rfl), (Nat.le_of_ble_eq_true rfl)⟩ hl.1 rfl (Nat.le_of_ble_eq_true rfl) dL_revoke_4 ⟨(Nat.le_of_ble_eq_true rfl), (Nat.le_of_ble_eq_true rfl)⟩ (fun E ce q9 u H locs h hZ hce hcv hcl => ?_) (fun r u H locs h hZ => ?_)
    · rcases h with ⟨rfl, h⟩ | ⟨rfl, h⟩
      · refine z_catch hC hZ [] (⟨0, 9, 12, 21⟩ : ExceptionTableEntry) [(⟨0, 9, 15, 15⟩ : ExceptionTableEntry)] hxt (fun z hz => absurd hz List.not_mem_nil) (by decide) (by decide) kc_L_21 kcast_21 hce hcv hcl ?_
        refine lv_astore_n (lv' := [(3, .ref q9), (0, .ref (ad 30 0)), (1, .int a1), (2, .ref (ad 21 0))]) hC.1 hC.2.1 dL_revoke_12 rfl hl (by decide) rfl (fun ls hl => ?_)
        refine lv_iconst (v := 1) hC.1 hC.2.1 dL_revoke_13 (by decide) ?_
        exact vx_ret (z_nret hC hr hZ (fun _ _ _ => rfl) h dL_revoke_14 (Nat.le_of_ble_eq_true rfl) (Nat.le_of_ble_eq_true rfl))
      · refine z_catch hC hZ [(⟨0, 9, 12, 21⟩ : ExceptionTableEntry)] (⟨0, 9, 15, 15⟩ : ExceptionTableEntry) [] hxt (fun z hz => by rw [List.mem_singleton.mp hz]; exact ⟨(by decide), _, kc_L_21, znc_15_21⟩) (by decide) (by decide) kc_L_15 kcast_15 hce hcv hcl ?_
        refine lv_astore_n (lv' := [(3, .ref q9), (0, .ref (ad 30 0)), (1, .int a1), (2, .ref (ad 21 0))]) hC.1 hC.2.1 dL_revoke_15 rfl hl (by decide) rfl (fun ls hl => ?_)
        refine lv_iconst (v := 2) hC.1 hC.2.1 dL_revoke_16 (by decide) ?_
        exact vx_ret (z_nret hC hr hZ (fun _ _ _ => rfl) h dL_revoke_17 (Nat.le_of_ble_eq_true rfl) (Nat.le_of_ble_eq_true rfl))
    · refine lv_i2l hC.1 hC.2.1 dL_revoke_7 rfl ?_
      refine aS_21 hC hZ z01 dL_revoke_8 (fun μ1 H locs eμ hZ => ?_)
      refine lv_goto (tgt := 18) hC.1 hC.2.1 dL_revoke_9 (by decide) ?_
      refine lv_iconst (v := 0) hC.1 hC.2.1 dL_revoke_18 (by decide) ?_
      rw [show ((0 : Int32).toNatClampNeg) = 0 from rfl] at eμ
      subst eμ
      exact vx_ret (z_nret hC hr hZ (fun _ _ _ => rfl) h dL_revoke_19 (Nat.le_of_ble_eq_true rfl) (Nat.le_of_ble_eq_true rfl))
  exact key
theorem zy_L_away : zYW yL_away cL_away 6 [(0, 19, 22, 21), (0, 19, 26, 13)] 5 := ⟨tin3 _ (List.mem_of_getElem? (i := 15) (by decide +kernel)), kini_L, tin3 _ (List.mem_of_getElem? (i := 16) rfl), by decide +kernel, by decide +kernel⟩
def w_L_away (n np : Nat) (post : Int32 → Nat → Nat → Mem → Prop) (a1 : Int32) (a2 : Int32) (a3 : Int32) (μ : Mem) : Prop := w_X4_away n np (fun (r : Int32) (u : Mem) => (r = 0 → post 0 n np (zst u 21 0 0 0)) ∧ (¬ r = 0 → post 0 n np (zst u 21 0 0 1))) (fun (E : String) (u : Mem) => (E = "java/lang/IndexOutOfBoundsException" ∧ post 1 n np u) ∨ (E = "java/lang/IllegalArgumentException" ∧ post 2 n np u)) a1 a2 a3 μ
set_option maxRecDepth 100000 in
set_option maxHeartbeats 4000000 in
theorem c_L_away (l : Launch) (hst : l.stackTraces = false) {D : va_G} {ca : Nat → ClassId} {base : Nat} {ad : Nat → Nat → Nat} {n np : Nat} {μ : Mem} {post : Int32 → Nat → Nat → Mem → Prop} {a1 : Int32} {a2 : Int32} {a3 : Int32} (h : w_L_away n np post a1 a2 a3 μ) : ZWMet l yL_away cL_away 6 [(0, 19, 22, 21), (0, 19, 26, 13)] ({ frames := 8, cells := 2, slots := 12, locals := 126 } : Room) 2 12 D ca base ad n np [.ref (ad 30 0), .int a1, .int a2, .int a3, .ref (ad 21 0)] μ post := by
  unfold ZWMet
  refine vx_ofWH (cc := cL_away) (maxL := 6) (ret := (some FieldType.int)) (hh := [(0, 19, 22, 21), (0, 19, 26, 13)]) (by decide) rfl ?_
  intro p e s m args below meth c s₁ B hml hv
  obtain ⟨rfl, hU⟩ := hv
  have hZ := hU.toS
  have hC : ZC p m meth c s RL cL_away 6 := ⟨B.exec, B.bytes, hml, findClass_of_methodNamed B.named, B.notSynchronized⟩
  have hr := B.returns
  have hxt := vx_table (x := yL_away) B (hU.1.2.1.use (([.ref (ad 30 0), .int a1, .int a2, .int a3, .ref (ad 21 0)] : List Value).toArray) zy_L_away.2.2.1 rfl)
  have key : W p l e ({ frames := 8, cells := 2, slots := 12, locals := 126 } : Room) s m (([.ref (ad 30 0), .int a1, .int a2, .int a3, .ref (ad 21 0)] : List Value).toArray) below meth c s.heap [] 0 0 (vx_MQ below (ZQN D ca base ad post) (ZX D ca base ad n np (fun _ _ => False)) (([.ref (ad 30 0), .int a1, .int a2, .int a3, .ref (ad 21 0)] : List Value).toArray) s 2 12 (zB base)) (entryFrame m (([.ref (ad 30 0), .int a1, .int a2, .int a3, .ref (ad 21 0)] : List Value).toArray) 6) := by
    have hl := lv_entry ([.ref (ad 30 0), .int a1, .int a2, .int a3, .ref (ad 21 0)]) (n := 6) (Nat.le_of_ble_eq_true rfl)
    rw [lg_entry_eq]
    generalize (lg_sl ([.ref (ad 30 0), .int a1, .int a2, .int a3, .ref (ad 21 0)]) ++ List.replicate (6 - (lg_sl ([.ref (ad 30 0), .int a1, .int a2, .int a3, .ref (ad 21 0)])).length) Slot.unset).toArray = ls at hl ⊢
    have hl : lv_has ls 6 [(0, .ref (ad 30 0)), (1, .int a1), (2, .int a2), (3, .int a3), (4, .ref (ad 21 0))] := hl
    unfold w_L_away at h
    refine lv_aload hC.1 hC.2.1 dL_away_0 (lv_at hl 4 rfl) ?_
    refine lv_iconst (v := 0) hC.1 hC.2.1 dL_away_2 (by decide) ?_
    refine lv_aload_n hC.1 hC.2.1 dL_away_3 rfl (lv_at hl 0 rfl) ?_
    refine lv_iload_n hC.1 hC.2.1 dL_away_4 rfl (lv_at hl 1 rfl) ?_
    refine lv_iload_n hC.1 hC.2.1 dL_away_5 rfl (lv_at hl 2 rfl) ?_
    refine lv_iload_n hC.1 hC.2.1 dL_away_6 rfl (lv_at hl 3 rfl) ?_
    refine z_cVXi (As := [.int a1, .int a2, .int a3]) hC hZ (zF_30 _) rfl zy_X4_away (c_X4_away l hst h) km_L_40 rfl ⟨rfl, rfl⟩ ⟨(Nat.le_of_ble_eq_true rfl), (Nat.le_of_ble_eq_true rfl)⟩ hl.1 rfl (Nat.le_of_ble_eq_true rfl) dL_away_7 ⟨(Nat.le_of_ble_eq_true rfl), (Nat.le_of_ble_eq_true rfl)⟩ (fun E ce q9 u H locs h hZ hce hcv hcl => ?_) (fun r u H locs h hZ => ?_)
    · rcases h with ⟨rfl, h⟩ | ⟨rfl, h⟩
      · refine z_catch hC hZ [] (⟨0, 19, 22, 21⟩ : ExceptionTableEntry) [(⟨0, 19, 26, 13⟩ : ExceptionTableEntry)] hxt (fun z hz => absurd hz List.not_mem_nil) (by decide) (by decide) kc_L_21 kcast_21 hce hcv hcl ?_
        refine lv_astore (lv' := [(5, .ref q9), (0, .ref (ad 30 0)), (1, .int a1), (2, .int a2), (3, .int a3), (4, .ref (ad 21 0))]) hC.1 hC.2.1 dL_away_22 hl (by decide) rfl (fun ls hl => ?_)
        refine lv_iconst (v := 1) hC.1 hC.2.1 dL_away_24 (by decide) ?_
        exact vx_ret (z_nret hC hr hZ (fun _ _ _ => rfl) h dL_away_25 (Nat.le_of_ble_eq_true rfl) (Nat.le_of_ble_eq_true rfl))
      · refine z_catch hC hZ [(⟨0, 19, 22, 21⟩ : ExceptionTableEntry)] (⟨0, 19, 26, 13⟩ : ExceptionTableEntry) [] hxt (fun z hz => by rw [List.mem_singleton.mp hz]; exact ⟨(by decide), _, kc_L_21, znc_13_21⟩) (by decide) (by decide) kc_L_13 kcast_13 hce hcv hcl ?_
        refine lv_astore (lv' := [(5, .ref q9), (0, .ref (ad 30 0)), (1, .int a1), (2, .int a2), (3, .int a3), (4, .ref (ad 21 0))]) hC.1 hC.2.1 dL_away_26 hl (by decide) rfl (fun ls hl => ?_)
        refine lv_iconst (v := 2) hC.1 hC.2.1 dL_away_28 (by decide) ?_
        exact vx_ret (z_nret hC hr hZ (fun _ _ _ => rfl) h dL_away_29 (Nat.le_of_ble_eq_true rfl) (Nat.le_of_ble_eq_true rfl))
    · refine lv_if_eq (tgt := 17) hC.1 hC.2.1 dL_away_10 (by decide) (fun c1 => ?_) (fun c1 => ?_)
      · have h := h.1 c1
        refine lv_lconst (v := (0 : Int32).toInt64) hC.1 hC.2.1 dL_away_17 (by decide) ?_
        refine aS_21 hC hZ z01 dL_away_18 (fun μ1 H locs eμ hZ => ?_)
        refine lv_goto (tgt := 30) hC.1 hC.2.1 dL_away_19 (by decide) ?_
        refine lv_iconst (v := 0) hC.1 hC.2.1 dL_away_30 (by decide) ?_
        rw [show ((0 : Int32).toNatClampNeg) = 0 from rfl] at eμ
        subst eμ
        exact vx_ret (z_nret hC hr hZ (fun _ _ _ => rfl) h dL_away_31 (Nat.le_of_ble_eq_true rfl) (Nat.le_of_ble_eq_true rfl))
      · have h := h.2 c1
        refine lv_lconst (v := (1 : Int32).toInt64) hC.1 hC.2.1 dL_away_13 (by decide) ?_
        refine lv_goto (tgt := 18) hC.1 hC.2.1 dL_away_14 (by decide) ?_
        refine aS_21 hC hZ z01 dL_away_18 (fun μ1 H locs eμ hZ => ?_)
        refine lv_goto (tgt := 30) hC.1 hC.2.1 dL_away_19 (by decide) ?_
        refine lv_iconst (v := 0) hC.1 hC.2.1 dL_away_30 (by decide) ?_
        rw [show ((0 : Int32).toNatClampNeg) = 0 from rfl] at eμ
        subst eμ
        exact vx_ret (z_nret hC hr hZ (fun _ _ _ => rfl) h dL_away_31 (Nat.le_of_ble_eq_true rfl) (Nat.le_of_ble_eq_true rfl))
  exact key
theorem zy_L_buy : zYW yL_buy cL_buy 4 [(0, 9, 12, 21), (0, 9, 15, 15)] 3 := ⟨tin3 _ (List.mem_of_getElem? (i := 26) (by decide +kernel)), kini_L, tin3 _ (List.mem_of_getElem? (i := 27) rfl), by decide +kernel, by decide +kernel⟩
def w_L_buy (n np : Nat) (post : Int32 → Nat → Nat → Mem → Prop) (a1 : Int32) (μ : Mem) : Prop := w_X4_buy n np (fun (r : Int32) (u : Mem) => post 0 n np (zst u 21 0 0 r)) (fun (E : String) (u : Mem) => (E = "java/lang/IndexOutOfBoundsException" ∧ post 1 n np u) ∨ (E = "java/lang/IllegalStateException" ∧ post 2 n np u)) a1 μ
set_option maxRecDepth 100000 in
set_option maxHeartbeats 4000000 in
theorem c_L_buy (l : Launch) (hst : l.stackTraces = false) {D : va_G} {ca : Nat → ClassId} {base : Nat} {ad : Nat → Nat → Nat} {n np : Nat} {μ : Mem} {post : Int32 → Nat → Nat → Mem → Prop} {a1 : Int32} (h : w_L_buy n np post a1 μ) : ZWMet l yL_buy cL_buy 4 [(0, 9, 12, 21), (0, 9, 15, 15)] ({ frames := 8, cells := 2, slots := 12, locals := 124 } : Room) 2 12 D ca base ad n np [.ref (ad 30 0), .int a1, .ref (ad 21 0)] μ post := by
  unfold ZWMet
  refine vx_ofWH (cc := cL_buy) (maxL := 4) (ret := (some FieldType.int)) (hh := [(0, 9, 12, 21), (0, 9, 15, 15)]) (by decide) rfl ?_
  intro p e s m args below meth c s₁ B hml hv
  obtain ⟨rfl, hU⟩ := hv
  have hZ := hU.toS
  have hC : ZC p m meth c s RL cL_buy 4 := ⟨B.exec, B.bytes, hml, findClass_of_methodNamed B.named, B.notSynchronized⟩
  have hr := B.returns
  have hxt := vx_table (x := yL_buy) B (hU.1.2.1.use (([.ref (ad 30 0), .int a1, .ref (ad 21 0)] : List Value).toArray) zy_L_buy.2.2.1 rfl)
  have key : W p l e ({ frames := 8, cells := 2, slots := 12, locals := 124 } : Room) s m (([.ref (ad 30 0), .int a1, .ref (ad 21 0)] : List Value).toArray) below meth c s.heap [] 0 0 (vx_MQ below (ZQN D ca base ad post) (ZX D ca base ad n np (fun _ _ => False)) (([.ref (ad 30 0), .int a1, .ref (ad 21 0)] : List Value).toArray) s 2 12 (zB base)) (entryFrame m (([.ref (ad 30 0), .int a1, .ref (ad 21 0)] : List Value).toArray) 4) := by
    have hl := lv_entry ([.ref (ad 30 0), .int a1, .ref (ad 21 0)]) (n := 4) (Nat.le_of_ble_eq_true rfl)
    rw [lg_entry_eq]
    generalize (lg_sl ([.ref (ad 30 0), .int a1, .ref (ad 21 0)]) ++ List.replicate (4 - (lg_sl ([.ref (ad 30 0), .int a1, .ref (ad 21 0)])).length) Slot.unset).toArray = ls at hl ⊢
    have hl : lv_has ls 4 [(0, .ref (ad 30 0)), (1, .int a1), (2, .ref (ad 21 0))] := hl
    unfold w_L_buy at h
    refine lv_aload_n hC.1 hC.2.1 dL_buy_0 rfl (lv_at hl 2 rfl) ?_
    refine lv_iconst (v := 0) hC.1 hC.2.1 dL_buy_1 (by decide) ?_
    refine lv_aload_n hC.1 hC.2.1 dL_buy_2 rfl (lv_at hl 0 rfl) ?_
    refine lv_iload_n hC.1 hC.2.1 dL_buy_3 rfl (lv_at hl 1 rfl) ?_
    refine z_cVXi (As := [.int a1]) hC hZ (zF_30 _) rfl zy_X4_buy (c_X4_buy l hst h) km_L_44 rfl ⟨rfl, rfl⟩ ⟨(Nat.le_of_ble_eq_true rfl), (Nat.le_of_ble_eq_true rfl)⟩ hl.1 rfl (Nat.le_of_ble_eq_true rfl) dL_buy_4 ⟨(Nat.le_of_ble_eq_true rfl), (Nat.le_of_ble_eq_true rfl)⟩ (fun E ce q9 u H locs h hZ hce hcv hcl => ?_) (fun r u H locs h hZ => ?_)
    · rcases h with ⟨rfl, h⟩ | ⟨rfl, h⟩
      · refine z_catch hC hZ [] (⟨0, 9, 12, 21⟩ : ExceptionTableEntry) [(⟨0, 9, 15, 15⟩ : ExceptionTableEntry)] hxt (fun z hz => absurd hz List.not_mem_nil) (by decide) (by decide) kc_L_21 kcast_21 hce hcv hcl ?_
        refine lv_astore_n (lv' := [(3, .ref q9), (0, .ref (ad 30 0)), (1, .int a1), (2, .ref (ad 21 0))]) hC.1 hC.2.1 dL_buy_12 rfl hl (by decide) rfl (fun ls hl => ?_)
        refine lv_iconst (v := 1) hC.1 hC.2.1 dL_buy_13 (by decide) ?_
        exact vx_ret (z_nret hC hr hZ (fun _ _ _ => rfl) h dL_buy_14 (Nat.le_of_ble_eq_true rfl) (Nat.le_of_ble_eq_true rfl))
      · refine z_catch hC hZ [(⟨0, 9, 12, 21⟩ : ExceptionTableEntry)] (⟨0, 9, 15, 15⟩ : ExceptionTableEntry) [] hxt (fun z hz => by rw [List.mem_singleton.mp hz]; exact ⟨(by decide), _, kc_L_21, znc_15_21⟩) (by decide) (by decide) kc_L_15 kcast_15 hce hcv hcl ?_
        refine lv_astore_n (lv' := [(3, .ref q9), (0, .ref (ad 30 0)), (1, .int a1), (2, .ref (ad 21 0))]) hC.1 hC.2.1 dL_buy_15 rfl hl (by decide) rfl (fun ls hl => ?_)
        refine lv_iconst (v := 2) hC.1 hC.2.1 dL_buy_16 (by decide) ?_
        exact vx_ret (z_nret hC hr hZ (fun _ _ _ => rfl) h dL_buy_17 (Nat.le_of_ble_eq_true rfl) (Nat.le_of_ble_eq_true rfl))
    · refine lv_i2l hC.1 hC.2.1 dL_buy_7 rfl ?_
      refine aS_21 hC hZ z01 dL_buy_8 (fun μ1 H locs eμ hZ => ?_)
      refine lv_goto (tgt := 18) hC.1 hC.2.1 dL_buy_9 (by decide) ?_
      refine lv_iconst (v := 0) hC.1 hC.2.1 dL_buy_18 (by decide) ?_
      rw [show ((0 : Int32).toNatClampNeg) = 0 from rfl] at eμ
      subst eμ
      exact vx_ret (z_nret hC hr hZ (fun _ _ _ => rfl) h dL_buy_19 (Nat.le_of_ble_eq_true rfl) (Nat.le_of_ble_eq_true rfl))
  exact key
theorem zy_L_mishap : zYW yL_mishap cL_mishap 5 [(0, 10, 13, 21), (0, 10, 17, 13), (0, 10, 21, 15)] 4 := ⟨tin3 _ (List.mem_of_getElem? (i := 38) (by decide +kernel)), kini_L, tin3 _ (List.mem_of_getElem? (i := 39) rfl), by decide +kernel, by decide +kernel⟩
def w_L_mishap (n np : Nat) (post : Int32 → Nat → Nat → Mem → Prop) (a1 : Int32) (a2 : Int32) (μ : Mem) : Prop := w_X4_mishap n np (fun (r : Int32) (u : Mem) => post 0 n np (zst u 21 0 0 r)) (fun (E : String) (u : Mem) => (E = "java/lang/IndexOutOfBoundsException" ∧ post 1 n np u) ∨ (E = "java/lang/IllegalArgumentException" ∧ post 2 n np u) ∨ (E = "java/lang/IllegalStateException" ∧ post 3 n np u)) a1 a2 μ
set_option maxRecDepth 100000 in
set_option maxHeartbeats 4000000 in
theorem c_L_mishap (l : Launch) (hst : l.stackTraces = false) {D : va_G} {ca : Nat → ClassId} {base : Nat} {ad : Nat → Nat → Nat} {n np : Nat} {μ : Mem} {post : Int32 → Nat → Nat → Mem → Prop} {a1 : Int32} {a2 : Int32} (h : w_L_mishap n np post a1 a2 μ) : ZWMet l yL_mishap cL_mishap 5 [(0, 10, 13, 21), (0, 10, 17, 13), (0, 10, 21, 15)] ({ frames := 8, cells := 2, slots := 12, locals := 125 } : Room) 2 12 D ca base ad n np [.ref (ad 30 0), .int a1, .int a2, .ref (ad 21 0)] μ post := by
  unfold ZWMet
  refine vx_ofWH (cc := cL_mishap) (maxL := 5) (ret := (some FieldType.int)) (hh := [(0, 10, 13, 21), (0, 10, 17, 13), (0, 10, 21, 15)]) (by decide) rfl ?_
  intro p e s m args below meth c s₁ B hml hv
  obtain ⟨rfl, hU⟩ := hv
  have hZ := hU.toS
  have hC : ZC p m meth c s RL cL_mishap 5 := ⟨B.exec, B.bytes, hml, findClass_of_methodNamed B.named, B.notSynchronized⟩
  have hr := B.returns
  have hxt := vx_table (x := yL_mishap) B (hU.1.2.1.use (([.ref (ad 30 0), .int a1, .int a2, .ref (ad 21 0)] : List Value).toArray) zy_L_mishap.2.2.1 rfl)
  have key : W p l e ({ frames := 8, cells := 2, slots := 12, locals := 125 } : Room) s m (([.ref (ad 30 0), .int a1, .int a2, .ref (ad 21 0)] : List Value).toArray) below meth c s.heap [] 0 0 (vx_MQ below (ZQN D ca base ad post) (ZX D ca base ad n np (fun _ _ => False)) (([.ref (ad 30 0), .int a1, .int a2, .ref (ad 21 0)] : List Value).toArray) s 2 12 (zB base)) (entryFrame m (([.ref (ad 30 0), .int a1, .int a2, .ref (ad 21 0)] : List Value).toArray) 5) := by
    have hl := lv_entry ([.ref (ad 30 0), .int a1, .int a2, .ref (ad 21 0)]) (n := 5) (Nat.le_of_ble_eq_true rfl)
    rw [lg_entry_eq]
    generalize (lg_sl ([.ref (ad 30 0), .int a1, .int a2, .ref (ad 21 0)]) ++ List.replicate (5 - (lg_sl ([.ref (ad 30 0), .int a1, .int a2, .ref (ad 21 0)])).length) Slot.unset).toArray = ls at hl ⊢
    have hl : lv_has ls 5 [(0, .ref (ad 30 0)), (1, .int a1), (2, .int a2), (3, .ref (ad 21 0))] := hl
    unfold w_L_mishap at h
    refine lv_aload_n hC.1 hC.2.1 dL_mishap_0 rfl (lv_at hl 3 rfl) ?_
    refine lv_iconst (v := 0) hC.1 hC.2.1 dL_mishap_1 (by decide) ?_
    refine lv_aload_n hC.1 hC.2.1 dL_mishap_2 rfl (lv_at hl 0 rfl) ?_
    refine lv_iload_n hC.1 hC.2.1 dL_mishap_3 rfl (lv_at hl 1 rfl) ?_
    refine lv_iload_n hC.1 hC.2.1 dL_mishap_4 rfl (lv_at hl 2 rfl) ?_
    refine z_cVXi (As := [.int a1, .int a2]) hC hZ (zF_30 _) rfl zy_X4_mishap (c_X4_mishap l hst h) km_L_47 rfl ⟨rfl, rfl⟩ ⟨(Nat.le_of_ble_eq_true rfl), (Nat.le_of_ble_eq_true rfl)⟩ hl.1 rfl (Nat.le_of_ble_eq_true rfl) dL_mishap_5 ⟨(Nat.le_of_ble_eq_true rfl), (Nat.le_of_ble_eq_true rfl)⟩ (fun E ce q9 u H locs h hZ hce hcv hcl => ?_) (fun r u H locs h hZ => ?_)
    · rcases h with ⟨rfl, h⟩ | ⟨rfl, h⟩ | ⟨rfl, h⟩
      · refine z_catch hC hZ [] (⟨0, 10, 13, 21⟩ : ExceptionTableEntry) [(⟨0, 10, 17, 13⟩ : ExceptionTableEntry), (⟨0, 10, 21, 15⟩ : ExceptionTableEntry)] hxt (fun z hz => absurd hz List.not_mem_nil) (by decide) (by decide) kc_L_21 kcast_21 hce hcv hcl ?_
        refine lv_astore (lv' := [(4, .ref q9), (0, .ref (ad 30 0)), (1, .int a1), (2, .int a2), (3, .ref (ad 21 0))]) hC.1 hC.2.1 dL_mishap_13 hl (by decide) rfl (fun ls hl => ?_)
        refine lv_iconst (v := 1) hC.1 hC.2.1 dL_mishap_15 (by decide) ?_
        exact vx_ret (z_nret hC hr hZ (fun _ _ _ => rfl) h dL_mishap_16 (Nat.le_of_ble_eq_true rfl) (Nat.le_of_ble_eq_true rfl))
      · refine z_catch hC hZ [(⟨0, 10, 13, 21⟩ : ExceptionTableEntry)] (⟨0, 10, 17, 13⟩ : ExceptionTableEntry) [(⟨0, 10, 21, 15⟩ : ExceptionTableEntry)] hxt (fun z hz => by rw [List.mem_singleton.mp hz]; exact ⟨(by decide), _, kc_L_21, znc_13_21⟩) (by decide) (by decide) kc_L_13 kcast_13 hce hcv hcl ?_
        refine lv_astore (lv' := [(4, .ref q9), (0, .ref (ad 30 0)), (1, .int a1), (2, .int a2), (3, .ref (ad 21 0))]) hC.1 hC.2.1 dL_mishap_17 hl (by decide) rfl (fun ls hl => ?_)
        refine lv_iconst (v := 2) hC.1 hC.2.1 dL_mishap_19 (by decide) ?_
        exact vx_ret (z_nret hC hr hZ (fun _ _ _ => rfl) h dL_mishap_20 (Nat.le_of_ble_eq_true rfl) (Nat.le_of_ble_eq_true rfl))
      · refine z_catch hC hZ [(⟨0, 10, 13, 21⟩ : ExceptionTableEntry), (⟨0, 10, 17, 13⟩ : ExceptionTableEntry)] (⟨0, 10, 21, 15⟩ : ExceptionTableEntry) [] hxt (fun z hz => by rcases List.mem_cons.mp hz with rfl | hz; exact ⟨(by decide), _, kc_L_21, znc_15_21⟩; rw [List.mem_singleton.mp hz]; exact ⟨(by decide), _, kc_L_13, znc_15_13⟩) (by decide) (by decide) kc_L_15 kcast_15 hce hcv hcl ?_
        refine lv_astore (lv' := [(4, .ref q9), (0, .ref (ad 30 0)), (1, .int a1), (2, .int a2), (3, .ref (ad 21 0))]) hC.1 hC.2.1 dL_mishap_21 hl (by decide) rfl (fun ls hl => ?_)
        refine lv_iconst (v := 3) hC.1 hC.2.1 dL_mishap_23 (by decide) ?_
        exact vx_ret (z_nret hC hr hZ (fun _ _ _ => rfl) h dL_mishap_24 (Nat.le_of_ble_eq_true rfl) (Nat.le_of_ble_eq_true rfl))
    · refine lv_i2l hC.1 hC.2.1 dL_mishap_8 rfl ?_
      refine aS_21 hC hZ z01 dL_mishap_9 (fun μ1 H locs eμ hZ => ?_)
      refine lv_goto (tgt := 25) hC.1 hC.2.1 dL_mishap_10 (by decide) ?_
      refine lv_iconst (v := 0) hC.1 hC.2.1 dL_mishap_25 (by decide) ?_
      rw [show ((0 : Int32).toNatClampNeg) = 0 from rfl] at eμ
      subst eμ
      exact vx_ret (z_nret hC hr hZ (fun _ _ _ => rfl) h dL_mishap_26 (Nat.le_of_ble_eq_true rfl) (Nat.le_of_ble_eq_true rfl))
  exact key
theorem zy_L_shoot : zYW yL_shoot cL_shoot 3 [(0, 8, 11, 15)] 2 := ⟨tin3 _ (List.mem_of_getElem? (i := 47) (by decide +kernel)), kini_L, tin3 _ (List.mem_of_getElem? (i := 48) rfl), by decide +kernel, by decide +kernel⟩
def w_L_shoot (n np : Nat) (post : Int32 → Nat → Nat → Mem → Prop)  (μ : Mem) : Prop := w_X4_shoot n np (fun (r : Int32) (u : Mem) => post 0 n np (zst u 21 0 0 r)) (fun (E : String) (u : Mem) => (E = "java/lang/IllegalStateException" ∧ post 1 n np u)) μ
set_option maxRecDepth 100000 in
set_option maxHeartbeats 4000000 in
theorem c_L_shoot (l : Launch) (hst : l.stackTraces = false) {D : va_G} {ca : Nat → ClassId} {base : Nat} {ad : Nat → Nat → Nat} {n np : Nat} {μ : Mem} {post : Int32 → Nat → Nat → Mem → Prop} (h : w_L_shoot n np post μ) : ZWMet l yL_shoot cL_shoot 3 [(0, 8, 11, 15)] ({ frames := 7, cells := 1, slots := 6, locals := 104 } : Room) 1 6 D ca base ad n np [.ref (ad 30 0), .ref (ad 21 0)] μ post := by
  unfold ZWMet
  refine vx_ofWH (cc := cL_shoot) (maxL := 3) (ret := (some FieldType.int)) (hh := [(0, 8, 11, 15)]) (by decide) rfl ?_
  intro p e s m args below meth c s₁ B hml hv
  obtain ⟨rfl, hU⟩ := hv
  have hZ := hU.toS
  have hC : ZC p m meth c s RL cL_shoot 3 := ⟨B.exec, B.bytes, hml, findClass_of_methodNamed B.named, B.notSynchronized⟩
  have hr := B.returns
  have hxt := vx_table (x := yL_shoot) B (hU.1.2.1.use (([.ref (ad 30 0), .ref (ad 21 0)] : List Value).toArray) zy_L_shoot.2.2.1 rfl)
  have key : W p l e ({ frames := 7, cells := 1, slots := 6, locals := 104 } : Room) s m (([.ref (ad 30 0), .ref (ad 21 0)] : List Value).toArray) below meth c s.heap [] 0 0 (vx_MQ below (ZQN D ca base ad post) (ZX D ca base ad n np (fun _ _ => False)) (([.ref (ad 30 0), .ref (ad 21 0)] : List Value).toArray) s 1 6 (zB base)) (entryFrame m (([.ref (ad 30 0), .ref (ad 21 0)] : List Value).toArray) 3) := by
    have hl := lv_entry ([.ref (ad 30 0), .ref (ad 21 0)]) (n := 3) (Nat.le_of_ble_eq_true rfl)
    rw [lg_entry_eq]
    generalize (lg_sl ([.ref (ad 30 0), .ref (ad 21 0)]) ++ List.replicate (3 - (lg_sl ([.ref (ad 30 0), .ref (ad 21 0)])).length) Slot.unset).toArray = ls at hl ⊢
    have hl : lv_has ls 3 [(0, .ref (ad 30 0)), (1, .ref (ad 21 0))] := hl
    unfold w_L_shoot at h
    refine lv_aload_n hC.1 hC.2.1 dL_shoot_0 rfl (lv_at hl 1 rfl) ?_
    refine lv_iconst (v := 0) hC.1 hC.2.1 dL_shoot_1 (by decide) ?_
    refine lv_aload_n hC.1 hC.2.1 dL_shoot_2 rfl (lv_at hl 0 rfl) ?_
    refine z_cVXi (As := []) hC hZ (zF_30 _) rfl zy_X4_shoot (c_X4_shoot l hst h) km_L_50 rfl ⟨rfl, rfl⟩ ⟨(Nat.le_of_ble_eq_true rfl), (Nat.le_of_ble_eq_true rfl)⟩ hl.1 rfl (Nat.le_of_ble_eq_true rfl) dL_shoot_3 ⟨(Nat.le_of_ble_eq_true rfl), (Nat.le_of_ble_eq_true rfl)⟩ (fun E ce q9 u H locs h hZ hce hcv hcl => ?_) (fun r u H locs h hZ => ?_)
    · obtain ⟨rfl, h⟩ := h
      refine z_catch hC hZ [] (⟨0, 8, 11, 15⟩ : ExceptionTableEntry) [] hxt (fun z hz => absurd hz List.not_mem_nil) (by decide) (by decide) kc_L_15 kcast_15 hce hcv hcl ?_
      refine lv_astore_n (lv' := [(2, .ref q9), (0, .ref (ad 30 0)), (1, .ref (ad 21 0))]) hC.1 hC.2.1 dL_shoot_11 rfl hl (by decide) rfl (fun ls hl => ?_)
      refine lv_iconst (v := 1) hC.1 hC.2.1 dL_shoot_12 (by decide) ?_
      exact vx_ret (z_nret hC hr hZ (fun _ _ _ => rfl) h dL_shoot_13 (Nat.le_of_ble_eq_true rfl) (Nat.le_of_ble_eq_true rfl))
    · refine lv_i2l hC.1 hC.2.1 dL_shoot_6 rfl ?_
      refine aS_21 hC hZ z01 dL_shoot_7 (fun μ1 H locs eμ hZ => ?_)
      refine lv_goto (tgt := 14) hC.1 hC.2.1 dL_shoot_8 (by decide) ?_
      refine lv_iconst (v := 0) hC.1 hC.2.1 dL_shoot_14 (by decide) ?_
      rw [show ((0 : Int32).toNatClampNeg) = 0 from rfl] at eμ
      subst eμ
      exact vx_ret (z_nret hC hr hZ (fun _ _ _ => rfl) h dL_shoot_15 (Nat.le_of_ble_eq_true rfl) (Nat.le_of_ble_eq_true rfl))
  exact key
theorem zy_L_least : zYW yL_least cL_least 3 [(0, 8, 11, 15)] 2 := ⟨tin3 _ (List.mem_of_getElem? (i := 59) (by decide +kernel)), kini_L, tin3 _ (List.mem_of_getElem? (i := 60) rfl), by decide +kernel, by decide +kernel⟩
def w_L_least (n np : Nat) (post : Int32 → Nat → Nat → Mem → Prop)  (μ : Mem) : Prop := w_X4_least n np (fun (r : Int32) (u : Mem) => post 0 n np (zst u 21 0 0 r)) (fun (E : String) (u : Mem) => (E = "java/lang/IllegalStateException" ∧ post 1 n np u)) μ
set_option maxRecDepth 100000 in
set_option maxHeartbeats 4000000 in
theorem c_L_least (l : Launch) (hst : l.stackTraces = false) {D : va_G} {ca : Nat → ClassId} {base : Nat} {ad : Nat → Nat → Nat} {n np : Nat} {μ : Mem} {post : Int32 → Nat → Nat → Mem → Prop} (h : w_L_least n np post μ) : ZWMet l yL_least cL_least 3 [(0, 8, 11, 15)] ({ frames := 7, cells := 1, slots := 6, locals := 117 } : Room) 1 6 D ca base ad n np [.ref (ad 30 0), .ref (ad 21 0)] μ post := by
  unfold ZWMet
  refine vx_ofWH (cc := cL_least) (maxL := 3) (ret := (some FieldType.int)) (hh := [(0, 8, 11, 15)]) (by decide) rfl ?_
  intro p e s m args below meth c s₁ B hml hv
  obtain ⟨rfl, hU⟩ := hv
  have hZ := hU.toS
  have hC : ZC p m meth c s RL cL_least 3 := ⟨B.exec, B.bytes, hml, findClass_of_methodNamed B.named, B.notSynchronized⟩
  have hr := B.returns
  have hxt := vx_table (x := yL_least) B (hU.1.2.1.use (([.ref (ad 30 0), .ref (ad 21 0)] : List Value).toArray) zy_L_least.2.2.1 rfl)
  have key : W p l e ({ frames := 7, cells := 1, slots := 6, locals := 117 } : Room) s m (([.ref (ad 30 0), .ref (ad 21 0)] : List Value).toArray) below meth c s.heap [] 0 0 (vx_MQ below (ZQN D ca base ad post) (ZX D ca base ad n np (fun _ _ => False)) (([.ref (ad 30 0), .ref (ad 21 0)] : List Value).toArray) s 1 6 (zB base)) (entryFrame m (([.ref (ad 30 0), .ref (ad 21 0)] : List Value).toArray) 3) := by
    have hl := lv_entry ([.ref (ad 30 0), .ref (ad 21 0)]) (n := 3) (Nat.le_of_ble_eq_true rfl)
    rw [lg_entry_eq]
    generalize (lg_sl ([.ref (ad 30 0), .ref (ad 21 0)]) ++ List.replicate (3 - (lg_sl ([.ref (ad 30 0), .ref (ad 21 0)])).length) Slot.unset).toArray = ls at hl ⊢
    have hl : lv_has ls 3 [(0, .ref (ad 30 0)), (1, .ref (ad 21 0))] := hl
    unfold w_L_least at h
    refine lv_aload_n hC.1 hC.2.1 dL_least_0 rfl (lv_at hl 1 rfl) ?_
    refine lv_iconst (v := 0) hC.1 hC.2.1 dL_least_1 (by decide) ?_
    refine lv_aload_n hC.1 hC.2.1 dL_least_2 rfl (lv_at hl 0 rfl) ?_
    refine z_cVXi (As := []) hC hZ (zF_30 _) rfl zy_X4_least (c_X4_least l hst h) km_L_54 rfl ⟨rfl, rfl⟩ ⟨(Nat.le_of_ble_eq_true rfl), (Nat.le_of_ble_eq_true rfl)⟩ hl.1 rfl (Nat.le_of_ble_eq_true rfl) dL_least_3 ⟨(Nat.le_of_ble_eq_true rfl), (Nat.le_of_ble_eq_true rfl)⟩ (fun E ce q9 u H locs h hZ hce hcv hcl => ?_) (fun r u H locs h hZ => ?_)
    · obtain ⟨rfl, h⟩ := h
      refine z_catch hC hZ [] (⟨0, 8, 11, 15⟩ : ExceptionTableEntry) [] hxt (fun z hz => absurd hz List.not_mem_nil) (by decide) (by decide) kc_L_15 kcast_15 hce hcv hcl ?_
      refine lv_astore_n (lv' := [(2, .ref q9), (0, .ref (ad 30 0)), (1, .ref (ad 21 0))]) hC.1 hC.2.1 dL_least_11 rfl hl (by decide) rfl (fun ls hl => ?_)
      refine lv_iconst (v := 1) hC.1 hC.2.1 dL_least_12 (by decide) ?_
      exact vx_ret (z_nret hC hr hZ (fun _ _ _ => rfl) h dL_least_13 (Nat.le_of_ble_eq_true rfl) (Nat.le_of_ble_eq_true rfl))
    · refine lv_i2l hC.1 hC.2.1 dL_least_6 rfl ?_
      refine aS_21 hC hZ z01 dL_least_7 (fun μ1 H locs eμ hZ => ?_)
      refine lv_goto (tgt := 14) hC.1 hC.2.1 dL_least_8 (by decide) ?_
      refine lv_iconst (v := 0) hC.1 hC.2.1 dL_least_14 (by decide) ?_
      rw [show ((0 : Int32).toNatClampNeg) = 0 from rfl] at eμ
      subst eμ
      exact vx_ret (z_nret hC hr hZ (fun _ _ _ => rfl) h dL_least_15 (Nat.le_of_ble_eq_true rfl) (Nat.le_of_ble_eq_true rfl))
  exact key
theorem zy_L_stateOf : zYW yL_stateOf cL_stateOf 4 [(0, 9, 12, 21)] 3 := ⟨tin3 _ (List.mem_of_getElem? (i := 88) (by decide +kernel)), kini_L, tin3 _ (List.mem_of_getElem? (i := 89) rfl), by decide +kernel, by decide +kernel⟩
def w_L_stateOf (n np : Nat) (post : Int32 → Nat → Nat → Mem → Prop) (a1 : Int32) (μ : Mem) : Prop := w_X4_stateOf n np (fun (r : Int32) (u : Mem) => post 0 n np (zst u 21 0 0 r)) (fun (E : String) (u : Mem) => (E = "java/lang/IndexOutOfBoundsException" ∧ post 1 n np u)) a1 μ
set_option maxRecDepth 100000 in
set_option maxHeartbeats 4000000 in
theorem c_L_stateOf (l : Launch) (hst : l.stackTraces = false) {D : va_G} {ca : Nat → ClassId} {base : Nat} {ad : Nat → Nat → Nat} {n np : Nat} {μ : Mem} {post : Int32 → Nat → Nat → Mem → Prop} {a1 : Int32} (h : w_L_stateOf n np post a1 μ) : ZWMet l yL_stateOf cL_stateOf 4 [(0, 9, 12, 21)] ({ frames := 8, cells := 1, slots := 6, locals := 124 } : Room) 1 6 D ca base ad n np [.ref (ad 30 0), .int a1, .ref (ad 21 0)] μ post := by
  unfold ZWMet
  refine vx_ofWH (cc := cL_stateOf) (maxL := 4) (ret := (some FieldType.int)) (hh := [(0, 9, 12, 21)]) (by decide) rfl ?_
  intro p e s m args below meth c s₁ B hml hv
  obtain ⟨rfl, hU⟩ := hv
  have hZ := hU.toS
  have hC : ZC p m meth c s RL cL_stateOf 4 := ⟨B.exec, B.bytes, hml, findClass_of_methodNamed B.named, B.notSynchronized⟩
  have hr := B.returns
  have hxt := vx_table (x := yL_stateOf) B (hU.1.2.1.use (([.ref (ad 30 0), .int a1, .ref (ad 21 0)] : List Value).toArray) zy_L_stateOf.2.2.1 rfl)
  have key : W p l e ({ frames := 8, cells := 1, slots := 6, locals := 124 } : Room) s m (([.ref (ad 30 0), .int a1, .ref (ad 21 0)] : List Value).toArray) below meth c s.heap [] 0 0 (vx_MQ below (ZQN D ca base ad post) (ZX D ca base ad n np (fun _ _ => False)) (([.ref (ad 30 0), .int a1, .ref (ad 21 0)] : List Value).toArray) s 1 6 (zB base)) (entryFrame m (([.ref (ad 30 0), .int a1, .ref (ad 21 0)] : List Value).toArray) 4) := by
    have hl := lv_entry ([.ref (ad 30 0), .int a1, .ref (ad 21 0)]) (n := 4) (Nat.le_of_ble_eq_true rfl)
    rw [lg_entry_eq]
    generalize (lg_sl ([.ref (ad 30 0), .int a1, .ref (ad 21 0)]) ++ List.replicate (4 - (lg_sl ([.ref (ad 30 0), .int a1, .ref (ad 21 0)])).length) Slot.unset).toArray = ls at hl ⊢
    have hl : lv_has ls 4 [(0, .ref (ad 30 0)), (1, .int a1), (2, .ref (ad 21 0))] := hl
    unfold w_L_stateOf at h
    refine lv_aload_n hC.1 hC.2.1 dL_stateOf_0 rfl (lv_at hl 2 rfl) ?_
    refine lv_iconst (v := 0) hC.1 hC.2.1 dL_stateOf_1 (by decide) ?_
    refine lv_aload_n hC.1 hC.2.1 dL_stateOf_2 rfl (lv_at hl 0 rfl) ?_
    refine lv_iload_n hC.1 hC.2.1 dL_stateOf_3 rfl (lv_at hl 1 rfl) ?_
    refine z_cVXi (As := [.int a1]) hC hZ (zF_30 _) rfl zy_X4_stateOf (c_X4_stateOf l hst h) km_L_57 rfl ⟨rfl, rfl⟩ ⟨(Nat.le_of_ble_eq_true rfl), (Nat.le_of_ble_eq_true rfl)⟩ hl.1 rfl (Nat.le_of_ble_eq_true rfl) dL_stateOf_4 ⟨(Nat.le_of_ble_eq_true rfl), (Nat.le_of_ble_eq_true rfl)⟩ (fun E ce q9 u H locs h hZ hce hcv hcl => ?_) (fun r u H locs h hZ => ?_)
    · obtain ⟨rfl, h⟩ := h
      refine z_catch hC hZ [] (⟨0, 9, 12, 21⟩ : ExceptionTableEntry) [] hxt (fun z hz => absurd hz List.not_mem_nil) (by decide) (by decide) kc_L_21 kcast_21 hce hcv hcl ?_
      refine lv_astore_n (lv' := [(3, .ref q9), (0, .ref (ad 30 0)), (1, .int a1), (2, .ref (ad 21 0))]) hC.1 hC.2.1 dL_stateOf_12 rfl hl (by decide) rfl (fun ls hl => ?_)
      refine lv_iconst (v := 1) hC.1 hC.2.1 dL_stateOf_13 (by decide) ?_
      exact vx_ret (z_nret hC hr hZ (fun _ _ _ => rfl) h dL_stateOf_14 (Nat.le_of_ble_eq_true rfl) (Nat.le_of_ble_eq_true rfl))
    · refine lv_i2l hC.1 hC.2.1 dL_stateOf_7 rfl ?_
      refine aS_21 hC hZ z01 dL_stateOf_8 (fun μ1 H locs eμ hZ => ?_)
      refine lv_goto (tgt := 15) hC.1 hC.2.1 dL_stateOf_9 (by decide) ?_
      refine lv_iconst (v := 0) hC.1 hC.2.1 dL_stateOf_15 (by decide) ?_
      rw [show ((0 : Int32).toNatClampNeg) = 0 from rfl] at eμ
      subst eμ
      exact vx_ret (z_nret hC hr hZ (fun _ _ _ => rfl) h dL_stateOf_16 (Nat.le_of_ble_eq_true rfl) (Nat.le_of_ble_eq_true rfl))
  exact key
theorem zy_L_dayOf : zYW yL_dayOf cL_dayOf 4 [(0, 9, 12, 21)] 3 := ⟨tin3 _ (List.mem_of_getElem? (i := 95) (by decide +kernel)), kini_L, tin3 _ (List.mem_of_getElem? (i := 96) rfl), by decide +kernel, by decide +kernel⟩
def w_L_dayOf (n np : Nat) (post : Int32 → Nat → Nat → Mem → Prop) (a1 : Int32) (μ : Mem) : Prop := w_X4_dayOf n np (fun (r : Int32) (u : Mem) => post 0 n np (zst u 21 0 0 r)) (fun (E : String) (u : Mem) => (E = "java/lang/IndexOutOfBoundsException" ∧ post 1 n np u)) a1 μ
set_option maxRecDepth 100000 in
set_option maxHeartbeats 4000000 in
theorem c_L_dayOf (l : Launch) (hst : l.stackTraces = false) {D : va_G} {ca : Nat → ClassId} {base : Nat} {ad : Nat → Nat → Nat} {n np : Nat} {μ : Mem} {post : Int32 → Nat → Nat → Mem → Prop} {a1 : Int32} (h : w_L_dayOf n np post a1 μ) : ZWMet l yL_dayOf cL_dayOf 4 [(0, 9, 12, 21)] ({ frames := 8, cells := 1, slots := 6, locals := 125 } : Room) 1 6 D ca base ad n np [.ref (ad 30 0), .int a1, .ref (ad 21 0)] μ post := by
  unfold ZWMet
  refine vx_ofWH (cc := cL_dayOf) (maxL := 4) (ret := (some FieldType.int)) (hh := [(0, 9, 12, 21)]) (by decide) rfl ?_
  intro p e s m args below meth c s₁ B hml hv
  obtain ⟨rfl, hU⟩ := hv
  have hZ := hU.toS
  have hC : ZC p m meth c s RL cL_dayOf 4 := ⟨B.exec, B.bytes, hml, findClass_of_methodNamed B.named, B.notSynchronized⟩
  have hr := B.returns
  have hxt := vx_table (x := yL_dayOf) B (hU.1.2.1.use (([.ref (ad 30 0), .int a1, .ref (ad 21 0)] : List Value).toArray) zy_L_dayOf.2.2.1 rfl)
  have key : W p l e ({ frames := 8, cells := 1, slots := 6, locals := 125 } : Room) s m (([.ref (ad 30 0), .int a1, .ref (ad 21 0)] : List Value).toArray) below meth c s.heap [] 0 0 (vx_MQ below (ZQN D ca base ad post) (ZX D ca base ad n np (fun _ _ => False)) (([.ref (ad 30 0), .int a1, .ref (ad 21 0)] : List Value).toArray) s 1 6 (zB base)) (entryFrame m (([.ref (ad 30 0), .int a1, .ref (ad 21 0)] : List Value).toArray) 4) := by
    have hl := lv_entry ([.ref (ad 30 0), .int a1, .ref (ad 21 0)]) (n := 4) (Nat.le_of_ble_eq_true rfl)
    rw [lg_entry_eq]
    generalize (lg_sl ([.ref (ad 30 0), .int a1, .ref (ad 21 0)]) ++ List.replicate (4 - (lg_sl ([.ref (ad 30 0), .int a1, .ref (ad 21 0)])).length) Slot.unset).toArray = ls at hl ⊢
    have hl : lv_has ls 4 [(0, .ref (ad 30 0)), (1, .int a1), (2, .ref (ad 21 0))] := hl
    unfold w_L_dayOf at h
    refine lv_aload_n hC.1 hC.2.1 dL_dayOf_0 rfl (lv_at hl 2 rfl) ?_
    refine lv_iconst (v := 0) hC.1 hC.2.1 dL_dayOf_1 (by decide) ?_
    refine lv_aload_n hC.1 hC.2.1 dL_dayOf_2 rfl (lv_at hl 0 rfl) ?_
    refine lv_iload_n hC.1 hC.2.1 dL_dayOf_3 rfl (lv_at hl 1 rfl) ?_
    refine z_cVXi (As := [.int a1]) hC hZ (zF_30 _) rfl zy_X4_dayOf (c_X4_dayOf l hst h) km_L_60 rfl ⟨rfl, rfl⟩ ⟨(Nat.le_of_ble_eq_true rfl), (Nat.le_of_ble_eq_true rfl)⟩ hl.1 rfl (Nat.le_of_ble_eq_true rfl) dL_dayOf_4 ⟨(Nat.le_of_ble_eq_true rfl), (Nat.le_of_ble_eq_true rfl)⟩ (fun E ce q9 u H locs h hZ hce hcv hcl => ?_) (fun r u H locs h hZ => ?_)
    · obtain ⟨rfl, h⟩ := h
      refine z_catch hC hZ [] (⟨0, 9, 12, 21⟩ : ExceptionTableEntry) [] hxt (fun z hz => absurd hz List.not_mem_nil) (by decide) (by decide) kc_L_21 kcast_21 hce hcv hcl ?_
      refine lv_astore_n (lv' := [(3, .ref q9), (0, .ref (ad 30 0)), (1, .int a1), (2, .ref (ad 21 0))]) hC.1 hC.2.1 dL_dayOf_12 rfl hl (by decide) rfl (fun ls hl => ?_)
      refine lv_iconst (v := 1) hC.1 hC.2.1 dL_dayOf_13 (by decide) ?_
      exact vx_ret (z_nret hC hr hZ (fun _ _ _ => rfl) h dL_dayOf_14 (Nat.le_of_ble_eq_true rfl) (Nat.le_of_ble_eq_true rfl))
    · refine lv_i2l hC.1 hC.2.1 dL_dayOf_7 rfl ?_
      refine aS_21 hC hZ z01 dL_dayOf_8 (fun μ1 H locs eμ hZ => ?_)
      refine lv_goto (tgt := 15) hC.1 hC.2.1 dL_dayOf_9 (by decide) ?_
      refine lv_iconst (v := 0) hC.1 hC.2.1 dL_dayOf_15 (by decide) ?_
      rw [show ((0 : Int32).toNatClampNeg) = 0 from rfl] at eμ
      subst eμ
      exact vx_ret (z_nret hC hr hZ (fun _ _ _ => rfl) h dL_dayOf_16 (Nat.le_of_ble_eq_true rfl) (Nat.le_of_ble_eq_true rfl))
  exact key
theorem zy_L_sceneOn : zYW yL_sceneOn cL_sceneOn 4 [(0, 9, 12, 13)] 3 := ⟨tin3 _ (List.mem_of_getElem? (i := 102) (by decide +kernel)), kini_L, tin3 _ (List.mem_of_getElem? (i := 103) rfl), by decide +kernel, by decide +kernel⟩
def w_L_sceneOn (n np : Nat) (post : Int32 → Nat → Nat → Mem → Prop) (a1 : Int32) (μ : Mem) : Prop := w_X4_sceneOn n np (fun (r : Int32) (u : Mem) => post 0 n np (zst u 21 0 0 r)) (fun (E : String) (u : Mem) => (E = "java/lang/IllegalArgumentException" ∧ post 1 n np u)) a1 μ
set_option maxRecDepth 100000 in
set_option maxHeartbeats 4000000 in
theorem c_L_sceneOn (l : Launch) (hst : l.stackTraces = false) {D : va_G} {ca : Nat → ClassId} {base : Nat} {ad : Nat → Nat → Nat} {n np : Nat} {μ : Mem} {post : Int32 → Nat → Nat → Mem → Prop} {a1 : Int32} (h : w_L_sceneOn n np post a1 μ) : ZWMet l yL_sceneOn cL_sceneOn 4 [(0, 9, 12, 13)] ({ frames := 8, cells := 1, slots := 6, locals := 124 } : Room) 1 6 D ca base ad n np [.ref (ad 30 0), .int a1, .ref (ad 21 0)] μ post := by
  unfold ZWMet
  refine vx_ofWH (cc := cL_sceneOn) (maxL := 4) (ret := (some FieldType.int)) (hh := [(0, 9, 12, 13)]) (by decide) rfl ?_
  intro p e s m args below meth c s₁ B hml hv
  obtain ⟨rfl, hU⟩ := hv
  have hZ := hU.toS
  have hC : ZC p m meth c s RL cL_sceneOn 4 := ⟨B.exec, B.bytes, hml, findClass_of_methodNamed B.named, B.notSynchronized⟩
  have hr := B.returns
  have hxt := vx_table (x := yL_sceneOn) B (hU.1.2.1.use (([.ref (ad 30 0), .int a1, .ref (ad 21 0)] : List Value).toArray) zy_L_sceneOn.2.2.1 rfl)
  have key : W p l e ({ frames := 8, cells := 1, slots := 6, locals := 124 } : Room) s m (([.ref (ad 30 0), .int a1, .ref (ad 21 0)] : List Value).toArray) below meth c s.heap [] 0 0 (vx_MQ below (ZQN D ca base ad post) (ZX D ca base ad n np (fun _ _ => False)) (([.ref (ad 30 0), .int a1, .ref (ad 21 0)] : List Value).toArray) s 1 6 (zB base)) (entryFrame m (([.ref (ad 30 0), .int a1, .ref (ad 21 0)] : List Value).toArray) 4) := by
    have hl := lv_entry ([.ref (ad 30 0), .int a1, .ref (ad 21 0)]) (n := 4) (Nat.le_of_ble_eq_true rfl)
    rw [lg_entry_eq]
    generalize (lg_sl ([.ref (ad 30 0), .int a1, .ref (ad 21 0)]) ++ List.replicate (4 - (lg_sl ([.ref (ad 30 0), .int a1, .ref (ad 21 0)])).length) Slot.unset).toArray = ls at hl ⊢
    have hl : lv_has ls 4 [(0, .ref (ad 30 0)), (1, .int a1), (2, .ref (ad 21 0))] := hl
    unfold w_L_sceneOn at h
    refine lv_aload_n hC.1 hC.2.1 dL_sceneOn_0 rfl (lv_at hl 2 rfl) ?_
    refine lv_iconst (v := 0) hC.1 hC.2.1 dL_sceneOn_1 (by decide) ?_
    refine lv_aload_n hC.1 hC.2.1 dL_sceneOn_2 rfl (lv_at hl 0 rfl) ?_
    refine lv_iload_n hC.1 hC.2.1 dL_sceneOn_3 rfl (lv_at hl 1 rfl) ?_
    refine z_cVXi (As := [.int a1]) hC hZ (zF_30 _) rfl zy_X4_sceneOn (c_X4_sceneOn l hst h) km_L_63 rfl ⟨rfl, rfl⟩ ⟨(Nat.le_of_ble_eq_true rfl), (Nat.le_of_ble_eq_true rfl)⟩ hl.1 rfl (Nat.le_of_ble_eq_true rfl) dL_sceneOn_4 ⟨(Nat.le_of_ble_eq_true rfl), (Nat.le_of_ble_eq_true rfl)⟩ (fun E ce q9 u H locs h hZ hce hcv hcl => ?_) (fun r u H locs h hZ => ?_)
    · obtain ⟨rfl, h⟩ := h
      refine z_catch hC hZ [] (⟨0, 9, 12, 13⟩ : ExceptionTableEntry) [] hxt (fun z hz => absurd hz List.not_mem_nil) (by decide) (by decide) kc_L_13 kcast_13 hce hcv hcl ?_
      refine lv_astore_n (lv' := [(3, .ref q9), (0, .ref (ad 30 0)), (1, .int a1), (2, .ref (ad 21 0))]) hC.1 hC.2.1 dL_sceneOn_12 rfl hl (by decide) rfl (fun ls hl => ?_)
      refine lv_iconst (v := 1) hC.1 hC.2.1 dL_sceneOn_13 (by decide) ?_
      exact vx_ret (z_nret hC hr hZ (fun _ _ _ => rfl) h dL_sceneOn_14 (Nat.le_of_ble_eq_true rfl) (Nat.le_of_ble_eq_true rfl))
    · refine lv_i2l hC.1 hC.2.1 dL_sceneOn_7 rfl ?_
      refine aS_21 hC hZ z01 dL_sceneOn_8 (fun μ1 H locs eμ hZ => ?_)
      refine lv_goto (tgt := 15) hC.1 hC.2.1 dL_sceneOn_9 (by decide) ?_
      refine lv_iconst (v := 0) hC.1 hC.2.1 dL_sceneOn_15 (by decide) ?_
      rw [show ((0 : Int32).toNatClampNeg) = 0 from rfl] at eμ
      subst eμ
      exact vx_ret (z_nret hC hr hZ (fun _ _ _ => rfl) h dL_sceneOn_16 (Nat.le_of_ble_eq_true rfl) (Nat.le_of_ble_eq_true rfl))
  exact key
theorem zy_L_isAllowed : zYW yL_isAllowed cL_isAllowed 5 [(0, 17, 20, 21), (0, 17, 24, 13)] 4 := ⟨tin3 _ (List.mem_of_getElem? (i := 109) (by decide +kernel)), kini_L, tin3 _ (List.mem_of_getElem? (i := 110) rfl), by decide +kernel, by decide +kernel⟩
def w_L_isAllowed (n np : Nat) (post : Int32 → Nat → Nat → Mem → Prop) (a1 : Int32) (a2 : Int32) (μ : Mem) : Prop := w_X4_isAllowed n np (fun (r : Int32) (u : Mem) => (r = 0 → post 0 n np (zst u 21 0 0 0)) ∧ (¬ r = 0 → post 0 n np (zst u 21 0 0 1))) (fun (E : String) (u : Mem) => (E = "java/lang/IndexOutOfBoundsException" ∧ post 1 n np u) ∨ (E = "java/lang/IllegalArgumentException" ∧ post 2 n np u)) a1 a2 μ
set_option maxRecDepth 100000 in
set_option maxHeartbeats 4000000 in
theorem c_L_isAllowed (l : Launch) (hst : l.stackTraces = false) {D : va_G} {ca : Nat → ClassId} {base : Nat} {ad : Nat → Nat → Nat} {n np : Nat} {μ : Mem} {post : Int32 → Nat → Nat → Mem → Prop} {a1 : Int32} {a2 : Int32} (h : w_L_isAllowed n np post a1 a2 μ) : ZWMet l yL_isAllowed cL_isAllowed 5 [(0, 17, 20, 21), (0, 17, 24, 13)] ({ frames := 8, cells := 2, slots := 12, locals := 126 } : Room) 2 12 D ca base ad n np [.ref (ad 30 0), .int a1, .int a2, .ref (ad 21 0)] μ post := by
  unfold ZWMet
  refine vx_ofWH (cc := cL_isAllowed) (maxL := 5) (ret := (some FieldType.int)) (hh := [(0, 17, 20, 21), (0, 17, 24, 13)]) (by decide) rfl ?_
  intro p e s m args below meth c s₁ B hml hv
  obtain ⟨rfl, hU⟩ := hv
  have hZ := hU.toS
  have hC : ZC p m meth c s RL cL_isAllowed 5 := ⟨B.exec, B.bytes, hml, findClass_of_methodNamed B.named, B.notSynchronized⟩
  have hr := B.returns
  have hxt := vx_table (x := yL_isAllowed) B (hU.1.2.1.use (([.ref (ad 30 0), .int a1, .int a2, .ref (ad 21 0)] : List Value).toArray) zy_L_isAllowed.2.2.1 rfl)
  have key : W p l e ({ frames := 8, cells := 2, slots := 12, locals := 126 } : Room) s m (([.ref (ad 30 0), .int a1, .int a2, .ref (ad 21 0)] : List Value).toArray) below meth c s.heap [] 0 0 (vx_MQ below (ZQN D ca base ad post) (ZX D ca base ad n np (fun _ _ => False)) (([.ref (ad 30 0), .int a1, .int a2, .ref (ad 21 0)] : List Value).toArray) s 2 12 (zB base)) (entryFrame m (([.ref (ad 30 0), .int a1, .int a2, .ref (ad 21 0)] : List Value).toArray) 5) := by
    have hl := lv_entry ([.ref (ad 30 0), .int a1, .int a2, .ref (ad 21 0)]) (n := 5) (Nat.le_of_ble_eq_true rfl)
    rw [lg_entry_eq]
    generalize (lg_sl ([.ref (ad 30 0), .int a1, .int a2, .ref (ad 21 0)]) ++ List.replicate (5 - (lg_sl ([.ref (ad 30 0), .int a1, .int a2, .ref (ad 21 0)])).length) Slot.unset).toArray = ls at hl ⊢
    have hl : lv_has ls 5 [(0, .ref (ad 30 0)), (1, .int a1), (2, .int a2), (3, .ref (ad 21 0))] := hl
    unfold w_L_isAllowed at h
    refine lv_aload_n hC.1 hC.2.1 dL_isAllowed_0 rfl (lv_at hl 3 rfl) ?_
    refine lv_iconst (v := 0) hC.1 hC.2.1 dL_isAllowed_1 (by decide) ?_
    refine lv_aload_n hC.1 hC.2.1 dL_isAllowed_2 rfl (lv_at hl 0 rfl) ?_
    refine lv_iload_n hC.1 hC.2.1 dL_isAllowed_3 rfl (lv_at hl 1 rfl) ?_
    refine lv_iload_n hC.1 hC.2.1 dL_isAllowed_4 rfl (lv_at hl 2 rfl) ?_
    refine z_cVXi (As := [.int a1, .int a2]) hC hZ (zF_30 _) rfl zy_X4_isAllowed (c_X4_isAllowed l hst h) km_L_66 rfl ⟨rfl, rfl⟩ ⟨(Nat.le_of_ble_eq_true rfl), (Nat.le_of_ble_eq_true rfl)⟩ hl.1 rfl (Nat.le_of_ble_eq_true rfl) dL_isAllowed_5 ⟨(Nat.le_of_ble_eq_true rfl), (Nat.le_of_ble_eq_true rfl)⟩ (fun E ce q9 u H locs h hZ hce hcv hcl => ?_) (fun r u H locs h hZ => ?_)
    · rcases h with ⟨rfl, h⟩ | ⟨rfl, h⟩
      · refine z_catch hC hZ [] (⟨0, 17, 20, 21⟩ : ExceptionTableEntry) [(⟨0, 17, 24, 13⟩ : ExceptionTableEntry)] hxt (fun z hz => absurd hz List.not_mem_nil) (by decide) (by decide) kc_L_21 kcast_21 hce hcv hcl ?_
        refine lv_astore (lv' := [(4, .ref q9), (0, .ref (ad 30 0)), (1, .int a1), (2, .int a2), (3, .ref (ad 21 0))]) hC.1 hC.2.1 dL_isAllowed_20 hl (by decide) rfl (fun ls hl => ?_)
        refine lv_iconst (v := 1) hC.1 hC.2.1 dL_isAllowed_22 (by decide) ?_
        exact vx_ret (z_nret hC hr hZ (fun _ _ _ => rfl) h dL_isAllowed_23 (Nat.le_of_ble_eq_true rfl) (Nat.le_of_ble_eq_true rfl))
      · refine z_catch hC hZ [(⟨0, 17, 20, 21⟩ : ExceptionTableEntry)] (⟨0, 17, 24, 13⟩ : ExceptionTableEntry) [] hxt (fun z hz => by rw [List.mem_singleton.mp hz]; exact ⟨(by decide), _, kc_L_21, znc_13_21⟩) (by decide) (by decide) kc_L_13 kcast_13 hce hcv hcl ?_
        refine lv_astore (lv' := [(4, .ref q9), (0, .ref (ad 30 0)), (1, .int a1), (2, .int a2), (3, .ref (ad 21 0))]) hC.1 hC.2.1 dL_isAllowed_24 hl (by decide) rfl (fun ls hl => ?_)
        refine lv_iconst (v := 2) hC.1 hC.2.1 dL_isAllowed_26 (by decide) ?_
        exact vx_ret (z_nret hC hr hZ (fun _ _ _ => rfl) h dL_isAllowed_27 (Nat.le_of_ble_eq_true rfl) (Nat.le_of_ble_eq_true rfl))
    · refine lv_if_eq (tgt := 15) hC.1 hC.2.1 dL_isAllowed_8 (by decide) (fun c1 => ?_) (fun c1 => ?_)
      · have h := h.1 c1
        refine lv_lconst (v := (0 : Int32).toInt64) hC.1 hC.2.1 dL_isAllowed_15 (by decide) ?_
        refine aS_21 hC hZ z01 dL_isAllowed_16 (fun μ1 H locs eμ hZ => ?_)
        refine lv_goto (tgt := 28) hC.1 hC.2.1 dL_isAllowed_17 (by decide) ?_
        refine lv_iconst (v := 0) hC.1 hC.2.1 dL_isAllowed_28 (by decide) ?_
        rw [show ((0 : Int32).toNatClampNeg) = 0 from rfl] at eμ
        subst eμ
        exact vx_ret (z_nret hC hr hZ (fun _ _ _ => rfl) h dL_isAllowed_29 (Nat.le_of_ble_eq_true rfl) (Nat.le_of_ble_eq_true rfl))
      · have h := h.2 c1
        refine lv_lconst (v := (1 : Int32).toInt64) hC.1 hC.2.1 dL_isAllowed_11 (by decide) ?_
        refine lv_goto (tgt := 16) hC.1 hC.2.1 dL_isAllowed_12 (by decide) ?_
        refine aS_21 hC hZ z01 dL_isAllowed_16 (fun μ1 H locs eμ hZ => ?_)
        refine lv_goto (tgt := 28) hC.1 hC.2.1 dL_isAllowed_17 (by decide) ?_
        refine lv_iconst (v := 0) hC.1 hC.2.1 dL_isAllowed_28 (by decide) ?_
        rw [show ((0 : Int32).toNatClampNeg) = 0 from rfl] at eμ
        subst eμ
        exact vx_ret (z_nret hC hr hZ (fun _ _ _ => rfl) h dL_isAllowed_29 (Nat.le_of_ble_eq_true rfl) (Nat.le_of_ble_eq_true rfl))
  exact key
theorem zy_L_ahead : zYW yL_ahead cL_ahead 5 [(0, 10, 13, 21)] 4 := ⟨tin3 _ (List.mem_of_getElem? (i := 116) (by decide +kernel)), kini_L, tin3 _ (List.mem_of_getElem? (i := 117) rfl), by decide +kernel, by decide +kernel⟩
def w_L_ahead (n np : Nat) (post : Int32 → Nat → Nat → Mem → Prop) (a1 : Int32) (a2 : Int32) (μ : Mem) : Prop := w_X4_ahead n np (fun (r : Int32) (u : Mem) => post 0 n np (zst u 21 0 0 r)) (fun (E : String) (u : Mem) => (E = "java/lang/IndexOutOfBoundsException" ∧ post 1 n np u)) a1 a2 μ
set_option maxRecDepth 100000 in
set_option maxHeartbeats 4000000 in
theorem c_L_ahead (l : Launch) (hst : l.stackTraces = false) {D : va_G} {ca : Nat → ClassId} {base : Nat} {ad : Nat → Nat → Nat} {n np : Nat} {μ : Mem} {post : Int32 → Nat → Nat → Mem → Prop} {a1 : Int32} {a2 : Int32} (h : w_L_ahead n np post a1 a2 μ) : ZWMet l yL_ahead cL_ahead 5 [(0, 10, 13, 21)] ({ frames := 8, cells := 2, slots := 12, locals := 130 } : Room) 2 12 D ca base ad n np [.ref (ad 30 0), .int a1, .int a2, .ref (ad 21 0)] μ post := by
  unfold ZWMet
  refine vx_ofWH (cc := cL_ahead) (maxL := 5) (ret := (some FieldType.int)) (hh := [(0, 10, 13, 21)]) (by decide) rfl ?_
  intro p e s m args below meth c s₁ B hml hv
  obtain ⟨rfl, hU⟩ := hv
  have hZ := hU.toS
  have hC : ZC p m meth c s RL cL_ahead 5 := ⟨B.exec, B.bytes, hml, findClass_of_methodNamed B.named, B.notSynchronized⟩
  have hr := B.returns
  have hxt := vx_table (x := yL_ahead) B (hU.1.2.1.use (([.ref (ad 30 0), .int a1, .int a2, .ref (ad 21 0)] : List Value).toArray) zy_L_ahead.2.2.1 rfl)
  have key : W p l e ({ frames := 8, cells := 2, slots := 12, locals := 130 } : Room) s m (([.ref (ad 30 0), .int a1, .int a2, .ref (ad 21 0)] : List Value).toArray) below meth c s.heap [] 0 0 (vx_MQ below (ZQN D ca base ad post) (ZX D ca base ad n np (fun _ _ => False)) (([.ref (ad 30 0), .int a1, .int a2, .ref (ad 21 0)] : List Value).toArray) s 2 12 (zB base)) (entryFrame m (([.ref (ad 30 0), .int a1, .int a2, .ref (ad 21 0)] : List Value).toArray) 5) := by
    have hl := lv_entry ([.ref (ad 30 0), .int a1, .int a2, .ref (ad 21 0)]) (n := 5) (Nat.le_of_ble_eq_true rfl)
    rw [lg_entry_eq]
    generalize (lg_sl ([.ref (ad 30 0), .int a1, .int a2, .ref (ad 21 0)]) ++ List.replicate (5 - (lg_sl ([.ref (ad 30 0), .int a1, .int a2, .ref (ad 21 0)])).length) Slot.unset).toArray = ls at hl ⊢
    have hl : lv_has ls 5 [(0, .ref (ad 30 0)), (1, .int a1), (2, .int a2), (3, .ref (ad 21 0))] := hl
    unfold w_L_ahead at h
    refine lv_aload_n hC.1 hC.2.1 dL_ahead_0 rfl (lv_at hl 3 rfl) ?_
    refine lv_iconst (v := 0) hC.1 hC.2.1 dL_ahead_1 (by decide) ?_
    refine lv_aload_n hC.1 hC.2.1 dL_ahead_2 rfl (lv_at hl 0 rfl) ?_
    refine lv_iload_n hC.1 hC.2.1 dL_ahead_3 rfl (lv_at hl 1 rfl) ?_
    refine lv_iload_n hC.1 hC.2.1 dL_ahead_4 rfl (lv_at hl 2 rfl) ?_
    refine z_cVXi (As := [.int a1, .int a2]) hC hZ (zF_30 _) rfl zy_X4_ahead (c_X4_ahead l hst h) km_L_70 rfl ⟨rfl, rfl⟩ ⟨(Nat.le_of_ble_eq_true rfl), (Nat.le_of_ble_eq_true rfl)⟩ hl.1 rfl (Nat.le_of_ble_eq_true rfl) dL_ahead_5 ⟨(Nat.le_of_ble_eq_true rfl), (Nat.le_of_ble_eq_true rfl)⟩ (fun E ce q9 u H locs h hZ hce hcv hcl => ?_) (fun r u H locs h hZ => ?_)
    · obtain ⟨rfl, h⟩ := h
      refine z_catch hC hZ [] (⟨0, 10, 13, 21⟩ : ExceptionTableEntry) [] hxt (fun z hz => absurd hz List.not_mem_nil) (by decide) (by decide) kc_L_21 kcast_21 hce hcv hcl ?_
      refine lv_astore (lv' := [(4, .ref q9), (0, .ref (ad 30 0)), (1, .int a1), (2, .int a2), (3, .ref (ad 21 0))]) hC.1 hC.2.1 dL_ahead_13 hl (by decide) rfl (fun ls hl => ?_)
      refine lv_iconst (v := 1) hC.1 hC.2.1 dL_ahead_15 (by decide) ?_
      exact vx_ret (z_nret hC hr hZ (fun _ _ _ => rfl) h dL_ahead_16 (Nat.le_of_ble_eq_true rfl) (Nat.le_of_ble_eq_true rfl))
    · refine lv_i2l hC.1 hC.2.1 dL_ahead_8 rfl ?_
      refine aS_21 hC hZ z01 dL_ahead_9 (fun μ1 H locs eμ hZ => ?_)
      refine lv_goto (tgt := 17) hC.1 hC.2.1 dL_ahead_10 (by decide) ?_
      refine lv_iconst (v := 0) hC.1 hC.2.1 dL_ahead_17 (by decide) ?_
      rw [show ((0 : Int32).toNatClampNeg) = 0 from rfl] at eμ
      subst eμ
      exact vx_ret (z_nret hC hr hZ (fun _ _ _ => rfl) h dL_ahead_18 (Nat.le_of_ble_eq_true rfl) (Nat.le_of_ble_eq_true rfl))
  exact key
theorem zy_L_copies : zYW yL_copies cL_copies 5 [(0, 10, 13, 21), (0, 10, 17, 13)] 4 := ⟨tin3 _ (List.mem_of_getElem? (i := 123) (by decide +kernel)), kini_L, tin3 _ (List.mem_of_getElem? (i := 124) rfl), by decide +kernel, by decide +kernel⟩
def w_L_copies (n np : Nat) (post : Int32 → Nat → Nat → Mem → Prop) (a1 : Int32) (a2 : Int32) (μ : Mem) : Prop := w_X4_copies n np (fun (r : Int32) (u : Mem) => post 0 n np (zst u 21 0 0 r)) (fun (E : String) (u : Mem) => (E = "java/lang/IndexOutOfBoundsException" ∧ post 1 n np u) ∨ (E = "java/lang/IllegalArgumentException" ∧ post 2 n np u)) a1 a2 μ
set_option maxRecDepth 100000 in
set_option maxHeartbeats 4000000 in
theorem c_L_copies (l : Launch) (hst : l.stackTraces = false) {D : va_G} {ca : Nat → ClassId} {base : Nat} {ad : Nat → Nat → Nat} {n np : Nat} {μ : Mem} {post : Int32 → Nat → Nat → Mem → Prop} {a1 : Int32} {a2 : Int32} (h : w_L_copies n np post a1 a2 μ) : ZWMet l yL_copies cL_copies 5 [(0, 10, 13, 21), (0, 10, 17, 13)] ({ frames := 8, cells := 2, slots := 12, locals := 124 } : Room) 2 12 D ca base ad n np [.ref (ad 30 0), .int a1, .int a2, .ref (ad 21 0)] μ post := by
  unfold ZWMet
  refine vx_ofWH (cc := cL_copies) (maxL := 5) (ret := (some FieldType.int)) (hh := [(0, 10, 13, 21), (0, 10, 17, 13)]) (by decide) rfl ?_
  intro p e s m args below meth c s₁ B hml hv
  obtain ⟨rfl, hU⟩ := hv
  have hZ := hU.toS
  have hC : ZC p m meth c s RL cL_copies 5 := ⟨B.exec, B.bytes, hml, findClass_of_methodNamed B.named, B.notSynchronized⟩
  have hr := B.returns
  have hxt := vx_table (x := yL_copies) B (hU.1.2.1.use (([.ref (ad 30 0), .int a1, .int a2, .ref (ad 21 0)] : List Value).toArray) zy_L_copies.2.2.1 rfl)
  have key : W p l e ({ frames := 8, cells := 2, slots := 12, locals := 124 } : Room) s m (([.ref (ad 30 0), .int a1, .int a2, .ref (ad 21 0)] : List Value).toArray) below meth c s.heap [] 0 0 (vx_MQ below (ZQN D ca base ad post) (ZX D ca base ad n np (fun _ _ => False)) (([.ref (ad 30 0), .int a1, .int a2, .ref (ad 21 0)] : List Value).toArray) s 2 12 (zB base)) (entryFrame m (([.ref (ad 30 0), .int a1, .int a2, .ref (ad 21 0)] : List Value).toArray) 5) := by
    have hl := lv_entry ([.ref (ad 30 0), .int a1, .int a2, .ref (ad 21 0)]) (n := 5) (Nat.le_of_ble_eq_true rfl)
    rw [lg_entry_eq]
    generalize (lg_sl ([.ref (ad 30 0), .int a1, .int a2, .ref (ad 21 0)]) ++ List.replicate (5 - (lg_sl ([.ref (ad 30 0), .int a1, .int a2, .ref (ad 21 0)])).length) Slot.unset).toArray = ls at hl ⊢
    have hl : lv_has ls 5 [(0, .ref (ad 30 0)), (1, .int a1), (2, .int a2), (3, .ref (ad 21 0))] := hl
    unfold w_L_copies at h
    refine lv_aload_n hC.1 hC.2.1 dL_copies_0 rfl (lv_at hl 3 rfl) ?_
    refine lv_iconst (v := 0) hC.1 hC.2.1 dL_copies_1 (by decide) ?_
    refine lv_aload_n hC.1 hC.2.1 dL_copies_2 rfl (lv_at hl 0 rfl) ?_
    refine lv_iload_n hC.1 hC.2.1 dL_copies_3 rfl (lv_at hl 1 rfl) ?_
    refine lv_iload_n hC.1 hC.2.1 dL_copies_4 rfl (lv_at hl 2 rfl) ?_
    refine z_cVXi (As := [.int a1, .int a2]) hC hZ (zF_30 _) rfl zy_X4_copies (c_X4_copies l hst h) km_L_73 rfl ⟨rfl, rfl⟩ ⟨(Nat.le_of_ble_eq_true rfl), (Nat.le_of_ble_eq_true rfl)⟩ hl.1 rfl (Nat.le_of_ble_eq_true rfl) dL_copies_5 ⟨(Nat.le_of_ble_eq_true rfl), (Nat.le_of_ble_eq_true rfl)⟩ (fun E ce q9 u H locs h hZ hce hcv hcl => ?_) (fun r u H locs h hZ => ?_)
    · rcases h with ⟨rfl, h⟩ | ⟨rfl, h⟩
      · refine z_catch hC hZ [] (⟨0, 10, 13, 21⟩ : ExceptionTableEntry) [(⟨0, 10, 17, 13⟩ : ExceptionTableEntry)] hxt (fun z hz => absurd hz List.not_mem_nil) (by decide) (by decide) kc_L_21 kcast_21 hce hcv hcl ?_
        refine lv_astore (lv' := [(4, .ref q9), (0, .ref (ad 30 0)), (1, .int a1), (2, .int a2), (3, .ref (ad 21 0))]) hC.1 hC.2.1 dL_copies_13 hl (by decide) rfl (fun ls hl => ?_)
        refine lv_iconst (v := 1) hC.1 hC.2.1 dL_copies_15 (by decide) ?_
        exact vx_ret (z_nret hC hr hZ (fun _ _ _ => rfl) h dL_copies_16 (Nat.le_of_ble_eq_true rfl) (Nat.le_of_ble_eq_true rfl))
      · refine z_catch hC hZ [(⟨0, 10, 13, 21⟩ : ExceptionTableEntry)] (⟨0, 10, 17, 13⟩ : ExceptionTableEntry) [] hxt (fun z hz => by rw [List.mem_singleton.mp hz]; exact ⟨(by decide), _, kc_L_21, znc_13_21⟩) (by decide) (by decide) kc_L_13 kcast_13 hce hcv hcl ?_
        refine lv_astore (lv' := [(4, .ref q9), (0, .ref (ad 30 0)), (1, .int a1), (2, .int a2), (3, .ref (ad 21 0))]) hC.1 hC.2.1 dL_copies_17 hl (by decide) rfl (fun ls hl => ?_)
        refine lv_iconst (v := 2) hC.1 hC.2.1 dL_copies_19 (by decide) ?_
        exact vx_ret (z_nret hC hr hZ (fun _ _ _ => rfl) h dL_copies_20 (Nat.le_of_ble_eq_true rfl) (Nat.le_of_ble_eq_true rfl))
    · refine lv_i2l hC.1 hC.2.1 dL_copies_8 rfl ?_
      refine aS_21 hC hZ z01 dL_copies_9 (fun μ1 H locs eμ hZ => ?_)
      refine lv_goto (tgt := 21) hC.1 hC.2.1 dL_copies_10 (by decide) ?_
      refine lv_iconst (v := 0) hC.1 hC.2.1 dL_copies_21 (by decide) ?_
      rw [show ((0 : Int32).toNatClampNeg) = 0 from rfl] at eμ
      subst eμ
      exact vx_ret (z_nret hC hr hZ (fun _ _ _ => rfl) h dL_copies_22 (Nat.le_of_ble_eq_true rfl) (Nat.le_of_ble_eq_true rfl))
  exact key
theorem zy_L_growth : zYW yL_growth cL_growth 4 [(0, 9, 12, 21)] 3 := ⟨tin3 _ (List.mem_of_getElem? (i := 131) (by decide +kernel)), kini_L, tin3 _ (List.mem_of_getElem? (i := 132) rfl), by decide +kernel, by decide +kernel⟩
def w_L_growth (n np : Nat) (post : Int32 → Nat → Nat → Mem → Prop) (a1 : Int32) (μ : Mem) : Prop := w_X4_growth n np (fun (r : Int32) (u : Mem) => post 0 n np (zst u 21 0 0 r)) (fun (E : String) (u : Mem) => (E = "java/lang/IndexOutOfBoundsException" ∧ post 1 n np u)) a1 μ
set_option maxRecDepth 100000 in
set_option maxHeartbeats 4000000 in
theorem c_L_growth (l : Launch) (hst : l.stackTraces = false) {D : va_G} {ca : Nat → ClassId} {base : Nat} {ad : Nat → Nat → Nat} {n np : Nat} {μ : Mem} {post : Int32 → Nat → Nat → Mem → Prop} {a1 : Int32} (h : w_L_growth n np post a1 μ) : ZWMet l yL_growth cL_growth 4 [(0, 9, 12, 21)] ({ frames := 8, cells := 1, slots := 6, locals := 123 } : Room) 1 6 D ca base ad n np [.ref (ad 30 0), .int a1, .ref (ad 21 0)] μ post := by
  unfold ZWMet
  refine vx_ofWH (cc := cL_growth) (maxL := 4) (ret := (some FieldType.int)) (hh := [(0, 9, 12, 21)]) (by decide) rfl ?_
  intro p e s m args below meth c s₁ B hml hv
  obtain ⟨rfl, hU⟩ := hv
  have hZ := hU.toS
  have hC : ZC p m meth c s RL cL_growth 4 := ⟨B.exec, B.bytes, hml, findClass_of_methodNamed B.named, B.notSynchronized⟩
  have hr := B.returns
  have hxt := vx_table (x := yL_growth) B (hU.1.2.1.use (([.ref (ad 30 0), .int a1, .ref (ad 21 0)] : List Value).toArray) zy_L_growth.2.2.1 rfl)
  have key : W p l e ({ frames := 8, cells := 1, slots := 6, locals := 123 } : Room) s m (([.ref (ad 30 0), .int a1, .ref (ad 21 0)] : List Value).toArray) below meth c s.heap [] 0 0 (vx_MQ below (ZQN D ca base ad post) (ZX D ca base ad n np (fun _ _ => False)) (([.ref (ad 30 0), .int a1, .ref (ad 21 0)] : List Value).toArray) s 1 6 (zB base)) (entryFrame m (([.ref (ad 30 0), .int a1, .ref (ad 21 0)] : List Value).toArray) 4) := by
    have hl := lv_entry ([.ref (ad 30 0), .int a1, .ref (ad 21 0)]) (n := 4) (Nat.le_of_ble_eq_true rfl)
    rw [lg_entry_eq]
    generalize (lg_sl ([.ref (ad 30 0), .int a1, .ref (ad 21 0)]) ++ List.replicate (4 - (lg_sl ([.ref (ad 30 0), .int a1, .ref (ad 21 0)])).length) Slot.unset).toArray = ls at hl ⊢
    have hl : lv_has ls 4 [(0, .ref (ad 30 0)), (1, .int a1), (2, .ref (ad 21 0))] := hl
    unfold w_L_growth at h
    refine lv_aload_n hC.1 hC.2.1 dL_growth_0 rfl (lv_at hl 2 rfl) ?_
    refine lv_iconst (v := 0) hC.1 hC.2.1 dL_growth_1 (by decide) ?_
    refine lv_aload_n hC.1 hC.2.1 dL_growth_2 rfl (lv_at hl 0 rfl) ?_
    refine lv_iload_n hC.1 hC.2.1 dL_growth_3 rfl (lv_at hl 1 rfl) ?_
    refine z_cVXi (As := [.int a1]) hC hZ (zF_30 _) rfl zy_X4_growth (c_X4_growth l hst h) km_L_76 rfl ⟨rfl, rfl⟩ ⟨(Nat.le_of_ble_eq_true rfl), (Nat.le_of_ble_eq_true rfl)⟩ hl.1 rfl (Nat.le_of_ble_eq_true rfl) dL_growth_4 ⟨(Nat.le_of_ble_eq_true rfl), (Nat.le_of_ble_eq_true rfl)⟩ (fun E ce q9 u H locs h hZ hce hcv hcl => ?_) (fun r u H locs h hZ => ?_)
    · obtain ⟨rfl, h⟩ := h
      refine z_catch hC hZ [] (⟨0, 9, 12, 21⟩ : ExceptionTableEntry) [] hxt (fun z hz => absurd hz List.not_mem_nil) (by decide) (by decide) kc_L_21 kcast_21 hce hcv hcl ?_
      refine lv_astore_n (lv' := [(3, .ref q9), (0, .ref (ad 30 0)), (1, .int a1), (2, .ref (ad 21 0))]) hC.1 hC.2.1 dL_growth_12 rfl hl (by decide) rfl (fun ls hl => ?_)
      refine lv_iconst (v := 1) hC.1 hC.2.1 dL_growth_13 (by decide) ?_
      exact vx_ret (z_nret hC hr hZ (fun _ _ _ => rfl) h dL_growth_14 (Nat.le_of_ble_eq_true rfl) (Nat.le_of_ble_eq_true rfl))
    · refine lv_i2l hC.1 hC.2.1 dL_growth_7 rfl ?_
      refine aS_21 hC hZ z01 dL_growth_8 (fun μ1 H locs eμ hZ => ?_)
      refine lv_goto (tgt := 15) hC.1 hC.2.1 dL_growth_9 (by decide) ?_
      refine lv_iconst (v := 0) hC.1 hC.2.1 dL_growth_15 (by decide) ?_
      rw [show ((0 : Int32).toNatClampNeg) = 0 from rfl] at eμ
      subst eμ
      exact vx_ret (z_nret hC hr hZ (fun _ _ _ => rfl) h dL_growth_16 (Nat.le_of_ble_eq_true rfl) (Nat.le_of_ble_eq_true rfl))
  exact key
