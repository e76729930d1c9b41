theorem zy_L_scene : zYW yL_scene cL_scene 4 [(0, 6, 7, 16), (0, 6, 11, 19)] 3 := ⟨tin2 _ (List.mem_of_getElem? (i := 206) (by decide +kernel)), kini_L, tin2 _ (List.mem_of_getElem? (i := 207) rfl), by decide +kernel, by decide +kernel⟩
def w_L_scene (n np : Nat) (post : Int32 → Nat → Nat → Mem → Prop) (a1 : Int32) (a2 : Int32) (μ : Mem) : Prop := w_X4_scene n np (fun (r : Int32) (n2 np2 : Nat) (u : Mem) => ∃ v : Mem, gs u v ∧ post r n2 np2 v) (fun (E : String) (u : Mem) => (E = "java/lang/IllegalArgumentException" ∧ post (-1000002) n np u) ∨ (E = "java/lang/IllegalStateException" ∧ post (-1000003) n np u)) a1 a2 μ
set_option maxRecDepth 100000 in
set_option maxHeartbeats 4000000 in
theorem c_L_scene (l : Launch) (hst : l.stackTraces = false) {D : va_G} {ca : Nat → ClassId} {base : Nat} {ad : Nat → Nat → Nat} {n np : Nat} {μ : Mem} {post : Int32 → Nat → Nat → Mem → Prop} {a1 : Int32} {a2 : Int32} (h : w_L_scene n np post a1 a2 μ) : ZWMet l yL_scene cL_scene 4 [(0, 6, 7, 16), (0, 6, 11, 19)] ({ frames := 7, cells := 4, slots := 23, locals := 106 } : Room) 4 23 D ca base ad n np [.ref (ad 30 0), .int a1, .int a2] μ post := by
  unfold ZWMet
  refine vx_ofWH (cc := cL_scene) (maxL := 4) (ret := (some FieldType.int)) (hh := [(0, 6, 7, 16), (0, 6, 11, 19)]) (by decide) rfl ?_
  intro p e s m args below meth c s₁ B hml hv
  obtain ⟨rfl, hU⟩ := hv
  have hZ := hU.toS
  have hC : ZC p m meth c s RL cL_scene 4 := ⟨B.exec, B.bytes, hml, findClass_of_methodNamed B.named, B.notSynchronized⟩
  have hr := B.returns
  have hxt := vx_table (x := yL_scene) B (hU.1.2.1.use (([.ref (ad 30 0), .int a1, .int a2] : List Value).toArray) zy_L_scene.2.2.1 rfl)
  have key : W p l e ({ frames := 7, cells := 4, slots := 23, locals := 106 } : Room) s m (([.ref (ad 30 0), .int a1, .int a2] : List Value).toArray) below meth c s.heap [] 0 0 (vx_MQ below (ZQN D ca base ad post) (ZX D ca base ad n np (fun _ _ => False)) (([.ref (ad 30 0), .int a1, .int a2] : List Value).toArray) s 4 23 (zB base)) (entryFrame m (([.ref (ad 30 0), .int a1, .int a2] : List Value).toArray) 4) := by
    have hl := lv_entry ([.ref (ad 30 0), .int a1, .int a2]) (n := 4) (Nat.le_of_ble_eq_true rfl)
    rw [lg_entry_eq]
    generalize (lg_sl ([.ref (ad 30 0), .int a1, .int a2]) ++ List.replicate (4 - (lg_sl ([.ref (ad 30 0), .int a1, .int a2])).length) Slot.unset).toArray = ls at hl ⊢
    have hl : lv_has ls 4 [(0, .ref (ad 30 0)), (1, .int a1), (2, .int a2)] := hl
    unfold w_L_scene at h
    refine lv_aload_n hC.1 hC.2.1 dL_scene_0 rfl (lv_at hl 0 rfl) ?_
    refine lv_iload_n hC.1 hC.2.1 dL_scene_1 rfl (lv_at hl 1 rfl) ?_
    refine lv_iload_n hC.1 hC.2.1 dL_scene_2 rfl (lv_at hl 2 rfl) ?_
    refine z_callVN (As := [.int a1, .int a2]) hC hZ (zF_30 _) rfl zy_X4_scene (c_X4_scene l hst h) km_L_10 rfl ⟨rfl, rfl⟩ ⟨(Nat.le_of_ble_eq_true rfl), (Nat.le_of_ble_eq_true rfl)⟩ hl.1 rfl (Nat.le_of_ble_eq_true rfl) dL_scene_3 ⟨(Nat.le_of_ble_eq_true rfl), (Nat.le_of_ble_eq_true rfl)⟩ (fun E ce q9 u H locs h hZ hce hcv hcl => ?_) (fun r n2 np2 ad2 u H locs h hag hZ => ?_)
    · rcases h with ⟨rfl, h⟩ | ⟨rfl, h⟩
      · refine z_catch hC hZ [] (⟨0, 6, 7, 16⟩ : ExceptionTableEntry) [(⟨0, 6, 11, 19⟩ : ExceptionTableEntry)] hxt (fun z hz => absurd hz List.not_mem_nil) (by decide) (by decide) kc_L_16 kcast_16 hce hcv hcl ?_
        refine lv_astore_n (lv' := [(3, .ref q9), (0, .ref (ad 30 0)), (1, .int a1), (2, .int a2)]) hC.1 hC.2.1 dL_scene_7 rfl hl (by decide) rfl (fun ls hl => ?_)
        refine lv_ldc (v := -1000002) hC.1 hC.2.1 hC.2.2.2.1 (hZ.1.2.1.use _ kk_L_18 rfl) dL_scene_8 ?_
        exact vx_ret (z_nret hC hr hZ (fun _ _ _ => rfl) h dL_scene_10 (Nat.le_of_ble_eq_true rfl) (Nat.le_of_ble_eq_true rfl))
      · refine z_catch hC hZ [(⟨0, 6, 7, 16⟩ : ExceptionTableEntry)] (⟨0, 6, 11, 19⟩ : ExceptionTableEntry) [] hxt (fun z hz => by rw [List.mem_singleton.mp hz]; exact ⟨(by decide), _, kc_L_16, znc_19_16⟩) (by decide) (by decide) kc_L_19 kcast_19 hce hcv hcl ?_
        refine lv_astore_n (lv' := [(3, .ref q9), (0, .ref (ad 30 0)), (1, .int a1), (2, .int a2)]) hC.1 hC.2.1 dL_scene_11 rfl hl (by decide) rfl (fun ls hl => ?_)
        refine lv_ldc (v := -1000003) hC.1 hC.2.1 hC.2.2.2.1 (hZ.1.2.1.use _ kk_L_21 rfl) dL_scene_12 ?_
        exact vx_ret (z_nret hC hr hZ (fun _ _ _ => rfl) h dL_scene_14 (Nat.le_of_ble_eq_true rfl) (Nat.le_of_ble_eq_true rfl))
    · obtain ⟨v, hgs, h⟩ := h
      have hZ := hZ.gs hgs
      exact vx_ret (z_nret hC hr hZ hag h dL_scene_6 (Nat.le_of_ble_eq_true rfl) (Nat.le_of_ble_eq_true rfl))
  exact key
theorem zy_L_plays : zYW yL_plays cL_plays 5 [(0, 7, 8, 26), (0, 7, 13, 16), (0, 7, 18, 19)] 4 := ⟨tin3 _ (List.mem_of_getElem? (i := 25) (by decide +kernel)), kini_L, tin3 _ (List.mem_of_getElem? (i := 26) rfl), by decide +kernel, by decide +kernel⟩
def w_L_plays (n np : Nat) (post : Int32 → Mem → Prop) (a1 : Int32) (a2 : Int32) (a3 : Int32) (μ : Mem) : Prop := w_X4_plays n np (fun (r : Int32) (u : Mem) => ∃ v : Mem, gs u v ∧ post r v) (fun (E : String) (u : Mem) => (E = "java/lang/IndexOutOfBoundsException" ∧ post (-1000001) u) ∨ (E = "java/lang/IllegalArgumentException" ∧ post (-1000002) u) ∨ (E = "java/lang/IllegalStateException" ∧ post (-1000003) u)) a1 a2 a3 μ
set_option maxRecDepth 100000 in
set_option maxHeartbeats 4000000 in
theorem c_L_plays (l : Launch) (hst : l.stackTraces = false) {D : va_G} {ca : Nat → ClassId} {base : Nat} {ad : Nat → Nat → Nat} {n np : Nat} {μ : Mem} {post : Int32 → Mem → Prop} {a1 : Int32} {a2 : Int32} {a3 : Int32} (h : w_L_plays n np post a1 a2 a3 μ) : ZVMet l yL_plays cL_plays 5 [(0, 7, 8, 26), (0, 7, 13, 16), (0, 7, 18, 19)] ({ frames := 8, cells := 3, slots := 18, locals := 127 } : Room) 3 18 D ca base ad n np [.ref (ad 30 0), .int a1, .int a2, .int a3] μ post := by
  unfold ZVMet
  refine vx_ofWH (cc := cL_plays) (maxL := 5) (ret := (some FieldType.int)) (hh := [(0, 7, 8, 26), (0, 7, 13, 16), (0, 7, 18, 19)]) (by decide) rfl ?_
  intro p e s m args below meth c s₁ B hml hv
  obtain ⟨rfl, hU⟩ := hv
  have hZ := hU.toS
  have hC : ZC p m meth c s RL cL_plays 5 := ⟨B.exec, B.bytes, hml, findClass_of_methodNamed B.named, B.notSynchronized⟩
  have hr := B.returns
  have hxt := vx_table (x := yL_plays) B (hU.1.2.1.use (([.ref (ad 30 0), .int a1, .int a2, .int a3] : List Value).toArray) zy_L_plays.2.2.1 rfl)
  have key : W p l e ({ frames := 8, cells := 3, slots := 18, locals := 127 } : Room) s m (([.ref (ad 30 0), .int a1, .int a2, .int a3] : List Value).toArray) below meth c s.heap [] 0 0 (vx_MQ below (ZQ D ca base ad n np (zpi post)) (ZX D ca base ad n np (fun _ _ => False)) (([.ref (ad 30 0), .int a1, .int a2, .int a3] : List Value).toArray) s 3 18 (zB base)) (entryFrame m (([.ref (ad 30 0), .int a1, .int a2, .int a3] : List Value).toArray) 5) := by
    have hl := lv_entry ([.ref (ad 30 0), .int a1, .int a2, .int a3]) (n := 5) (Nat.le_of_ble_eq_true rfl)
    rw [lg_entry_eq]
    generalize (lg_sl ([.ref (ad 30 0), .int a1, .int a2, .int a3]) ++ List.replicate (5 - (lg_sl ([.ref (ad 30 0), .int a1, .int a2, .int a3])).length) Slot.unset).toArray = ls at hl ⊢
    have hl : lv_has ls 5 [(0, .ref (ad 30 0)), (1, .int a1), (2, .int a2), (3, .int a3)] := hl
    unfold w_L_plays at h
    refine lv_aload_n hC.1 hC.2.1 dL_plays_0 rfl (lv_at hl 0 rfl) ?_
    refine lv_iload_n hC.1 hC.2.1 dL_plays_1 rfl (lv_at hl 1 rfl) ?_
    refine lv_iload_n hC.1 hC.2.1 dL_plays_2 rfl (lv_at hl 2 rfl) ?_
    refine lv_iload_n hC.1 hC.2.1 dL_plays_3 rfl (lv_at hl 3 rfl) ?_
    refine z_cVXi (As := [.int a1, .int a2, .int a3]) hC hZ (zF_30 _) rfl zy_X4_plays (c_X4_plays l hst h) km_L_22 rfl ⟨rfl, rfl⟩ ⟨(Nat.le_of_ble_eq_true rfl), (Nat.le_of_ble_eq_true rfl)⟩ hl.1 rfl (Nat.le_of_ble_eq_true rfl) dL_plays_4 ⟨(Nat.le_of_ble_eq_true rfl), (Nat.le_of_ble_eq_true rfl)⟩ (fun E ce q9 u H locs h hZ hce hcv hcl => ?_) (fun r u H locs h hZ => ?_)
    · rcases h with ⟨rfl, h⟩ | ⟨rfl, h⟩ | ⟨rfl, h⟩
      · refine z_catch hC hZ [] (⟨0, 7, 8, 26⟩ : ExceptionTableEntry) [(⟨0, 7, 13, 16⟩ : ExceptionTableEntry), (⟨0, 7, 18, 19⟩ : ExceptionTableEntry)] hxt (fun z hz => absurd hz List.not_mem_nil) (by decide) (by decide) kc_L_26 kcast_26 hce hcv hcl ?_
        refine lv_astore (lv' := [(4, .ref q9), (0, .ref (ad 30 0)), (1, .int a1), (2, .int a2), (3, .int a3)]) hC.1 hC.2.1 dL_plays_8 hl (by decide) rfl (fun ls hl => ?_)
        refine lv_ldc (v := -1000001) hC.1 hC.2.1 hC.2.2.2.1 (hZ.1.2.1.use _ kk_L_28 rfl) dL_plays_10 ?_
        exact vx_ret (z_iret hC hr hZ h dL_plays_12 (Nat.le_of_ble_eq_true rfl) (Nat.le_of_ble_eq_true rfl))
      · refine z_catch hC hZ [(⟨0, 7, 8, 26⟩ : ExceptionTableEntry)] (⟨0, 7, 13, 16⟩ : ExceptionTableEntry) [(⟨0, 7, 18, 19⟩ : ExceptionTableEntry)] hxt (fun z hz => by rw [List.mem_singleton.mp hz]; exact ⟨(by decide), _, kc_L_26, znc_16_26⟩) (by decide) (by decide) kc_L_16 kcast_16 hce hcv hcl ?_
        refine lv_astore (lv' := [(4, .ref q9), (0, .ref (ad 30 0)), (1, .int a1), (2, .int a2), (3, .int a3)]) hC.1 hC.2.1 dL_plays_13 hl (by decide) rfl (fun ls hl => ?_)
        refine lv_ldc (v := -1000002) hC.1 hC.2.1 hC.2.2.2.1 (hZ.1.2.1.use _ kk_L_18 rfl) dL_plays_15 ?_
        exact vx_ret (z_iret hC hr hZ h dL_plays_17 (Nat.le_of_ble_eq_true rfl) (Nat.le_of_ble_eq_true rfl))
      · refine z_catch hC hZ [(⟨0, 7, 8, 26⟩ : ExceptionTableEntry), (⟨0, 7, 13, 16⟩ : ExceptionTableEntry)] (⟨0, 7, 18, 19⟩ : ExceptionTableEntry) [] hxt (fun z hz => by rcases List.mem_cons.mp hz with rfl | hz; exact ⟨(by decide), _, kc_L_26, znc_19_26⟩; rw [List.mem_singleton.mp hz]; exact ⟨(by decide), _, kc_L_16, znc_19_16⟩) (by decide) (by decide) kc_L_19 kcast_19 hce hcv hcl ?_
        refine lv_astore (lv' := [(4, .ref q9), (0, .ref (ad 30 0)), (1, .int a1), (2, .int a2), (3, .int a3)]) hC.1 hC.2.1 dL_plays_18 hl (by decide) rfl (fun ls hl => ?_)
        refine lv_ldc (v := -1000003) hC.1 hC.2.1 hC.2.2.2.1 (hZ.1.2.1.use _ kk_L_21 rfl) dL_plays_20 ?_
        exact vx_ret (z_iret hC hr hZ h dL_plays_22 (Nat.le_of_ble_eq_true rfl) (Nat.le_of_ble_eq_true rfl))
    · obtain ⟨v, hgs, h⟩ := h
      have hZ := hZ.gs hgs
      exact vx_ret (z_iret hC hr hZ h dL_plays_7 (Nat.le_of_ble_eq_true rfl) (Nat.le_of_ble_eq_true rfl))
  exact key
theorem zy_L_uses : zYW yL_uses cL_uses 6 [(0, 9, 10, 26), (0, 9, 15, 16), (0, 9, 20, 19)] 5 := ⟨tin3 _ (List.mem_of_getElem? (i := 52) (by decide +kernel)), kini_L, tin3 _ (List.mem_of_getElem? (i := 53) rfl), by decide +kernel, by decide +kernel⟩
def w_L_uses (n np : Nat) (post : Int32 → Mem → Prop) (a1 : Int32) (a2 : Int32) (a3 : Int32) (a4 : Int32) (μ : Mem) : Prop := w_X4_uses n np (fun (r : Int32) (u : Mem) => ∃ v : Mem, gs u v ∧ post r v) (fun (E : String) (u : Mem) => (E = "java/lang/IndexOutOfBoundsException" ∧ post (-1000001) u) ∨ (E = "java/lang/IllegalArgumentException" ∧ post (-1000002) u) ∨ (E = "java/lang/IllegalStateException" ∧ post (-1000003) u)) a1 a2 a3 a4 μ
set_option maxRecDepth 100000 in
set_option maxHeartbeats 4000000 in
theorem c_L_uses (l : Launch) (hst : l.stackTraces = false) {D : va_G} {ca : Nat → ClassId} {base : Nat} {ad : Nat → Nat → Nat} {n np : Nat} {μ : Mem} {post : Int32 → Mem → Prop} {a1 : Int32} {a2 : Int32} {a3 : Int32} {a4 : Int32} (h : w_L_uses n np post a1 a2 a3 a4 μ) : ZVMet l yL_uses cL_uses 6 [(0, 9, 10, 26), (0, 9, 15, 16), (0, 9, 20, 19)] ({ frames := 8, cells := 4, slots := 24, locals := 128 } : Room) 4 24 D ca base ad n np [.ref (ad 30 0), .int a1, .int a2, .int a3, .int a4] μ post := by
  unfold ZVMet
  refine vx_ofWH (cc := cL_uses) (maxL := 6) (ret := (some FieldType.int)) (hh := [(0, 9, 10, 26), (0, 9, 15, 16), (0, 9, 20, 19)]) (by decide) rfl ?_
  intro p e s m args below meth c s₁ B hml hv
  obtain ⟨rfl, hU⟩ := hv
  have hZ := hU.toS
  have hC : ZC p m meth c s RL cL_uses 6 := ⟨B.exec, B.bytes, hml, findClass_of_methodNamed B.named, B.notSynchronized⟩
  have hr := B.returns
  have hxt := vx_table (x := yL_uses) B (hU.1.2.1.use (([.ref (ad 30 0), .int a1, .int a2, .int a3, .int a4] : List Value).toArray) zy_L_uses.2.2.1 rfl)
  have key : W p l e ({ frames := 8, cells := 4, slots := 24, locals := 128 } : Room) s m (([.ref (ad 30 0), .int a1, .int a2, .int a3, .int a4] : List Value).toArray) below meth c s.heap [] 0 0 (vx_MQ below (ZQ D ca base ad n np (zpi post)) (ZX D ca base ad n np (fun _ _ => False)) (([.ref (ad 30 0), .int a1, .int a2, .int a3, .int a4] : List Value).toArray) s 4 24 (zB base)) (entryFrame m (([.ref (ad 30 0), .int a1, .int a2, .int a3, .int a4] : List Value).toArray) 6) := by
    have hl := lv_entry ([.ref (ad 30 0), .int a1, .int a2, .int a3, .int a4]) (n := 6) (Nat.le_of_ble_eq_true rfl)
    rw [lg_entry_eq]
    generalize (lg_sl ([.ref (ad 30 0), .int a1, .int a2, .int a3, .int a4]) ++ List.replicate (6 - (lg_sl ([.ref (ad 30 0), .int a1, .int a2, .int a3, .int a4])).length) Slot.unset).toArray = ls at hl ⊢
    have hl : lv_has ls 6 [(0, .ref (ad 30 0)), (1, .int a1), (2, .int a2), (3, .int a3), (4, .int a4)] := hl
    unfold w_L_uses at h
    refine lv_aload_n hC.1 hC.2.1 dL_uses_0 rfl (lv_at hl 0 rfl) ?_
    refine lv_iload_n hC.1 hC.2.1 dL_uses_1 rfl (lv_at hl 1 rfl) ?_
    refine lv_iload_n hC.1 hC.2.1 dL_uses_2 rfl (lv_at hl 2 rfl) ?_
    refine lv_iload_n hC.1 hC.2.1 dL_uses_3 rfl (lv_at hl 3 rfl) ?_
    refine lv_iload hC.1 hC.2.1 dL_uses_4 (lv_at hl 4 rfl) ?_
    refine z_cVXi (As := [.int a1, .int a2, .int a3, .int a4]) hC hZ (zF_30 _) rfl zy_X4_uses (c_X4_uses l hst h) km_L_29 rfl ⟨rfl, rfl⟩ ⟨(Nat.le_of_ble_eq_true rfl), (Nat.le_of_ble_eq_true rfl)⟩ hl.1 rfl (Nat.le_of_ble_eq_true rfl) dL_uses_6 ⟨(Nat.le_of_ble_eq_true rfl), (Nat.le_of_ble_eq_true rfl)⟩ (fun E ce q9 u H locs h hZ hce hcv hcl => ?_) (fun r u H locs h hZ => ?_)
    · rcases h with ⟨rfl, h⟩ | ⟨rfl, h⟩ | ⟨rfl, h⟩
      · refine z_catch hC hZ [] (⟨0, 9, 10, 26⟩ : ExceptionTableEntry) [(⟨0, 9, 15, 16⟩ : ExceptionTableEntry), (⟨0, 9, 20, 19⟩ : ExceptionTableEntry)] hxt (fun z hz => absurd hz List.not_mem_nil) (by decide) (by decide) kc_L_26 kcast_26 hce hcv hcl ?_
        refine lv_astore (lv' := [(5, .ref q9), (0, .ref (ad 30 0)), (1, .int a1), (2, .int a2), (3, .int a3), (4, .int a4)]) hC.1 hC.2.1 dL_uses_10 hl (by decide) rfl (fun ls hl => ?_)
        refine lv_ldc (v := -1000001) hC.1 hC.2.1 hC.2.2.2.1 (hZ.1.2.1.use _ kk_L_28 rfl) dL_uses_12 ?_
        exact vx_ret (z_iret hC hr hZ h dL_uses_14 (Nat.le_of_ble_eq_true rfl) (Nat.le_of_ble_eq_true rfl))
      · refine z_catch hC hZ [(⟨0, 9, 10, 26⟩ : ExceptionTableEntry)] (⟨0, 9, 15, 16⟩ : ExceptionTableEntry) [(⟨0, 9, 20, 19⟩ : ExceptionTableEntry)] hxt (fun z hz => by rw [List.mem_singleton.mp hz]; exact ⟨(by decide), _, kc_L_26, znc_16_26⟩) (by decide) (by decide) kc_L_16 kcast_16 hce hcv hcl ?_
        refine lv_astore (lv' := [(5, .ref q9), (0, .ref (ad 30 0)), (1, .int a1), (2, .int a2), (3, .int a3), (4, .int a4)]) hC.1 hC.2.1 dL_uses_15 hl (by decide) rfl (fun ls hl => ?_)
        refine lv_ldc (v := -1000002) hC.1 hC.2.1 hC.2.2.2.1 (hZ.1.2.1.use _ kk_L_18 rfl) dL_uses_17 ?_
        exact vx_ret (z_iret hC hr hZ h dL_uses_19 (Nat.le_of_ble_eq_true rfl) (Nat.le_of_ble_eq_true rfl))
      · refine z_catch hC hZ [(⟨0, 9, 10, 26⟩ : ExceptionTableEntry), (⟨0, 9, 15, 16⟩ : ExceptionTableEntry)] (⟨0, 9, 20, 19⟩ : ExceptionTableEntry) [] hxt (fun z hz => by rcases List.mem_cons.mp hz with rfl | hz; exact ⟨(by decide), _, kc_L_26, znc_19_26⟩; rw [List.mem_singleton.mp hz]; exact ⟨(by decide), _, kc_L_16, znc_19_16⟩) (by decide) (by decide) kc_L_19 kcast_19 hce hcv hcl ?_
        refine lv_astore (lv' := [(5, .ref q9), (0, .ref (ad 30 0)), (1, .int a1), (2, .int a2), (3, .int a3), (4, .int a4)]) hC.1 hC.2.1 dL_uses_20 hl (by decide) rfl (fun ls hl => ?_)
        refine lv_ldc (v := -1000003) hC.1 hC.2.1 hC.2.2.2.1 (hZ.1.2.1.use _ kk_L_21 rfl) dL_uses_22 ?_
        exact vx_ret (z_iret hC hr hZ h dL_uses_24 (Nat.le_of_ble_eq_true rfl) (Nat.le_of_ble_eq_true rfl))
    · obtain ⟨v, hgs, h⟩ := h
      have hZ := hZ.gs hgs
      exact vx_ret (z_iret hC hr hZ h dL_uses_9 (Nat.le_of_ble_eq_true rfl) (Nat.le_of_ble_eq_true rfl))
  exact key
theorem zy_L_cut : zYW yL_cut cL_cut 3 [(0, 5, 6, 26), (0, 5, 10, 19)] 2 := ⟨tin3 _ (List.mem_of_getElem? (i := 41) (by decide +kernel)), kini_L, tin3 _ (List.mem_of_getElem? (i := 42) rfl), by decide +kernel, by decide +kernel⟩
def w_L_cut (n np : Nat) (post : Int32 → Mem → Prop) (a1 : Int32) (μ : Mem) : Prop := w_X4_cut n np (fun (r : Int32) (u : Mem) => ∃ v : Mem, gs u v ∧ post r v) (fun (E : String) (u : Mem) => (E = "java/lang/IndexOutOfBoundsException" ∧ post (-1000001) u) ∨ (E = "java/lang/IllegalStateException" ∧ post (-1000003) u)) a1 μ
set_option maxRecDepth 100000 in
set_option maxHeartbeats 4000000 in
theorem c_L_cut (l : Launch) (hst : l.stackTraces = false) {D : va_G} {ca : Nat → ClassId} {base : Nat} {ad : Nat → Nat → Nat} {n np : Nat} {μ : Mem} {post : Int32 → Mem → Prop} {a1 : Int32} (h : w_L_cut n np post a1 μ) : ZVMet l yL_cut cL_cut 3 [(0, 5, 6, 26), (0, 5, 10, 19)] ({ frames := 8, cells := 2, slots := 12, locals := 126 } : Room) 2 12 D ca base ad n np [.ref (ad 30 0), .int a1] μ post := by
  unfold ZVMet
  refine vx_ofWH (cc := cL_cut) (maxL := 3) (ret := (some FieldType.int)) (hh := [(0, 5, 6, 26), (0, 5, 10, 19)]) (by decide) rfl ?_
  intro p e s m args below meth c s₁ B hml hv
  obtain ⟨rfl, hU⟩ := hv
  have hZ := hU.toS
  have hC : ZC p m meth c s RL cL_cut 3 := ⟨B.exec, B.bytes, hml, findClass_of_methodNamed B.named, B.notSynchronized⟩
  have hr := B.returns
  have hxt := vx_table (x := yL_cut) B (hU.1.2.1.use (([.ref (ad 30 0), .int a1] : List Value).toArray) zy_L_cut.2.2.1 rfl)
  have key : W p l e ({ frames := 8, cells := 2, slots := 12, locals := 126 } : Room) s m (([.ref (ad 30 0), .int a1] : List Value).toArray) below meth c s.heap [] 0 0 (vx_MQ below (ZQ D ca base ad n np (zpi post)) (ZX D ca base ad n np (fun _ _ => False)) (([.ref (ad 30 0), .int a1] : List Value).toArray) s 2 12 (zB base)) (entryFrame m (([.ref (ad 30 0), .int a1] : List Value).toArray) 3) := by
    have hl := lv_entry ([.ref (ad 30 0), .int a1]) (n := 3) (Nat.le_of_ble_eq_true rfl)
    rw [lg_entry_eq]
    generalize (lg_sl ([.ref (ad 30 0), .int a1]) ++ List.replicate (3 - (lg_sl ([.ref (ad 30 0), .int a1])).length) Slot.unset).toArray = ls at hl ⊢
    have hl : lv_has ls 3 [(0, .ref (ad 30 0)), (1, .int a1)] := hl
    unfold w_L_cut at h
    refine lv_aload_n hC.1 hC.2.1 dL_cut_0 rfl (lv_at hl 0 rfl) ?_
    refine lv_iload_n hC.1 hC.2.1 dL_cut_1 rfl (lv_at hl 1 rfl) ?_
    refine z_cVXi (As := [.int a1]) hC hZ (zF_30 _) rfl zy_X4_cut (c_X4_cut l hst h) km_L_33 rfl ⟨rfl, rfl⟩ ⟨(Nat.le_of_ble_eq_true rfl), (Nat.le_of_ble_eq_true rfl)⟩ hl.1 rfl (Nat.le_of_ble_eq_true rfl) dL_cut_2 ⟨(Nat.le_of_ble_eq_true rfl), (Nat.le_of_ble_eq_true rfl)⟩ (fun E ce q9 u H locs h hZ hce hcv hcl => ?_) (fun r u H locs h hZ => ?_)
    · rcases h with ⟨rfl, h⟩ | ⟨rfl, h⟩
      · refine z_catch hC hZ [] (⟨0, 5, 6, 26⟩ : ExceptionTableEntry) [(⟨0, 5, 10, 19⟩ : ExceptionTableEntry)] hxt (fun z hz => absurd hz List.not_mem_nil) (by decide) (by decide) kc_L_26 kcast_26 hce hcv hcl ?_
        refine lv_astore_n (lv' := [(2, .ref q9), (0, .ref (ad 30 0)), (1, .int a1)]) hC.1 hC.2.1 dL_cut_6 rfl hl (by decide) rfl (fun ls hl => ?_)
        refine lv_ldc (v := -1000001) hC.1 hC.2.1 hC.2.2.2.1 (hZ.1.2.1.use _ kk_L_28 rfl) dL_cut_7 ?_
        exact vx_ret (z_iret hC hr hZ h dL_cut_9 (Nat.le_of_ble_eq_true rfl) (Nat.le_of_ble_eq_true rfl))
      · refine z_catch hC hZ [(⟨0, 5, 6, 26⟩ : ExceptionTableEntry)] (⟨0, 5, 10, 19⟩ : ExceptionTableEntry) [] hxt (fun z hz => by rw [List.mem_singleton.mp hz]; exact ⟨(by decide), _, kc_L_26, znc_19_26⟩) (by decide) (by decide) kc_L_19 kcast_19 hce hcv hcl ?_
        refine lv_astore_n (lv' := [(2, .ref q9), (0, .ref (ad 30 0)), (1, .int a1)]) hC.1 hC.2.1 dL_cut_10 rfl hl (by decide) rfl (fun ls hl => ?_)
        refine lv_ldc (v := -1000003) hC.1 hC.2.1 hC.2.2.2.1 (hZ.1.2.1.use _ kk_L_21 rfl) dL_cut_11 ?_
        exact vx_ret (z_iret hC hr hZ h dL_cut_13 (Nat.le_of_ble_eq_true rfl) (Nat.le_of_ble_eq_true rfl))
    · obtain ⟨v, hgs, h⟩ := h
      have hZ := hZ.gs hgs
      exact vx_ret (z_iret hC hr hZ h dL_cut_5 (Nat.le_of_ble_eq_true rfl) (Nat.le_of_ble_eq_true rfl))
  exact key
theorem zy_L_swap : zYW yL_swap cL_swap 4 [(0, 6, 7, 16)] 3 := ⟨tin3 _ (List.mem_of_getElem? (i := 72) (by decide +kernel)), kini_L, tin3 _ (List.mem_of_getElem? (i := 73) rfl), by decide +kernel, by decide +kernel⟩
def w_L_swap (n np : Nat) (post : Int32 → Mem → Prop) (a1 : Int32) (a2 : Int32) (μ : Mem) : Prop := w_X4_swap n np (fun (r : Int32) (u : Mem) => ∃ v : Mem, gs u v ∧ post r v) (fun (E : String) (u : Mem) => (E = "java/lang/IllegalArgumentException" ∧ post (-1000002) u)) a1 a2 μ
set_option maxRecDepth 100000 in
set_option maxHeartbeats 4000000 in
theorem c_L_swap (l : Launch) (hst : l.stackTraces = false) {D : va_G} {ca : Nat → ClassId} {base : Nat} {ad : Nat → Nat → Nat} {n np : Nat} {μ : Mem} {post : Int32 → Mem → Prop} {a1 : Int32} {a2 : Int32} (h : w_L_swap n np post a1 a2 μ) : ZVMet l yL_swap cL_swap 4 [(0, 6, 7, 16)] ({ frames := 7, cells := 1, slots := 6, locals := 116 } : Room) 1 6 D ca base ad n np [.ref (ad 30 0), .int a1, .int a2] μ post := by
  unfold ZVMet
  refine vx_ofWH (cc := cL_swap) (maxL := 4) (ret := (some FieldType.int)) (hh := [(0, 6, 7, 16)]) (by decide) rfl ?_
  intro p e s m args below meth c s₁ B hml hv
  obtain ⟨rfl, hU⟩ := hv
  have hZ := hU.toS
  have hC : ZC p m meth c s RL cL_swap 4 := ⟨B.exec, B.bytes, hml, findClass_of_methodNamed B.named, B.notSynchronized⟩
  have hr := B.returns
  have hxt := vx_table (x := yL_swap) B (hU.1.2.1.use (([.ref (ad 30 0), .int a1, .int a2] : List Value).toArray) zy_L_swap.2.2.1 rfl)
  have key : W p l e ({ frames := 7, cells := 1, slots := 6, locals := 116 } : Room) s m (([.ref (ad 30 0), .int a1, .int a2] : List Value).toArray) below meth c s.heap [] 0 0 (vx_MQ below (ZQ D ca base ad n np (zpi post)) (ZX D ca base ad n np (fun _ _ => False)) (([.ref (ad 30 0), .int a1, .int a2] : List Value).toArray) s 1 6 (zB base)) (entryFrame m (([.ref (ad 30 0), .int a1, .int a2] : List Value).toArray) 4) := by
    have hl := lv_entry ([.ref (ad 30 0), .int a1, .int a2]) (n := 4) (Nat.le_of_ble_eq_true rfl)
    rw [lg_entry_eq]
    generalize (lg_sl ([.ref (ad 30 0), .int a1, .int a2]) ++ List.replicate (4 - (lg_sl ([.ref (ad 30 0), .int a1, .int a2])).length) Slot.unset).toArray = ls at hl ⊢
    have hl : lv_has ls 4 [(0, .ref (ad 30 0)), (1, .int a1), (2, .int a2)] := hl
    unfold w_L_swap at h
    refine lv_aload_n hC.1 hC.2.1 dL_swap_0 rfl (lv_at hl 0 rfl) ?_
    refine lv_iload_n hC.1 hC.2.1 dL_swap_1 rfl (lv_at hl 1 rfl) ?_
    refine lv_iload_n hC.1 hC.2.1 dL_swap_2 rfl (lv_at hl 2 rfl) ?_
    refine z_cVXi (As := [.int a1, .int a2]) hC hZ (zF_30 _) rfl zy_X4_swap (c_X4_swap l hst h) km_L_37 rfl ⟨rfl, rfl⟩ ⟨(Nat.le_of_ble_eq_true rfl), (Nat.le_of_ble_eq_true rfl)⟩ hl.1 rfl (Nat.le_of_ble_eq_true rfl) dL_swap_3 ⟨(Nat.le_of_ble_eq_true rfl), (Nat.le_of_ble_eq_true rfl)⟩ (fun E ce q9 u H locs h hZ hce hcv hcl => ?_) (fun r u H locs h hZ => ?_)
    · obtain ⟨rfl, h⟩ := h
      refine z_catch hC hZ [] (⟨0, 6, 7, 16⟩ : ExceptionTableEntry) [] hxt (fun z hz => absurd hz List.not_mem_nil) (by decide) (by decide) kc_L_16 kcast_16 hce hcv hcl ?_
      refine lv_astore_n (lv' := [(3, .ref q9), (0, .ref (ad 30 0)), (1, .int a1), (2, .int a2)]) hC.1 hC.2.1 dL_swap_7 rfl hl (by decide) rfl (fun ls hl => ?_)
      refine lv_ldc (v := -1000002) hC.1 hC.2.1 hC.2.2.2.1 (hZ.1.2.1.use _ kk_L_18 rfl) dL_swap_8 ?_
      exact vx_ret (z_iret hC hr hZ h dL_swap_10 (Nat.le_of_ble_eq_true rfl) (Nat.le_of_ble_eq_true rfl))
    · obtain ⟨v, hgs, h⟩ := h
      have hZ := hZ.gs hgs
      exact vx_ret (z_iret hC hr hZ h dL_swap_6 (Nat.le_of_ble_eq_true rfl) (Nat.le_of_ble_eq_true rfl))
  exact key
theorem zy_L_permit : zYW yL_permit cL_permit 6 [(0, 9, 10, 16), (0, 9, 15, 19)] 5 := ⟨tin3 _ (List.mem_of_getElem? (i := 101) (by decide +kernel)), kini_L, tin3 _ (List.mem_of_getElem? (i := 102) rfl), by decide +kernel, by decide +kernel⟩
def w_L_permit (n np : Nat) (post : Int32 → Nat → Nat → Mem → Prop) (a1 : Int32) (a2 : Int32) (a3 : Int32) (a4 : Int32) (μ : Mem) : Prop := w_X4_permit n np (fun (r : Int32) (n2 np2 : Nat) (u : Mem) => ∃ v : Mem, gs u v ∧ post r n2 np2 v) (fun (E : String) (u : Mem) => (E = "java/lang/IllegalArgumentException" ∧ post (-1000002) n np u) ∨ (E = "java/lang/IllegalStateException" ∧ post (-1000003) n np u)) a1 a2 a3 a4 μ
set_option maxRecDepth 100000 in
set_option maxHeartbeats 4000000 in
theorem c_L_permit (l : Launch) (hst : l.stackTraces = false) {D : va_G} {ca : Nat → ClassId} {base : Nat} {ad : Nat → Nat → Nat} {n np : Nat} {μ : Mem} {post : Int32 → Nat → Nat → Mem → Prop} {a1 : Int32} {a2 : Int32} {a3 : Int32} {a4 : Int32} (h : w_L_permit n np post a1 a2 a3 a4 μ) : ZWMet l yL_permit cL_permit 6 [(0, 9, 10, 16), (0, 9, 15, 19)] ({ frames := 7, cells := 1, slots := 6, locals := 107 } : Room) 1 6 D ca base ad n np [.ref (ad 30 0), .int a1, .int a2, .int a3, .int a4] μ post := by
  unfold ZWMet
  refine vx_ofWH (cc := cL_permit) (maxL := 6) (ret := (some FieldType.int)) (hh := [(0, 9, 10, 16), (0, 9, 15, 19)]) (by decide) rfl ?_
  intro p e s m args below meth c s₁ B hml hv
  obtain ⟨rfl, hU⟩ := hv
  have hZ := hU.toS
  have hC : ZC p m meth c s RL cL_permit 6 := ⟨B.exec, B.bytes, hml, findClass_of_methodNamed B.named, B.notSynchronized⟩
  have hr := B.returns
  have hxt := vx_table (x := yL_permit) B (hU.1.2.1.use (([.ref (ad 30 0), .int a1, .int a2, .int a3, .int a4] : List Value).toArray) zy_L_permit.2.2.1 rfl)
  have key : W p l e ({ frames := 7, cells := 1, slots := 6, locals := 107 } : Room) s m (([.ref (ad 30 0), .int a1, .int a2, .int a3, .int a4] : List Value).toArray) below meth c s.heap [] 0 0 (vx_MQ below (ZQN D ca base ad post) (ZX D ca base ad n np (fun _ _ => False)) (([.ref (ad 30 0), .int a1, .int a2, .int a3, .int a4] : List Value).toArray) s 1 6 (zB base)) (entryFrame m (([.ref (ad 30 0), .int a1, .int a2, .int a3, .int a4] : List Value).toArray) 6) := by
    have hl := lv_entry ([.ref (ad 30 0), .int a1, .int a2, .int a3, .int a4]) (n := 6) (Nat.le_of_ble_eq_true rfl)
    rw [lg_entry_eq]
    generalize (lg_sl ([.ref (ad 30 0), .int a1, .int a2, .int a3, .int a4]) ++ List.replicate (6 - (lg_sl ([.ref (ad 30 0), .int a1, .int a2, .int a3, .int a4])).length) Slot.unset).toArray = ls at hl ⊢
    have hl : lv_has ls 6 [(0, .ref (ad 30 0)), (1, .int a1), (2, .int a2), (3, .int a3), (4, .int a4)] := hl
    unfold w_L_permit at h
    refine lv_aload_n hC.1 hC.2.1 dL_permit_0 rfl (lv_at hl 0 rfl) ?_
    refine lv_iload_n hC.1 hC.2.1 dL_permit_1 rfl (lv_at hl 1 rfl) ?_
    refine lv_iload_n hC.1 hC.2.1 dL_permit_2 rfl (lv_at hl 2 rfl) ?_
    refine lv_iload_n hC.1 hC.2.1 dL_permit_3 rfl (lv_at hl 3 rfl) ?_
    refine lv_iload hC.1 hC.2.1 dL_permit_4 (lv_at hl 4 rfl) ?_
    refine z_callVN (As := [.int a1, .int a2, .int a3, .int a4]) hC hZ (zF_30 _) rfl zy_X4_permit (c_X4_permit l hst h) km_L_40 rfl ⟨rfl, rfl⟩ ⟨(Nat.le_of_ble_eq_true rfl), (Nat.le_of_ble_eq_true rfl)⟩ hl.1 rfl (Nat.le_of_ble_eq_true rfl) dL_permit_6 ⟨(Nat.le_of_ble_eq_true rfl), (Nat.le_of_ble_eq_true rfl)⟩ (fun E ce q9 u H locs h hZ hce hcv hcl => ?_) (fun r n2 np2 ad2 u H locs h hag hZ => ?_)
    · rcases h with ⟨rfl, h⟩ | ⟨rfl, h⟩
      · refine z_catch hC hZ [] (⟨0, 9, 10, 16⟩ : ExceptionTableEntry) [(⟨0, 9, 15, 19⟩ : ExceptionTableEntry)] hxt (fun z hz => absurd hz List.not_mem_nil) (by decide) (by decide) kc_L_16 kcast_16 hce hcv hcl ?_
        refine lv_astore (lv' := [(5, .ref q9), (0, .ref (ad 30 0)), (1, .int a1), (2, .int a2), (3, .int a3), (4, .int a4)]) hC.1 hC.2.1 dL_permit_10 hl (by decide) rfl (fun ls hl => ?_)
        refine lv_ldc (v := -1000002) hC.1 hC.2.1 hC.2.2.2.1 (hZ.1.2.1.use _ kk_L_18 rfl) dL_permit_12 ?_
        exact vx_ret (z_nret hC hr hZ (fun _ _ _ => rfl) h dL_permit_14 (Nat.le_of_ble_eq_true rfl) (Nat.le_of_ble_eq_true rfl))
      · refine z_catch hC hZ [(⟨0, 9, 10, 16⟩ : ExceptionTableEntry)] (⟨0, 9, 15, 19⟩ : ExceptionTableEntry) [] hxt (fun z hz => by rw [List.mem_singleton.mp hz]; exact ⟨(by decide), _, kc_L_16, znc_19_16⟩) (by decide) (by decide) kc_L_19 kcast_19 hce hcv hcl ?_
        refine lv_astore (lv' := [(5, .ref q9), (0, .ref (ad 30 0)), (1, .int a1), (2, .int a2), (3, .int a3), (4, .int a4)]) hC.1 hC.2.1 dL_permit_15 hl (by decide) rfl (fun ls hl => ?_)
        refine lv_ldc (v := -1000003) hC.1 hC.2.1 hC.2.2.2.1 (hZ.1.2.1.use _ kk_L_21 rfl) dL_permit_17 ?_
        exact vx_ret (z_nret hC hr hZ (fun _ _ _ => rfl) h dL_permit_19 (Nat.le_of_ble_eq_true rfl) (Nat.le_of_ble_eq_true rfl))
    · obtain ⟨v, hgs, h⟩ := h
      have hZ := hZ.gs hgs
      exact vx_ret (z_nret hC hr hZ hag h dL_permit_9 (Nat.le_of_ble_eq_true rfl) (Nat.le_of_ble_eq_true rfl))
  exact key
theorem zy_L_revoke : zYW yL_revoke cL_revoke 3 [(0, 5, 6, 26), (0, 5, 10, 19)] 2 := ⟨tin3 _ (List.mem_of_getElem? (i := 132) (by decide +kernel)), kini_L, tin3 _ (List.mem_of_getElem? (i := 133) rfl), by decide +kernel, by decide +kernel⟩
def w_L_revoke (n np : Nat) (post : Int32 → Mem → Prop) (a1 : Int32) (μ : Mem) : Prop := w_X4_revoke n np (fun (r : Int32) (u : Mem) => ∃ v : Mem, gs u v ∧ post r v) (fun (E : String) (u : Mem) => (E = "java/lang/IndexOutOfBoundsException" ∧ post (-1000001) u) ∨ (E = "java/lang/IllegalStateException" ∧ post (-1000003) u)) a1 μ
set_option maxRecDepth 100000 in
set_option maxHeartbeats 4000000 in
theorem c_L_revoke (l : Launch) (hst : l.stackTraces = false) {D : va_G} {ca : Nat → ClassId} {base : Nat} {ad : Nat → Nat → Nat} {n np : Nat} {μ : Mem} {post : Int32 → Mem → Prop} {a1 : Int32} (h : w_L_revoke n np post a1 μ) : ZVMet l yL_revoke cL_revoke 3 [(0, 5, 6, 26), (0, 5, 10, 19)] ({ frames := 8, cells := 2, slots := 12, locals := 158 } : Room) 2 12 D ca base ad n np [.ref (ad 30 0), .int a1] μ post := by
  unfold ZVMet
  refine vx_ofWH (cc := cL_revoke) (maxL := 3) (ret := (some FieldType.int)) (hh := [(0, 5, 6, 26), (0, 5, 10, 19)]) (by decide) rfl ?_
  intro p e s m args below meth c s₁ B hml hv
  obtain ⟨rfl, hU⟩ := hv
  have hZ := hU.toS
  have hC : ZC p m meth c s RL cL_revoke 3 := ⟨B.exec, B.bytes, hml, findClass_of_methodNamed B.named, B.notSynchronized⟩
  have hr := B.returns
  have hxt := vx_table (x := yL_revoke) B (hU.1.2.1.use (([.ref (ad 30 0), .int a1] : List Value).toArray) zy_L_revoke.2.2.1 rfl)
  have key : W p l e ({ frames := 8, cells := 2, slots := 12, locals := 158 } : Room) s m (([.ref (ad 30 0), .int a1] : List Value).toArray) below meth c s.heap [] 0 0 (vx_MQ below (ZQ D ca base ad n np (zpi post)) (ZX D ca base ad n np (fun _ _ => False)) (([.ref (ad 30 0), .int a1] : List Value).toArray) s 2 12 (zB base)) (entryFrame m (([.ref (ad 30 0), .int a1] : List Value).toArray) 3) := by
    have hl := lv_entry ([.ref (ad 30 0), .int a1]) (n := 3) (Nat.le_of_ble_eq_true rfl)
    rw [lg_entry_eq]
    generalize (lg_sl ([.ref (ad 30 0), .int a1]) ++ List.replicate (3 - (lg_sl ([.ref (ad 30 0), .int a1])).length) Slot.unset).toArray = ls at hl ⊢
    have hl : lv_has ls 3 [(0, .ref (ad 30 0)), (1, .int a1)] := hl
    unfold w_L_revoke at h
    refine lv_aload_n hC.1 hC.2.1 dL_revoke_0 rfl (lv_at hl 0 rfl) ?_
    refine lv_iload_n hC.1 hC.2.1 dL_revoke_1 rfl (lv_at hl 1 rfl) ?_
    refine z_cVXi (As := [.int a1]) hC hZ (zF_30 _) rfl zy_X4_revoke (c_X4_revoke l hst h) km_L_43 rfl ⟨rfl, rfl⟩ ⟨(Nat.le_of_ble_eq_true rfl), (Nat.le_of_ble_eq_true rfl)⟩ hl.1 rfl (Nat.le_of_ble_eq_true rfl) dL_revoke_2 ⟨(Nat.le_of_ble_eq_true rfl), (Nat.le_of_ble_eq_true rfl)⟩ (fun E ce q9 u H locs h hZ hce hcv hcl => ?_) (fun r u H locs h hZ => ?_)
    · rcases h with ⟨rfl, h⟩ | ⟨rfl, h⟩
      · refine z_catch hC hZ [] (⟨0, 5, 6, 26⟩ : ExceptionTableEntry) [(⟨0, 5, 10, 19⟩ : ExceptionTableEntry)] hxt (fun z hz => absurd hz List.not_mem_nil) (by decide) (by decide) kc_L_26 kcast_26 hce hcv hcl ?_
        refine lv_astore_n (lv' := [(2, .ref q9), (0, .ref (ad 30 0)), (1, .int a1)]) hC.1 hC.2.1 dL_revoke_6 rfl hl (by decide) rfl (fun ls hl => ?_)
        refine lv_ldc (v := -1000001) hC.1 hC.2.1 hC.2.2.2.1 (hZ.1.2.1.use _ kk_L_28 rfl) dL_revoke_7 ?_
        exact vx_ret (z_iret hC hr hZ h dL_revoke_9 (Nat.le_of_ble_eq_true rfl) (Nat.le_of_ble_eq_true rfl))
      · refine z_catch hC hZ [(⟨0, 5, 6, 26⟩ : ExceptionTableEntry)] (⟨0, 5, 10, 19⟩ : ExceptionTableEntry) [] hxt (fun z hz => by rw [List.mem_singleton.mp hz]; exact ⟨(by decide), _, kc_L_26, znc_19_26⟩) (by decide) (by decide) kc_L_19 kcast_19 hce hcv hcl ?_
        refine lv_astore_n (lv' := [(2, .ref q9), (0, .ref (ad 30 0)), (1, .int a1)]) hC.1 hC.2.1 dL_revoke_10 rfl hl (by decide) rfl (fun ls hl => ?_)
        refine lv_ldc (v := -1000003) hC.1 hC.2.1 hC.2.2.2.1 (hZ.1.2.1.use _ kk_L_21 rfl) dL_revoke_11 ?_
        exact vx_ret (z_iret hC hr hZ h dL_revoke_13 (Nat.le_of_ble_eq_true rfl) (Nat.le_of_ble_eq_true rfl))
    · obtain ⟨v, hgs, h⟩ := h
      have hZ := hZ.gs hgs
      exact vx_ret (z_iret hC hr hZ h dL_revoke_5 (Nat.le_of_ble_eq_true rfl) (Nat.le_of_ble_eq_true rfl))
  exact key
theorem zy_L_away : zYW yL_away cL_away 5 [(0, 15, 16, 26), (0, 15, 21, 16)] 4 := ⟨tin3 _ (List.mem_of_getElem? (i := 145) (by decide +kernel)), kini_L, tin3 _ (List.mem_of_getElem? (i := 146) rfl), by decide +kernel, by decide +kernel⟩
def w_L_away (n np : Nat) (post : Int32 → Mem → Prop) (a1 : Int32) (a2 : Int32) (a3 : Int32) (μ : Mem) : Prop := w_X4_away n np (fun (r : Int32) (u : Mem) => ∃ v : Mem, gs u v ∧ (r = 0 → post 0 v) ∧ (¬ r = 0 → post 1 v)) (fun (E : String) (u : Mem) => (E = "java/lang/IndexOutOfBoundsException" ∧ post (-1000001) u) ∨ (E = "java/lang/IllegalArgumentException" ∧ post (-1000002) u)) a1 a2 a3 μ
set_option maxRecDepth 100000 in
set_option maxHeartbeats 4000000 in
theorem c_L_away (l : Launch) (hst : l.stackTraces = false) {D : va_G} {ca : Nat → ClassId} {base : Nat} {ad : Nat → Nat → Nat} {n np : Nat} {μ : Mem} {post : Int32 → Mem → Prop} {a1 : Int32} {a2 : Int32} {a3 : Int32} (h : w_L_away n np post a1 a2 a3 μ) : ZVMet l yL_away cL_away 5 [(0, 15, 16, 26), (0, 15, 21, 16)] ({ frames := 8, cells := 2, slots := 12, locals := 126 } : Room) 2 12 D ca base ad n np [.ref (ad 30 0), .int a1, .int a2, .int a3] μ post := by
  unfold ZVMet
  refine vx_ofWH (cc := cL_away) (maxL := 5) (ret := (some FieldType.int)) (hh := [(0, 15, 16, 26), (0, 15, 21, 16)]) (by decide) rfl ?_
  intro p e s m args below meth c s₁ B hml hv
  obtain ⟨rfl, hU⟩ := hv
  have hZ := hU.toS
  have hC : ZC p m meth c s RL cL_away 5 := ⟨B.exec, B.bytes, hml, findClass_of_methodNamed B.named, B.notSynchronized⟩
  have hr := B.returns
  have hxt := vx_table (x := yL_away) B (hU.1.2.1.use (([.ref (ad 30 0), .int a1, .int a2, .int a3] : List Value).toArray) zy_L_away.2.2.1 rfl)
  have key : W p l e ({ frames := 8, cells := 2, slots := 12, locals := 126 } : Room) s m (([.ref (ad 30 0), .int a1, .int a2, .int a3] : List Value).toArray) below meth c s.heap [] 0 0 (vx_MQ below (ZQ D ca base ad n np (zpi post)) (ZX D ca base ad n np (fun _ _ => False)) (([.ref (ad 30 0), .int a1, .int a2, .int a3] : List Value).toArray) s 2 12 (zB base)) (entryFrame m (([.ref (ad 30 0), .int a1, .int a2, .int a3] : List Value).toArray) 5) := by
    have hl := lv_entry ([.ref (ad 30 0), .int a1, .int a2, .int a3]) (n := 5) (Nat.le_of_ble_eq_true rfl)
    rw [lg_entry_eq]
    generalize (lg_sl ([.ref (ad 30 0), .int a1, .int a2, .int a3]) ++ List.replicate (5 - (lg_sl ([.ref (ad 30 0), .int a1, .int a2, .int a3])).length) Slot.unset).toArray = ls at hl ⊢
    have hl : lv_has ls 5 [(0, .ref (ad 30 0)), (1, .int a1), (2, .int a2), (3, .int a3)] := hl
    unfold w_L_away at h
    refine lv_aload_n hC.1 hC.2.1 dL_away_0 rfl (lv_at hl 0 rfl) ?_
    refine lv_iload_n hC.1 hC.2.1 dL_away_1 rfl (lv_at hl 1 rfl) ?_
    refine lv_iload_n hC.1 hC.2.1 dL_away_2 rfl (lv_at hl 2 rfl) ?_
    refine lv_iload_n hC.1 hC.2.1 dL_away_3 rfl (lv_at hl 3 rfl) ?_
    refine z_cVXi (As := [.int a1, .int a2, .int a3]) hC hZ (zF_30 _) rfl zy_X4_away (c_X4_away l hst h) km_L_46 rfl ⟨rfl, rfl⟩ ⟨(Nat.le_of_ble_eq_true rfl), (Nat.le_of_ble_eq_true rfl)⟩ hl.1 rfl (Nat.le_of_ble_eq_true rfl) dL_away_4 ⟨(Nat.le_of_ble_eq_true rfl), (Nat.le_of_ble_eq_true rfl)⟩ (fun E ce q9 u H locs h hZ hce hcv hcl => ?_) (fun r u H locs h hZ => ?_)
    · rcases h with ⟨rfl, h⟩ | ⟨rfl, h⟩
      · refine z_catch hC hZ [] (⟨0, 15, 16, 26⟩ : ExceptionTableEntry) [(⟨0, 15, 21, 16⟩ : ExceptionTableEntry)] hxt (fun z hz => absurd hz List.not_mem_nil) (by decide) (by decide) kc_L_26 kcast_26 hce hcv hcl ?_
        refine lv_astore (lv' := [(4, .ref q9), (0, .ref (ad 30 0)), (1, .int a1), (2, .int a2), (3, .int a3)]) hC.1 hC.2.1 dL_away_16 hl (by decide) rfl (fun ls hl => ?_)
        refine lv_ldc (v := -1000001) hC.1 hC.2.1 hC.2.2.2.1 (hZ.1.2.1.use _ kk_L_28 rfl) dL_away_18 ?_
        exact vx_ret (z_iret hC hr hZ h dL_away_20 (Nat.le_of_ble_eq_true rfl) (Nat.le_of_ble_eq_true rfl))
      · refine z_catch hC hZ [(⟨0, 15, 16, 26⟩ : ExceptionTableEntry)] (⟨0, 15, 21, 16⟩ : ExceptionTableEntry) [] hxt (fun z hz => by rw [List.mem_singleton.mp hz]; exact ⟨(by decide), _, kc_L_26, znc_16_26⟩) (by decide) (by decide) kc_L_16 kcast_16 hce hcv hcl ?_
        refine lv_astore (lv' := [(4, .ref q9), (0, .ref (ad 30 0)), (1, .int a1), (2, .int a2), (3, .int a3)]) hC.1 hC.2.1 dL_away_21 hl (by decide) rfl (fun ls hl => ?_)
        refine lv_ldc (v := -1000002) hC.1 hC.2.1 hC.2.2.2.1 (hZ.1.2.1.use _ kk_L_18 rfl) dL_away_23 ?_
        exact vx_ret (z_iret hC hr hZ h dL_away_25 (Nat.le_of_ble_eq_true rfl) (Nat.le_of_ble_eq_true rfl))
    · obtain ⟨v, hgs, h⟩ := h
      have hZ := hZ.gs hgs
      refine lv_if_eq (tgt := 14) hC.1 hC.2.1 dL_away_7 (by decide) (fun c1 => ?_) (fun c1 => ?_)
      · have h := h.1 c1
        refine lv_iconst (v := 0) hC.1 hC.2.1 dL_away_14 (by decide) ?_
        exact vx_ret (z_iret hC hr hZ h dL_away_15 (Nat.le_of_ble_eq_true rfl) (Nat.le_of_ble_eq_true rfl))
      · have h := h.2 c1
        refine lv_iconst (v := 1) hC.1 hC.2.1 dL_away_10 (by decide) ?_
        refine lv_goto (tgt := 15) hC.1 hC.2.1 dL_away_11 (by decide) ?_
        exact vx_ret (z_iret hC hr hZ h dL_away_15 (Nat.le_of_ble_eq_true rfl) (Nat.le_of_ble_eq_true rfl))
  exact key
theorem zy_L_buy : zYW yL_buy cL_buy 3 [(0, 5, 6, 26), (0, 5, 10, 19)] 2 := ⟨tin3 _ (List.mem_of_getElem? (i := 152) (by decide +kernel)), kini_L, tin3 _ (List.mem_of_getElem? (i := 153) rfl), by decide +kernel, by decide +kernel⟩
def w_L_buy (n np : Nat) (post : Int32 → Mem → Prop) (a1 : Int32) (μ : Mem) : Prop := w_X4_buy n np (fun (r : Int32) (u : Mem) => ∃ v : Mem, gs u v ∧ post r v) (fun (E : String) (u : Mem) => (E = "java/lang/IndexOutOfBoundsException" ∧ post (-1000001) u) ∨ (E = "java/lang/IllegalStateException" ∧ post (-1000003) u)) a1 μ
set_option maxRecDepth 100000 in
set_option maxHeartbeats 4000000 in
theorem c_L_buy (l : Launch) (hst : l.stackTraces = false) {D : va_G} {ca : Nat → ClassId} {base : Nat} {ad : Nat → Nat → Nat} {n np : Nat} {μ : Mem} {post : Int32 → Mem → Prop} {a1 : Int32} (h : w_L_buy n np post a1 μ) : ZVMet l yL_buy cL_buy 3 [(0, 5, 6, 26), (0, 5, 10, 19)] ({ frames := 8, cells := 2, slots := 12, locals := 124 } : Room) 2 12 D ca base ad n np [.ref (ad 30 0), .int a1] μ post := by
  unfold ZVMet
  refine vx_ofWH (cc := cL_buy) (maxL := 3) (ret := (some FieldType.int)) (hh := [(0, 5, 6, 26), (0, 5, 10, 19)]) (by decide) rfl ?_
  intro p e s m args below meth c s₁ B hml hv
  obtain ⟨rfl, hU⟩ := hv
  have hZ := hU.toS
  have hC : ZC p m meth c s RL cL_buy 3 := ⟨B.exec, B.bytes, hml, findClass_of_methodNamed B.named, B.notSynchronized⟩
  have hr := B.returns
  have hxt := vx_table (x := yL_buy) B (hU.1.2.1.use (([.ref (ad 30 0), .int a1] : List Value).toArray) zy_L_buy.2.2.1 rfl)
  have key : W p l e ({ frames := 8, cells := 2, slots := 12, locals := 124 } : Room) s m (([.ref (ad 30 0), .int a1] : List Value).toArray) below meth c s.heap [] 0 0 (vx_MQ below (ZQ D ca base ad n np (zpi post)) (ZX D ca base ad n np (fun _ _ => False)) (([.ref (ad 30 0), .int a1] : List Value).toArray) s 2 12 (zB base)) (entryFrame m (([.ref (ad 30 0), .int a1] : List Value).toArray) 3) := by
    have hl := lv_entry ([.ref (ad 30 0), .int a1]) (n := 3) (Nat.le_of_ble_eq_true rfl)
    rw [lg_entry_eq]
    generalize (lg_sl ([.ref (ad 30 0), .int a1]) ++ List.replicate (3 - (lg_sl ([.ref (ad 30 0), .int a1])).length) Slot.unset).toArray = ls at hl ⊢
    have hl : lv_has ls 3 [(0, .ref (ad 30 0)), (1, .int a1)] := hl
    unfold w_L_buy at h
    refine lv_aload_n hC.1 hC.2.1 dL_buy_0 rfl (lv_at hl 0 rfl) ?_
    refine lv_iload_n hC.1 hC.2.1 dL_buy_1 rfl (lv_at hl 1 rfl) ?_
    refine z_cVXi (As := [.int a1]) hC hZ (zF_30 _) rfl zy_X4_buy (c_X4_buy l hst h) km_L_50 rfl ⟨rfl, rfl⟩ ⟨(Nat.le_of_ble_eq_true rfl), (Nat.le_of_ble_eq_true rfl)⟩ hl.1 rfl (Nat.le_of_ble_eq_true rfl) dL_buy_2 ⟨(Nat.le_of_ble_eq_true rfl), (Nat.le_of_ble_eq_true rfl)⟩ (fun E ce q9 u H locs h hZ hce hcv hcl => ?_) (fun r u H locs h hZ => ?_)
    · rcases h with ⟨rfl, h⟩ | ⟨rfl, h⟩
      · refine z_catch hC hZ [] (⟨0, 5, 6, 26⟩ : ExceptionTableEntry) [(⟨0, 5, 10, 19⟩ : ExceptionTableEntry)] hxt (fun z hz => absurd hz List.not_mem_nil) (by decide) (by decide) kc_L_26 kcast_26 hce hcv hcl ?_
        refine lv_astore_n (lv' := [(2, .ref q9), (0, .ref (ad 30 0)), (1, .int a1)]) hC.1 hC.2.1 dL_buy_6 rfl hl (by decide) rfl (fun ls hl => ?_)
        refine lv_ldc (v := -1000001) hC.1 hC.2.1 hC.2.2.2.1 (hZ.1.2.1.use _ kk_L_28 rfl) dL_buy_7 ?_
        exact vx_ret (z_iret hC hr hZ h dL_buy_9 (Nat.le_of_ble_eq_true rfl) (Nat.le_of_ble_eq_true rfl))
      · refine z_catch hC hZ [(⟨0, 5, 6, 26⟩ : ExceptionTableEntry)] (⟨0, 5, 10, 19⟩ : ExceptionTableEntry) [] hxt (fun z hz => by rw [List.mem_singleton.mp hz]; exact ⟨(by decide), _, kc_L_26, znc_19_26⟩) (by decide) (by decide) kc_L_19 kcast_19 hce hcv hcl ?_
        refine lv_astore_n (lv' := [(2, .ref q9), (0, .ref (ad 30 0)), (1, .int a1)]) hC.1 hC.2.1 dL_buy_10 rfl hl (by decide) rfl (fun ls hl => ?_)
        refine lv_ldc (v := -1000003) hC.1 hC.2.1 hC.2.2.2.1 (hZ.1.2.1.use _ kk_L_21 rfl) dL_buy_11 ?_
        exact vx_ret (z_iret hC hr hZ h dL_buy_13 (Nat.le_of_ble_eq_true rfl) (Nat.le_of_ble_eq_true rfl))
    · obtain ⟨v, hgs, h⟩ := h
      have hZ := hZ.gs hgs
      exact vx_ret (z_iret hC hr hZ h dL_buy_5 (Nat.le_of_ble_eq_true rfl) (Nat.le_of_ble_eq_true rfl))
  exact key
theorem zy_L_mishap : zYW yL_mishap cL_mishap 4 [(0, 6, 7, 26), (0, 6, 11, 16), (0, 6, 15, 19)] 3 := ⟨tin3 _ (List.mem_of_getElem? (i := 164) (by decide +kernel)), kini_L, tin3 _ (List.mem_of_getElem? (i := 165) rfl), by decide +kernel, by decide +kernel⟩
def w_L_mishap (n np : Nat) (post : Int32 → Mem → Prop) (a1 : Int32) (a2 : Int32) (μ : Mem) : Prop := w_X4_mishap n np (fun (r : Int32) (u : Mem) => ∃ v : Mem, gs u v ∧ post r v) (fun (E : String) (u : Mem) => (E = "java/lang/IndexOutOfBoundsException" ∧ post (-1000001) u) ∨ (E = "java/lang/IllegalArgumentException" ∧ post (-1000002) u) ∨ (E = "java/lang/IllegalStateException" ∧ post (-1000003) u)) a1 a2 μ
set_option maxRecDepth 100000 in
set_option maxHeartbeats 4000000 in
theorem c_L_mishap (l : Launch) (hst : l.stackTraces = false) {D : va_G} {ca : Nat → ClassId} {base : Nat} {ad : Nat → Nat → Nat} {n np : Nat} {μ : Mem} {post : Int32 → Mem → Prop} {a1 : Int32} {a2 : Int32} (h : w_L_mishap n np post a1 a2 μ) : ZVMet l yL_mishap cL_mishap 4 [(0, 6, 7, 26), (0, 6, 11, 16), (0, 6, 15, 19)] ({ frames := 8, cells := 2, slots := 12, locals := 125 } : Room) 2 12 D ca base ad n np [.ref (ad 30 0), .int a1, .int a2] μ post := by
  unfold ZVMet
  refine vx_ofWH (cc := cL_mishap) (maxL := 4) (ret := (some FieldType.int)) (hh := [(0, 6, 7, 26), (0, 6, 11, 16), (0, 6, 15, 19)]) (by decide) rfl ?_
  intro p e s m args below meth c s₁ B hml hv
  obtain ⟨rfl, hU⟩ := hv
  have hZ := hU.toS
  have hC : ZC p m meth c s RL cL_mishap 4 := ⟨B.exec, B.bytes, hml, findClass_of_methodNamed B.named, B.notSynchronized⟩
  have hr := B.returns
  have hxt := vx_table (x := yL_mishap) B (hU.1.2.1.use (([.ref (ad 30 0), .int a1, .int a2] : List Value).toArray) zy_L_mishap.2.2.1 rfl)
  have key : W p l e ({ frames := 8, cells := 2, slots := 12, locals := 125 } : Room) s m (([.ref (ad 30 0), .int a1, .int a2] : List Value).toArray) below meth c s.heap [] 0 0 (vx_MQ below (ZQ D ca base ad n np (zpi post)) (ZX D ca base ad n np (fun _ _ => False)) (([.ref (ad 30 0), .int a1, .int a2] : List Value).toArray) s 2 12 (zB base)) (entryFrame m (([.ref (ad 30 0), .int a1, .int a2] : List Value).toArray) 4) := by
    have hl := lv_entry ([.ref (ad 30 0), .int a1, .int a2]) (n := 4) (Nat.le_of_ble_eq_true rfl)
    rw [lg_entry_eq]
    generalize (lg_sl ([.ref (ad 30 0), .int a1, .int a2]) ++ List.replicate (4 - (lg_sl ([.ref (ad 30 0), .int a1, .int a2])).length) Slot.unset).toArray = ls at hl ⊢
    have hl : lv_has ls 4 [(0, .ref (ad 30 0)), (1, .int a1), (2, .int a2)] := hl
    unfold w_L_mishap at h
    refine lv_aload_n hC.1 hC.2.1 dL_mishap_0 rfl (lv_at hl 0 rfl) ?_
    refine lv_iload_n hC.1 hC.2.1 dL_mishap_1 rfl (lv_at hl 1 rfl) ?_
    refine lv_iload_n hC.1 hC.2.1 dL_mishap_2 rfl (lv_at hl 2 rfl) ?_
    refine z_cVXi (As := [.int a1, .int a2]) hC hZ (zF_30 _) rfl zy_X4_mishap (c_X4_mishap l hst h) km_L_53 rfl ⟨rfl, rfl⟩ ⟨(Nat.le_of_ble_eq_true rfl), (Nat.le_of_ble_eq_true rfl)⟩ hl.1 rfl (Nat.le_of_ble_eq_true rfl) dL_mishap_3 ⟨(Nat.le_of_ble_eq_true rfl), (Nat.le_of_ble_eq_true rfl)⟩ (fun E ce q9 u H locs h hZ hce hcv hcl => ?_) (fun r u H locs h hZ => ?_)
    · rcases h with ⟨rfl, h⟩ | ⟨rfl, h⟩ | ⟨rfl, h⟩
      · refine z_catch hC hZ [] (⟨0, 6, 7, 26⟩ : ExceptionTableEntry) [(⟨0, 6, 11, 16⟩ : ExceptionTableEntry), (⟨0, 6, 15, 19⟩ : ExceptionTableEntry)] hxt (fun z hz => absurd hz List.not_mem_nil) (by decide) (by decide) kc_L_26 kcast_26 hce hcv hcl ?_
        refine lv_astore_n (lv' := [(3, .ref q9), (0, .ref (ad 30 0)), (1, .int a1), (2, .int a2)]) hC.1 hC.2.1 dL_mishap_7 rfl hl (by decide) rfl (fun ls hl => ?_)
        refine lv_ldc (v := -1000001) hC.1 hC.2.1 hC.2.2.2.1 (hZ.1.2.1.use _ kk_L_28 rfl) dL_mishap_8 ?_
        exact vx_ret (z_iret hC hr hZ h dL_mishap_10 (Nat.le_of_ble_eq_true rfl) (Nat.le_of_ble_eq_true rfl))
      · refine z_catch hC hZ [(⟨0, 6, 7, 26⟩ : ExceptionTableEntry)] (⟨0, 6, 11, 16⟩ : ExceptionTableEntry) [(⟨0, 6, 15, 19⟩ : ExceptionTableEntry)] hxt (fun z hz => by rw [List.mem_singleton.mp hz]; exact ⟨(by decide), _, kc_L_26, znc_16_26⟩) (by decide) (by decide) kc_L_16 kcast_16 hce hcv hcl ?_
        refine lv_astore_n (lv' := [(3, .ref q9), (0, .ref (ad 30 0)), (1, .int a1), (2, .int a2)]) hC.1 hC.2.1 dL_mishap_11 rfl hl (by decide) rfl (fun ls hl => ?_)
        refine lv_ldc (v := -1000002) hC.1 hC.2.1 hC.2.2.2.1 (hZ.1.2.1.use _ kk_L_18 rfl) dL_mishap_12 ?_
        exact vx_ret (z_iret hC hr hZ h dL_mishap_14 (Nat.le_of_ble_eq_true rfl) (Nat.le_of_ble_eq_true rfl))
      · refine z_catch hC hZ [(⟨0, 6, 7, 26⟩ : ExceptionTableEntry), (⟨0, 6, 11, 16⟩ : ExceptionTableEntry)] (⟨0, 6, 15, 19⟩ : ExceptionTableEntry) [] hxt (fun z hz => by rcases List.mem_cons.mp hz with rfl | hz; exact ⟨(by decide), _, kc_L_26, znc_19_26⟩; rw [List.mem_singleton.mp hz]; exact ⟨(by decide), _, kc_L_16, znc_19_16⟩) (by decide) (by decide) kc_L_19 kcast_19 hce hcv hcl ?_
        refine lv_astore_n (lv' := [(3, .ref q9), (0, .ref (ad 30 0)), (1, .int a1), (2, .int a2)]) hC.1 hC.2.1 dL_mishap_15 rfl hl (by decide) rfl (fun ls hl => ?_)
        refine lv_ldc (v := -1000003) hC.1 hC.2.1 hC.2.2.2.1 (hZ.1.2.1.use _ kk_L_21 rfl) dL_mishap_16 ?_
        exact vx_ret (z_iret hC hr hZ h dL_mishap_18 (Nat.le_of_ble_eq_true rfl) (Nat.le_of_ble_eq_true rfl))
    · obtain ⟨v, hgs, h⟩ := h
      have hZ := hZ.gs hgs
      exact vx_ret (z_iret hC hr hZ h dL_mishap_6 (Nat.le_of_ble_eq_true rfl) (Nat.le_of_ble_eq_true rfl))
  exact key
theorem zy_L_shoot : zYW yL_shoot cL_shoot 2 [(0, 4, 5, 19)] 1 := ⟨tin3 _ (List.mem_of_getElem? (i := 80) (by decide +kernel)), kini_L, tin3 _ (List.mem_of_getElem? (i := 81) rfl), by decide +kernel, by decide +kernel⟩
def w_L_shoot (n np : Nat) (post : Int32 → Mem → Prop) (μ : Mem) : Prop := w_X4_shoot n np (fun (r : Int32) (u : Mem) => ∃ v : Mem, gs u v ∧ post r v) (fun (E : String) (u : Mem) => (E = "java/lang/IllegalStateException" ∧ post (-1000003) u)) μ
set_option maxRecDepth 100000 in
set_option maxHeartbeats 4000000 in
theorem c_L_shoot (l : Launch) (hst : l.stackTraces = false) {D : va_G} {ca : Nat → ClassId} {base : Nat} {ad : Nat → Nat → Nat} {n np : Nat} {μ : Mem} {post : Int32 → Mem → Prop} (h : w_L_shoot n np post μ) : ZVMet l yL_shoot cL_shoot 2 [(0, 4, 5, 19)] ({ frames := 7, cells := 1, slots := 6, locals := 104 } : Room) 1 6 D ca base ad n np [.ref (ad 30 0)] μ post := by
  unfold ZVMet
  refine vx_ofWH (cc := cL_shoot) (maxL := 2) (ret := (some FieldType.int)) (hh := [(0, 4, 5, 19)]) (by decide) rfl ?_
  intro p e s m args below meth c s₁ B hml hv
  obtain ⟨rfl, hU⟩ := hv
  have hZ := hU.toS
  have hC : ZC p m meth c s RL cL_shoot 2 := ⟨B.exec, B.bytes, hml, findClass_of_methodNamed B.named, B.notSynchronized⟩
  have hr := B.returns
  have hxt := vx_table (x := yL_shoot) B (hU.1.2.1.use (([.ref (ad 30 0)] : List Value).toArray) zy_L_shoot.2.2.1 rfl)
  have key : W p l e ({ frames := 7, cells := 1, slots := 6, locals := 104 } : Room) s m (([.ref (ad 30 0)] : List Value).toArray) below meth c s.heap [] 0 0 (vx_MQ below (ZQ D ca base ad n np (zpi post)) (ZX D ca base ad n np (fun _ _ => False)) (([.ref (ad 30 0)] : List Value).toArray) s 1 6 (zB base)) (entryFrame m (([.ref (ad 30 0)] : List Value).toArray) 2) := by
    have hl := lv_entry ([.ref (ad 30 0)]) (n := 2) (Nat.le_of_ble_eq_true rfl)
    rw [lg_entry_eq]
    generalize (lg_sl ([.ref (ad 30 0)]) ++ List.replicate (2 - (lg_sl ([.ref (ad 30 0)])).length) Slot.unset).toArray = ls at hl ⊢
    have hl : lv_has ls 2 [(0, .ref (ad 30 0))] := hl
    unfold w_L_shoot at h
    refine lv_aload_n hC.1 hC.2.1 dL_shoot_0 rfl (lv_at hl 0 rfl) ?_
    refine z_cVXi (As := []) hC hZ (zF_30 _) rfl zy_X4_shoot (c_X4_shoot l hst h) km_L_56 rfl ⟨rfl, rfl⟩ ⟨(Nat.le_of_ble_eq_true rfl), (Nat.le_of_ble_eq_true rfl)⟩ hl.1 rfl (Nat.le_of_ble_eq_true rfl) dL_shoot_1 ⟨(Nat.le_of_ble_eq_true rfl), (Nat.le_of_ble_eq_true rfl)⟩ (fun E ce q9 u H locs h hZ hce hcv hcl => ?_) (fun r u H locs h hZ => ?_)
    · obtain ⟨rfl, h⟩ := h
      refine z_catch hC hZ [] (⟨0, 4, 5, 19⟩ : ExceptionTableEntry) [] hxt (fun z hz => absurd hz List.not_mem_nil) (by decide) (by decide) kc_L_19 kcast_19 hce hcv hcl ?_
      refine lv_astore_n (lv' := [(1, .ref q9), (0, .ref (ad 30 0))]) hC.1 hC.2.1 dL_shoot_5 rfl hl (by decide) rfl (fun ls hl => ?_)
      refine lv_ldc (v := -1000003) hC.1 hC.2.1 hC.2.2.2.1 (hZ.1.2.1.use _ kk_L_21 rfl) dL_shoot_6 ?_
      exact vx_ret (z_iret hC hr hZ h dL_shoot_8 (Nat.le_of_ble_eq_true rfl) (Nat.le_of_ble_eq_true rfl))
    · obtain ⟨v, hgs, h⟩ := h
      have hZ := hZ.gs hgs
      exact vx_ret (z_iret hC hr hZ h dL_shoot_4 (Nat.le_of_ble_eq_true rfl) (Nat.le_of_ble_eq_true rfl))
  exact key
theorem zy_L_least : zYW yL_least cL_least 2 [(0, 4, 5, 19)] 1 := ⟨tin1 _ (List.mem_of_getElem? (i := 204) (by decide +kernel)), kini_L, tin1 _ (List.mem_of_getElem? (i := 205) rfl), by decide +kernel, by decide +kernel⟩
def w_L_least (n np : Nat) (post : Int32 → Mem → Prop) (μ : Mem) : Prop := w_X4_least n np (fun (r : Int32) (u : Mem) => ∃ v : Mem, gs u v ∧ post r v) (fun (E : String) (u : Mem) => (E = "java/lang/IllegalStateException" ∧ post (-1000003) u)) μ
set_option maxRecDepth 100000 in
set_option maxHeartbeats 4000000 in
theorem c_L_least (l : Launch) (hst : l.stackTraces = false) {D : va_G} {ca : Nat → ClassId} {base : Nat} {ad : Nat → Nat → Nat} {n np : Nat} {μ : Mem} {post : Int32 → Mem → Prop} (h : w_L_least n np post μ) : ZVMet l yL_least cL_least 2 [(0, 4, 5, 19)] ({ frames := 7, cells := 1, slots := 6, locals := 117 } : Room) 1 6 D ca base ad n np [.ref (ad 30 0)] μ post := by
  unfold ZVMet
  refine vx_ofWH (cc := cL_least) (maxL := 2) (ret := (some FieldType.int)) (hh := [(0, 4, 5, 19)]) (by decide) rfl ?_
  intro p e s m args below meth c s₁ B hml hv
  obtain ⟨rfl, hU⟩ := hv
  have hZ := hU.toS
  have hC : ZC p m meth c s RL cL_least 2 := ⟨B.exec, B.bytes, hml, findClass_of_methodNamed B.named, B.notSynchronized⟩
  have hr := B.returns
  have hxt := vx_table (x := yL_least) B (hU.1.2.1.use (([.ref (ad 30 0)] : List Value).toArray) zy_L_least.2.2.1 rfl)
  have key : W p l e ({ frames := 7, cells := 1, slots := 6, locals := 117 } : Room) s m (([.ref (ad 30 0)] : List Value).toArray) below meth c s.heap [] 0 0 (vx_MQ below (ZQ D ca base ad n np (zpi post)) (ZX D ca base ad n np (fun _ _ => False)) (([.ref (ad 30 0)] : List Value).toArray) s 1 6 (zB base)) (entryFrame m (([.ref (ad 30 0)] : List Value).toArray) 2) := by
    have hl := lv_entry ([.ref (ad 30 0)]) (n := 2) (Nat.le_of_ble_eq_true rfl)
    rw [lg_entry_eq]
    generalize (lg_sl ([.ref (ad 30 0)]) ++ List.replicate (2 - (lg_sl ([.ref (ad 30 0)])).length) Slot.unset).toArray = ls at hl ⊢
    have hl : lv_has ls 2 [(0, .ref (ad 30 0))] := hl
    unfold w_L_least at h
    refine lv_aload_n hC.1 hC.2.1 dL_least_0 rfl (lv_at hl 0 rfl) ?_
    refine z_cVXi (As := []) hC hZ (zF_30 _) rfl zy_X4_least (c_X4_least l hst h) km_L_60 rfl ⟨rfl, rfl⟩ ⟨(Nat.le_of_ble_eq_true rfl), (Nat.le_of_ble_eq_true rfl)⟩ hl.1 rfl (Nat.le_of_ble_eq_true rfl) dL_least_1 ⟨(Nat.le_of_ble_eq_true rfl), (Nat.le_of_ble_eq_true rfl)⟩ (fun E ce q9 u H locs h hZ hce hcv hcl => ?_) (fun r u H locs h hZ => ?_)
    · obtain ⟨rfl, h⟩ := h
      refine z_catch hC hZ [] (⟨0, 4, 5, 19⟩ : ExceptionTableEntry) [] hxt (fun z hz => absurd hz List.not_mem_nil) (by decide) (by decide) kc_L_19 kcast_19 hce hcv hcl ?_
      refine lv_astore_n (lv' := [(1, .ref q9), (0, .ref (ad 30 0))]) hC.1 hC.2.1 dL_least_5 rfl hl (by decide) rfl (fun ls hl => ?_)
      refine lv_ldc (v := -1000003) hC.1 hC.2.1 hC.2.2.2.1 (hZ.1.2.1.use _ kk_L_21 rfl) dL_least_6 ?_
      exact vx_ret (z_iret hC hr hZ h dL_least_8 (Nat.le_of_ble_eq_true rfl) (Nat.le_of_ble_eq_true rfl))
    · obtain ⟨v, hgs, h⟩ := h
      have hZ := hZ.gs hgs
      exact vx_ret (z_iret hC hr hZ h dL_least_4 (Nat.le_of_ble_eq_true rfl) (Nat.le_of_ble_eq_true rfl))
  exact key
theorem zy_L_stateOf : zYW yL_stateOf cL_stateOf 3 [(0, 5, 6, 26)] 2 := ⟨tin2 _ (List.mem_of_getElem? (i := 95) (by decide +kernel)), kini_L, tin2 _ (List.mem_of_getElem? (i := 96) rfl), by decide +kernel, by decide +kernel⟩
def w_L_stateOf (n np : Nat) (post : Int32 → Mem → Prop) (a1 : Int32) (μ : Mem) : Prop := w_X4_stateOf n np (fun (r : Int32) (u : Mem) => ∃ v : Mem, gs u v ∧ post r v) (fun (E : String) (u : Mem) => (E = "java/lang/IndexOutOfBoundsException" ∧ post (-1000001) u)) a1 μ
set_option maxRecDepth 100000 in
set_option maxHeartbeats 4000000 in
theorem c_L_stateOf (l : Launch) (hst : l.stackTraces = false) {D : va_G} {ca : Nat → ClassId} {base : Nat} {ad : Nat → Nat → Nat} {n np : Nat} {μ : Mem} {post : Int32 → Mem → Prop} {a1 : Int32} (h : w_L_stateOf n np post a1 μ) : ZVMet l yL_stateOf cL_stateOf 3 [(0, 5, 6, 26)] ({ frames := 8, cells := 1, slots := 6, locals := 124 } : Room) 1 6 D ca base ad n np [.ref (ad 30 0), .int a1] μ post := by
  unfold ZVMet
  refine vx_ofWH (cc := cL_stateOf) (maxL := 3) (ret := (some FieldType.int)) (hh := [(0, 5, 6, 26)]) (by decide) rfl ?_
  intro p e s m args below meth c s₁ B hml hv
  obtain ⟨rfl, hU⟩ := hv
  have hZ := hU.toS
  have hC : ZC p m meth c s RL cL_stateOf 3 := ⟨B.exec, B.bytes, hml, findClass_of_methodNamed B.named, B.notSynchronized⟩
  have hr := B.returns
  have hxt := vx_table (x := yL_stateOf) B (hU.1.2.1.use (([.ref (ad 30 0), .int a1] : List Value).toArray) zy_L_stateOf.2.2.1 rfl)
  have key : W p l e ({ frames := 8, cells := 1, slots := 6, locals := 124 } : Room) s m (([.ref (ad 30 0), .int a1] : List Value).toArray) below meth c s.heap [] 0 0 (vx_MQ below (ZQ D ca base ad n np (zpi post)) (ZX D ca base ad n np (fun _ _ => False)) (([.ref (ad 30 0), .int a1] : List Value).toArray) s 1 6 (zB base)) (entryFrame m (([.ref (ad 30 0), .int a1] : List Value).toArray) 3) := by
    have hl := lv_entry ([.ref (ad 30 0), .int a1]) (n := 3) (Nat.le_of_ble_eq_true rfl)
    rw [lg_entry_eq]
    generalize (lg_sl ([.ref (ad 30 0), .int a1]) ++ List.replicate (3 - (lg_sl ([.ref (ad 30 0), .int a1])).length) Slot.unset).toArray = ls at hl ⊢
    have hl : lv_has ls 3 [(0, .ref (ad 30 0)), (1, .int a1)] := hl
    unfold w_L_stateOf at h
    refine lv_aload_n hC.1 hC.2.1 dL_stateOf_0 rfl (lv_at hl 0 rfl) ?_
    refine lv_iload_n hC.1 hC.2.1 dL_stateOf_1 rfl (lv_at hl 1 rfl) ?_
    refine z_cVXi (As := [.int a1]) hC hZ (zF_30 _) rfl zy_X4_stateOf (c_X4_stateOf l hst h) km_L_63 rfl ⟨rfl, rfl⟩ ⟨(Nat.le_of_ble_eq_true rfl), (Nat.le_of_ble_eq_true rfl)⟩ hl.1 rfl (Nat.le_of_ble_eq_true rfl) dL_stateOf_2 ⟨(Nat.le_of_ble_eq_true rfl), (Nat.le_of_ble_eq_true rfl)⟩ (fun E ce q9 u H locs h hZ hce hcv hcl => ?_) (fun r u H locs h hZ => ?_)
    · obtain ⟨rfl, h⟩ := h
      refine z_catch hC hZ [] (⟨0, 5, 6, 26⟩ : ExceptionTableEntry) [] hxt (fun z hz => absurd hz List.not_mem_nil) (by decide) (by decide) kc_L_26 kcast_26 hce hcv hcl ?_
      refine lv_astore_n (lv' := [(2, .ref q9), (0, .ref (ad 30 0)), (1, .int a1)]) hC.1 hC.2.1 dL_stateOf_6 rfl hl (by decide) rfl (fun ls hl => ?_)
      refine lv_ldc (v := -1000001) hC.1 hC.2.1 hC.2.2.2.1 (hZ.1.2.1.use _ kk_L_28 rfl) dL_stateOf_7 ?_
      exact vx_ret (z_iret hC hr hZ h dL_stateOf_9 (Nat.le_of_ble_eq_true rfl) (Nat.le_of_ble_eq_true rfl))
    · obtain ⟨v, hgs, h⟩ := h
      have hZ := hZ.gs hgs
      exact vx_ret (z_iret hC hr hZ h dL_stateOf_5 (Nat.le_of_ble_eq_true rfl) (Nat.le_of_ble_eq_true rfl))
  exact key
theorem zy_L_dayOf : zYW yL_dayOf cL_dayOf 3 [(0, 5, 6, 26)] 2 := ⟨tin2 _ (List.mem_of_getElem? (i := 124) (by decide +kernel)), kini_L, tin2 _ (List.mem_of_getElem? (i := 125) rfl), by decide +kernel, by decide +kernel⟩
def w_L_dayOf (n np : Nat) (post : Int32 → Mem → Prop) (a1 : Int32) (μ : Mem) : Prop := w_X4_dayOf n np (fun (r : Int32) (u : Mem) => ∃ v : Mem, gs u v ∧ post r v) (fun (E : String) (u : Mem) => (E = "java/lang/IndexOutOfBoundsException" ∧ post (-1000001) u)) a1 μ
set_option maxRecDepth 100000 in
set_option maxHeartbeats 4000000 in
theorem c_L_dayOf (l : Launch) (hst : l.stackTraces = false) {D : va_G} {ca : Nat → ClassId} {base : Nat} {ad : Nat → Nat → Nat} {n np : Nat} {μ : Mem} {post : Int32 → Mem → Prop} {a1 : Int32} (h : w_L_dayOf n np post a1 μ) : ZVMet l yL_dayOf cL_dayOf 3 [(0, 5, 6, 26)] ({ frames := 8, cells := 1, slots := 6, locals := 125 } : Room) 1 6 D ca base ad n np [.ref (ad 30 0), .int a1] μ post := by
  unfold ZVMet
  refine vx_ofWH (cc := cL_dayOf) (maxL := 3) (ret := (some FieldType.int)) (hh := [(0, 5, 6, 26)]) (by decide) rfl ?_
  intro p e s m args below meth c s₁ B hml hv
  obtain ⟨rfl, hU⟩ := hv
  have hZ := hU.toS
  have hC : ZC p m meth c s RL cL_dayOf 3 := ⟨B.exec, B.bytes, hml, findClass_of_methodNamed B.named, B.notSynchronized⟩
  have hr := B.returns
  have hxt := vx_table (x := yL_dayOf) B (hU.1.2.1.use (([.ref (ad 30 0), .int a1] : List Value).toArray) zy_L_dayOf.2.2.1 rfl)
  have key : W p l e ({ frames := 8, cells := 1, slots := 6, locals := 125 } : Room) s m (([.ref (ad 30 0), .int a1] : List Value).toArray) below meth c s.heap [] 0 0 (vx_MQ below (ZQ D ca base ad n np (zpi post)) (ZX D ca base ad n np (fun _ _ => False)) (([.ref (ad 30 0), .int a1] : List Value).toArray) s 1 6 (zB base)) (entryFrame m (([.ref (ad 30 0), .int a1] : List Value).toArray) 3) := by
    have hl := lv_entry ([.ref (ad 30 0), .int a1]) (n := 3) (Nat.le_of_ble_eq_true rfl)
    rw [lg_entry_eq]
    generalize (lg_sl ([.ref (ad 30 0), .int a1]) ++ List.replicate (3 - (lg_sl ([.ref (ad 30 0), .int a1])).length) Slot.unset).toArray = ls at hl ⊢
    have hl : lv_has ls 3 [(0, .ref (ad 30 0)), (1, .int a1)] := hl
    unfold w_L_dayOf at h
    refine lv_aload_n hC.1 hC.2.1 dL_dayOf_0 rfl (lv_at hl 0 rfl) ?_
    refine lv_iload_n hC.1 hC.2.1 dL_dayOf_1 rfl (lv_at hl 1 rfl) ?_
    refine z_cVXi (As := [.int a1]) hC hZ (zF_30 _) rfl zy_X4_dayOf (c_X4_dayOf l hst h) km_L_66 rfl ⟨rfl, rfl⟩ ⟨(Nat.le_of_ble_eq_true rfl), (Nat.le_of_ble_eq_true rfl)⟩ hl.1 rfl (Nat.le_of_ble_eq_true rfl) dL_dayOf_2 ⟨(Nat.le_of_ble_eq_true rfl), (Nat.le_of_ble_eq_true rfl)⟩ (fun E ce q9 u H locs h hZ hce hcv hcl => ?_) (fun r u H locs h hZ => ?_)
    · obtain ⟨rfl, h⟩ := h
      refine z_catch hC hZ [] (⟨0, 5, 6, 26⟩ : ExceptionTableEntry) [] hxt (fun z hz => absurd hz List.not_mem_nil) (by decide) (by decide) kc_L_26 kcast_26 hce hcv hcl ?_
      refine lv_astore_n (lv' := [(2, .ref q9), (0, .ref (ad 30 0)), (1, .int a1)]) hC.1 hC.2.1 dL_dayOf_6 rfl hl (by decide) rfl (fun ls hl => ?_)
      refine lv_ldc (v := -1000001) hC.1 hC.2.1 hC.2.2.2.1 (hZ.1.2.1.use _ kk_L_28 rfl) dL_dayOf_7 ?_
      exact vx_ret (z_iret hC hr hZ h dL_dayOf_9 (Nat.le_of_ble_eq_true rfl) (Nat.le_of_ble_eq_true rfl))
    · obtain ⟨v, hgs, h⟩ := h
      have hZ := hZ.gs hgs
      exact vx_ret (z_iret hC hr hZ h dL_dayOf_5 (Nat.le_of_ble_eq_true rfl) (Nat.le_of_ble_eq_true rfl))
  exact key
theorem zy_L_sceneOn : zYW yL_sceneOn cL_sceneOn 3 [(0, 5, 6, 16)] 2 := ⟨tin2 _ (List.mem_of_getElem? (i := 67) (by decide +kernel)), kini_L, tin2 _ (List.mem_of_getElem? (i := 68) rfl), by decide +kernel, by decide +kernel⟩
def w_L_sceneOn (n np : Nat) (post : Int32 → Mem → Prop) (a1 : Int32) (μ : Mem) : Prop := w_X4_sceneOn n np (fun (r : Int32) (u : Mem) => ∃ v : Mem, gs u v ∧ post r v) (fun (E : String) (u : Mem) => (E = "java/lang/IllegalArgumentException" ∧ post (-1000002) u)) a1 μ
set_option maxRecDepth 100000 in
set_option maxHeartbeats 4000000 in
theorem c_L_sceneOn (l : Launch) (hst : l.stackTraces = false) {D : va_G} {ca : Nat → ClassId} {base : Nat} {ad : Nat → Nat → Nat} {n np : Nat} {μ : Mem} {post : Int32 → Mem → Prop} {a1 : Int32} (h : w_L_sceneOn n np post a1 μ) : ZVMet l yL_sceneOn cL_sceneOn 3 [(0, 5, 6, 16)] ({ frames := 8, cells := 1, slots := 6, locals := 124 } : Room) 1 6 D ca base ad n np [.ref (ad 30 0), .int a1] μ post := by
  unfold ZVMet
  refine vx_ofWH (cc := cL_sceneOn) (maxL := 3) (ret := (some FieldType.int)) (hh := [(0, 5, 6, 16)]) (by decide) rfl ?_
  intro p e s m args below meth c s₁ B hml hv
  obtain ⟨rfl, hU⟩ := hv
  have hZ := hU.toS
  have hC : ZC p m meth c s RL cL_sceneOn 3 := ⟨B.exec, B.bytes, hml, findClass_of_methodNamed B.named, B.notSynchronized⟩
  have hr := B.returns
  have hxt := vx_table (x := yL_sceneOn) B (hU.1.2.1.use (([.ref (ad 30 0), .int a1] : List Value).toArray) zy_L_sceneOn.2.2.1 rfl)
  have key : W p l e ({ frames := 8, cells := 1, slots := 6, locals := 124 } : Room) s m (([.ref (ad 30 0), .int a1] : List Value).toArray) below meth c s.heap [] 0 0 (vx_MQ below (ZQ D ca base ad n np (zpi post)) (ZX D ca base ad n np (fun _ _ => False)) (([.ref (ad 30 0), .int a1] : List Value).toArray) s 1 6 (zB base)) (entryFrame m (([.ref (ad 30 0), .int a1] : List Value).toArray) 3) := by
    have hl := lv_entry ([.ref (ad 30 0), .int a1]) (n := 3) (Nat.le_of_ble_eq_true rfl)
    rw [lg_entry_eq]
    generalize (lg_sl ([.ref (ad 30 0), .int a1]) ++ List.replicate (3 - (lg_sl ([.ref (ad 30 0), .int a1])).length) Slot.unset).toArray = ls at hl ⊢
    have hl : lv_has ls 3 [(0, .ref (ad 30 0)), (1, .int a1)] := hl
    unfold w_L_sceneOn at h
    refine lv_aload_n hC.1 hC.2.1 dL_sceneOn_0 rfl (lv_at hl 0 rfl) ?_
    refine lv_iload_n hC.1 hC.2.1 dL_sceneOn_1 rfl (lv_at hl 1 rfl) ?_
    refine z_cVXi (As := [.int a1]) hC hZ (zF_30 _) rfl zy_X4_sceneOn (c_X4_sceneOn l hst h) km_L_69 rfl ⟨rfl, rfl⟩ ⟨(Nat.le_of_ble_eq_true rfl), (Nat.le_of_ble_eq_true rfl)⟩ hl.1 rfl (Nat.le_of_ble_eq_true rfl) dL_sceneOn_2 ⟨(Nat.le_of_ble_eq_true rfl), (Nat.le_of_ble_eq_true rfl)⟩ (fun E ce q9 u H locs h hZ hce hcv hcl => ?_) (fun r u H locs h hZ => ?_)
    · obtain ⟨rfl, h⟩ := h
      refine z_catch hC hZ [] (⟨0, 5, 6, 16⟩ : ExceptionTableEntry) [] hxt (fun z hz => absurd hz List.not_mem_nil) (by decide) (by decide) kc_L_16 kcast_16 hce hcv hcl ?_
      refine lv_astore_n (lv' := [(2, .ref q9), (0, .ref (ad 30 0)), (1, .int a1)]) hC.1 hC.2.1 dL_sceneOn_6 rfl hl (by decide) rfl (fun ls hl => ?_)
      refine lv_ldc (v := -1000002) hC.1 hC.2.1 hC.2.2.2.1 (hZ.1.2.1.use _ kk_L_18 rfl) dL_sceneOn_7 ?_
      exact vx_ret (z_iret hC hr hZ h dL_sceneOn_9 (Nat.le_of_ble_eq_true rfl) (Nat.le_of_ble_eq_true rfl))
    · obtain ⟨v, hgs, h⟩ := h
      have hZ := hZ.gs hgs
      exact vx_ret (z_iret hC hr hZ h dL_sceneOn_5 (Nat.le_of_ble_eq_true rfl) (Nat.le_of_ble_eq_true rfl))
  exact key
theorem zy_L_isAllowed : zYW yL_isAllowed cL_isAllowed 4 [(0, 14, 15, 26), (0, 14, 19, 16)] 3 := ⟨tin2 _ (List.mem_of_getElem? (i := 135) (by decide +kernel)), kini_L, tin2 _ (List.mem_of_getElem? (i := 136) rfl), by decide +kernel, by decide +kernel⟩
def w_L_isAllowed (n np : Nat) (post : Int32 → Mem → Prop) (a1 : Int32) (a2 : Int32) (μ : Mem) : Prop := w_X4_isAllowed n np (fun (r : Int32) (u : Mem) => ∃ v : Mem, gs u v ∧ (r = 0 → post 0 v) ∧ (¬ r = 0 → post 1 v)) (fun (E : String) (u : Mem) => (E = "java/lang/IndexOutOfBoundsException" ∧ post (-1000001) u) ∨ (E = "java/lang/IllegalArgumentException" ∧ post (-1000002) u)) a1 a2 μ
set_option maxRecDepth 100000 in
set_option maxHeartbeats 4000000 in
theorem c_L_isAllowed (l : Launch) (hst : l.stackTraces = false) {D : va_G} {ca : Nat → ClassId} {base : Nat} {ad : Nat → Nat → Nat} {n np : Nat} {μ : Mem} {post : Int32 → Mem → Prop} {a1 : Int32} {a2 : Int32} (h : w_L_isAllowed n np post a1 a2 μ) : ZVMet l yL_isAllowed cL_isAllowed 4 [(0, 14, 15, 26), (0, 14, 19, 16)] ({ frames := 8, cells := 2, slots := 12, locals := 126 } : Room) 2 12 D ca base ad n np [.ref (ad 30 0), .int a1, .int a2] μ post := by
  unfold ZVMet
  refine vx_ofWH (cc := cL_isAllowed) (maxL := 4) (ret := (some FieldType.int)) (hh := [(0, 14, 15, 26), (0, 14, 19, 16)]) (by decide) rfl ?_
  intro p e s m args below meth c s₁ B hml hv
  obtain ⟨rfl, hU⟩ := hv
  have hZ := hU.toS
  have hC : ZC p m meth c s RL cL_isAllowed 4 := ⟨B.exec, B.bytes, hml, findClass_of_methodNamed B.named, B.notSynchronized⟩
  have hr := B.returns
  have hxt := vx_table (x := yL_isAllowed) B (hU.1.2.1.use (([.ref (ad 30 0), .int a1, .int a2] : List Value).toArray) zy_L_isAllowed.2.2.1 rfl)
  have key : W p l e ({ frames := 8, cells := 2, slots := 12, locals := 126 } : Room) s m (([.ref (ad 30 0), .int a1, .int a2] : List Value).toArray) below meth c s.heap [] 0 0 (vx_MQ below (ZQ D ca base ad n np (zpi post)) (ZX D ca base ad n np (fun _ _ => False)) (([.ref (ad 30 0), .int a1, .int a2] : List Value).toArray) s 2 12 (zB base)) (entryFrame m (([.ref (ad 30 0), .int a1, .int a2] : List Value).toArray) 4) := by
    have hl := lv_entry ([.ref (ad 30 0), .int a1, .int a2]) (n := 4) (Nat.le_of_ble_eq_true rfl)
    rw [lg_entry_eq]
    generalize (lg_sl ([.ref (ad 30 0), .int a1, .int a2]) ++ List.replicate (4 - (lg_sl ([.ref (ad 30 0), .int a1, .int a2])).length) Slot.unset).toArray = ls at hl ⊢
    have hl : lv_has ls 4 [(0, .ref (ad 30 0)), (1, .int a1), (2, .int a2)] := hl
    unfold w_L_isAllowed at h
    refine lv_aload_n hC.1 hC.2.1 dL_isAllowed_0 rfl (lv_at hl 0 rfl) ?_
    refine lv_iload_n hC.1 hC.2.1 dL_isAllowed_1 rfl (lv_at hl 1 rfl) ?_
    refine lv_iload_n hC.1 hC.2.1 dL_isAllowed_2 rfl (lv_at hl 2 rfl) ?_
    refine z_cVXi (As := [.int a1, .int a2]) hC hZ (zF_30 _) rfl zy_X4_isAllowed (c_X4_isAllowed l hst h) km_L_72 rfl ⟨rfl, rfl⟩ ⟨(Nat.le_of_ble_eq_true rfl), (Nat.le_of_ble_eq_true rfl)⟩ hl.1 rfl (Nat.le_of_ble_eq_true rfl) dL_isAllowed_3 ⟨(Nat.le_of_ble_eq_true rfl), (Nat.le_of_ble_eq_true rfl)⟩ (fun E ce q9 u H locs h hZ hce hcv hcl => ?_) (fun r u H locs h hZ => ?_)
    · rcases h with ⟨rfl, h⟩ | ⟨rfl, h⟩
      · refine z_catch hC hZ [] (⟨0, 14, 15, 26⟩ : ExceptionTableEntry) [(⟨0, 14, 19, 16⟩ : ExceptionTableEntry)] hxt (fun z hz => absurd hz List.not_mem_nil) (by decide) (by decide) kc_L_26 kcast_26 hce hcv hcl ?_
        refine lv_astore_n (lv' := [(3, .ref q9), (0, .ref (ad 30 0)), (1, .int a1), (2, .int a2)]) hC.1 hC.2.1 dL_isAllowed_15 rfl hl (by decide) rfl (fun ls hl => ?_)
        refine lv_ldc (v := -1000001) hC.1 hC.2.1 hC.2.2.2.1 (hZ.1.2.1.use _ kk_L_28 rfl) dL_isAllowed_16 ?_
        exact vx_ret (z_iret hC hr hZ h dL_isAllowed_18 (Nat.le_of_ble_eq_true rfl) (Nat.le_of_ble_eq_true rfl))
      · refine z_catch hC hZ [(⟨0, 14, 15, 26⟩ : ExceptionTableEntry)] (⟨0, 14, 19, 16⟩ : ExceptionTableEntry) [] hxt (fun z hz => by rw [List.mem_singleton.mp hz]; exact ⟨(by decide), _, kc_L_26, znc_16_26⟩) (by decide) (by decide) kc_L_16 kcast_16 hce hcv hcl ?_
        refine lv_astore_n (lv' := [(3, .ref q9), (0, .ref (ad 30 0)), (1, .int a1), (2, .int a2)]) hC.1 hC.2.1 dL_isAllowed_19 rfl hl (by decide) rfl (fun ls hl => ?_)
        refine lv_ldc (v := -1000002) hC.1 hC.2.1 hC.2.2.2.1 (hZ.1.2.1.use _ kk_L_18 rfl) dL_isAllowed_20 ?_
        exact vx_ret (z_iret hC hr hZ h dL_isAllowed_22 (Nat.le_of_ble_eq_true rfl) (Nat.le_of_ble_eq_true rfl))
    · obtain ⟨v, hgs, h⟩ := h
      have hZ := hZ.gs hgs
      refine lv_if_eq (tgt := 13) hC.1 hC.2.1 dL_isAllowed_6 (by decide) (fun c1 => ?_) (fun c1 => ?_)
      · have h := h.1 c1
        refine lv_iconst (v := 0) hC.1 hC.2.1 dL_isAllowed_13 (by decide) ?_
        exact vx_ret (z_iret hC hr hZ h dL_isAllowed_14 (Nat.le_of_ble_eq_true rfl) (Nat.le_of_ble_eq_true rfl))
      · have h := h.2 c1
        refine lv_iconst (v := 1) hC.1 hC.2.1 dL_isAllowed_9 (by decide) ?_
        refine lv_goto (tgt := 14) hC.1 hC.2.1 dL_isAllowed_10 (by decide) ?_
        exact vx_ret (z_iret hC hr hZ h dL_isAllowed_14 (Nat.le_of_ble_eq_true rfl) (Nat.le_of_ble_eq_true rfl))
  exact key
theorem zy_L_ahead : zYW yL_ahead cL_ahead 4 [(0, 6, 7, 26)] 3 := ⟨tin2 _ (List.mem_of_getElem? (i := 142) (by decide +kernel)), kini_L, tin2 _ (List.mem_of_getElem? (i := 143) rfl), by decide +kernel, by decide +kernel⟩
def w_L_ahead (n np : Nat) (post : Int32 → Mem → Prop) (a1 : Int32) (a2 : Int32) (μ : Mem) : Prop := w_X4_ahead n np (fun (r : Int32) (u : Mem) => ∃ v : Mem, gs u v ∧ post r v) (fun (E : String) (u : Mem) => (E = "java/lang/IndexOutOfBoundsException" ∧ post (-1000001) u)) a1 a2 μ
set_option maxRecDepth 100000 in
set_option maxHeartbeats 4000000 in
theorem c_L_ahead (l : Launch) (hst : l.stackTraces = false) {D : va_G} {ca : Nat → ClassId} {base : Nat} {ad : Nat → Nat → Nat} {n np : Nat} {μ : Mem} {post : Int32 → Mem → Prop} {a1 : Int32} {a2 : Int32} (h : w_L_ahead n np post a1 a2 μ) : ZVMet l yL_ahead cL_ahead 4 [(0, 6, 7, 26)] ({ frames := 8, cells := 2, slots := 12, locals := 130 } : Room) 2 12 D ca base ad n np [.ref (ad 30 0), .int a1, .int a2] μ post := by
  unfold ZVMet
  refine vx_ofWH (cc := cL_ahead) (maxL := 4) (ret := (some FieldType.int)) (hh := [(0, 6, 7, 26)]) (by decide) rfl ?_
  intro p e s m args below meth c s₁ B hml hv
  obtain ⟨rfl, hU⟩ := hv
  have hZ := hU.toS
  have hC : ZC p m meth c s RL cL_ahead 4 := ⟨B.exec, B.bytes, hml, findClass_of_methodNamed B.named, B.notSynchronized⟩
  have hr := B.returns
  have hxt := vx_table (x := yL_ahead) B (hU.1.2.1.use (([.ref (ad 30 0), .int a1, .int a2] : List Value).toArray) zy_L_ahead.2.2.1 rfl)
  have key : W p l e ({ frames := 8, cells := 2, slots := 12, locals := 130 } : Room) s m (([.ref (ad 30 0), .int a1, .int a2] : List Value).toArray) below meth c s.heap [] 0 0 (vx_MQ below (ZQ D ca base ad n np (zpi post)) (ZX D ca base ad n np (fun _ _ => False)) (([.ref (ad 30 0), .int a1, .int a2] : List Value).toArray) s 2 12 (zB base)) (entryFrame m (([.ref (ad 30 0), .int a1, .int a2] : List Value).toArray) 4) := by
    have hl := lv_entry ([.ref (ad 30 0), .int a1, .int a2]) (n := 4) (Nat.le_of_ble_eq_true rfl)
    rw [lg_entry_eq]
    generalize (lg_sl ([.ref (ad 30 0), .int a1, .int a2]) ++ List.replicate (4 - (lg_sl ([.ref (ad 30 0), .int a1, .int a2])).length) Slot.unset).toArray = ls at hl ⊢
    have hl : lv_has ls 4 [(0, .ref (ad 30 0)), (1, .int a1), (2, .int a2)] := hl
    unfold w_L_ahead at h
    refine lv_aload_n hC.1 hC.2.1 dL_ahead_0 rfl (lv_at hl 0 rfl) ?_
    refine lv_iload_n hC.1 hC.2.1 dL_ahead_1 rfl (lv_at hl 1 rfl) ?_
    refine lv_iload_n hC.1 hC.2.1 dL_ahead_2 rfl (lv_at hl 2 rfl) ?_
    refine z_cVXi (As := [.int a1, .int a2]) hC hZ (zF_30 _) rfl zy_X4_ahead (c_X4_ahead l hst h) km_L_76 rfl ⟨rfl, rfl⟩ ⟨(Nat.le_of_ble_eq_true rfl), (Nat.le_of_ble_eq_true rfl)⟩ hl.1 rfl (Nat.le_of_ble_eq_true rfl) dL_ahead_3 ⟨(Nat.le_of_ble_eq_true rfl), (Nat.le_of_ble_eq_true rfl)⟩ (fun E ce q9 u H locs h hZ hce hcv hcl => ?_) (fun r u H locs h hZ => ?_)
    · obtain ⟨rfl, h⟩ := h
      refine z_catch hC hZ [] (⟨0, 6, 7, 26⟩ : ExceptionTableEntry) [] hxt (fun z hz => absurd hz List.not_mem_nil) (by decide) (by decide) kc_L_26 kcast_26 hce hcv hcl ?_
      refine lv_astore_n (lv' := [(3, .ref q9), (0, .ref (ad 30 0)), (1, .int a1), (2, .int a2)]) hC.1 hC.2.1 dL_ahead_7 rfl hl (by decide) rfl (fun ls hl => ?_)
      refine lv_ldc (v := -1000001) hC.1 hC.2.1 hC.2.2.2.1 (hZ.1.2.1.use _ kk_L_28 rfl) dL_ahead_8 ?_
      exact vx_ret (z_iret hC hr hZ h dL_ahead_10 (Nat.le_of_ble_eq_true rfl) (Nat.le_of_ble_eq_true rfl))
    · obtain ⟨v, hgs, h⟩ := h
      have hZ := hZ.gs hgs
      exact vx_ret (z_iret hC hr hZ h dL_ahead_6 (Nat.le_of_ble_eq_true rfl) (Nat.le_of_ble_eq_true rfl))
  exact key
theorem zy_L_copies : zYW yL_copies cL_copies 4 [(0, 6, 7, 26), (0, 6, 11, 16)] 3 := ⟨tin2 _ (List.mem_of_getElem? (i := 188) (by decide +kernel)), kini_L, tin2 _ (List.mem_of_getElem? (i := 189) rfl), by decide +kernel, by decide +kernel⟩
def w_L_copies (n np : Nat) (post : Int32 → Mem → Prop) (a1 : Int32) (a2 : Int32) (μ : Mem) : Prop := w_X4_copies n np (fun (r : Int32) (u : Mem) => ∃ v : Mem, gs u v ∧ post r v) (fun (E : String) (u : Mem) => (E = "java/lang/IndexOutOfBoundsException" ∧ post (-1000001) u) ∨ (E = "java/lang/IllegalArgumentException" ∧ post (-1000002) u)) a1 a2 μ
set_option maxRecDepth 100000 in
set_option maxHeartbeats 4000000 in
theorem c_L_copies (l : Launch) (hst : l.stackTraces = false) {D : va_G} {ca : Nat → ClassId} {base : Nat} {ad : Nat → Nat → Nat} {n np : Nat} {μ : Mem} {post : Int32 → Mem → Prop} {a1 : Int32} {a2 : Int32} (h : w_L_copies n np post a1 a2 μ) : ZVMet l yL_copies cL_copies 4 [(0, 6, 7, 26), (0, 6, 11, 16)] ({ frames := 8, cells := 2, slots := 12, locals := 124 } : Room) 2 12 D ca base ad n np [.ref (ad 30 0), .int a1, .int a2] μ post := by
  unfold ZVMet
  refine vx_ofWH (cc := cL_copies) (maxL := 4) (ret := (some FieldType.int)) (hh := [(0, 6, 7, 26), (0, 6, 11, 16)]) (by decide) rfl ?_
  intro p e s m args below meth c s₁ B hml hv
  obtain ⟨rfl, hU⟩ := hv
  have hZ := hU.toS
  have hC : ZC p m meth c s RL cL_copies 4 := ⟨B.exec, B.bytes, hml, findClass_of_methodNamed B.named, B.notSynchronized⟩
  have hr := B.returns
  have hxt := vx_table (x := yL_copies) B (hU.1.2.1.use (([.ref (ad 30 0), .int a1, .int a2] : List Value).toArray) zy_L_copies.2.2.1 rfl)
  have key : W p l e ({ frames := 8, cells := 2, slots := 12, locals := 124 } : Room) s m (([.ref (ad 30 0), .int a1, .int a2] : List Value).toArray) below meth c s.heap [] 0 0 (vx_MQ below (ZQ D ca base ad n np (zpi post)) (ZX D ca base ad n np (fun _ _ => False)) (([.ref (ad 30 0), .int a1, .int a2] : List Value).toArray) s 2 12 (zB base)) (entryFrame m (([.ref (ad 30 0), .int a1, .int a2] : List Value).toArray) 4) := by
    have hl := lv_entry ([.ref (ad 30 0), .int a1, .int a2]) (n := 4) (Nat.le_of_ble_eq_true rfl)
    rw [lg_entry_eq]
    generalize (lg_sl ([.ref (ad 30 0), .int a1, .int a2]) ++ List.replicate (4 - (lg_sl ([.ref (ad 30 0), .int a1, .int a2])).length) Slot.unset).toArray = ls at hl ⊢
    have hl : lv_has ls 4 [(0, .ref (ad 30 0)), (1, .int a1), (2, .int a2)] := hl
    unfold w_L_copies at h
    refine lv_aload_n hC.1 hC.2.1 dL_copies_0 rfl (lv_at hl 0 rfl) ?_
    refine lv_iload_n hC.1 hC.2.1 dL_copies_1 rfl (lv_at hl 1 rfl) ?_
    refine lv_iload_n hC.1 hC.2.1 dL_copies_2 rfl (lv_at hl 2 rfl) ?_
    refine z_cVXi (As := [.int a1, .int a2]) hC hZ (zF_30 _) rfl zy_X4_copies (c_X4_copies l hst h) km_L_79 rfl ⟨rfl, rfl⟩ ⟨(Nat.le_of_ble_eq_true rfl), (Nat.le_of_ble_eq_true rfl)⟩ hl.1 rfl (Nat.le_of_ble_eq_true rfl) dL_copies_3 ⟨(Nat.le_of_ble_eq_true rfl), (Nat.le_of_ble_eq_true rfl)⟩ (fun E ce q9 u H locs h hZ hce hcv hcl => ?_) (fun r u H locs h hZ => ?_)
    · rcases h with ⟨rfl, h⟩ | ⟨rfl, h⟩
      · refine z_catch hC hZ [] (⟨0, 6, 7, 26⟩ : ExceptionTableEntry) [(⟨0, 6, 11, 16⟩ : ExceptionTableEntry)] hxt (fun z hz => absurd hz List.not_mem_nil) (by decide) (by decide) kc_L_26 kcast_26 hce hcv hcl ?_
        refine lv_astore_n (lv' := [(3, .ref q9), (0, .ref (ad 30 0)), (1, .int a1), (2, .int a2)]) hC.1 hC.2.1 dL_copies_7 rfl hl (by decide) rfl (fun ls hl => ?_)
        refine lv_ldc (v := -1000001) hC.1 hC.2.1 hC.2.2.2.1 (hZ.1.2.1.use _ kk_L_28 rfl) dL_copies_8 ?_
        exact vx_ret (z_iret hC hr hZ h dL_copies_10 (Nat.le_of_ble_eq_true rfl) (Nat.le_of_ble_eq_true rfl))
      · refine z_catch hC hZ [(⟨0, 6, 7, 26⟩ : ExceptionTableEntry)] (⟨0, 6, 11, 16⟩ : ExceptionTableEntry) [] hxt (fun z hz => by rw [List.mem_singleton.mp hz]; exact ⟨(by decide), _, kc_L_26, znc_16_26⟩) (by decide) (by decide) kc_L_16 kcast_16 hce hcv hcl ?_
        refine lv_astore_n (lv' := [(3, .ref q9), (0, .ref (ad 30 0)), (1, .int a1), (2, .int a2)]) hC.1 hC.2.1 dL_copies_11 rfl hl (by decide) rfl (fun ls hl => ?_)
        refine lv_ldc (v := -1000002) hC.1 hC.2.1 hC.2.2.2.1 (hZ.1.2.1.use _ kk_L_18 rfl) dL_copies_12 ?_
        exact vx_ret (z_iret hC hr hZ h dL_copies_14 (Nat.le_of_ble_eq_true rfl) (Nat.le_of_ble_eq_true rfl))
    · obtain ⟨v, hgs, h⟩ := h
      have hZ := hZ.gs hgs
      exact vx_ret (z_iret hC hr hZ h dL_copies_6 (Nat.le_of_ble_eq_true rfl) (Nat.le_of_ble_eq_true rfl))
  exact key
theorem zy_L_growth : zYW yL_growth cL_growth 3 [(0, 5, 6, 26)] 2 := ⟨tin2 _ (List.mem_of_getElem? (i := 177) (by decide +kernel)), kini_L, tin2 _ (List.mem_of_getElem? (i := 178) rfl), by decide +kernel, by decide +kernel⟩
def w_L_growth (n np : Nat) (post : Int32 → Mem → Prop) (a1 : Int32) (μ : Mem) : Prop := w_X4_growth n np (fun (r : Int32) (u : Mem) => ∃ v : Mem, gs u v ∧ post r v) (fun (E : String) (u : Mem) => (E = "java/lang/IndexOutOfBoundsException" ∧ post (-1000001) u)) a1 μ
set_option maxRecDepth 100000 in
set_option maxHeartbeats 4000000 in
theorem c_L_growth (l : Launch) (hst : l.stackTraces = false) {D : va_G} {ca : Nat → ClassId} {base : Nat} {ad : Nat → Nat → Nat} {n np : Nat} {μ : Mem} {post : Int32 → Mem → Prop} {a1 : Int32} (h : w_L_growth n np post a1 μ) : ZVMet l yL_growth cL_growth 3 [(0, 5, 6, 26)] ({ frames := 8, cells := 1, slots := 6, locals := 123 } : Room) 1 6 D ca base ad n np [.ref (ad 30 0), .int a1] μ post := by
  unfold ZVMet
  refine vx_ofWH (cc := cL_growth) (maxL := 3) (ret := (some FieldType.int)) (hh := [(0, 5, 6, 26)]) (by decide) rfl ?_
  intro p e s m args below meth c s₁ B hml hv
  obtain ⟨rfl, hU⟩ := hv
  have hZ := hU.toS
  have hC : ZC p m meth c s RL cL_growth 3 := ⟨B.exec, B.bytes, hml, findClass_of_methodNamed B.named, B.notSynchronized⟩
  have hr := B.returns
  have hxt := vx_table (x := yL_growth) B (hU.1.2.1.use (([.ref (ad 30 0), .int a1] : List Value).toArray) zy_L_growth.2.2.1 rfl)
  have key : W p l e ({ frames := 8, cells := 1, slots := 6, locals := 123 } : Room) s m (([.ref (ad 30 0), .int a1] : List Value).toArray) below meth c s.heap [] 0 0 (vx_MQ below (ZQ D ca base ad n np (zpi post)) (ZX D ca base ad n np (fun _ _ => False)) (([.ref (ad 30 0), .int a1] : List Value).toArray) s 1 6 (zB base)) (entryFrame m (([.ref (ad 30 0), .int a1] : List Value).toArray) 3) := by
    have hl := lv_entry ([.ref (ad 30 0), .int a1]) (n := 3) (Nat.le_of_ble_eq_true rfl)
    rw [lg_entry_eq]
    generalize (lg_sl ([.ref (ad 30 0), .int a1]) ++ List.replicate (3 - (lg_sl ([.ref (ad 30 0), .int a1])).length) Slot.unset).toArray = ls at hl ⊢
    have hl : lv_has ls 3 [(0, .ref (ad 30 0)), (1, .int a1)] := hl
    unfold w_L_growth at h
    refine lv_aload_n hC.1 hC.2.1 dL_growth_0 rfl (lv_at hl 0 rfl) ?_
    refine lv_iload_n hC.1 hC.2.1 dL_growth_1 rfl (lv_at hl 1 rfl) ?_
    refine z_cVXi (As := [.int a1]) hC hZ (zF_30 _) rfl zy_X4_growth (c_X4_growth l hst h) km_L_82 rfl ⟨rfl, rfl⟩ ⟨(Nat.le_of_ble_eq_true rfl), (Nat.le_of_ble_eq_true rfl)⟩ hl.1 rfl (Nat.le_of_ble_eq_true rfl) dL_growth_2 ⟨(Nat.le_of_ble_eq_true rfl), (Nat.le_of_ble_eq_true rfl)⟩ (fun E ce q9 u H locs h hZ hce hcv hcl => ?_) (fun r u H locs h hZ => ?_)
    · obtain ⟨rfl, h⟩ := h
      refine z_catch hC hZ [] (⟨0, 5, 6, 26⟩ : ExceptionTableEntry) [] hxt (fun z hz => absurd hz List.not_mem_nil) (by decide) (by decide) kc_L_26 kcast_26 hce hcv hcl ?_
      refine lv_astore_n (lv' := [(2, .ref q9), (0, .ref (ad 30 0)), (1, .int a1)]) hC.1 hC.2.1 dL_growth_6 rfl hl (by decide) rfl (fun ls hl => ?_)
      refine lv_ldc (v := -1000001) hC.1 hC.2.1 hC.2.2.2.1 (hZ.1.2.1.use _ kk_L_28 rfl) dL_growth_7 ?_
      exact vx_ret (z_iret hC hr hZ h dL_growth_9 (Nat.le_of_ble_eq_true rfl) (Nat.le_of_ble_eq_true rfl))
    · obtain ⟨v, hgs, h⟩ := h
      have hZ := hZ.gs hgs
      exact vx_ret (z_iret hC hr hZ h dL_growth_5 (Nat.le_of_ble_eq_true rfl) (Nat.le_of_ble_eq_true rfl))
  exact key
