def b_X5_permit_61 (post : Int32 → Mem → Prop) (a1 : Int32) (a2 : Int32) (a3 : Int32) (a4 : Int32) (s1 : Int32) (s2 : Int32) (μ : Mem) : Prop := (w_X5_goes (fun (r6 : Int32) (μ5 : Mem) => ((¬ r6 = 0 → (vp_in (μ5 0 0 12) 20 ∧ ∀ μ9 : Mem, μ9 = zst μ5 9 0 ((μ5 0 0 12).toNatClampNeg) a1 → (vp_in (μ9 0 0 12) 20 ∧ ∀ μ11 : Mem, μ11 = zst μ9 10 0 ((μ9 0 0 12).toNatClampNeg) a2 → (vp_in (μ11 0 0 12) 20 ∧ ∀ μ13 : Mem, μ13 = zst μ11 11 0 ((μ11 0 0 12).toNatClampNeg) a3 → (vp_in (μ13 0 0 12) 20 ∧ ∀ μ15 : Mem, μ15 = zst μ13 12 0 ((μ13 0 0 12).toNatClampNeg) a4 → (∀ μ16 : Mem, μ16 = zst μ15 0 0 12 ((μ15 0 0 12) + 1) → post ((μ16 0 0 12) - 1) μ16)))))) ∧ (r6 = 0 → post 0 μ5))) s1 s2 (1 : Int32) μ)
set_option maxRecDepth 100000 in
set_option maxHeartbeats 4000000 in
theorem t_X5_permit_61 {p : Program} {l : Launch} {e : Env} {s : State} {m : MethodId} {args : Array Value} {below : List Frame} {meth : Method} {c : Code} {D : va_G} {ca : Nat → ClassId} {base : Nat} {ad : Nat → Nat → Nat} {n np : Nat} {post : Int32 → Mem → Prop} (hC : ZC p m meth c s RX5 cX5_permit 6) (hr : meth.sig.returnType = (some FieldType.int)) (a1 : Int32) (a2 : Int32) (a3 : Int32) (a4 : Int32) (s1 : Int32) (s2 : Int32) (μ : Mem) (H : Heap) (locs : List Loc) (ls : Array Slot) (h : b_X5_permit_61 post a1 a2 a3 a4 s1 s2 μ) (hZ : ZS D ca base ad n np μ s H locs) (hl : lv_has ls 6 [(0, .ref (ad 0 0)), (1, .int a1), (2, .int a2), (3, .int a3), (4, .int a4)]) : W p l e ({ frames := 2, cells := 0, slots := 0, locals := 42 } : Room) s m args below meth c H locs 0 0 (MQ below (ZQ D ca base ad n np (zpi post)) args s 0 0 (zB base)) (F0 m 61 ls [.int s2, .int s1, .ref (ad 0 0)]) := by
  unfold b_X5_permit_61 at h
  refine lv_iconst (v := 1) hC.1 hC.2.1 dX5_permit_61 (by decide) ?_
  refine z_cVi (As := [.int s1, .int s2, .int 1]) hC hZ (zF_0 _) rfl zy_X5_goes (c_X5_goes l h) km_X5_115 rfl ⟨rfl, rfl⟩ ⟨Nat.le_of_ble_eq_true rfl, Nat.le_of_ble_eq_true rfl⟩ hl.1 rfl (Nat.le_of_ble_eq_true rfl) dX5_permit_62 ⟨Nat.le_of_ble_eq_true rfl, Nat.le_of_ble_eq_true rfl⟩ (fun r6 μ5 H locs h hZ => ?_)
  refine lv_if_ne (tgt := 70) hC.1 hC.2.1 dX5_permit_65 (by decide) (fun c7 => ?_) (fun c7 => ?_)
  · have h := h.1 c7
    refine lv_aload_n hC.1 hC.2.1 dX5_permit_70 rfl (lv_at hl 0 rfl) ?_
    refine gX5_13 hC hZ kf_X5_38 dX5_permit_71 ?_
    refine lv_aload_n hC.1 hC.2.1 dX5_permit_74 rfl (lv_at hl 0 rfl) ?_
    refine gX5_12 hC hZ kf_X5_95 dX5_permit_75 ?_
    refine lv_iload_n hC.1 hC.2.1 dX5_permit_78 rfl (lv_at hl 1 rfl) ?_
    obtain ⟨q8, h⟩ := h
    refine aS_9 hC hZ q8 dX5_permit_79 (fun μ9 H locs eμ9 hZ => ?_)
    have h := h μ9 eμ9
    refine lv_aload_n hC.1 hC.2.1 dX5_permit_80 rfl (lv_at hl 0 rfl) ?_
    refine gX5_14 hC hZ kf_X5_41 dX5_permit_81 ?_
    refine lv_aload_n hC.1 hC.2.1 dX5_permit_84 rfl (lv_at hl 0 rfl) ?_
    refine gX5_12 hC hZ kf_X5_95 dX5_permit_85 ?_
    refine lv_iload_n hC.1 hC.2.1 dX5_permit_88 rfl (lv_at hl 2 rfl) ?_
    obtain ⟨q10, h⟩ := h
    refine aS_10 hC hZ q10 dX5_permit_89 (fun μ11 H locs eμ11 hZ => ?_)
    have h := h μ11 eμ11
    refine lv_aload_n hC.1 hC.2.1 dX5_permit_90 rfl (lv_at hl 0 rfl) ?_
    refine gX5_15 hC hZ kf_X5_44 dX5_permit_91 ?_
    refine lv_aload_n hC.1 hC.2.1 dX5_permit_94 rfl (lv_at hl 0 rfl) ?_
    refine gX5_12 hC hZ kf_X5_95 dX5_permit_95 ?_
    refine lv_iload_n hC.1 hC.2.1 dX5_permit_98 rfl (lv_at hl 3 rfl) ?_
    obtain ⟨q12, h⟩ := h
    refine aS_11 hC hZ q12 dX5_permit_99 (fun μ13 H locs eμ13 hZ => ?_)
    have h := h μ13 eμ13
    refine lv_aload_n hC.1 hC.2.1 dX5_permit_100 rfl (lv_at hl 0 rfl) ?_
    refine gX5_16 hC hZ kf_X5_47 dX5_permit_101 ?_
    refine lv_aload_n hC.1 hC.2.1 dX5_permit_104 rfl (lv_at hl 0 rfl) ?_
    refine gX5_12 hC hZ kf_X5_95 dX5_permit_105 ?_
    refine lv_iload hC.1 hC.2.1 dX5_permit_108 (lv_at hl 4 rfl) ?_
    obtain ⟨q14, h⟩ := h
    refine aS_12 hC hZ q14 dX5_permit_110 (fun μ15 H locs eμ15 hZ => ?_)
    have h := h μ15 eμ15
    refine lv_aload_n hC.1 hC.2.1 dX5_permit_111 rfl (lv_at hl 0 rfl) ?_
    refine lv_dup hC.1 hC.2.1 dX5_permit_112 rfl ?_
    refine gX5_12 hC hZ kf_X5_95 dX5_permit_113 ?_
    refine lv_iconst (v := 1) hC.1 hC.2.1 dX5_permit_116 (by decide) ?_
    refine lv_iadd hC.1 hC.2.1 dX5_permit_117 ?_
    refine pX5_12 hC hZ kf_X5_95 dX5_permit_118 (fun μ16 H locs eμ16 hZ => ?_)
    have h := h μ16 eμ16
    refine lv_aload_n hC.1 hC.2.1 dX5_permit_121 rfl (lv_at hl 0 rfl) ?_
    refine gX5_12 hC hZ kf_X5_95 dX5_permit_122 ?_
    refine lv_iconst (v := 1) hC.1 hC.2.1 dX5_permit_125 (by decide) ?_
    refine lv_isub hC.1 hC.2.1 dX5_permit_126 ?_
    exact z_iret hC hr hZ h dX5_permit_127 (Nat.le_of_ble_eq_true rfl) (Nat.le_of_ble_eq_true rfl)
  · have h := h.2 c7
    refine lv_iconst (v := 0) hC.1 hC.2.1 dX5_permit_68 (by decide) ?_
    exact z_iret hC hr hZ h dX5_permit_69 (Nat.le_of_ble_eq_true rfl) (Nat.le_of_ble_eq_true rfl)
def b_X5_permit_42 (post : Int32 → Mem → Prop) (a1 : Int32) (a2 : Int32) (a3 : Int32) (a4 : Int32) (s0 : Int32) (μ : Mem) : Prop := ((20 ≤ (μ 0 0 12) → b_X5_permit_61 post a1 a2 a3 a4 s0 (0 : Int32) μ) ∧ (¬ 20 ≤ (μ 0 0 12) → b_X5_permit_61 post a1 a2 a3 a4 s0 (1 : Int32) μ))
set_option maxRecDepth 100000 in
set_option maxHeartbeats 4000000 in
theorem t_X5_permit_42 {p : Program} {l : Launch} {e : Env} {s : State} {m : MethodId} {args : Array Value} {below : List Frame} {meth : Method} {c : Code} {D : va_G} {ca : Nat → ClassId} {base : Nat} {ad : Nat → Nat → Nat} {n np : Nat} {post : Int32 → Mem → Prop} (hC : ZC p m meth c s RX5 cX5_permit 6) (hr : meth.sig.returnType = (some FieldType.int)) (a1 : Int32) (a2 : Int32) (a3 : Int32) (a4 : Int32) (s0 : Int32) (μ : Mem) (H : Heap) (locs : List Loc) (ls : Array Slot) (h : b_X5_permit_42 post a1 a2 a3 a4 s0 μ) (hZ : ZS D ca base ad n np μ s H locs) (hl : lv_has ls 6 [(0, .ref (ad 0 0)), (1, .int a1), (2, .int a2), (3, .int a3), (4, .int a4)]) : W p l e ({ frames := 2, cells := 0, slots := 0, locals := 42 } : Room) s m args below meth c H locs 0 0 (MQ below (ZQ D ca base ad n np (zpi post)) args s 0 0 (zB base)) (F0 m 42 ls [.int s0]) := by
  unfold b_X5_permit_42 at h
  refine lv_istore (lv' := [(5, .int s0), (0, .ref (ad 0 0)), (1, .int a1), (2, .int a2), (3, .int a3), (4, .int a4)]) hC.1 hC.2.1 dX5_permit_42 hl (by decide) rfl (fun ls hl => ?_)
  refine lv_aload_n hC.1 hC.2.1 dX5_permit_44 rfl (lv_at hl 1 rfl) ?_
  refine lv_iload hC.1 hC.2.1 dX5_permit_45 (lv_at hl 0 rfl) ?_
  refine lv_aload_n hC.1 hC.2.1 dX5_permit_47 rfl (lv_at hl 1 rfl) ?_
  refine gX5_12 hC hZ kf_X5_95 dX5_permit_48 ?_
  refine lv_bipush (v := 20) hC.1 hC.2.1 dX5_permit_51 (by decide) ?_
  refine lv_icmp_ge (tgt := 60) hC.1 hC.2.1 dX5_permit_53 (by decide) (fun c4 => ?_) (fun c4 => ?_)
  · have h := h.1 c4
    refine lv_iconst (v := 0) hC.1 hC.2.1 dX5_permit_60 (by decide) ?_
    exact t_X5_permit_61 (l := l) hC hr _ _ _ _ _ _ _ _ _ _ h hZ (lv_sub hl [1, 2, 3, 4, 5] rfl)
  · have h := h.2 c4
    refine lv_iconst (v := 1) hC.1 hC.2.1 dX5_permit_56 (by decide) ?_
    refine lv_goto (tgt := 61) hC.1 hC.2.1 dX5_permit_57 (by decide) ?_
    exact t_X5_permit_61 (l := l) hC hr _ _ _ _ _ _ _ _ _ _ h hZ (lv_sub hl [1, 2, 3, 4, 5] rfl)
def b_X5_permit_41 (post : Int32 → Mem → Prop) (a1 : Int32) (a2 : Int32) (a3 : Int32) (a4 : Int32) (μ : Mem) : Prop := b_X5_permit_42 post a1 a2 a3 a4 (0 : Int32) μ
set_option maxRecDepth 100000 in
set_option maxHeartbeats 4000000 in
theorem t_X5_permit_41 {p : Program} {l : Launch} {e : Env} {s : State} {m : MethodId} {args : Array Value} {below : List Frame} {meth : Method} {c : Code} {D : va_G} {ca : Nat → ClassId} {base : Nat} {ad : Nat → Nat → Nat} {n np : Nat} {post : Int32 → Mem → Prop} (hC : ZC p m meth c s RX5 cX5_permit 6) (hr : meth.sig.returnType = (some FieldType.int)) (a1 : Int32) (a2 : Int32) (a3 : Int32) (a4 : Int32) (μ : Mem) (H : Heap) (locs : List Loc) (ls : Array Slot) (h : b_X5_permit_41 post a1 a2 a3 a4 μ) (hZ : ZS D ca base ad n np μ s H locs) (hl : lv_has ls 6 [(0, .ref (ad 0 0)), (1, .int a1), (2, .int a2), (3, .int a3), (4, .int a4)]) : W p l e ({ frames := 2, cells := 0, slots := 0, locals := 42 } : Room) s m args below meth c H locs 0 0 (MQ below (ZQ D ca base ad n np (zpi post)) args s 0 0 (zB base)) (F0 m 41 ls []) := by
  unfold b_X5_permit_41 at h
  refine lv_iconst (v := 0) hC.1 hC.2.1 dX5_permit_41 (by decide) ?_
  exact t_X5_permit_42 (l := l) hC hr _ _ _ _ _ _ _ _ _ h hZ (lv_sub hl [0, 1, 2, 3, 4] rfl)
def w_X5_permit (post : Int32 → Mem → Prop) (a1 : Int32) (a2 : Int32) (a3 : Int32) (a4 : Int32) (μ : Mem) : Prop := (w_X5_in (fun (r2 : Int32) (μ1 : Mem) => ((r2 = 0 → b_X5_permit_41 post a1 a2 a3 a4 μ1) ∧ (¬ r2 = 0 → (w_X5_isDay (fun (r18 : Int32) (μ17 : Mem) => ((r18 = 0 → b_X5_permit_41 post a1 a2 a3 a4 μ17) ∧ (¬ r18 = 0 → (w_X5_in (fun (r21 : Int32) (μ20 : Mem) => ((r21 = 0 → b_X5_permit_41 post a1 a2 a3 a4 μ20) ∧ (¬ r21 = 0 → (w_X5_in (fun (r24 : Int32) (μ23 : Mem) => ((r24 = 0 → b_X5_permit_41 post a1 a2 a3 a4 μ23) ∧ (¬ r24 = 0 → b_X5_permit_42 post a1 a2 a3 a4 (1 : Int32) μ23))) a4 (1 : Int32) (9 : Int32) μ20)))) a3 a2 (29 : Int32) μ17)))) a2 μ1)))) a1 (0 : Int32) (3 : Int32) μ)
set_option maxRecDepth 100000 in
set_option maxHeartbeats 4000000 in
theorem c_X5_permit (l : Launch) {D : va_G} {ca : Nat → ClassId} {base : Nat} {ad : Nat → Nat → Nat} {n np : Nat} {μ : Mem} {post : Int32 → Mem → Prop} {a1 : Int32} {a2 : Int32} {a3 : Int32} {a4 : Int32} (h : w_X5_permit post a1 a2 a3 a4 μ) : ZMet l yX5_permit cX5_permit 6 (some FieldType.int) ({ frames := 2, cells := 0, slots := 0, locals := 42 } : Room) 0 0 D ca base ad n np [.ref (ad 0 0), .int a1, .int a2, .int a3, .int a4] μ (zpi post) := by
  unfold ZMet
  refine Met.ofW (cc := cX5_permit) (maxL := 6) (ret := (some FieldType.int)) (by decide) rfl ?_
  intro p e s m args below meth c s₁ B hml hv
  obtain ⟨rfl, hU⟩ := hv
  have hZ := hU.toS
  have hC : ZC p m meth c s RX5 cX5_permit 6 := ⟨B.exec, B.bytes, hml, findClass_of_methodNamed B.named, B.notSynchronized⟩
  have hr := B.returns
  have key : W p l e ({ frames := 2, cells := 0, slots := 0, locals := 42 } : Room) s m (([.ref (ad 0 0), .int a1, .int a2, .int a3, .int a4] : List Value).toArray) below meth c s.heap [] 0 0 (MQ below (ZQ D ca base ad n np (zpi post)) (([.ref (ad 0 0), .int a1, .int a2, .int a3, .int a4] : List Value).toArray) s 0 0 (zB base)) (entryFrame m (([.ref (ad 0 0), .int a1, .int a2, .int a3, .int a4] : List Value).toArray) 6) := by
    have hl := lv_entry ([.ref (ad 0 0), .int a1, .int a2, .int a3, .int a4]) (n := 6) (Nat.le_of_ble_eq_true rfl)
    rw [lg_entry_eq]
    generalize (lg_sl ([.ref (ad 0 0), .int a1, .int a2, .int a3, .int a4]) ++ List.replicate (6 - (lg_sl ([.ref (ad 0 0), .int a1, .int a2, .int a3, .int a4])).length) Slot.unset).toArray = ls at hl ⊢
    have hl : lv_has ls 6 [(0, .ref (ad 0 0)), (1, .int a1), (2, .int a2), (3, .int a3), (4, .int a4)] := hl
    unfold w_X5_permit at h
    refine lv_iload_n hC.1 hC.2.1 dX5_permit_0 rfl (lv_at hl 1 rfl) ?_
    refine lv_iconst (v := 0) hC.1 hC.2.1 dX5_permit_1 (by decide) ?_
    refine lv_iconst (v := 3) hC.1 hC.2.1 dX5_permit_2 (by decide) ?_
    refine z_cSi (As := [.int a1, .int 0, .int 3]) hC hZ zy_X5_in (c_X5_in l h) km_X5_81 rfl ⟨rfl, rfl⟩ ⟨Nat.le_of_ble_eq_true rfl, Nat.le_of_ble_eq_true rfl⟩ hl.1 rfl (Nat.le_of_ble_eq_true rfl) dX5_permit_3 ⟨Nat.le_of_ble_eq_true rfl, Nat.le_of_ble_eq_true rfl⟩ (fun r2 μ1 H locs h hZ => ?_)
    refine lv_if_eq (tgt := 41) hC.1 hC.2.1 dX5_permit_6 (by decide) (fun c3 => ?_) (fun c3 => ?_)
    · have h := h.1 c3
      exact t_X5_permit_41 (l := l) hC hr _ _ _ _  _ _ _ _ h hZ (lv_sub hl [0, 1, 2, 3, 4] rfl)
    · have h := h.2 c3
      refine lv_iload_n hC.1 hC.2.1 dX5_permit_9 rfl (lv_at hl 2 rfl) ?_
      refine z_cSi (As := [.int a2]) hC hZ zy_X5_isDay (c_X5_isDay l h) km_X5_149 rfl ⟨rfl, rfl⟩ ⟨Nat.le_of_ble_eq_true rfl, Nat.le_of_ble_eq_true rfl⟩ hl.1 rfl (Nat.le_of_ble_eq_true rfl) dX5_permit_10 ⟨Nat.le_of_ble_eq_true rfl, Nat.le_of_ble_eq_true rfl⟩ (fun r18 μ17 H locs h hZ => ?_)
      refine lv_if_eq (tgt := 41) hC.1 hC.2.1 dX5_permit_13 (by decide) (fun c19 => ?_) (fun c19 => ?_)
      · have h := h.1 c19
        exact t_X5_permit_41 (l := l) hC hr _ _ _ _  _ _ _ _ h hZ (lv_sub hl [0, 1, 2, 3, 4] rfl)
      · have h := h.2 c19
        refine lv_iload_n hC.1 hC.2.1 dX5_permit_16 rfl (lv_at hl 3 rfl) ?_
        refine lv_iload_n hC.1 hC.2.1 dX5_permit_17 rfl (lv_at hl 2 rfl) ?_
        refine lv_bipush (v := 29) hC.1 hC.2.1 dX5_permit_18 (by decide) ?_
        refine z_cSi (As := [.int a3, .int a2, .int 29]) hC hZ zy_X5_in (c_X5_in l h) km_X5_81 rfl ⟨rfl, rfl⟩ ⟨Nat.le_of_ble_eq_true rfl, Nat.le_of_ble_eq_true rfl⟩ hl.1 rfl (Nat.le_of_ble_eq_true rfl) dX5_permit_20 ⟨Nat.le_of_ble_eq_true rfl, Nat.le_of_ble_eq_true rfl⟩ (fun r21 μ20 H locs h hZ => ?_)
        refine lv_if_eq (tgt := 41) hC.1 hC.2.1 dX5_permit_23 (by decide) (fun c22 => ?_) (fun c22 => ?_)
        · have h := h.1 c22
          exact t_X5_permit_41 (l := l) hC hr _ _ _ _  _ _ _ _ h hZ (lv_sub hl [0, 1, 2, 3, 4] rfl)
        · have h := h.2 c22
          refine lv_iload hC.1 hC.2.1 dX5_permit_26 (lv_at hl 4 rfl) ?_
          refine lv_iconst (v := 1) hC.1 hC.2.1 dX5_permit_28 (by decide) ?_
          refine lv_bipush (v := 9) hC.1 hC.2.1 dX5_permit_29 (by decide) ?_
          refine z_cSi (As := [.int a4, .int 1, .int 9]) hC hZ zy_X5_in (c_X5_in l h) km_X5_81 rfl ⟨rfl, rfl⟩ ⟨Nat.le_of_ble_eq_true rfl, Nat.le_of_ble_eq_true rfl⟩ hl.1 rfl (Nat.le_of_ble_eq_true rfl) dX5_permit_31 ⟨Nat.le_of_ble_eq_true rfl, Nat.le_of_ble_eq_true rfl⟩ (fun r24 μ23 H locs h hZ => ?_)
          refine lv_if_eq (tgt := 41) hC.1 hC.2.1 dX5_permit_34 (by decide) (fun c25 => ?_) (fun c25 => ?_)
          · have h := h.1 c25
            exact t_X5_permit_41 (l := l) hC hr _ _ _ _  _ _ _ _ h hZ (lv_sub hl [0, 1, 2, 3, 4] rfl)
          · have h := h.2 c25
            refine lv_iconst (v := 1) hC.1 hC.2.1 dX5_permit_37 (by decide) ?_
            refine lv_goto (tgt := 42) hC.1 hC.2.1 dX5_permit_38 (by decide) ?_
            exact t_X5_permit_42 (l := l) hC hr _ _ _ _ _ _ _ _ _ h hZ (lv_sub hl [0, 1, 2, 3, 4] rfl)
  exact key
def b_X5_refusals_41 (post : Int32 → Mem → Prop) (k4 : Int32 → Int32 → Mem → Prop) (v2 : Int32) (s0 : Int32) (s1 : Int32) (μ : Mem) : Prop := k4 (s0 + s1) (v2 + 1) μ
set_option maxRecDepth 100000 in
set_option maxHeartbeats 4000000 in
theorem t_X5_refusals_41 {p : Program} {l : Launch} {e : Env} {s : State} {m : MethodId} {args : Array Value} {below : List Frame} {meth : Method} {c : Code} {D : va_G} {ca : Nat → ClassId} {base : Nat} {ad : Nat → Nat → Nat} {n np : Nat} {post : Int32 → Mem → Prop} {k4 : Int32 → Int32 → Mem → Prop} (hC : ZC p m meth c s RX5 cX5_refusals 3) (hr : meth.sig.returnType = (some FieldType.int)) (hk4 : ∀ (v1 : Int32) (v2 : Int32) (μ : Mem) (H : Heap) (locs : List Loc) (ls : Array Slot), k4 v1 v2 μ → ZS D ca base ad n np μ s H locs → lv_has ls 3 [(0, .ref (ad 0 0)), (1, .int v1), (2, .int v2)] → W p l e ({ frames := 2, cells := 0, slots := 0, locals := 46 } : Room) s m args below meth c H locs 0 0 (MQ below (ZQ D ca base ad n np (zpi post)) args s 0 0 (zB base)) (F0 m 4 ls [])) (v2 : Int32) (s0 : Int32) (s1 : Int32) (μ : Mem) (H : Heap) (locs : List Loc) (ls : Array Slot) (h : b_X5_refusals_41 post k4 v2 s0 s1 μ) (hZ : ZS D ca base ad n np μ s H locs) (hl : lv_has ls 3 [(0, .ref (ad 0 0)), (2, .int v2)]) : W p l e ({ frames := 2, cells := 0, slots := 0, locals := 46 } : Room) s m args below meth c H locs 0 0 (MQ below (ZQ D ca base ad n np (zpi post)) args s 0 0 (zB base)) (F0 m 41 ls [.int s1, .int s0]) := by
  unfold b_X5_refusals_41 at h
  refine lv_iadd hC.1 hC.2.1 dX5_refusals_41 ?_
  refine lv_istore_n (lv' := [(1, .int (s0 + s1)), (0, .ref (ad 0 0)), (2, .int v2)]) hC.1 hC.2.1 dX5_refusals_42 rfl hl (by decide) rfl (fun ls hl => ?_)
  refine lv_iinc (v := v2 + 1) (lv' := [(2, .int (v2 + 1)), (1, .int (s0 + s1)), (0, .ref (ad 0 0))]) hC.1 hC.2.1 dX5_refusals_43 hl (k := 2) rfl rfl (by decide) rfl (fun ls hl => ?_)
  refine lv_goto (tgt := 4) hC.1 hC.2.1 dX5_refusals_46 (by decide) ?_
  exact hk4 _ _ _ _ _ _ h hZ (lv_sub hl [2, 1, 0] rfl)
def b_X5_refusals_40 (post : Int32 → Mem → Prop) (k4 : Int32 → Int32 → Mem → Prop) (v2 : Int32) (s0 : Int32) (μ : Mem) : Prop := b_X5_refusals_41 post k4 v2 s0 (0 : Int32) μ
set_option maxRecDepth 100000 in
set_option maxHeartbeats 4000000 in
theorem t_X5_refusals_40 {p : Program} {l : Launch} {e : Env} {s : State} {m : MethodId} {args : Array Value} {below : List Frame} {meth : Method} {c : Code} {D : va_G} {ca : Nat → ClassId} {base : Nat} {ad : Nat → Nat → Nat} {n np : Nat} {post : Int32 → Mem → Prop} {k4 : Int32 → Int32 → Mem → Prop} (hC : ZC p m meth c s RX5 cX5_refusals 3) (hr : meth.sig.returnType = (some FieldType.int)) (hk4 : ∀ (v1 : Int32) (v2 : Int32) (μ : Mem) (H : Heap) (locs : List Loc) (ls : Array Slot), k4 v1 v2 μ → ZS D ca base ad n np μ s H locs → lv_has ls 3 [(0, .ref (ad 0 0)), (1, .int v1), (2, .int v2)] → W p l e ({ frames := 2, cells := 0, slots := 0, locals := 46 } : Room) s m args below meth c H locs 0 0 (MQ below (ZQ D ca base ad n np (zpi post)) args s 0 0 (zB base)) (F0 m 4 ls [])) (v2 : Int32) (s0 : Int32) (μ : Mem) (H : Heap) (locs : List Loc) (ls : Array Slot) (h : b_X5_refusals_40 post k4 v2 s0 μ) (hZ : ZS D ca base ad n np μ s H locs) (hl : lv_has ls 3 [(0, .ref (ad 0 0)), (2, .int v2)]) : W p l e ({ frames := 2, cells := 0, slots := 0, locals := 46 } : Room) s m args below meth c H locs 0 0 (MQ below (ZQ D ca base ad n np (zpi post)) args s 0 0 (zB base)) (F0 m 40 ls [.int s0]) := by
  unfold b_X5_refusals_40 at h
  refine lv_iconst (v := 0) hC.1 hC.2.1 dX5_refusals_40 (by decide) ?_
  exact t_X5_refusals_41 (l := l) hC hr hk4 _ _ _ _ _ _ _ h hZ (lv_sub hl [0, 1] rfl)
def lb_X5_refusals_4 (post : Int32 → Mem → Prop) (k4 : Int32 → Int32 → Mem → Prop) (v1 : Int32) (v2 : Int32) (μ : Mem) : Prop := (((μ 0 0 3) ≤ v2 → post v1 μ) ∧ (¬ (μ 0 0 3) ≤ v2 → (vp_in v2 10 ∧ ((¬ (μ 3 0 v2.toNatClampNeg) = 0 → b_X5_refusals_40 post k4 v2 v1 μ) ∧ ((μ 3 0 v2.toNatClampNeg) = 0 → (w_X5_allows (fun (r5 : Int32) (μ4 : Mem) => ((¬ r5 = 0 → b_X5_refusals_40 post k4 v2 v1 μ4) ∧ (r5 = 0 → b_X5_refusals_41 post k4 v2 v1 (1 : Int32) μ4))) v2 (μ 4 0 v2.toNatClampNeg) μ))))))
def l_X5_refusals_4 (post : Int32 → Mem → Prop) : Nat → Int32 → Int32 → Mem → Prop
  | 0 => fun _ _ _ => False
  | fuel + 1 => lb_X5_refusals_4 post (l_X5_refusals_4 post fuel) 
set_option maxRecDepth 100000 in
set_option maxHeartbeats 4000000 in
theorem t_X5_refusals_4 {p : Program} {l : Launch} {e : Env} {s : State} {m : MethodId} {args : Array Value} {below : List Frame} {meth : Method} {c : Code} {D : va_G} {ca : Nat → ClassId} {base : Nat} {ad : Nat → Nat → Nat} {n np : Nat} {post : Int32 → Mem → Prop} (hC : ZC p m meth c s RX5 cX5_refusals 3) (hr : meth.sig.returnType = (some FieldType.int)) : ∀ (fuel : Nat) (v1 : Int32) (v2 : Int32) (μ : Mem) (H : Heap) (locs : List Loc) (ls : Array Slot), l_X5_refusals_4 post fuel v1 v2 μ → ZS D ca base ad n np μ s H locs → lv_has ls 3 [(0, .ref (ad 0 0)), (1, .int v1), (2, .int v2)] → W p l e ({ frames := 2, cells := 0, slots := 0, locals := 46 } : Room) s m args below meth c H locs 0 0 (MQ below (ZQ D ca base ad n np (zpi post)) args s 0 0 (zB base)) (F0 m 4 ls []) := by
  intro fuel
  induction fuel with
  | zero => exact fun _ _ _ _ _ _ h => h.elim
  | succ fuel hk4 =>
    intro v1 v2 μ H locs ls h hZ hl
    have h : lb_X5_refusals_4 post (l_X5_refusals_4 post fuel) v1 v2 μ := h
    unfold lb_X5_refusals_4 at h
    refine lv_iload_n hC.1 hC.2.1 dX5_refusals_4 rfl (lv_at hl 2 rfl) ?_
    refine lv_aload_n hC.1 hC.2.1 dX5_refusals_5 rfl (lv_at hl 0 rfl) ?_
    refine gX5_3 hC hZ kf_X5_78 dX5_refusals_6 ?_
    refine lv_icmp_ge (tgt := 49) hC.1 hC.2.1 dX5_refusals_9 (by decide) (fun c1 => ?_) (fun c1 => ?_)
    · have h := h.1 c1
      refine lv_iload_n hC.1 hC.2.1 dX5_refusals_49 rfl (lv_at hl 1 rfl) ?_
      exact z_iret hC hr hZ h dX5_refusals_50 (Nat.le_of_ble_eq_true rfl) (Nat.le_of_ble_eq_true rfl)
    · have h := h.2 c1
      refine lv_iload_n hC.1 hC.2.1 dX5_refusals_12 rfl (lv_at hl 1 rfl) ?_
      refine lv_aload_n hC.1 hC.2.1 dX5_refusals_13 rfl (lv_at hl 0 rfl) ?_
      refine gX5_6 hC hZ kf_X5_20 dX5_refusals_14 ?_
      refine lv_iload_n hC.1 hC.2.1 dX5_refusals_17 rfl (lv_at hl 2 rfl) ?_
      obtain ⟨q2, h⟩ := h
      refine aL_3 hC hZ q2 dX5_refusals_18 ?_
      refine lv_if_ne (tgt := 40) hC.1 hC.2.1 dX5_refusals_19 (by decide) (fun c3 => ?_) (fun c3 => ?_)
      · have h := h.1 c3
        exact t_X5_refusals_40 (l := l) hC hr hk4 _ _ _ _ _ _ h hZ (lv_sub hl [0, 2] rfl)
      · have h := h.2 c3
        refine lv_aload_n hC.1 hC.2.1 dX5_refusals_22 rfl (lv_at hl 0 rfl) ?_
        refine lv_iload_n hC.1 hC.2.1 dX5_refusals_23 rfl (lv_at hl 2 rfl) ?_
        refine lv_aload_n hC.1 hC.2.1 dX5_refusals_24 rfl (lv_at hl 0 rfl) ?_
        refine gX5_7 hC hZ kf_X5_23 dX5_refusals_25 ?_
        refine lv_iload_n hC.1 hC.2.1 dX5_refusals_28 rfl (lv_at hl 2 rfl) ?_
        refine aL_4 hC hZ q2 dX5_refusals_29 ?_
        refine z_cVi (As := [.int v2, .int (μ 4 0 v2.toNatClampNeg)]) hC hZ (zF_0 _) rfl zy_X5_allows (c_X5_allows l h) km_X5_104 rfl ⟨rfl, rfl⟩ ⟨Nat.le_of_ble_eq_true rfl, Nat.le_of_ble_eq_true rfl⟩ hl.1 rfl (Nat.le_of_ble_eq_true rfl) dX5_refusals_30 ⟨Nat.le_of_ble_eq_true rfl, Nat.le_of_ble_eq_true rfl⟩ (fun r5 μ4 H locs h hZ => ?_)
        refine lv_if_ne (tgt := 40) hC.1 hC.2.1 dX5_refusals_33 (by decide) (fun c6 => ?_) (fun c6 => ?_)
        · have h := h.1 c6
          exact t_X5_refusals_40 (l := l) hC hr hk4 _ _ _ _ _ _ h hZ (lv_sub hl [0, 2] rfl)
        · have h := h.2 c6
          refine lv_iconst (v := 1) hC.1 hC.2.1 dX5_refusals_36 (by decide) ?_
          refine lv_goto (tgt := 41) hC.1 hC.2.1 dX5_refusals_37 (by decide) ?_
          exact t_X5_refusals_41 (l := l) hC hr hk4 _ _ _ _ _ _ _ h hZ (lv_sub hl [0, 2] rfl)
def w_X5_refusals (post : Int32 → Mem → Prop) (μ : Mem) : Prop := (∃ fuel : Nat, l_X5_refusals_4 post fuel (0 : Int32) (0 : Int32) μ)
set_option maxRecDepth 100000 in
set_option maxHeartbeats 4000000 in
theorem c_X5_refusals (l : Launch) {D : va_G} {ca : Nat → ClassId} {base : Nat} {ad : Nat → Nat → Nat} {n np : Nat} {μ : Mem} {post : Int32 → Mem → Prop} (h : w_X5_refusals post μ) : ZMet l yX5_refusals cX5_refusals 3 (some FieldType.int) ({ frames := 2, cells := 0, slots := 0, locals := 46 } : Room) 0 0 D ca base ad n np [.ref (ad 0 0)] μ (zpi post) := by
  unfold ZMet
  refine Met.ofW (cc := cX5_refusals) (maxL := 3) (ret := (some FieldType.int)) (by decide) rfl ?_
  intro p e s m args below meth c s₁ B hml hv
  obtain ⟨rfl, hU⟩ := hv
  have hZ := hU.toS
  have hC : ZC p m meth c s RX5 cX5_refusals 3 := ⟨B.exec, B.bytes, hml, findClass_of_methodNamed B.named, B.notSynchronized⟩
  have hr := B.returns
  have key : W p l e ({ frames := 2, cells := 0, slots := 0, locals := 46 } : Room) s m (([.ref (ad 0 0)] : List Value).toArray) below meth c s.heap [] 0 0 (MQ below (ZQ D ca base ad n np (zpi post)) (([.ref (ad 0 0)] : List Value).toArray) s 0 0 (zB base)) (entryFrame m (([.ref (ad 0 0)] : List Value).toArray) 3) := by
    have hl := lv_entry ([.ref (ad 0 0)]) (n := 3) (Nat.le_of_ble_eq_true rfl)
    rw [lg_entry_eq]
    generalize (lg_sl ([.ref (ad 0 0)]) ++ List.replicate (3 - (lg_sl ([.ref (ad 0 0)])).length) Slot.unset).toArray = ls at hl ⊢
    have hl : lv_has ls 3 [(0, .ref (ad 0 0))] := hl
    unfold w_X5_refusals at h
    refine lv_iconst (v := 0) hC.1 hC.2.1 dX5_refusals_0 (by decide) ?_
    refine lv_istore_n (lv' := [(1, .int 0), (0, .ref (ad 0 0))]) hC.1 hC.2.1 dX5_refusals_1 rfl hl (by decide) rfl (fun ls hl => ?_)
    refine lv_iconst (v := 0) hC.1 hC.2.1 dX5_refusals_2 (by decide) ?_
    refine lv_istore_n (lv' := [(2, .int 0), (1, .int 0), (0, .ref (ad 0 0))]) hC.1 hC.2.1 dX5_refusals_3 rfl hl (by decide) rfl (fun ls hl => ?_)
    obtain ⟨fuel, h⟩ := h
    exact t_X5_refusals_4 (l := l) hC hr _ _ _ _ _ _ _ h hZ (lv_sub hl [2, 1, 0] rfl)
  exact key
def b_X5_revoke_32 (post : Int32 → Mem → Prop) (a1 : Int32) (s1 : Int32) (s2 : Int32) (μ : Mem) : Prop := (w_X5_goes (fun (r5 : Int32) (μ4 : Mem) => ((¬ r5 = 0 → (w_X5_refusals (fun (r8 : Int32) (μ7 : Mem) => (vp_in a1 20 ∧ ∀ μ10 : Mem, μ10 = zst μ7 13 0 a1.toNatClampNeg 1 → (w_X5_refusals (fun (r12 : Int32) (μ11 : Mem) => post (r12 - r8) μ11) μ10))) μ4)) ∧ (r5 = 0 → post 0 μ4))) s1 s2 (1 : Int32) μ)
set_option maxRecDepth 100000 in
set_option maxHeartbeats 4000000 in
theorem t_X5_revoke_32 {p : Program} {l : Launch} {e : Env} {s : State} {m : MethodId} {args : Array Value} {below : List Frame} {meth : Method} {c : Code} {D : va_G} {ca : Nat → ClassId} {base : Nat} {ad : Nat → Nat → Nat} {n np : Nat} {post : Int32 → Mem → Prop} (hC : ZC p m meth c s RX5 cX5_revoke 4) (hr : meth.sig.returnType = (some FieldType.int)) (a1 : Int32) (s1 : Int32) (s2 : Int32) (μ : Mem) (H : Heap) (locs : List Loc) (ls : Array Slot) (h : b_X5_revoke_32 post a1 s1 s2 μ) (hZ : ZS D ca base ad n np μ s H locs) (hl : lv_has ls 4 [(0, .ref (ad 0 0)), (1, .int a1)]) : W p l e ({ frames := 3, cells := 0, slots := 0, locals := 68 } : Room) s m args below meth c H locs 0 0 (MQ below (ZQ D ca base ad n np (zpi post)) args s 0 0 (zB base)) (F0 m 32 ls [.int s2, .int s1, .ref (ad 0 0)]) := by
  unfold b_X5_revoke_32 at h
  refine lv_iconst (v := 1) hC.1 hC.2.1 dX5_revoke_32 (by decide) ?_
  refine z_cVi (As := [.int s1, .int s2, .int 1]) hC hZ (zF_0 _) rfl zy_X5_goes (c_X5_goes l h) km_X5_115 rfl ⟨rfl, rfl⟩ ⟨Nat.le_of_ble_eq_true rfl, Nat.le_of_ble_eq_true rfl⟩ hl.1 rfl (Nat.le_of_ble_eq_true rfl) dX5_revoke_33 ⟨Nat.le_of_ble_eq_true rfl, Nat.le_of_ble_eq_true rfl⟩ (fun r5 μ4 H locs h hZ => ?_)
  refine lv_if_ne (tgt := 41) hC.1 hC.2.1 dX5_revoke_36 (by decide) (fun c6 => ?_) (fun c6 => ?_)
  · have h := h.1 c6
    refine lv_aload_n hC.1 hC.2.1 dX5_revoke_41 rfl (lv_at hl 0 rfl) ?_
    refine z_cVi (As := []) hC hZ (zF_0 _) rfl zy_X5_refusals (c_X5_refusals l h) km_X5_152 rfl ⟨rfl, rfl⟩ ⟨Nat.le_of_ble_eq_true rfl, Nat.le_of_ble_eq_true rfl⟩ hl.1 rfl (Nat.le_of_ble_eq_true rfl) dX5_revoke_42 ⟨Nat.le_of_ble_eq_true rfl, Nat.le_of_ble_eq_true rfl⟩ (fun r8 μ7 H locs h hZ => ?_)
    refine lv_istore_n (lv' := [(3, .int r8), (0, .ref (ad 0 0)), (1, .int a1)]) hC.1 hC.2.1 dX5_revoke_45 rfl hl (by decide) rfl (fun ls hl => ?_)
    refine lv_aload_n hC.1 hC.2.1 dX5_revoke_46 rfl (lv_at hl 1 rfl) ?_
    refine gX5_17 hC hZ kf_X5_50 dX5_revoke_47 ?_
    refine lv_iload_n hC.1 hC.2.1 dX5_revoke_50 rfl (lv_at hl 2 rfl) ?_
    refine lv_iconst (v := 1) hC.1 hC.2.1 dX5_revoke_51 (by decide) ?_
    obtain ⟨q9, h⟩ := h
    refine aS_13 hC hZ q9 (by decide) dX5_revoke_52 (fun μ10 H locs eμ10 hZ => ?_)
    have h := h μ10 eμ10
    refine lv_aload_n hC.1 hC.2.1 dX5_revoke_53 rfl (lv_at hl 1 rfl) ?_
    refine z_cVi (As := []) hC hZ (zF_0 _) rfl zy_X5_refusals (c_X5_refusals l h) km_X5_152 rfl ⟨rfl, rfl⟩ ⟨Nat.le_of_ble_eq_true rfl, Nat.le_of_ble_eq_true rfl⟩ hl.1 rfl (Nat.le_of_ble_eq_true rfl) dX5_revoke_54 ⟨Nat.le_of_ble_eq_true rfl, Nat.le_of_ble_eq_true rfl⟩ (fun r12 μ11 H locs h hZ => ?_)
    refine lv_iload_n hC.1 hC.2.1 dX5_revoke_57 rfl (lv_at hl 0 rfl) ?_
    refine lv_isub hC.1 hC.2.1 dX5_revoke_58 ?_
    exact z_iret hC hr hZ h dX5_revoke_59 (Nat.le_of_ble_eq_true rfl) (Nat.le_of_ble_eq_true rfl)
  · have h := h.2 c6
    refine lv_iconst (v := 0) hC.1 hC.2.1 dX5_revoke_39 (by decide) ?_
    exact z_iret hC hr hZ h dX5_revoke_40 (Nat.le_of_ble_eq_true rfl) (Nat.le_of_ble_eq_true rfl)
def b_X5_revoke_31 (post : Int32 → Mem → Prop) (a1 : Int32) (s1 : Int32) (μ : Mem) : Prop := b_X5_revoke_32 post a1 s1 (0 : Int32) μ
set_option maxRecDepth 100000 in
set_option maxHeartbeats 4000000 in
theorem t_X5_revoke_31 {p : Program} {l : Launch} {e : Env} {s : State} {m : MethodId} {args : Array Value} {below : List Frame} {meth : Method} {c : Code} {D : va_G} {ca : Nat → ClassId} {base : Nat} {ad : Nat → Nat → Nat} {n np : Nat} {post : Int32 → Mem → Prop} (hC : ZC p m meth c s RX5 cX5_revoke 4) (hr : meth.sig.returnType = (some FieldType.int)) (a1 : Int32) (s1 : Int32) (μ : Mem) (H : Heap) (locs : List Loc) (ls : Array Slot) (h : b_X5_revoke_31 post a1 s1 μ) (hZ : ZS D ca base ad n np μ s H locs) (hl : lv_has ls 4 [(0, .ref (ad 0 0)), (1, .int a1)]) : W p l e ({ frames := 3, cells := 0, slots := 0, locals := 68 } : Room) s m args below meth c H locs 0 0 (MQ below (ZQ D ca base ad n np (zpi post)) args s 0 0 (zB base)) (F0 m 31 ls [.int s1, .ref (ad 0 0)]) := by
  unfold b_X5_revoke_31 at h
  refine lv_iconst (v := 0) hC.1 hC.2.1 dX5_revoke_31 (by decide) ?_
  exact t_X5_revoke_32 (l := l) hC hr _ _ _ _ _ _ _ h hZ (lv_sub hl [0, 1] rfl)
def w_X5_revoke (post : Int32 → Mem → Prop) (a1 : Int32) (μ : Mem) : Prop := (w_X5_in (fun (r2 : Int32) (μ1 : Mem) => ((r2 = 0 → b_X5_revoke_31 post a1 r2 μ1) ∧ (¬ r2 = 0 → (vp_in a1 20 ∧ ((¬ (μ1 13 0 a1.toNatClampNeg) = 0 → b_X5_revoke_31 post a1 r2 μ1) ∧ ((μ1 13 0 a1.toNatClampNeg) = 0 → b_X5_revoke_32 post a1 r2 (1 : Int32) μ1)))))) a1 (0 : Int32) ((μ 0 0 12) - 1) μ)
set_option maxRecDepth 100000 in
set_option maxHeartbeats 4000000 in
theorem c_X5_revoke (l : Launch) {D : va_G} {ca : Nat → ClassId} {base : Nat} {ad : Nat → Nat → Nat} {n np : Nat} {μ : Mem} {post : Int32 → Mem → Prop} {a1 : Int32} (h : w_X5_revoke post a1 μ) : ZMet l yX5_revoke cX5_revoke 4 (some FieldType.int) ({ frames := 3, cells := 0, slots := 0, locals := 68 } : Room) 0 0 D ca base ad n np [.ref (ad 0 0), .int a1] μ (zpi post) := by
  unfold ZMet
  refine Met.ofW (cc := cX5_revoke) (maxL := 4) (ret := (some FieldType.int)) (by decide) rfl ?_
  intro p e s m args below meth c s₁ B hml hv
  obtain ⟨rfl, hU⟩ := hv
  have hZ := hU.toS
  have hC : ZC p m meth c s RX5 cX5_revoke 4 := ⟨B.exec, B.bytes, hml, findClass_of_methodNamed B.named, B.notSynchronized⟩
  have hr := B.returns
  have key : W p l e ({ frames := 3, cells := 0, slots := 0, locals := 68 } : Room) s m (([.ref (ad 0 0), .int a1] : List Value).toArray) below meth c s.heap [] 0 0 (MQ below (ZQ D ca base ad n np (zpi post)) (([.ref (ad 0 0), .int a1] : List Value).toArray) s 0 0 (zB base)) (entryFrame m (([.ref (ad 0 0), .int a1] : List Value).toArray) 4) := by
    have hl := lv_entry ([.ref (ad 0 0), .int a1]) (n := 4) (Nat.le_of_ble_eq_true rfl)
    rw [lg_entry_eq]
    generalize (lg_sl ([.ref (ad 0 0), .int a1]) ++ List.replicate (4 - (lg_sl ([.ref (ad 0 0), .int a1])).length) Slot.unset).toArray = ls at hl ⊢
    have hl : lv_has ls 4 [(0, .ref (ad 0 0)), (1, .int a1)] := hl
    unfold w_X5_revoke at h
    refine lv_iload_n hC.1 hC.2.1 dX5_revoke_0 rfl (lv_at hl 1 rfl) ?_
    refine lv_iconst (v := 0) hC.1 hC.2.1 dX5_revoke_1 (by decide) ?_
    refine lv_aload_n hC.1 hC.2.1 dX5_revoke_2 rfl (lv_at hl 0 rfl) ?_
    refine gX5_12 hC hZ kf_X5_95 dX5_revoke_3 ?_
    refine lv_iconst (v := 1) hC.1 hC.2.1 dX5_revoke_6 (by decide) ?_
    refine lv_isub hC.1 hC.2.1 dX5_revoke_7 ?_
    refine z_cSi (As := [.int a1, .int 0, .int ((μ 0 0 12) - 1)]) hC hZ zy_X5_in (c_X5_in l h) km_X5_81 rfl ⟨rfl, rfl⟩ ⟨Nat.le_of_ble_eq_true rfl, Nat.le_of_ble_eq_true rfl⟩ hl.1 rfl (Nat.le_of_ble_eq_true rfl) dX5_revoke_8 ⟨Nat.le_of_ble_eq_true rfl, Nat.le_of_ble_eq_true rfl⟩ (fun r2 μ1 H locs h hZ => ?_)
    refine lv_istore_n (lv' := [(2, .int r2), (0, .ref (ad 0 0)), (1, .int a1)]) hC.1 hC.2.1 dX5_revoke_11 rfl hl (by decide) rfl (fun ls hl => ?_)
    refine lv_aload_n hC.1 hC.2.1 dX5_revoke_12 rfl (lv_at hl 1 rfl) ?_
    refine lv_iload_n hC.1 hC.2.1 dX5_revoke_13 rfl (lv_at hl 0 rfl) ?_
    refine lv_iload_n hC.1 hC.2.1 dX5_revoke_14 rfl (lv_at hl 0 rfl) ?_
    refine lv_if_eq (tgt := 31) hC.1 hC.2.1 dX5_revoke_15 (by decide) (fun c3 => ?_) (fun c3 => ?_)
    · have h := h.1 c3
      exact t_X5_revoke_31 (l := l) hC hr _ _ _ _ _ _ h hZ (lv_sub hl [1, 2] rfl)
    · have h := h.2 c3
      refine lv_aload_n hC.1 hC.2.1 dX5_revoke_18 rfl (lv_at hl 1 rfl) ?_
      refine gX5_17 hC hZ kf_X5_50 dX5_revoke_19 ?_
      refine lv_iload_n hC.1 hC.2.1 dX5_revoke_22 rfl (lv_at hl 2 rfl) ?_
      obtain ⟨q13, h⟩ := h
      refine aL_13 hC hZ q13 dX5_revoke_23 ?_
      refine lv_if_ne (tgt := 31) hC.1 hC.2.1 dX5_revoke_24 (by decide) (fun c14 => ?_) (fun c14 => ?_)
      · have h := h.1 c14
        exact t_X5_revoke_31 (l := l) hC hr _ _ _ _ _ _ h hZ (lv_sub hl [1, 2] rfl)
      · have h := h.2 c14
        refine lv_iconst (v := 1) hC.1 hC.2.1 dX5_revoke_27 (by decide) ?_
        refine lv_goto (tgt := 32) hC.1 hC.2.1 dX5_revoke_28 (by decide) ?_
        exact t_X5_revoke_32 (l := l) hC hr _ _ _ _ _ _ _ h hZ (lv_sub hl [1, 2] rfl)
  exact key
def w_X5_away (post : Int32 → Mem → Prop) (a1 : Int32) (a2 : Int32) (a3 : Int32) (μ : Mem) : Prop := (w_X5_isActor (fun (r2 : Int32) (μ1 : Mem) => (w_X5_isDay (fun (r4 : Int32) (μ3 : Mem) => (w_X5_goes (fun (r6 : Int32) (μ5 : Mem) => ((¬ r6 = 0 → (vp_in ((30 * a1) + a2) 150 ∧ ((a3 = 0 ∨ a3 = 1) ∧ ∀ μ10 : Mem, μ10 = zst μ5 14 0 (((30 * a1) + a2).toNatClampNeg) a3 → (((μ5 14 0 ((30 * a1) + a2).toNatClampNeg) = 0 ∨ (μ5 14 0 ((30 * a1) + a2).toNatClampNeg) = 1) ∧ post (μ5 14 0 ((30 * a1) + a2).toNatClampNeg) μ10)))) ∧ (r6 = 0 → post 0 μ5))) r2 r4 (1 : Int32) μ3)) a2 μ1)) a1 μ)
set_option maxRecDepth 100000 in
set_option maxHeartbeats 4000000 in
theorem c_X5_away (l : Launch) {D : va_G} {ca : Nat → ClassId} {base : Nat} {ad : Nat → Nat → Nat} {n np : Nat} {μ : Mem} {post : Int32 → Mem → Prop} {a1 : Int32} {a2 : Int32} {a3 : Int32} (h : w_X5_away post a1 a2 a3 μ) : ZMet l yX5_away cX5_away 5 (some FieldType.boolean) ({ frames := 2, cells := 0, slots := 0, locals := 42 } : Room) 0 0 D ca base ad n np [.ref (ad 0 0), .int a1, .int a2, .int a3] μ (zpi post) := by
  unfold ZMet
  refine Met.ofW (cc := cX5_away) (maxL := 5) (ret := (some FieldType.boolean)) (by decide) rfl ?_
  intro p e s m args below meth c s₁ B hml hv
  obtain ⟨rfl, hU⟩ := hv
  have hZ := hU.toS
  have hC : ZC p m meth c s RX5 cX5_away 5 := ⟨B.exec, B.bytes, hml, findClass_of_methodNamed B.named, B.notSynchronized⟩
  have hr := B.returns
  have key : W p l e ({ frames := 2, cells := 0, slots := 0, locals := 42 } : Room) s m (([.ref (ad 0 0), .int a1, .int a2, .int a3] : List Value).toArray) below meth c s.heap [] 0 0 (MQ below (ZQ D ca base ad n np (zpi post)) (([.ref (ad 0 0), .int a1, .int a2, .int a3] : List Value).toArray) s 0 0 (zB base)) (entryFrame m (([.ref (ad 0 0), .int a1, .int a2, .int a3] : List Value).toArray) 5) := by
    have hl := lv_entry ([.ref (ad 0 0), .int a1, .int a2, .int a3]) (n := 5) (Nat.le_of_ble_eq_true rfl)
    rw [lg_entry_eq]
    generalize (lg_sl ([.ref (ad 0 0), .int a1, .int a2, .int a3]) ++ List.replicate (5 - (lg_sl ([.ref (ad 0 0), .int a1, .int a2, .int a3])).length) Slot.unset).toArray = ls at hl ⊢
    have hl : lv_has ls 5 [(0, .ref (ad 0 0)), (1, .int a1), (2, .int a2), (3, .int a3)] := hl
    unfold w_X5_away at h
    refine lv_aload_n hC.1 hC.2.1 dX5_away_0 rfl (lv_at hl 0 rfl) ?_
    refine lv_iload_n hC.1 hC.2.1 dX5_away_1 rfl (lv_at hl 1 rfl) ?_
    refine z_cSi (As := [.int a1]) hC hZ zy_X5_isActor (c_X5_isActor l h) km_X5_127 rfl ⟨rfl, rfl⟩ ⟨Nat.le_of_ble_eq_true rfl, Nat.le_of_ble_eq_true rfl⟩ hl.1 rfl (Nat.le_of_ble_eq_true rfl) dX5_away_2 ⟨Nat.le_of_ble_eq_true rfl, Nat.le_of_ble_eq_true rfl⟩ (fun r2 μ1 H locs h hZ => ?_)
    refine lv_iload_n hC.1 hC.2.1 dX5_away_5 rfl (lv_at hl 2 rfl) ?_
    refine z_cSi (As := [.int a2]) hC hZ zy_X5_isDay (c_X5_isDay l h) km_X5_149 rfl ⟨rfl, rfl⟩ ⟨Nat.le_of_ble_eq_true rfl, Nat.le_of_ble_eq_true rfl⟩ hl.1 rfl (Nat.le_of_ble_eq_true rfl) dX5_away_6 ⟨Nat.le_of_ble_eq_true rfl, Nat.le_of_ble_eq_true rfl⟩ (fun r4 μ3 H locs h hZ => ?_)
    refine lv_iconst (v := 1) hC.1 hC.2.1 dX5_away_9 (by decide) ?_
    refine z_cVi (As := [.int r2, .int r4, .int 1]) hC hZ (zF_0 _) rfl zy_X5_goes (c_X5_goes l h) km_X5_115 rfl ⟨rfl, rfl⟩ ⟨Nat.le_of_ble_eq_true rfl, Nat.le_of_ble_eq_true rfl⟩ hl.1 rfl (Nat.le_of_ble_eq_true rfl) dX5_away_10 ⟨Nat.le_of_ble_eq_true rfl, Nat.le_of_ble_eq_true rfl⟩ (fun r6 μ5 H locs h hZ => ?_)
    refine lv_if_ne (tgt := 18) hC.1 hC.2.1 dX5_away_13 (by decide) (fun c7 => ?_) (fun c7 => ?_)
    · have h := h.1 c7
      refine lv_aload_n hC.1 hC.2.1 dX5_away_18 rfl (lv_at hl 0 rfl) ?_
      refine gX5_18 hC hZ kf_X5_54 dX5_away_19 ?_
      refine lv_bipush (v := 30) hC.1 hC.2.1 dX5_away_22 (by decide) ?_
      refine lv_iload_n hC.1 hC.2.1 dX5_away_24 rfl (lv_at hl 1 rfl) ?_
      refine lv_imul hC.1 hC.2.1 dX5_away_25 ?_
      refine lv_iload_n hC.1 hC.2.1 dX5_away_26 rfl (lv_at hl 2 rfl) ?_
      refine lv_iadd hC.1 hC.2.1 dX5_away_27 ?_
      obtain ⟨q8, h⟩ := h
      refine aL_14 hC hZ q8 dX5_away_28 ?_
      refine lv_istore (lv' := [(4, .int (μ5 14 0 ((30 * a1) + a2).toNatClampNeg)), (0, .ref (ad 0 0)), (1, .int a1), (2, .int a2), (3, .int a3)]) hC.1 hC.2.1 dX5_away_29 hl (by decide) rfl (fun ls hl => ?_)
      refine lv_aload_n hC.1 hC.2.1 dX5_away_31 rfl (lv_at hl 1 rfl) ?_
      refine gX5_18 hC hZ kf_X5_54 dX5_away_32 ?_
      refine lv_bipush (v := 30) hC.1 hC.2.1 dX5_away_35 (by decide) ?_
      refine lv_iload_n hC.1 hC.2.1 dX5_away_37 rfl (lv_at hl 2 rfl) ?_
      refine lv_imul hC.1 hC.2.1 dX5_away_38 ?_
      refine lv_iload_n hC.1 hC.2.1 dX5_away_39 rfl (lv_at hl 3 rfl) ?_
      refine lv_iadd hC.1 hC.2.1 dX5_away_40 ?_
      refine lv_iload_n hC.1 hC.2.1 dX5_away_41 rfl (lv_at hl 4 rfl) ?_
      obtain ⟨q9, h⟩ := h
      refine aS_14 hC hZ q8 q9 dX5_away_42 (fun μ10 H locs eμ10 hZ => ?_)
      have h := h μ10 eμ10
      refine lv_iload hC.1 hC.2.1 dX5_away_43 (lv_at hl 0 rfl) ?_
      obtain ⟨q11, h⟩ := h
      exact z_bret hC hr hZ q11 h dX5_away_45 (Nat.le_of_ble_eq_true rfl) (Nat.le_of_ble_eq_true rfl)
    · have h := h.2 c7
      refine lv_iconst (v := 0) hC.1 hC.2.1 dX5_away_16 (by decide) ?_
      exact z_bret hC hr hZ (by decide) h dX5_away_17 (Nat.le_of_ble_eq_true rfl) (Nat.le_of_ble_eq_true rfl)
  exact key
def lb_X5_allOf_4 (post : Int32 → Mem → Prop) (k4 : Int32 → Int32 → Mem → Prop) (a1 : Int32) (v2 : Int32) (v3 : Int32) (μ : Mem) : Prop := ((4 ≤ v3 → post v2 μ) ∧ (¬ 4 ≤ v3 → (vp_in ((4 * a1) + v3) 20 ∧ k4 (v2 + (μ 16 0 ((4 * a1) + v3).toNatClampNeg)) (v3 + 1) μ)))
def l_X5_allOf_4 (post : Int32 → Mem → Prop) (a1 : Int32) : Nat → Int32 → Int32 → Mem → Prop
  | 0 => fun _ _ _ => False
  | fuel + 1 => lb_X5_allOf_4 post (l_X5_allOf_4 post a1 fuel) a1 
set_option maxRecDepth 100000 in
set_option maxHeartbeats 4000000 in
theorem t_X5_allOf_4 {p : Program} {l : Launch} {e : Env} {s : State} {m : MethodId} {args : Array Value} {below : List Frame} {meth : Method} {c : Code} {D : va_G} {ca : Nat → ClassId} {base : Nat} {ad : Nat → Nat → Nat} {n np : Nat} {post : Int32 → Mem → Prop} (hC : ZC p m meth c s RX5 cX5_allOf 4) (hr : meth.sig.returnType = (some FieldType.int)) (a1 : Int32) : ∀ (fuel : Nat) (v2 : Int32) (v3 : Int32) (μ : Mem) (H : Heap) (locs : List Loc) (ls : Array Slot), l_X5_allOf_4 post a1 fuel v2 v3 μ → ZS D ca base ad n np μ s H locs → lv_has ls 4 [(0, .ref (ad 0 0)), (1, .int a1), (2, .int v2), (3, .int v3)] → W p l e ({ frames := 0, cells := 0, slots := 0, locals := 0 } : Room) s m args below meth c H locs 0 0 (MQ below (ZQ D ca base ad n np (zpi post)) args s 0 0 (zB base)) (F0 m 4 ls []) := by
  intro fuel
  induction fuel with
  | zero => exact fun _ _ _ _ _ _ h => h.elim
  | succ fuel hk4 =>
    intro v2 v3 μ H locs ls h hZ hl
    have h : lb_X5_allOf_4 post (l_X5_allOf_4 post a1 fuel) a1 v2 v3 μ := h
    unfold lb_X5_allOf_4 at h
    refine lv_iload_n hC.1 hC.2.1 dX5_allOf_4 rfl (lv_at hl 3 rfl) ?_
    refine lv_iconst (v := 4) hC.1 hC.2.1 dX5_allOf_5 (by decide) ?_
    refine lv_icmp_ge (tgt := 28) hC.1 hC.2.1 dX5_allOf_6 (by decide) (fun c1 => ?_) (fun c1 => ?_)
    · have h := h.1 c1
      refine lv_iload_n hC.1 hC.2.1 dX5_allOf_28 rfl (lv_at hl 2 rfl) ?_
      exact z_iret hC hr hZ h dX5_allOf_29 (Nat.le_of_ble_eq_true rfl) (Nat.le_of_ble_eq_true rfl)
    · have h := h.2 c1
      refine lv_iload_n hC.1 hC.2.1 dX5_allOf_9 rfl (lv_at hl 2 rfl) ?_
      refine lv_aload_n hC.1 hC.2.1 dX5_allOf_10 rfl (lv_at hl 0 rfl) ?_
      refine gX5_20 hC hZ kf_X5_60 dX5_allOf_11 ?_
      refine lv_iconst (v := 4) hC.1 hC.2.1 dX5_allOf_14 (by decide) ?_
      refine lv_iload_n hC.1 hC.2.1 dX5_allOf_15 rfl (lv_at hl 1 rfl) ?_
      refine lv_imul hC.1 hC.2.1 dX5_allOf_16 ?_
      refine lv_iload_n hC.1 hC.2.1 dX5_allOf_17 rfl (lv_at hl 3 rfl) ?_
      refine lv_iadd hC.1 hC.2.1 dX5_allOf_18 ?_
      obtain ⟨q2, h⟩ := h
      refine aL_16 hC hZ q2 dX5_allOf_19 ?_
      refine lv_iadd hC.1 hC.2.1 dX5_allOf_20 ?_
      refine lv_istore_n (lv' := [(2, .int (v2 + (μ 16 0 ((4 * a1) + v3).toNatClampNeg))), (0, .ref (ad 0 0)), (1, .int a1), (3, .int v3)]) hC.1 hC.2.1 dX5_allOf_21 rfl hl (by decide) rfl (fun ls hl => ?_)
      refine lv_iinc (v := v3 + 1) (lv' := [(3, .int (v3 + 1)), (2, .int (v2 + (μ 16 0 ((4 * a1) + v3).toNatClampNeg))), (0, .ref (ad 0 0)), (1, .int a1)]) hC.1 hC.2.1 dX5_allOf_22 hl (k := 3) rfl rfl (by decide) rfl (fun ls hl => ?_)
      refine lv_goto (tgt := 4) hC.1 hC.2.1 dX5_allOf_25 (by decide) ?_
      exact hk4 _ _ _ _ _ _ h hZ (lv_sub hl [2, 3, 1, 0] rfl)
def w_X5_allOf (post : Int32 → Mem → Prop) (a1 : Int32) (μ : Mem) : Prop := (∃ fuel : Nat, l_X5_allOf_4 post a1 fuel (0 : Int32) (0 : Int32) μ)
set_option maxRecDepth 100000 in
set_option maxHeartbeats 4000000 in
theorem c_X5_allOf (l : Launch) {D : va_G} {ca : Nat → ClassId} {base : Nat} {ad : Nat → Nat → Nat} {n np : Nat} {μ : Mem} {post : Int32 → Mem → Prop} {a1 : Int32} (h : w_X5_allOf post a1 μ) : ZMet l yX5_allOf cX5_allOf 4 (some FieldType.int) ({ frames := 0, cells := 0, slots := 0, locals := 0 } : Room) 0 0 D ca base ad n np [.ref (ad 0 0), .int a1] μ (zpi post) := by
  unfold ZMet
  refine Met.ofW (cc := cX5_allOf) (maxL := 4) (ret := (some FieldType.int)) (by decide) rfl ?_
  intro p e s m args below meth c s₁ B hml hv
  obtain ⟨rfl, hU⟩ := hv
  have hZ := hU.toS
  have hC : ZC p m meth c s RX5 cX5_allOf 4 := ⟨B.exec, B.bytes, hml, findClass_of_methodNamed B.named, B.notSynchronized⟩
  have hr := B.returns
  have key : W p l e ({ frames := 0, cells := 0, slots := 0, locals := 0 } : Room) s m (([.ref (ad 0 0), .int a1] : List Value).toArray) below meth c s.heap [] 0 0 (MQ below (ZQ D ca base ad n np (zpi post)) (([.ref (ad 0 0), .int a1] : List Value).toArray) s 0 0 (zB base)) (entryFrame m (([.ref (ad 0 0), .int a1] : List Value).toArray) 4) := by
    have hl := lv_entry ([.ref (ad 0 0), .int a1]) (n := 4) (Nat.le_of_ble_eq_true rfl)
    rw [lg_entry_eq]
    generalize (lg_sl ([.ref (ad 0 0), .int a1]) ++ List.replicate (4 - (lg_sl ([.ref (ad 0 0), .int a1])).length) Slot.unset).toArray = ls at hl ⊢
    have hl : lv_has ls 4 [(0, .ref (ad 0 0)), (1, .int a1)] := hl
    unfold w_X5_allOf at h
    refine lv_iconst (v := 0) hC.1 hC.2.1 dX5_allOf_0 (by decide) ?_
    refine lv_istore_n (lv' := [(2, .int 0), (0, .ref (ad 0 0)), (1, .int a1)]) hC.1 hC.2.1 dX5_allOf_1 rfl hl (by decide) rfl (fun ls hl => ?_)
    refine lv_iconst (v := 0) hC.1 hC.2.1 dX5_allOf_2 (by decide) ?_
    refine lv_istore_n (lv' := [(3, .int 0), (2, .int 0), (0, .ref (ad 0 0)), (1, .int a1)]) hC.1 hC.2.1 dX5_allOf_3 rfl hl (by decide) rfl (fun ls hl => ?_)
    obtain ⟨fuel, h⟩ := h
    exact t_X5_allOf_4 (l := l) hC hr _ _ _ _ _ _ _ _ h hZ (lv_sub hl [2, 3, 1, 0] rfl)
  exact key
def b_X5_buy_26 (post : Int32 → Mem → Prop) (a1 : Int32) (s1 : Int32) (s2 : Int32) (μ : Mem) : Prop := (w_X5_goes (fun (r5 : Int32) (μ4 : Mem) => ((¬ r5 = 0 → (vp_in (4 * a1) 20 ∧ (∀ μ8 : Mem, μ8 = zst μ4 16 0 ((4 * a1).toNatClampNeg) ((μ4 16 0 (4 * a1).toNatClampNeg) + 1) → (∀ μ9 : Mem, μ9 = zst μ8 0 0 1 ((μ8 0 0 1) + 5) → (w_X5_allOf (fun (r11 : Int32) (μ10 : Mem) => post r11 μ10) a1 μ9))))) ∧ (r5 = 0 → post 0 μ4))) s1 s2 (1 : Int32) μ)
set_option maxRecDepth 100000 in
set_option maxHeartbeats 4000000 in
theorem t_X5_buy_26 {p : Program} {l : Launch} {e : Env} {s : State} {m : MethodId} {args : Array Value} {below : List Frame} {meth : Method} {c : Code} {D : va_G} {ca : Nat → ClassId} {base : Nat} {ad : Nat → Nat → Nat} {n np : Nat} {post : Int32 → Mem → Prop} (hC : ZC p m meth c s RX5 cX5_buy 3) (hr : meth.sig.returnType = (some FieldType.int)) (a1 : Int32) (s1 : Int32) (s2 : Int32) (μ : Mem) (H : Heap) (locs : List Loc) (ls : Array Slot) (h : b_X5_buy_26 post a1 s1 s2 μ) (hZ : ZS D ca base ad n np μ s H locs) (hl : lv_has ls 3 [(0, .ref (ad 0 0)), (1, .int a1)]) : W p l e ({ frames := 2, cells := 0, slots := 0, locals := 42 } : Room) s m args below meth c H locs 0 0 (MQ below (ZQ D ca base ad n np (zpi post)) args s 0 0 (zB base)) (F0 m 26 ls [.int s2, .int s1, .ref (ad 0 0)]) := by
  unfold b_X5_buy_26 at h
  refine lv_iconst (v := 1) hC.1 hC.2.1 dX5_buy_26 (by decide) ?_
  refine z_cVi (As := [.int s1, .int s2, .int 1]) hC hZ (zF_0 _) rfl zy_X5_goes (c_X5_goes l h) km_X5_115 rfl ⟨rfl, rfl⟩ ⟨Nat.le_of_ble_eq_true rfl, Nat.le_of_ble_eq_true rfl⟩ hl.1 rfl (Nat.le_of_ble_eq_true rfl) dX5_buy_27 ⟨Nat.le_of_ble_eq_true rfl, Nat.le_of_ble_eq_true rfl⟩ (fun r5 μ4 H locs h hZ => ?_)
  refine lv_if_ne (tgt := 35) hC.1 hC.2.1 dX5_buy_30 (by decide) (fun c6 => ?_) (fun c6 => ?_)
  · have h := h.1 c6
    refine lv_aload_n hC.1 hC.2.1 dX5_buy_35 rfl (lv_at hl 0 rfl) ?_
    refine gX5_20 hC hZ kf_X5_60 dX5_buy_36 ?_
    refine lv_iconst (v := 4) hC.1 hC.2.1 dX5_buy_39 (by decide) ?_
    refine lv_iload_n hC.1 hC.2.1 dX5_buy_40 rfl (lv_at hl 1 rfl) ?_
    refine lv_imul hC.1 hC.2.1 dX5_buy_41 ?_
    refine lv_dup2_11 hC.1 hC.2.1 dX5_buy_42 rfl rfl ?_
    obtain ⟨q7, h⟩ := h
    refine aL_16 hC hZ q7 dX5_buy_43 ?_
    refine lv_iconst (v := 1) hC.1 hC.2.1 dX5_buy_44 (by decide) ?_
    refine lv_iadd hC.1 hC.2.1 dX5_buy_45 ?_
    refine aS_16 hC hZ q7 dX5_buy_46 (fun μ8 H locs eμ8 hZ => ?_)
    have h := h μ8 eμ8
    refine lv_aload_n hC.1 hC.2.1 dX5_buy_47 rfl (lv_at hl 0 rfl) ?_
    refine lv_dup hC.1 hC.2.1 dX5_buy_48 rfl ?_
    refine gX5_1 hC hZ kf_X5_159 dX5_buy_49 ?_
    refine lv_iconst (v := 5) hC.1 hC.2.1 dX5_buy_52 (by decide) ?_
    refine lv_iadd hC.1 hC.2.1 dX5_buy_53 ?_
    refine pX5_1 hC hZ kf_X5_159 dX5_buy_54 (fun μ9 H locs eμ9 hZ => ?_)
    have h := h μ9 eμ9
    refine lv_aload_n hC.1 hC.2.1 dX5_buy_57 rfl (lv_at hl 0 rfl) ?_
    refine lv_iload_n hC.1 hC.2.1 dX5_buy_58 rfl (lv_at hl 1 rfl) ?_
    refine z_cVi (As := [.int a1]) hC hZ (zF_0 _) rfl zy_X5_allOf (c_X5_allOf l h) km_X5_155 rfl ⟨rfl, rfl⟩ ⟨Nat.le_of_ble_eq_true rfl, Nat.le_of_ble_eq_true rfl⟩ hl.1 rfl (Nat.le_of_ble_eq_true rfl) dX5_buy_59 ⟨Nat.le_of_ble_eq_true rfl, Nat.le_of_ble_eq_true rfl⟩ (fun r11 μ10 H locs h hZ => ?_)
    exact z_iret hC hr hZ h dX5_buy_62 (Nat.le_of_ble_eq_true rfl) (Nat.le_of_ble_eq_true rfl)
  · have h := h.2 c6
    refine lv_iconst (v := 0) hC.1 hC.2.1 dX5_buy_33 (by decide) ?_
    exact z_iret hC hr hZ h dX5_buy_34 (Nat.le_of_ble_eq_true rfl) (Nat.le_of_ble_eq_true rfl)
def b_X5_buy_25 (post : Int32 → Mem → Prop) (a1 : Int32) (s1 : Int32) (μ : Mem) : Prop := b_X5_buy_26 post a1 s1 (0 : Int32) μ
set_option maxRecDepth 100000 in
set_option maxHeartbeats 4000000 in
theorem t_X5_buy_25 {p : Program} {l : Launch} {e : Env} {s : State} {m : MethodId} {args : Array Value} {below : List Frame} {meth : Method} {c : Code} {D : va_G} {ca : Nat → ClassId} {base : Nat} {ad : Nat → Nat → Nat} {n np : Nat} {post : Int32 → Mem → Prop} (hC : ZC p m meth c s RX5 cX5_buy 3) (hr : meth.sig.returnType = (some FieldType.int)) (a1 : Int32) (s1 : Int32) (μ : Mem) (H : Heap) (locs : List Loc) (ls : Array Slot) (h : b_X5_buy_25 post a1 s1 μ) (hZ : ZS D ca base ad n np μ s H locs) (hl : lv_has ls 3 [(0, .ref (ad 0 0)), (1, .int a1)]) : W p l e ({ frames := 2, cells := 0, slots := 0, locals := 42 } : Room) s m args below meth c H locs 0 0 (MQ below (ZQ D ca base ad n np (zpi post)) args s 0 0 (zB base)) (F0 m 25 ls [.int s1, .ref (ad 0 0)]) := by
  unfold b_X5_buy_25 at h
  refine lv_iconst (v := 0) hC.1 hC.2.1 dX5_buy_25 (by decide) ?_
  exact t_X5_buy_26 (l := l) hC hr _ _ _ _ _ _ _ h hZ (lv_sub hl [0, 1] rfl)
def w_X5_buy (post : Int32 → Mem → Prop) (a1 : Int32) (μ : Mem) : Prop := (w_X5_isProp (fun (r2 : Int32) (μ1 : Mem) => ((r2 = 0 → b_X5_buy_25 post a1 r2 μ1) ∧ (¬ r2 = 0 → (w_X5_allOf (fun (r13 : Int32) (μ12 : Mem) => ((20 ≤ r13 → b_X5_buy_25 post a1 r2 μ12) ∧ (¬ 20 ≤ r13 → b_X5_buy_26 post a1 r2 (1 : Int32) μ12))) a1 μ1)))) a1 μ)
set_option maxRecDepth 100000 in
set_option maxHeartbeats 4000000 in
theorem c_X5_buy (l : Launch) {D : va_G} {ca : Nat → ClassId} {base : Nat} {ad : Nat → Nat → Nat} {n np : Nat} {μ : Mem} {post : Int32 → Mem → Prop} {a1 : Int32} (h : w_X5_buy post a1 μ) : ZMet l yX5_buy cX5_buy 3 (some FieldType.int) ({ frames := 2, cells := 0, slots := 0, locals := 42 } : Room) 0 0 D ca base ad n np [.ref (ad 0 0), .int a1] μ (zpi post) := by
  unfold ZMet
  refine Met.ofW (cc := cX5_buy) (maxL := 3) (ret := (some FieldType.int)) (by decide) rfl ?_
  intro p e s m args below meth c s₁ B hml hv
  obtain ⟨rfl, hU⟩ := hv
  have hZ := hU.toS
  have hC : ZC p m meth c s RX5 cX5_buy 3 := ⟨B.exec, B.bytes, hml, findClass_of_methodNamed B.named, B.notSynchronized⟩
  have hr := B.returns
  have key : W p l e ({ frames := 2, cells := 0, slots := 0, locals := 42 } : Room) s m (([.ref (ad 0 0), .int a1] : List Value).toArray) below meth c s.heap [] 0 0 (MQ below (ZQ D ca base ad n np (zpi post)) (([.ref (ad 0 0), .int a1] : List Value).toArray) s 0 0 (zB base)) (entryFrame m (([.ref (ad 0 0), .int a1] : List Value).toArray) 3) := by
    have hl := lv_entry ([.ref (ad 0 0), .int a1]) (n := 3) (Nat.le_of_ble_eq_true rfl)
    rw [lg_entry_eq]
    generalize (lg_sl ([.ref (ad 0 0), .int a1]) ++ List.replicate (3 - (lg_sl ([.ref (ad 0 0), .int a1])).length) Slot.unset).toArray = ls at hl ⊢
    have hl : lv_has ls 3 [(0, .ref (ad 0 0)), (1, .int a1)] := hl
    unfold w_X5_buy at h
    refine lv_iload_n hC.1 hC.2.1 dX5_buy_0 rfl (lv_at hl 1 rfl) ?_
    refine z_cSi (As := [.int a1]) hC hZ zy_X5_isProp (c_X5_isProp l h) km_X5_133 rfl ⟨rfl, rfl⟩ ⟨Nat.le_of_ble_eq_true rfl, Nat.le_of_ble_eq_true rfl⟩ hl.1 rfl (Nat.le_of_ble_eq_true rfl) dX5_buy_1 ⟨Nat.le_of_ble_eq_true rfl, Nat.le_of_ble_eq_true rfl⟩ (fun r2 μ1 H locs h hZ => ?_)
    refine lv_istore_n (lv' := [(2, .int r2), (0, .ref (ad 0 0)), (1, .int a1)]) hC.1 hC.2.1 dX5_buy_4 rfl hl (by decide) rfl (fun ls hl => ?_)
    refine lv_aload_n hC.1 hC.2.1 dX5_buy_5 rfl (lv_at hl 1 rfl) ?_
    refine lv_iload_n hC.1 hC.2.1 dX5_buy_6 rfl (lv_at hl 0 rfl) ?_
    refine lv_iload_n hC.1 hC.2.1 dX5_buy_7 rfl (lv_at hl 0 rfl) ?_
    refine lv_if_eq (tgt := 25) hC.1 hC.2.1 dX5_buy_8 (by decide) (fun c3 => ?_) (fun c3 => ?_)
    · have h := h.1 c3
      exact t_X5_buy_25 (l := l) hC hr _ _ _ _ _ _ h hZ (lv_sub hl [1, 2] rfl)
    · have h := h.2 c3
      refine lv_aload_n hC.1 hC.2.1 dX5_buy_11 rfl (lv_at hl 1 rfl) ?_
      refine lv_iload_n hC.1 hC.2.1 dX5_buy_12 rfl (lv_at hl 2 rfl) ?_
      refine z_cVi (As := [.int a1]) hC hZ (zF_0 _) rfl zy_X5_allOf (c_X5_allOf l h) km_X5_155 rfl ⟨rfl, rfl⟩ ⟨Nat.le_of_ble_eq_true rfl, Nat.le_of_ble_eq_true rfl⟩ hl.1 rfl (Nat.le_of_ble_eq_true rfl) dX5_buy_13 ⟨Nat.le_of_ble_eq_true rfl, Nat.le_of_ble_eq_true rfl⟩ (fun r13 μ12 H locs h hZ => ?_)
      refine lv_bipush (v := 20) hC.1 hC.2.1 dX5_buy_16 (by decide) ?_
      refine lv_icmp_ge (tgt := 25) hC.1 hC.2.1 dX5_buy_18 (by decide) (fun c14 => ?_) (fun c14 => ?_)
      · have h := h.1 c14
        exact t_X5_buy_25 (l := l) hC hr _ _ _ _ _ _ h hZ (lv_sub hl [1, 2] rfl)
      · have h := h.2 c14
        refine lv_iconst (v := 1) hC.1 hC.2.1 dX5_buy_21 (by decide) ?_
        refine lv_goto (tgt := 26) hC.1 hC.2.1 dX5_buy_22 (by decide) ?_
        exact t_X5_buy_26 (l := l) hC hr _ _ _ _ _ _ _ h hZ (lv_sub hl [1, 2] rfl)
  exact key
def lb_X5_clear_4 (post : Int32 → Mem → Prop) (k4 : Int32 → Int32 → Mem → Prop) (v1 : Int32) (v2 : Int32) (μ : Mem) : Prop := ((5 ≤ v2 → (w_X5_told (fun (r3 : Int32) (μ2 : Mem) => post r3 μ2) v1 μ)) ∧ (¬ 5 ≤ v2 → (vp_in ((4 * v2) + 3) 20 ∧ (∀ μ5 : Mem, μ5 = zst μ 16 0 (((4 * v2) + 3).toNatClampNeg) 0 → k4 (v1 + (μ 16 0 ((4 * v2) + 3).toNatClampNeg)) (v2 + 1) μ5))))
def l_X5_clear_4 (post : Int32 → Mem → Prop) : Nat → Int32 → Int32 → Mem → Prop
  | 0 => fun _ _ _ => False
  | fuel + 1 => lb_X5_clear_4 post (l_X5_clear_4 post fuel) 
set_option maxRecDepth 100000 in
set_option maxHeartbeats 4000000 in
theorem t_X5_clear_4 {p : Program} {l : Launch} {e : Env} {s : State} {m : MethodId} {args : Array Value} {below : List Frame} {meth : Method} {c : Code} {D : va_G} {ca : Nat → ClassId} {base : Nat} {ad : Nat → Nat → Nat} {n np : Nat} {post : Int32 → Mem → Prop} (hC : ZC p m meth c s RX5 cX5_clear 3) (hr : meth.sig.returnType = (some FieldType.int)) : ∀ (fuel : Nat) (v1 : Int32) (v2 : Int32) (μ : Mem) (H : Heap) (locs : List Loc) (ls : Array Slot), l_X5_clear_4 post fuel v1 v2 μ → ZS D ca base ad n np μ s H locs → lv_has ls 3 [(0, .ref (ad 0 0)), (1, .int v1), (2, .int v2)] → W p l e ({ frames := 1, cells := 0, slots := 0, locals := 21 } : Room) s m args below meth c H locs 0 0 (MQ below (ZQ D ca base ad n np (zpi post)) args s 0 0 (zB base)) (F0 m 4 ls []) := by
  intro fuel
  induction fuel with
  | zero => exact fun _ _ _ _ _ _ h => h.elim
  | succ fuel hk4 =>
    intro v1 v2 μ H locs ls h hZ hl
    have h : lb_X5_clear_4 post (l_X5_clear_4 post fuel) v1 v2 μ := h
    unfold lb_X5_clear_4 at h
    refine lv_iload_n hC.1 hC.2.1 dX5_clear_4 rfl (lv_at hl 2 rfl) ?_
    refine lv_iconst (v := 5) hC.1 hC.2.1 dX5_clear_5 (by decide) ?_
    refine lv_icmp_ge (tgt := 39) hC.1 hC.2.1 dX5_clear_6 (by decide) (fun c1 => ?_) (fun c1 => ?_)
    · have h := h.1 c1
      refine lv_aload_n hC.1 hC.2.1 dX5_clear_39 rfl (lv_at hl 0 rfl) ?_
      refine lv_iload_n hC.1 hC.2.1 dX5_clear_40 rfl (lv_at hl 1 rfl) ?_
      refine z_cVi (As := [.int v1]) hC hZ (zF_0 _) rfl zy_X5_told (c_X5_told l h) km_X5_162 rfl ⟨rfl, rfl⟩ ⟨Nat.le_of_ble_eq_true rfl, Nat.le_of_ble_eq_true rfl⟩ hl.1 rfl (Nat.le_of_ble_eq_true rfl) dX5_clear_41 ⟨Nat.le_of_ble_eq_true rfl, Nat.le_of_ble_eq_true rfl⟩ (fun r3 μ2 H locs h hZ => ?_)
      exact z_iret hC hr hZ h dX5_clear_44 (Nat.le_of_ble_eq_true rfl) (Nat.le_of_ble_eq_true rfl)
    · have h := h.2 c1
      refine lv_iload_n hC.1 hC.2.1 dX5_clear_9 rfl (lv_at hl 1 rfl) ?_
      refine lv_aload_n hC.1 hC.2.1 dX5_clear_10 rfl (lv_at hl 0 rfl) ?_
      refine gX5_20 hC hZ kf_X5_60 dX5_clear_11 ?_
      refine lv_iconst (v := 4) hC.1 hC.2.1 dX5_clear_14 (by decide) ?_
      refine lv_iload_n hC.1 hC.2.1 dX5_clear_15 rfl (lv_at hl 2 rfl) ?_
      refine lv_imul hC.1 hC.2.1 dX5_clear_16 ?_
      refine lv_iconst (v := 3) hC.1 hC.2.1 dX5_clear_17 (by decide) ?_
      refine lv_iadd hC.1 hC.2.1 dX5_clear_18 ?_
      obtain ⟨q4, h⟩ := h
      refine aL_16 hC hZ q4 dX5_clear_19 ?_
      refine lv_iadd hC.1 hC.2.1 dX5_clear_20 ?_
      refine lv_istore_n (lv' := [(1, .int (v1 + (μ 16 0 ((4 * v2) + 3).toNatClampNeg))), (0, .ref (ad 0 0)), (2, .int v2)]) hC.1 hC.2.1 dX5_clear_21 rfl hl (by decide) rfl (fun ls hl => ?_)
      refine lv_aload_n hC.1 hC.2.1 dX5_clear_22 rfl (lv_at hl 1 rfl) ?_
      refine gX5_20 hC hZ kf_X5_60 dX5_clear_23 ?_
      refine lv_iconst (v := 4) hC.1 hC.2.1 dX5_clear_26 (by decide) ?_
      refine lv_iload_n hC.1 hC.2.1 dX5_clear_27 rfl (lv_at hl 2 rfl) ?_
      refine lv_imul hC.1 hC.2.1 dX5_clear_28 ?_
      refine lv_iconst (v := 3) hC.1 hC.2.1 dX5_clear_29 (by decide) ?_
      refine lv_iadd hC.1 hC.2.1 dX5_clear_30 ?_
      refine lv_iconst (v := 0) hC.1 hC.2.1 dX5_clear_31 (by decide) ?_
      refine aS_16 hC hZ q4 dX5_clear_32 (fun μ5 H locs eμ5 hZ => ?_)
      have h := h μ5 eμ5
      refine lv_iinc (v := v2 + 1) (lv' := [(2, .int (v2 + 1)), (1, .int (v1 + (μ 16 0 ((4 * v2) + 3).toNatClampNeg))), (0, .ref (ad 0 0))]) hC.1 hC.2.1 dX5_clear_33 hl (k := 2) rfl rfl (by decide) rfl (fun ls hl => ?_)
      refine lv_goto (tgt := 4) hC.1 hC.2.1 dX5_clear_36 (by decide) ?_
      exact hk4 _ _ _ _ _ _ h hZ (lv_sub hl [2, 1, 0] rfl)
def w_X5_clear (post : Int32 → Mem → Prop) (μ : Mem) : Prop := (∃ fuel : Nat, l_X5_clear_4 post fuel (0 : Int32) (0 : Int32) μ)
set_option maxRecDepth 100000 in
set_option maxHeartbeats 4000000 in
theorem c_X5_clear (l : Launch) {D : va_G} {ca : Nat → ClassId} {base : Nat} {ad : Nat → Nat → Nat} {n np : Nat} {μ : Mem} {post : Int32 → Mem → Prop} (h : w_X5_clear post μ) : ZMet l yX5_clear cX5_clear 3 (some FieldType.int) ({ frames := 1, cells := 0, slots := 0, locals := 21 } : Room) 0 0 D ca base ad n np [.ref (ad 0 0)] μ (zpi post) := by
  unfold ZMet
  refine Met.ofW (cc := cX5_clear) (maxL := 3) (ret := (some FieldType.int)) (by decide) rfl ?_
  intro p e s m args below meth c s₁ B hml hv
  obtain ⟨rfl, hU⟩ := hv
  have hZ := hU.toS
  have hC : ZC p m meth c s RX5 cX5_clear 3 := ⟨B.exec, B.bytes, hml, findClass_of_methodNamed B.named, B.notSynchronized⟩
  have hr := B.returns
  have key : W p l e ({ frames := 1, cells := 0, slots := 0, locals := 21 } : Room) s m (([.ref (ad 0 0)] : List Value).toArray) below meth c s.heap [] 0 0 (MQ below (ZQ D ca base ad n np (zpi post)) (([.ref (ad 0 0)] : List Value).toArray) s 0 0 (zB base)) (entryFrame m (([.ref (ad 0 0)] : List Value).toArray) 3) := by
    have hl := lv_entry ([.ref (ad 0 0)]) (n := 3) (Nat.le_of_ble_eq_true rfl)
    rw [lg_entry_eq]
    generalize (lg_sl ([.ref (ad 0 0)]) ++ List.replicate (3 - (lg_sl ([.ref (ad 0 0)])).length) Slot.unset).toArray = ls at hl ⊢
    have hl : lv_has ls 3 [(0, .ref (ad 0 0))] := hl
    unfold w_X5_clear at h
    refine lv_iconst (v := 0) hC.1 hC.2.1 dX5_clear_0 (by decide) ?_
    refine lv_istore_n (lv' := [(1, .int 0), (0, .ref (ad 0 0))]) hC.1 hC.2.1 dX5_clear_1 rfl hl (by decide) rfl (fun ls hl => ?_)
    refine lv_iconst (v := 0) hC.1 hC.2.1 dX5_clear_2 (by decide) ?_
    refine lv_istore_n (lv' := [(2, .int 0), (1, .int 0), (0, .ref (ad 0 0))]) hC.1 hC.2.1 dX5_clear_3 rfl hl (by decide) rfl (fun ls hl => ?_)
    obtain ⟨fuel, h⟩ := h
    exact t_X5_clear_4 (l := l) hC hr _ _ _ _ _ _ _ h hZ (lv_sub hl [2, 1, 0] rfl)
  exact key
def b_X5_mishap_44 (post : Int32 → Mem → Prop) (a1 : Int32) (a2 : Int32) (s1 : Int32) (s2 : Int32) (s3 : Int32) (μ : Mem) : Prop := (w_X5_goes (fun (r7 : Int32) (μ6 : Mem) => ((¬ r7 = 0 → (vp_in ((4 * a1) + a2) 20 ∧ (∀ μ10 : Mem, μ10 = zst μ6 16 0 (((4 * a1) + a2).toNatClampNeg) ((μ6 16 0 ((4 * a1) + a2).toNatClampNeg) - 1) → (vp_in ((4 * a1) + 3) 20 ∧ (∀ μ12 : Mem, μ12 = zst μ10 16 0 (((4 * a1) + 3).toNatClampNeg) ((μ10 16 0 ((4 * a1) + 3).toNatClampNeg) + 1) → post (μ12 16 0 ((4 * a1) + 3).toNatClampNeg) μ12))))) ∧ (r7 = 0 → post 0 μ6))) s1 s2 s3 μ)
set_option maxRecDepth 100000 in
set_option maxHeartbeats 4000000 in
theorem t_X5_mishap_44 {p : Program} {l : Launch} {e : Env} {s : State} {m : MethodId} {args : Array Value} {below : List Frame} {meth : Method} {c : Code} {D : va_G} {ca : Nat → ClassId} {base : Nat} {ad : Nat → Nat → Nat} {n np : Nat} {post : Int32 → Mem → Prop} (hC : ZC p m meth c s RX5 cX5_mishap 5) (hr : meth.sig.returnType = (some FieldType.int)) (a1 : Int32) (a2 : Int32) (s1 : Int32) (s2 : Int32) (s3 : Int32) (μ : Mem) (H : Heap) (locs : List Loc) (ls : Array Slot) (h : b_X5_mishap_44 post a1 a2 s1 s2 s3 μ) (hZ : ZS D ca base ad n np μ s H locs) (hl : lv_has ls 5 [(0, .ref (ad 0 0)), (1, .int a1), (2, .int a2)]) : W p l e ({ frames := 2, cells := 0, slots := 0, locals := 42 } : Room) s m args below meth c H locs 0 0 (MQ below (ZQ D ca base ad n np (zpi post)) args s 0 0 (zB base)) (F0 m 44 ls [.int s3, .int s2, .int s1, .ref (ad 0 0)]) := by
  unfold b_X5_mishap_44 at h
  refine z_cVi (As := [.int s1, .int s2, .int s3]) hC hZ (zF_0 _) rfl zy_X5_goes (c_X5_goes l h) km_X5_115 rfl ⟨rfl, rfl⟩ ⟨Nat.le_of_ble_eq_true rfl, Nat.le_of_ble_eq_true rfl⟩ hl.1 rfl (Nat.le_of_ble_eq_true rfl) dX5_mishap_44 ⟨Nat.le_of_ble_eq_true rfl, Nat.le_of_ble_eq_true rfl⟩ (fun r7 μ6 H locs h hZ => ?_)
  refine lv_if_ne (tgt := 52) hC.1 hC.2.1 dX5_mishap_47 (by decide) (fun c8 => ?_) (fun c8 => ?_)
  · have h := h.1 c8
    refine lv_aload_n hC.1 hC.2.1 dX5_mishap_52 rfl (lv_at hl 0 rfl) ?_
    refine gX5_20 hC hZ kf_X5_60 dX5_mishap_53 ?_
    refine lv_iconst (v := 4) hC.1 hC.2.1 dX5_mishap_56 (by decide) ?_
    refine lv_iload_n hC.1 hC.2.1 dX5_mishap_57 rfl (lv_at hl 1 rfl) ?_
    refine lv_imul hC.1 hC.2.1 dX5_mishap_58 ?_
    refine lv_iload_n hC.1 hC.2.1 dX5_mishap_59 rfl (lv_at hl 2 rfl) ?_
    refine lv_iadd hC.1 hC.2.1 dX5_mishap_60 ?_
    refine lv_dup2_11 hC.1 hC.2.1 dX5_mishap_61 rfl rfl ?_
    obtain ⟨q9, h⟩ := h
    refine aL_16 hC hZ q9 dX5_mishap_62 ?_
    refine lv_iconst (v := 1) hC.1 hC.2.1 dX5_mishap_63 (by decide) ?_
    refine lv_isub hC.1 hC.2.1 dX5_mishap_64 ?_
    refine aS_16 hC hZ q9 dX5_mishap_65 (fun μ10 H locs eμ10 hZ => ?_)
    have h := h μ10 eμ10
    refine lv_aload_n hC.1 hC.2.1 dX5_mishap_66 rfl (lv_at hl 0 rfl) ?_
    refine gX5_20 hC hZ kf_X5_60 dX5_mishap_67 ?_
    refine lv_iconst (v := 4) hC.1 hC.2.1 dX5_mishap_70 (by decide) ?_
    refine lv_iload_n hC.1 hC.2.1 dX5_mishap_71 rfl (lv_at hl 1 rfl) ?_
    refine lv_imul hC.1 hC.2.1 dX5_mishap_72 ?_
    refine lv_iconst (v := 3) hC.1 hC.2.1 dX5_mishap_73 (by decide) ?_
    refine lv_iadd hC.1 hC.2.1 dX5_mishap_74 ?_
    refine lv_dup2_11 hC.1 hC.2.1 dX5_mishap_75 rfl rfl ?_
    obtain ⟨q11, h⟩ := h
    refine aL_16 hC hZ q11 dX5_mishap_76 ?_
    refine lv_iconst (v := 1) hC.1 hC.2.1 dX5_mishap_77 (by decide) ?_
    refine lv_iadd hC.1 hC.2.1 dX5_mishap_78 ?_
    refine aS_16 hC hZ q11 dX5_mishap_79 (fun μ12 H locs eμ12 hZ => ?_)
    have h := h μ12 eμ12
    refine lv_aload_n hC.1 hC.2.1 dX5_mishap_80 rfl (lv_at hl 0 rfl) ?_
    refine gX5_20 hC hZ kf_X5_60 dX5_mishap_81 ?_
    refine lv_iconst (v := 4) hC.1 hC.2.1 dX5_mishap_84 (by decide) ?_
    refine lv_iload_n hC.1 hC.2.1 dX5_mishap_85 rfl (lv_at hl 1 rfl) ?_
    refine lv_imul hC.1 hC.2.1 dX5_mishap_86 ?_
    refine lv_iconst (v := 3) hC.1 hC.2.1 dX5_mishap_87 (by decide) ?_
    refine lv_iadd hC.1 hC.2.1 dX5_mishap_88 ?_
    refine aL_16 hC hZ q11 dX5_mishap_89 ?_
    exact z_iret hC hr hZ h dX5_mishap_90 (Nat.le_of_ble_eq_true rfl) (Nat.le_of_ble_eq_true rfl)
  · have h := h.2 c8
    refine lv_iconst (v := 0) hC.1 hC.2.1 dX5_mishap_50 (by decide) ?_
    exact z_iret hC hr hZ h dX5_mishap_51 (Nat.le_of_ble_eq_true rfl) (Nat.le_of_ble_eq_true rfl)
def b_X5_mishap_43 (post : Int32 → Mem → Prop) (a1 : Int32) (a2 : Int32) (s1 : Int32) (s2 : Int32) (μ : Mem) : Prop := b_X5_mishap_44 post a1 a2 s1 s2 (0 : Int32) μ
set_option maxRecDepth 100000 in
set_option maxHeartbeats 4000000 in
theorem t_X5_mishap_43 {p : Program} {l : Launch} {e : Env} {s : State} {m : MethodId} {args : Array Value} {below : List Frame} {meth : Method} {c : Code} {D : va_G} {ca : Nat → ClassId} {base : Nat} {ad : Nat → Nat → Nat} {n np : Nat} {post : Int32 → Mem → Prop} (hC : ZC p m meth c s RX5 cX5_mishap 5) (hr : meth.sig.returnType = (some FieldType.int)) (a1 : Int32) (a2 : Int32) (s1 : Int32) (s2 : Int32) (μ : Mem) (H : Heap) (locs : List Loc) (ls : Array Slot) (h : b_X5_mishap_43 post a1 a2 s1 s2 μ) (hZ : ZS D ca base ad n np μ s H locs) (hl : lv_has ls 5 [(0, .ref (ad 0 0)), (1, .int a1), (2, .int a2)]) : W p l e ({ frames := 2, cells := 0, slots := 0, locals := 42 } : Room) s m args below meth c H locs 0 0 (MQ below (ZQ D ca base ad n np (zpi post)) args s 0 0 (zB base)) (F0 m 43 ls [.int s2, .int s1, .ref (ad 0 0)]) := by
  unfold b_X5_mishap_43 at h
  refine lv_iconst (v := 0) hC.1 hC.2.1 dX5_mishap_43 (by decide) ?_
  exact t_X5_mishap_44 (l := l) hC hr _ _ _ _ _ _ _ _ _ h hZ (lv_sub hl [0, 1, 2] rfl)
def w_X5_mishap (post : Int32 → Mem → Prop) (a1 : Int32) (a2 : Int32) (μ : Mem) : Prop := (w_X5_isProp (fun (r2 : Int32) (μ1 : Mem) => (w_X5_in (fun (r4 : Int32) (μ3 : Mem) => ((r2 = 0 → b_X5_mishap_43 post a1 a2 r2 r4 μ3) ∧ (¬ r2 = 0 → ((r4 = 0 → b_X5_mishap_43 post a1 a2 r2 r4 μ3) ∧ (¬ r4 = 0 → (vp_in ((4 * a1) + a2) 20 ∧ (((μ3 16 0 ((4 * a1) + a2).toNatClampNeg) ≤ 0 → b_X5_mishap_43 post a1 a2 r2 r4 μ3) ∧ (¬ (μ3 16 0 ((4 * a1) + a2).toNatClampNeg) ≤ 0 → b_X5_mishap_44 post a1 a2 r2 r4 (1 : Int32) μ3)))))))) a2 (0 : Int32) (2 : Int32) μ1)) a1 μ)
set_option maxRecDepth 100000 in
set_option maxHeartbeats 4000000 in
theorem c_X5_mishap (l : Launch) {D : va_G} {ca : Nat → ClassId} {base : Nat} {ad : Nat → Nat → Nat} {n np : Nat} {μ : Mem} {post : Int32 → Mem → Prop} {a1 : Int32} {a2 : Int32} (h : w_X5_mishap post a1 a2 μ) : ZMet l yX5_mishap cX5_mishap 5 (some FieldType.int) ({ frames := 2, cells := 0, slots := 0, locals := 42 } : Room) 0 0 D ca base ad n np [.ref (ad 0 0), .int a1, .int a2] μ (zpi post) := by
  unfold ZMet
  refine Met.ofW (cc := cX5_mishap) (maxL := 5) (ret := (some FieldType.int)) (by decide) rfl ?_
  intro p e s m args below meth c s₁ B hml hv
  obtain ⟨rfl, hU⟩ := hv
  have hZ := hU.toS
  have hC : ZC p m meth c s RX5 cX5_mishap 5 := ⟨B.exec, B.bytes, hml, findClass_of_methodNamed B.named, B.notSynchronized⟩
  have hr := B.returns
  have key : W p l e ({ frames := 2, cells := 0, slots := 0, locals := 42 } : Room) s m (([.ref (ad 0 0), .int a1, .int a2] : List Value).toArray) below meth c s.heap [] 0 0 (MQ below (ZQ D ca base ad n np (zpi post)) (([.ref (ad 0 0), .int a1, .int a2] : List Value).toArray) s 0 0 (zB base)) (entryFrame m (([.ref (ad 0 0), .int a1, .int a2] : List Value).toArray) 5) := by
    have hl := lv_entry ([.ref (ad 0 0), .int a1, .int a2]) (n := 5) (Nat.le_of_ble_eq_true rfl)
    rw [lg_entry_eq]
    generalize (lg_sl ([.ref (ad 0 0), .int a1, .int a2]) ++ List.replicate (5 - (lg_sl ([.ref (ad 0 0), .int a1, .int a2])).length) Slot.unset).toArray = ls at hl ⊢
    have hl : lv_has ls 5 [(0, .ref (ad 0 0)), (1, .int a1), (2, .int a2)] := hl
    unfold w_X5_mishap at h
    refine lv_iload_n hC.1 hC.2.1 dX5_mishap_0 rfl (lv_at hl 1 rfl) ?_
    refine z_cSi (As := [.int a1]) hC hZ zy_X5_isProp (c_X5_isProp l h) km_X5_133 rfl ⟨rfl, rfl⟩ ⟨Nat.le_of_ble_eq_true rfl, Nat.le_of_ble_eq_true rfl⟩ hl.1 rfl (Nat.le_of_ble_eq_true rfl) dX5_mishap_1 ⟨Nat.le_of_ble_eq_true rfl, Nat.le_of_ble_eq_true rfl⟩ (fun r2 μ1 H locs h hZ => ?_)
    refine lv_istore_n (lv' := [(3, .int r2), (0, .ref (ad 0 0)), (1, .int a1), (2, .int a2)]) hC.1 hC.2.1 dX5_mishap_4 rfl hl (by decide) rfl (fun ls hl => ?_)
    refine lv_iload_n hC.1 hC.2.1 dX5_mishap_5 rfl (lv_at hl 3 rfl) ?_
    refine lv_iconst (v := 0) hC.1 hC.2.1 dX5_mishap_6 (by decide) ?_
    refine lv_iconst (v := 2) hC.1 hC.2.1 dX5_mishap_7 (by decide) ?_
    refine z_cSi (As := [.int a2, .int 0, .int 2]) hC hZ zy_X5_in (c_X5_in l h) km_X5_81 rfl ⟨rfl, rfl⟩ ⟨Nat.le_of_ble_eq_true rfl, Nat.le_of_ble_eq_true rfl⟩ hl.1 rfl (Nat.le_of_ble_eq_true rfl) dX5_mishap_8 ⟨Nat.le_of_ble_eq_true rfl, Nat.le_of_ble_eq_true rfl⟩ (fun r4 μ3 H locs h hZ => ?_)
    refine lv_istore (lv' := [(4, .int r4), (3, .int r2), (0, .ref (ad 0 0)), (1, .int a1), (2, .int a2)]) hC.1 hC.2.1 dX5_mishap_11 hl (by decide) rfl (fun ls hl => ?_)
    refine lv_aload_n hC.1 hC.2.1 dX5_mishap_13 rfl (lv_at hl 2 rfl) ?_
    refine lv_iload_n hC.1 hC.2.1 dX5_mishap_14 rfl (lv_at hl 1 rfl) ?_
    refine lv_iload hC.1 hC.2.1 dX5_mishap_15 (lv_at hl 0 rfl) ?_
    refine lv_iload_n hC.1 hC.2.1 dX5_mishap_17 rfl (lv_at hl 1 rfl) ?_
    refine lv_if_eq (tgt := 43) hC.1 hC.2.1 dX5_mishap_18 (by decide) (fun c5 => ?_) (fun c5 => ?_)
    · have h := h.1 c5
      exact t_X5_mishap_43 (l := l) hC hr _ _ _ _ _ _ _ _ h hZ (lv_sub hl [2, 3, 4] rfl)
    · have h := h.2 c5
      refine lv_iload hC.1 hC.2.1 dX5_mishap_21 (lv_at hl 0 rfl) ?_
      refine lv_if_eq (tgt := 43) hC.1 hC.2.1 dX5_mishap_23 (by decide) (fun c13 => ?_) (fun c13 => ?_)
      · have h := h.1 c13
        exact t_X5_mishap_43 (l := l) hC hr _ _ _ _ _ _ _ _ h hZ (lv_sub hl [2, 3, 4] rfl)
      · have h := h.2 c13
        refine lv_aload_n hC.1 hC.2.1 dX5_mishap_26 rfl (lv_at hl 2 rfl) ?_
        refine gX5_20 hC hZ kf_X5_60 dX5_mishap_27 ?_
        refine lv_iconst (v := 4) hC.1 hC.2.1 dX5_mishap_30 (by decide) ?_
        refine lv_iload_n hC.1 hC.2.1 dX5_mishap_31 rfl (lv_at hl 3 rfl) ?_
        refine lv_imul hC.1 hC.2.1 dX5_mishap_32 ?_
        refine lv_iload_n hC.1 hC.2.1 dX5_mishap_33 rfl (lv_at hl 4 rfl) ?_
        refine lv_iadd hC.1 hC.2.1 dX5_mishap_34 ?_
        obtain ⟨q14, h⟩ := h
        refine aL_16 hC hZ q14 dX5_mishap_35 ?_
        refine lv_if_le (tgt := 43) hC.1 hC.2.1 dX5_mishap_36 (by decide) (fun c15 => ?_) (fun c15 => ?_)
        · have h := h.1 c15
          exact t_X5_mishap_43 (l := l) hC hr _ _ _ _ _ _ _ _ h hZ (lv_sub hl [2, 3, 4] rfl)
        · have h := h.2 c15
          refine lv_iconst (v := 1) hC.1 hC.2.1 dX5_mishap_39 (by decide) ?_
          refine lv_goto (tgt := 44) hC.1 hC.2.1 dX5_mishap_40 (by decide) ?_
          exact t_X5_mishap_44 (l := l) hC hr _ _ _ _ _ _ _ _ _ h hZ (lv_sub hl [2, 3, 4] rfl)
  exact key
def b_X5_putsOff_29 (post : Mem → Prop) (a1 : Int32) (v2 : Int32) (μ : Mem) : Prop := ((30 ≤ v2 → (vp_in a1 10 ∧ ∀ μ4 : Mem, μ4 = zst μ 3 0 a1.toNatClampNeg 2 → post μ4)) ∧ (¬ 30 ≤ v2 → (w_X5_plans (fun (μ5 : Mem) => post μ5) a1 v2 μ)))
set_option maxRecDepth 100000 in
set_option maxHeartbeats 4000000 in
theorem t_X5_putsOff_29 {p : Program} {l : Launch} {e : Env} {s : State} {m : MethodId} {args : Array Value} {below : List Frame} {meth : Method} {c : Code} {D : va_G} {ca : Nat → ClassId} {base : Nat} {ad : Nat → Nat → Nat} {n np : Nat} {post : Mem → Prop} (hC : ZC p m meth c s RX5 cX5_putsOff 3) (hr : meth.sig.returnType = none) (a1 : Int32) (v2 : Int32) (μ : Mem) (H : Heap) (locs : List Loc) (ls : Array Slot) (h : b_X5_putsOff_29 post a1 v2 μ) (hZ : ZS D ca base ad n np μ s H locs) (hl : lv_has ls 3 [(0, .ref (ad 0 0)), (1, .int a1), (2, .int v2)]) : W p l e ({ frames := 1, cells := 0, slots := 0, locals := 22 } : Room) s m args below meth c H locs 0 0 (MQ below (ZQ D ca base ad n np (zpv post)) args s 0 0 (zB base)) (F0 m 29 ls []) := by
  unfold b_X5_putsOff_29 at h
  refine lv_iload_n hC.1 hC.2.1 dX5_putsOff_29 rfl (lv_at hl 2 rfl) ?_
  refine lv_bipush (v := 30) hC.1 hC.2.1 dX5_putsOff_30 (by decide) ?_
  refine lv_icmp_ge (tgt := 44) hC.1 hC.2.1 dX5_putsOff_32 (by decide) (fun c2 => ?_) (fun c2 => ?_)
  · have h := h.1 c2
    refine lv_aload_n hC.1 hC.2.1 dX5_putsOff_44 rfl (lv_at hl 0 rfl) ?_
    refine gX5_6 hC hZ kf_X5_20 dX5_putsOff_45 ?_
    refine lv_iload_n hC.1 hC.2.1 dX5_putsOff_48 rfl (lv_at hl 1 rfl) ?_
    refine lv_iconst (v := 2) hC.1 hC.2.1 dX5_putsOff_49 (by decide) ?_
    obtain ⟨q3, h⟩ := h
    refine aS_3 hC hZ q3 dX5_putsOff_50 (fun μ4 H locs eμ4 hZ => ?_)
    have h := h μ4 eμ4
    exact z_vret hC hr hZ h dX5_putsOff_51 (Nat.le_of_ble_eq_true rfl) (Nat.le_of_ble_eq_true rfl)
  · have h := h.2 c2
    refine lv_aload_n hC.1 hC.2.1 dX5_putsOff_35 rfl (lv_at hl 0 rfl) ?_
    refine lv_iload_n hC.1 hC.2.1 dX5_putsOff_36 rfl (lv_at hl 1 rfl) ?_
    refine lv_iload_n hC.1 hC.2.1 dX5_putsOff_37 rfl (lv_at hl 2 rfl) ?_
    refine z_cVv (As := [.int a1, .int v2]) hC hZ (zF_0 _) rfl zy_X5_plans (c_X5_plans l h) km_X5_119 rfl ⟨rfl, rfl⟩ ⟨Nat.le_of_ble_eq_true rfl, Nat.le_of_ble_eq_true rfl⟩ hl.1 rfl (Nat.le_of_ble_eq_true rfl) dX5_putsOff_38 ⟨Nat.le_of_ble_eq_true rfl, Nat.le_of_ble_eq_true rfl⟩ (fun μ5 H locs h hZ => ?_)
    refine lv_goto (tgt := 51) hC.1 hC.2.1 dX5_putsOff_41 (by decide) ?_
    exact z_vret hC hr hZ h dX5_putsOff_51 (Nat.le_of_ble_eq_true rfl) (Nat.le_of_ble_eq_true rfl)
def lb_X5_putsOff_7 (post : Mem → Prop) (k7 : Int32 → Mem → Prop) (a1 : Int32) (v2 : Int32) (μ : Mem) : Prop := ((30 ≤ v2 → b_X5_putsOff_29 post a1 v2 μ) ∧ (¬ 30 ≤ v2 → (vp_in v2 30 ∧ (((μ 8 0 v2.toNatClampNeg) = (-1) → b_X5_putsOff_29 post a1 v2 μ) ∧ (¬ (μ 8 0 v2.toNatClampNeg) = (-1) → k7 (v2 + 1) μ)))))
def l_X5_putsOff_7 (post : Mem → Prop) (a1 : Int32) : Nat → Int32 → Mem → Prop
  | 0 => fun _ _ => False
  | fuel + 1 => lb_X5_putsOff_7 post (l_X5_putsOff_7 post a1 fuel) a1 
set_option maxRecDepth 100000 in
set_option maxHeartbeats 4000000 in
theorem t_X5_putsOff_7 {p : Program} {l : Launch} {e : Env} {s : State} {m : MethodId} {args : Array Value} {below : List Frame} {meth : Method} {c : Code} {D : va_G} {ca : Nat → ClassId} {base : Nat} {ad : Nat → Nat → Nat} {n np : Nat} {post : Mem → Prop} (hC : ZC p m meth c s RX5 cX5_putsOff 3) (hr : meth.sig.returnType = none) (a1 : Int32) : ∀ (fuel : Nat) (v2 : Int32) (μ : Mem) (H : Heap) (locs : List Loc) (ls : Array Slot), l_X5_putsOff_7 post a1 fuel v2 μ → ZS D ca base ad n np μ s H locs → lv_has ls 3 [(0, .ref (ad 0 0)), (1, .int a1), (2, .int v2)] → W p l e ({ frames := 1, cells := 0, slots := 0, locals := 22 } : Room) s m args below meth c H locs 0 0 (MQ below (ZQ D ca base ad n np (zpv post)) args s 0 0 (zB base)) (F0 m 7 ls []) := by
  intro fuel
  induction fuel with
  | zero => exact fun _ _ _ _ _ h => h.elim
  | succ fuel hk7 =>
    intro v2 μ H locs ls h hZ hl
    have h : lb_X5_putsOff_7 post (l_X5_putsOff_7 post a1 fuel) a1 v2 μ := h
    unfold lb_X5_putsOff_7 at h
    refine lv_iload_n hC.1 hC.2.1 dX5_putsOff_7 rfl (lv_at hl 2 rfl) ?_
    refine lv_bipush (v := 30) hC.1 hC.2.1 dX5_putsOff_8 (by decide) ?_
    refine lv_icmp_ge (tgt := 29) hC.1 hC.2.1 dX5_putsOff_10 (by decide) (fun c1 => ?_) (fun c1 => ?_)
    · have h := h.1 c1
      exact t_X5_putsOff_29 (l := l) hC hr _ _ _ _ _ _ h hZ (lv_sub hl [0, 1, 2] rfl)
    · have h := h.2 c1
      refine lv_aload_n hC.1 hC.2.1 dX5_putsOff_13 rfl (lv_at hl 0 rfl) ?_
      refine gX5_11 hC hZ kf_X5_35 dX5_putsOff_14 ?_
      refine lv_iload_n hC.1 hC.2.1 dX5_putsOff_17 rfl (lv_at hl 2 rfl) ?_
      obtain ⟨q7, h⟩ := h
      refine aL_8 hC hZ q7 dX5_putsOff_18 ?_
      refine lv_iconst (v := (-1)) hC.1 hC.2.1 dX5_putsOff_19 (by decide) ?_
      refine lv_icmp_eq (tgt := 29) hC.1 hC.2.1 dX5_putsOff_20 (by decide) (fun c8 => ?_) (fun c8 => ?_)
      · have h := h.1 c8
        exact t_X5_putsOff_29 (l := l) hC hr _ _ _ _ _ _ h hZ (lv_sub hl [0, 1, 2] rfl)
      · have h := h.2 c8
        refine lv_iinc (v := v2 + 1) (lv' := [(2, .int (v2 + 1)), (0, .ref (ad 0 0)), (1, .int a1)]) hC.1 hC.2.1 dX5_putsOff_23 hl (k := 2) rfl rfl (by decide) rfl (fun ls hl => ?_)
        refine lv_goto (tgt := 7) hC.1 hC.2.1 dX5_putsOff_26 (by decide) ?_
        exact hk7 _ _ _ _ _ h hZ (lv_sub hl [1, 2, 0] rfl)
def w_X5_putsOff (post : Mem → Prop) (a1 : Int32) (μ : Mem) : Prop := (∃ fuel : Nat, l_X5_putsOff_7 post a1 fuel ((μ 0 0 0) + 1) μ)
set_option maxRecDepth 100000 in
set_option maxHeartbeats 4000000 in
theorem c_X5_putsOff (l : Launch) {D : va_G} {ca : Nat → ClassId} {base : Nat} {ad : Nat → Nat → Nat} {n np : Nat} {μ : Mem} {post : Mem → Prop} {a1 : Int32} (h : w_X5_putsOff post a1 μ) : ZMet l yX5_putsOff cX5_putsOff 3 none ({ frames := 1, cells := 0, slots := 0, locals := 22 } : Room) 0 0 D ca base ad n np [.ref (ad 0 0), .int a1] μ (zpv post) := by
  unfold ZMet
  refine Met.ofW (cc := cX5_putsOff) (maxL := 3) (ret := none) (by decide) rfl ?_
  intro p e s m args below meth c s₁ B hml hv
  obtain ⟨rfl, hU⟩ := hv
  have hZ := hU.toS
  have hC : ZC p m meth c s RX5 cX5_putsOff 3 := ⟨B.exec, B.bytes, hml, findClass_of_methodNamed B.named, B.notSynchronized⟩
  have hr := B.returns
  have key : W p l e ({ frames := 1, cells := 0, slots := 0, locals := 22 } : Room) s m (([.ref (ad 0 0), .int a1] : List Value).toArray) below meth c s.heap [] 0 0 (MQ below (ZQ D ca base ad n np (zpv post)) (([.ref (ad 0 0), .int a1] : List Value).toArray) s 0 0 (zB base)) (entryFrame m (([.ref (ad 0 0), .int a1] : List Value).toArray) 3) := by
    have hl := lv_entry ([.ref (ad 0 0), .int a1]) (n := 3) (Nat.le_of_ble_eq_true rfl)
    rw [lg_entry_eq]
    generalize (lg_sl ([.ref (ad 0 0), .int a1]) ++ List.replicate (3 - (lg_sl ([.ref (ad 0 0), .int a1])).length) Slot.unset).toArray = ls at hl ⊢
    have hl : lv_has ls 3 [(0, .ref (ad 0 0)), (1, .int a1)] := hl
    unfold w_X5_putsOff at h
    refine lv_aload_n hC.1 hC.2.1 dX5_putsOff_0 rfl (lv_at hl 0 rfl) ?_
    refine gX5_0 hC hZ kf_X5_85 dX5_putsOff_1 ?_
    refine lv_iconst (v := 1) hC.1 hC.2.1 dX5_putsOff_4 (by decide) ?_
    refine lv_iadd hC.1 hC.2.1 dX5_putsOff_5 ?_
    refine lv_istore_n (lv' := [(2, .int ((μ 0 0 0) + 1)), (0, .ref (ad 0 0)), (1, .int a1)]) hC.1 hC.2.1 dX5_putsOff_6 rfl hl (by decide) rfl (fun ls hl => ?_)
    obtain ⟨fuel, h⟩ := h
    exact t_X5_putsOff_7 (l := l) hC hr _ _ _ _ _ _ _ h hZ (lv_sub hl [1, 2, 0] rfl)
  exact key
def b_X5_shoot_125 (post : Int32 → Mem → Prop) (v2 : Int32) (μ : Mem) : Prop := (w_X5_grows (fun (μ13 : Mem) => (w_X5_keeps (fun (μ15 : Mem) => (∀ μ17 : Mem, μ17 = zst μ15 0 0 0 ((μ15 0 0 0) + 1) → post v2 μ17)) μ13)) μ)
set_option maxRecDepth 100000 in
set_option maxHeartbeats 4000000 in
theorem t_X5_shoot_125 {p : Program} {l : Launch} {e : Env} {s : State} {m : MethodId} {args : Array Value} {below : List Frame} {meth : Method} {c : Code} {D : va_G} {ca : Nat → ClassId} {base : Nat} {ad : Nat → Nat → Nat} {n np : Nat} {post : Int32 → Mem → Prop} (hC : ZC p m meth c s RX5 cX5_shoot 3) (hr : meth.sig.returnType = (some FieldType.int)) (v2 : Int32) (μ : Mem) (H : Heap) (locs : List Loc) (ls : Array Slot) (h : b_X5_shoot_125 post v2 μ) (hZ : ZS D ca base ad n np μ s H locs) (hl : lv_has ls 3 [(0, .ref (ad 0 0)), (2, .int v2)]) : W p l e ({ frames := 2, cells := 0, slots := 0, locals := 49 } : Room) s m args below meth c H locs 0 0 (MQ below (ZQ D ca base ad n np (zpi post)) args s 0 0 (zB base)) (F0 m 125 ls []) := by
  unfold b_X5_shoot_125 at h
  refine lv_aload_n hC.1 hC.2.1 dX5_shoot_125 rfl (lv_at hl 0 rfl) ?_
  refine z_cVv (As := []) hC hZ (zF_0 _) rfl zy_X5_grows (c_X5_grows l h) km_X5_108 rfl ⟨rfl, rfl⟩ ⟨Nat.le_of_ble_eq_true rfl, Nat.le_of_ble_eq_true rfl⟩ hl.1 rfl (Nat.le_of_ble_eq_true rfl) dX5_shoot_126 ⟨Nat.le_of_ble_eq_true rfl, Nat.le_of_ble_eq_true rfl⟩ (fun μ13 H locs h hZ => ?_)
  refine lv_aload_n hC.1 hC.2.1 dX5_shoot_129 rfl (lv_at hl 0 rfl) ?_
  refine z_cVv (As := []) hC hZ (zF_0 _) rfl zy_X5_keeps (c_X5_keeps l h) km_X5_169 rfl ⟨rfl, rfl⟩ ⟨Nat.le_of_ble_eq_true rfl, Nat.le_of_ble_eq_true rfl⟩ hl.1 rfl (Nat.le_of_ble_eq_true rfl) dX5_shoot_130 ⟨Nat.le_of_ble_eq_true rfl, Nat.le_of_ble_eq_true rfl⟩ (fun μ15 H locs h hZ => ?_)
  refine lv_aload_n hC.1 hC.2.1 dX5_shoot_133 rfl (lv_at hl 0 rfl) ?_
  refine lv_dup hC.1 hC.2.1 dX5_shoot_134 rfl ?_
  refine gX5_0 hC hZ kf_X5_85 dX5_shoot_135 ?_
  refine lv_iconst (v := 1) hC.1 hC.2.1 dX5_shoot_138 (by decide) ?_
  refine lv_iadd hC.1 hC.2.1 dX5_shoot_139 ?_
  refine pX5_0 hC hZ kf_X5_85 dX5_shoot_140 (fun μ17 H locs eμ17 hZ => ?_)
  have h := h μ17 eμ17
  refine lv_iload_n hC.1 hC.2.1 dX5_shoot_143 rfl (lv_at hl 1 rfl) ?_
  exact z_iret hC hr hZ h dX5_shoot_144 (Nat.le_of_ble_eq_true rfl) (Nat.le_of_ble_eq_true rfl)
def b_X5_shoot_57 (post : Int32 → Mem → Prop) (v1 : Int32) (s0 : Int32) (μ : Mem) : Prop := (vp_in (μ 0 0 0) 30 ∧ ∀ μ8 : Mem, μ8 = zst μ 8 0 ((μ 0 0 0).toNatClampNeg) (-1) → (w_X5_lays (fun (μ9 : Mem) => ((s0 = (-1) → ((v1 = (-1) → b_X5_shoot_125 post s0 μ9) ∧ (¬ v1 = (-1) → (w_X5_putsOff (fun (μ18 : Mem) => b_X5_shoot_125 post s0 μ18) v1 μ9)))) ∧ (¬ s0 = (-1) → (w_X5_serves (fun (r21 : Int32) (μ20 : Mem) => (∀ μ22 : Mem, μ22 = zst μ20 0 0 1 ((μ9 0 0 1) + r21) → (vp_in v1 10 ∧ (∀ μ24 : Mem, μ24 = zst μ22 0 0 2 (μ22 1 0 v1.toNatClampNeg) → (∀ μ25 : Mem, μ25 = zst μ24 3 0 v1.toNatClampNeg 1 → b_X5_shoot_125 post s0 μ25))))) v1 (μ9 0 0 2) μ9)))) μ8))
set_option maxRecDepth 100000 in
set_option maxHeartbeats 4000000 in
theorem t_X5_shoot_57 {p : Program} {l : Launch} {e : Env} {s : State} {m : MethodId} {args : Array Value} {below : List Frame} {meth : Method} {c : Code} {D : va_G} {ca : Nat → ClassId} {base : Nat} {ad : Nat → Nat → Nat} {n np : Nat} {post : Int32 → Mem → Prop} (hC : ZC p m meth c s RX5 cX5_shoot 3) (hr : meth.sig.returnType = (some FieldType.int)) (v1 : Int32) (s0 : Int32) (μ : Mem) (H : Heap) (locs : List Loc) (ls : Array Slot) (h : b_X5_shoot_57 post v1 s0 μ) (hZ : ZS D ca base ad n np μ s H locs) (hl : lv_has ls 3 [(0, .ref (ad 0 0)), (1, .int v1)]) : W p l e ({ frames := 2, cells := 0, slots := 0, locals := 49 } : Room) s m args below meth c H locs 0 0 (MQ below (ZQ D ca base ad n np (zpi post)) args s 0 0 (zB base)) (F0 m 57 ls [.int s0]) := by
  unfold b_X5_shoot_57 at h
  refine lv_istore_n (lv' := [(2, .int s0), (0, .ref (ad 0 0)), (1, .int v1)]) hC.1 hC.2.1 dX5_shoot_57 rfl hl (by decide) rfl (fun ls hl => ?_)
  refine lv_aload_n hC.1 hC.2.1 dX5_shoot_58 rfl (lv_at hl 1 rfl) ?_
  refine gX5_11 hC hZ kf_X5_35 dX5_shoot_59 ?_
  refine lv_aload_n hC.1 hC.2.1 dX5_shoot_62 rfl (lv_at hl 1 rfl) ?_
  refine gX5_0 hC hZ kf_X5_85 dX5_shoot_63 ?_
  refine lv_iconst (v := (-1)) hC.1 hC.2.1 dX5_shoot_66 (by decide) ?_
  obtain ⟨q7, h⟩ := h
  refine aS_8 hC hZ q7 dX5_shoot_67 (fun μ8 H locs eμ8 hZ => ?_)
  have h := h μ8 eμ8
  refine lv_aload_n hC.1 hC.2.1 dX5_shoot_68 rfl (lv_at hl 1 rfl) ?_
  refine z_cVv (As := []) hC hZ (zF_0 _) rfl zy_X5_lays (c_X5_lays l h) km_X5_98 rfl ⟨rfl, rfl⟩ ⟨Nat.le_of_ble_eq_true rfl, Nat.le_of_ble_eq_true rfl⟩ hl.1 rfl (Nat.le_of_ble_eq_true rfl) dX5_shoot_69 ⟨Nat.le_of_ble_eq_true rfl, Nat.le_of_ble_eq_true rfl⟩ (fun μ9 H locs h hZ => ?_)
  refine lv_iload_n hC.1 hC.2.1 dX5_shoot_72 rfl (lv_at hl 0 rfl) ?_
  refine lv_iconst (v := (-1)) hC.1 hC.2.1 dX5_shoot_73 (by decide) ?_
  refine lv_icmp_eq (tgt := 115) hC.1 hC.2.1 dX5_shoot_74 (by decide) (fun c11 => ?_) (fun c11 => ?_)
  · have h := h.1 c11
    refine lv_iload_n hC.1 hC.2.1 dX5_shoot_115 rfl (lv_at hl 2 rfl) ?_
    refine lv_iconst (v := (-1)) hC.1 hC.2.1 dX5_shoot_116 (by decide) ?_
    refine lv_icmp_eq (tgt := 125) hC.1 hC.2.1 dX5_shoot_117 (by decide) (fun c12 => ?_) (fun c12 => ?_)
    · have h := h.1 c12
      exact t_X5_shoot_125 (l := l) hC hr _ _ _ _ _ h hZ (lv_sub hl [1, 0] rfl)
    · have h := h.2 c12
      refine lv_aload_n hC.1 hC.2.1 dX5_shoot_120 rfl (lv_at hl 1 rfl) ?_
      refine lv_iload_n hC.1 hC.2.1 dX5_shoot_121 rfl (lv_at hl 2 rfl) ?_
      refine z_cVv (As := [.int v1]) hC hZ (zF_0 _) rfl zy_X5_putsOff (c_X5_putsOff l h) km_X5_165 rfl ⟨rfl, rfl⟩ ⟨Nat.le_of_ble_eq_true rfl, Nat.le_of_ble_eq_true rfl⟩ hl.1 rfl (Nat.le_of_ble_eq_true rfl) dX5_shoot_122 ⟨Nat.le_of_ble_eq_true rfl, Nat.le_of_ble_eq_true rfl⟩ (fun μ18 H locs h hZ => ?_)
      exact t_X5_shoot_125 (l := l) hC hr _ _ _ _ _ h hZ (lv_sub hl [1, 0] rfl)
  · have h := h.2 c11
    refine lv_aload_n hC.1 hC.2.1 dX5_shoot_77 rfl (lv_at hl 1 rfl) ?_
    refine lv_dup hC.1 hC.2.1 dX5_shoot_78 rfl ?_
    refine gX5_1 hC hZ kf_X5_159 dX5_shoot_79 ?_
    refine lv_aload_n hC.1 hC.2.1 dX5_shoot_82 rfl (lv_at hl 1 rfl) ?_
    refine lv_iload_n hC.1 hC.2.1 dX5_shoot_83 rfl (lv_at hl 2 rfl) ?_
    refine lv_aload_n hC.1 hC.2.1 dX5_shoot_84 rfl (lv_at hl 1 rfl) ?_
    refine gX5_2 hC hZ kf_X5_9 dX5_shoot_85 ?_
    refine z_cVi (As := [.int v1, .int (μ9 0 0 2)]) hC hZ (zF_0 _) rfl zy_X5_serves (c_X5_serves l h) km_X5_101 rfl ⟨rfl, rfl⟩ ⟨Nat.le_of_ble_eq_true rfl, Nat.le_of_ble_eq_true rfl⟩ hl.1 rfl (Nat.le_of_ble_eq_true rfl) dX5_shoot_88 ⟨Nat.le_of_ble_eq_true rfl, Nat.le_of_ble_eq_true rfl⟩ (fun r21 μ20 H locs h hZ => ?_)
    refine lv_iadd hC.1 hC.2.1 dX5_shoot_91 ?_
    refine pX5_1 hC hZ kf_X5_159 dX5_shoot_92 (fun μ22 H locs eμ22 hZ => ?_)
    have h := h μ22 eμ22
    refine lv_aload_n hC.1 hC.2.1 dX5_shoot_95 rfl (lv_at hl 1 rfl) ?_
    refine lv_aload_n hC.1 hC.2.1 dX5_shoot_96 rfl (lv_at hl 1 rfl) ?_
    refine gX5_4 hC hZ kf_X5_13 dX5_shoot_97 ?_
    refine lv_iload_n hC.1 hC.2.1 dX5_shoot_100 rfl (lv_at hl 2 rfl) ?_
    obtain ⟨q23, h⟩ := h
    refine aL_1 hC hZ q23 dX5_shoot_101 ?_
    refine pX5_2 hC hZ kf_X5_9 dX5_shoot_102 (fun μ24 H locs eμ24 hZ => ?_)
    have h := h μ24 eμ24
    refine lv_aload_n hC.1 hC.2.1 dX5_shoot_105 rfl (lv_at hl 1 rfl) ?_
    refine gX5_6 hC hZ kf_X5_20 dX5_shoot_106 ?_
    refine lv_iload_n hC.1 hC.2.1 dX5_shoot_109 rfl (lv_at hl 2 rfl) ?_
    refine lv_iconst (v := 1) hC.1 hC.2.1 dX5_shoot_110 (by decide) ?_
    refine aS_3 hC hZ q23 dX5_shoot_111 (fun μ25 H locs eμ25 hZ => ?_)
    have h := h μ25 eμ25
    refine lv_goto (tgt := 125) hC.1 hC.2.1 dX5_shoot_112 (by decide) ?_
    exact t_X5_shoot_125 (l := l) hC hr _ _ _ _ _ h hZ (lv_sub hl [1, 0] rfl)
def b_X5_shoot_56 (post : Int32 → Mem → Prop) (v1 : Int32) (μ : Mem) : Prop := b_X5_shoot_57 post v1 (-1 : Int32) μ
set_option maxRecDepth 100000 in
set_option maxHeartbeats 4000000 in
theorem t_X5_shoot_56 {p : Program} {l : Launch} {e : Env} {s : State} {m : MethodId} {args : Array Value} {below : List Frame} {meth : Method} {c : Code} {D : va_G} {ca : Nat → ClassId} {base : Nat} {ad : Nat → Nat → Nat} {n np : Nat} {post : Int32 → Mem → Prop} (hC : ZC p m meth c s RX5 cX5_shoot 3) (hr : meth.sig.returnType = (some FieldType.int)) (v1 : Int32) (μ : Mem) (H : Heap) (locs : List Loc) (ls : Array Slot) (h : b_X5_shoot_56 post v1 μ) (hZ : ZS D ca base ad n np μ s H locs) (hl : lv_has ls 3 [(0, .ref (ad 0 0)), (1, .int v1)]) : W p l e ({ frames := 2, cells := 0, slots := 0, locals := 49 } : Room) s m args below meth c H locs 0 0 (MQ below (ZQ D ca base ad n np (zpi post)) args s 0 0 (zB base)) (F0 m 56 ls []) := by
  unfold b_X5_shoot_56 at h
  refine lv_iconst (v := (-1)) hC.1 hC.2.1 dX5_shoot_56 (by decide) ?_
  exact t_X5_shoot_57 (l := l) hC hr _ _ _ _ _ _ h hZ (lv_sub hl [0, 1] rfl)
def b_X5_shoot_15 (post : Int32 → Mem → Prop) (s1 : Int32) (μ : Mem) : Prop := (w_X5_goes (fun (r3 : Int32) (μ2 : Mem) => ((¬ r3 = 0 → (vp_in (μ2 0 0 0) 30 ∧ (((μ2 8 0 (μ2 0 0 0).toNatClampNeg) = (-1) → b_X5_shoot_56 post (μ2 8 0 (μ2 0 0 0).toNatClampNeg) μ2) ∧ (¬ (μ2 8 0 (μ2 0 0 0).toNatClampNeg) = (-1) → (w_X5_allows (fun (r27 : Int32) (μ26 : Mem) => ((r27 = 0 → b_X5_shoot_56 post (μ2 8 0 (μ2 0 0 0).toNatClampNeg) μ26) ∧ (¬ r27 = 0 → b_X5_shoot_57 post (μ2 8 0 (μ2 0 0 0).toNatClampNeg) (μ2 8 0 (μ2 0 0 0).toNatClampNeg) μ26))) (μ2 8 0 (μ2 0 0 0).toNatClampNeg) (μ2 0 0 0) μ2))))) ∧ (r3 = 0 → post 0 μ2))) s1 (1 : Int32) (1 : Int32) μ)
set_option maxRecDepth 100000 in
set_option maxHeartbeats 4000000 in
theorem t_X5_shoot_15 {p : Program} {l : Launch} {e : Env} {s : State} {m : MethodId} {args : Array Value} {below : List Frame} {meth : Method} {c : Code} {D : va_G} {ca : Nat → ClassId} {base : Nat} {ad : Nat → Nat → Nat} {n np : Nat} {post : Int32 → Mem → Prop} (hC : ZC p m meth c s RX5 cX5_shoot 3) (hr : meth.sig.returnType = (some FieldType.int)) (s1 : Int32) (μ : Mem) (H : Heap) (locs : List Loc) (ls : Array Slot) (h : b_X5_shoot_15 post s1 μ) (hZ : ZS D ca base ad n np μ s H locs) (hl : lv_has ls 3 [(0, .ref (ad 0 0))]) : W p l e ({ frames := 2, cells := 0, slots := 0, locals := 49 } : Room) s m args below meth c H locs 0 0 (MQ below (ZQ D ca base ad n np (zpi post)) args s 0 0 (zB base)) (F0 m 15 ls [.int s1, .ref (ad 0 0)]) := by
  unfold b_X5_shoot_15 at h
  refine lv_iconst (v := 1) hC.1 hC.2.1 dX5_shoot_15 (by decide) ?_
  refine lv_iconst (v := 1) hC.1 hC.2.1 dX5_shoot_16 (by decide) ?_
  refine z_cVi (As := [.int s1, .int 1, .int 1]) hC hZ (zF_0 _) rfl zy_X5_goes (c_X5_goes l h) km_X5_115 rfl ⟨rfl, rfl⟩ ⟨Nat.le_of_ble_eq_true rfl, Nat.le_of_ble_eq_true rfl⟩ hl.1 rfl (Nat.le_of_ble_eq_true rfl) dX5_shoot_17 ⟨Nat.le_of_ble_eq_true rfl, Nat.le_of_ble_eq_true rfl⟩ (fun r3 μ2 H locs h hZ => ?_)
  refine lv_if_ne (tgt := 25) hC.1 hC.2.1 dX5_shoot_20 (by decide) (fun c4 => ?_) (fun c4 => ?_)
  · have h := h.1 c4
    refine lv_aload_n hC.1 hC.2.1 dX5_shoot_25 rfl (lv_at hl 0 rfl) ?_
    refine gX5_11 hC hZ kf_X5_35 dX5_shoot_26 ?_
    refine lv_aload_n hC.1 hC.2.1 dX5_shoot_29 rfl (lv_at hl 0 rfl) ?_
    refine gX5_0 hC hZ kf_X5_85 dX5_shoot_30 ?_
    obtain ⟨q5, h⟩ := h
    refine aL_8 hC hZ q5 dX5_shoot_33 ?_
    refine lv_istore_n (lv' := [(1, .int (μ2 8 0 (μ2 0 0 0).toNatClampNeg)), (0, .ref (ad 0 0))]) hC.1 hC.2.1 dX5_shoot_34 rfl hl (by decide) rfl (fun ls hl => ?_)
    refine lv_iload_n hC.1 hC.2.1 dX5_shoot_35 rfl (lv_at hl 0 rfl) ?_
    refine lv_iconst (v := (-1)) hC.1 hC.2.1 dX5_shoot_36 (by decide) ?_
    refine lv_icmp_eq (tgt := 56) hC.1 hC.2.1 dX5_shoot_37 (by decide) (fun c6 => ?_) (fun c6 => ?_)
    · have h := h.1 c6
      exact t_X5_shoot_56 (l := l) hC hr _ _ _ _ _ h hZ (lv_sub hl [1, 0] rfl)
    · have h := h.2 c6
      refine lv_aload_n hC.1 hC.2.1 dX5_shoot_40 rfl (lv_at hl 1 rfl) ?_
      refine lv_iload_n hC.1 hC.2.1 dX5_shoot_41 rfl (lv_at hl 0 rfl) ?_
      refine lv_aload_n hC.1 hC.2.1 dX5_shoot_42 rfl (lv_at hl 1 rfl) ?_
      refine gX5_0 hC hZ kf_X5_85 dX5_shoot_43 ?_
      refine z_cVi (As := [.int (μ2 8 0 (μ2 0 0 0).toNatClampNeg), .int (μ2 0 0 0)]) hC hZ (zF_0 _) rfl zy_X5_allows (c_X5_allows l h) km_X5_104 rfl ⟨rfl, rfl⟩ ⟨Nat.le_of_ble_eq_true rfl, Nat.le_of_ble_eq_true rfl⟩ hl.1 rfl (Nat.le_of_ble_eq_true rfl) dX5_shoot_46 ⟨Nat.le_of_ble_eq_true rfl, Nat.le_of_ble_eq_true rfl⟩ (fun r27 μ26 H locs h hZ => ?_)
      refine lv_if_eq (tgt := 56) hC.1 hC.2.1 dX5_shoot_49 (by decide) (fun c28 => ?_) (fun c28 => ?_)
      · have h := h.1 c28
        exact t_X5_shoot_56 (l := l) hC hr _ _ _ _ _ h hZ (lv_sub hl [1, 0] rfl)
      · have h := h.2 c28
        refine lv_iload_n hC.1 hC.2.1 dX5_shoot_52 rfl (lv_at hl 0 rfl) ?_
        refine lv_goto (tgt := 57) hC.1 hC.2.1 dX5_shoot_53 (by decide) ?_
        exact t_X5_shoot_57 (l := l) hC hr _ _ _ _ _ _ h hZ (lv_sub hl [1, 0] rfl)
  · have h := h.2 c4
    refine lv_iconst (v := 0) hC.1 hC.2.1 dX5_shoot_23 (by decide) ?_
    exact z_iret hC hr hZ h dX5_shoot_24 (Nat.le_of_ble_eq_true rfl) (Nat.le_of_ble_eq_true rfl)
def w_X5_shoot (post : Int32 → Mem → Prop) (μ : Mem) : Prop := ((30 ≤ (μ 0 0 0) → b_X5_shoot_15 post (0 : Int32) μ) ∧ (¬ 30 ≤ (μ 0 0 0) → b_X5_shoot_15 post (1 : Int32) μ))
set_option maxRecDepth 100000 in
set_option maxHeartbeats 4000000 in
theorem c_X5_shoot (l : Launch) {D : va_G} {ca : Nat → ClassId} {base : Nat} {ad : Nat → Nat → Nat} {n np : Nat} {μ : Mem} {post : Int32 → Mem → Prop} (h : w_X5_shoot post μ) : ZMet l yX5_shoot cX5_shoot 3 (some FieldType.int) ({ frames := 2, cells := 0, slots := 0, locals := 49 } : Room) 0 0 D ca base ad n np [.ref (ad 0 0)] μ (zpi post) := by
  unfold ZMet
  refine Met.ofW (cc := cX5_shoot) (maxL := 3) (ret := (some FieldType.int)) (by decide) rfl ?_
  intro p e s m args below meth c s₁ B hml hv
  obtain ⟨rfl, hU⟩ := hv
  have hZ := hU.toS
  have hC : ZC p m meth c s RX5 cX5_shoot 3 := ⟨B.exec, B.bytes, hml, findClass_of_methodNamed B.named, B.notSynchronized⟩
  have hr := B.returns
  have key : W p l e ({ frames := 2, cells := 0, slots := 0, locals := 49 } : Room) s m (([.ref (ad 0 0)] : List Value).toArray) below meth c s.heap [] 0 0 (MQ below (ZQ D ca base ad n np (zpi post)) (([.ref (ad 0 0)] : List Value).toArray) s 0 0 (zB base)) (entryFrame m (([.ref (ad 0 0)] : List Value).toArray) 3) := by
    have hl := lv_entry ([.ref (ad 0 0)]) (n := 3) (Nat.le_of_ble_eq_true rfl)
    rw [lg_entry_eq]
    generalize (lg_sl ([.ref (ad 0 0)]) ++ List.replicate (3 - (lg_sl ([.ref (ad 0 0)])).length) Slot.unset).toArray = ls at hl ⊢
    have hl : lv_has ls 3 [(0, .ref (ad 0 0))] := hl
    unfold w_X5_shoot at h
    refine lv_aload_n hC.1 hC.2.1 dX5_shoot_0 rfl (lv_at hl 0 rfl) ?_
    refine lv_aload_n hC.1 hC.2.1 dX5_shoot_1 rfl (lv_at hl 0 rfl) ?_
    refine gX5_0 hC hZ kf_X5_85 dX5_shoot_2 ?_
    refine lv_bipush (v := 30) hC.1 hC.2.1 dX5_shoot_5 (by decide) ?_
    refine lv_icmp_ge (tgt := 14) hC.1 hC.2.1 dX5_shoot_7 (by decide) (fun c1 => ?_) (fun c1 => ?_)
    · have h := h.1 c1
      refine lv_iconst (v := 0) hC.1 hC.2.1 dX5_shoot_14 (by decide) ?_
      exact t_X5_shoot_15 (l := l) hC hr _ _ _ _ _ h hZ (lv_sub hl [0] rfl)
    · have h := h.2 c1
      refine lv_iconst (v := 1) hC.1 hC.2.1 dX5_shoot_10 (by decide) ?_
      refine lv_goto (tgt := 15) hC.1 hC.2.1 dX5_shoot_11 (by decide) ?_
      exact t_X5_shoot_15 (l := l) hC hr _ _ _ _ _ h hZ (lv_sub hl [0] rfl)
  exact key
def w_X5_isRefused (post : Int32 → Mem → Prop) (a1 : Int32) (μ : Mem) : Prop := (vp_in a1 30 ∧ (((μ 8 0 a1.toNatClampNeg) = (-1) → post 0 μ) ∧ (¬ (μ 8 0 a1.toNatClampNeg) = (-1) → (w_X5_allows (fun (r4 : Int32) (μ3 : Mem) => ((¬ r4 = 0 → post 0 μ3) ∧ (r4 = 0 → post 1 μ3))) (μ 8 0 a1.toNatClampNeg) a1 μ))))
set_option maxRecDepth 100000 in
set_option maxHeartbeats 4000000 in
theorem c_X5_isRefused (l : Launch) {D : va_G} {ca : Nat → ClassId} {base : Nat} {ad : Nat → Nat → Nat} {n np : Nat} {μ : Mem} {post : Int32 → Mem → Prop} {a1 : Int32} (h : w_X5_isRefused post a1 μ) : ZMet l yX5_isRefused cX5_isRefused 2 (some FieldType.boolean) ({ frames := 2, cells := 0, slots := 0, locals := 46 } : Room) 0 0 D ca base ad n np [.ref (ad 0 0), .int a1] μ (zpi post) := by
  unfold ZMet
  refine Met.ofW (cc := cX5_isRefused) (maxL := 2) (ret := (some FieldType.boolean)) (by decide) rfl ?_
  intro p e s m args below meth c s₁ B hml hv
  obtain ⟨rfl, hU⟩ := hv
  have hZ := hU.toS
  have hC : ZC p m meth c s RX5 cX5_isRefused 2 := ⟨B.exec, B.bytes, hml, findClass_of_methodNamed B.named, B.notSynchronized⟩
  have hr := B.returns
  have key : W p l e ({ frames := 2, cells := 0, slots := 0, locals := 46 } : Room) s m (([.ref (ad 0 0), .int a1] : List Value).toArray) below meth c s.heap [] 0 0 (MQ below (ZQ D ca base ad n np (zpi post)) (([.ref (ad 0 0), .int a1] : List Value).toArray) s 0 0 (zB base)) (entryFrame m (([.ref (ad 0 0), .int a1] : List Value).toArray) 2) := by
    have hl := lv_entry ([.ref (ad 0 0), .int a1]) (n := 2) (Nat.le_of_ble_eq_true rfl)
    rw [lg_entry_eq]
    generalize (lg_sl ([.ref (ad 0 0), .int a1]) ++ List.replicate (2 - (lg_sl ([.ref (ad 0 0), .int a1])).length) Slot.unset).toArray = ls at hl ⊢
    have hl : lv_has ls 2 [(0, .ref (ad 0 0)), (1, .int a1)] := hl
    unfold w_X5_isRefused at h
    refine lv_aload_n hC.1 hC.2.1 dX5_isRefused_0 rfl (lv_at hl 0 rfl) ?_
    refine gX5_11 hC hZ kf_X5_35 dX5_isRefused_1 ?_
    refine lv_iload_n hC.1 hC.2.1 dX5_isRefused_4 rfl (lv_at hl 1 rfl) ?_
    obtain ⟨q1, h⟩ := h
    refine aL_8 hC hZ q1 dX5_isRefused_5 ?_
    refine lv_iconst (v := (-1)) hC.1 hC.2.1 dX5_isRefused_6 (by decide) ?_
    refine lv_icmp_eq (tgt := 28) hC.1 hC.2.1 dX5_isRefused_7 (by decide) (fun c2 => ?_) (fun c2 => ?_)
    · have h := h.1 c2
      refine lv_iconst (v := 0) hC.1 hC.2.1 dX5_isRefused_28 (by decide) ?_
      exact z_bret hC hr hZ (by decide) h dX5_isRefused_29 (Nat.le_of_ble_eq_true rfl) (Nat.le_of_ble_eq_true rfl)
    · have h := h.2 c2
      refine lv_aload_n hC.1 hC.2.1 dX5_isRefused_10 rfl (lv_at hl 0 rfl) ?_
      refine lv_aload_n hC.1 hC.2.1 dX5_isRefused_11 rfl (lv_at hl 0 rfl) ?_
      refine gX5_11 hC hZ kf_X5_35 dX5_isRefused_12 ?_
      refine lv_iload_n hC.1 hC.2.1 dX5_isRefused_15 rfl (lv_at hl 1 rfl) ?_
      refine aL_8 hC hZ q1 dX5_isRefused_16 ?_
      refine lv_iload_n hC.1 hC.2.1 dX5_isRefused_17 rfl (lv_at hl 1 rfl) ?_
      refine z_cVi (As := [.int (μ 8 0 a1.toNatClampNeg), .int a1]) hC hZ (zF_0 _) rfl zy_X5_allows (c_X5_allows l h) km_X5_104 rfl ⟨rfl, rfl⟩ ⟨Nat.le_of_ble_eq_true rfl, Nat.le_of_ble_eq_true rfl⟩ hl.1 rfl (Nat.le_of_ble_eq_true rfl) dX5_isRefused_18 ⟨Nat.le_of_ble_eq_true rfl, Nat.le_of_ble_eq_true rfl⟩ (fun r4 μ3 H locs h hZ => ?_)
      refine lv_if_ne (tgt := 28) hC.1 hC.2.1 dX5_isRefused_21 (by decide) (fun c5 => ?_) (fun c5 => ?_)
      · have h := h.1 c5
        refine lv_iconst (v := 0) hC.1 hC.2.1 dX5_isRefused_28 (by decide) ?_
        exact z_bret hC hr hZ (by decide) h dX5_isRefused_29 (Nat.le_of_ble_eq_true rfl) (Nat.le_of_ble_eq_true rfl)
      · have h := h.2 c5
        refine lv_iconst (v := 1) hC.1 hC.2.1 dX5_isRefused_24 (by decide) ?_
        refine lv_goto (tgt := 29) hC.1 hC.2.1 dX5_isRefused_25 (by decide) ?_
        exact z_bret hC hr hZ (by decide) h dX5_isRefused_29 (Nat.le_of_ble_eq_true rfl) (Nat.le_of_ble_eq_true rfl)
  exact key
def b_X5_bestFor_102 (post : Int32 → Mem → Prop) (k10 : Int32 → Int32 → Int32 → Mem → Prop) (a1 : Int32) (v2 : Int32) (v3 : Int32) (v4 : Int32) (μ : Mem) : Prop := k10 v2 v3 (v4 + 1) μ
set_option maxRecDepth 100000 in
set_option maxHeartbeats 4000000 in
theorem t_X5_bestFor_102 {p : Program} {l : Launch} {e : Env} {s : State} {m : MethodId} {args : Array Value} {below : List Frame} {meth : Method} {c : Code} {D : va_G} {ca : Nat → ClassId} {base : Nat} {ad : Nat → Nat → Nat} {n np : Nat} {post : Int32 → Mem → Prop} {k10 : Int32 → Int32 → Int32 → Mem → Prop} (hC : ZC p m meth c s RX5 cX5_bestFor 7) (hr : meth.sig.returnType = (some FieldType.int)) (a1 : Int32) (hk10 : ∀ (v2 : Int32) (v3 : Int32) (v4 : Int32) (μ : Mem) (H : Heap) (locs : List Loc) (ls : Array Slot), k10 v2 v3 v4 μ → ZS D ca base ad n np μ s H locs → lv_has ls 7 [(0, .ref (ad 0 0)), (1, .int a1), (2, .int v2), (3, .int v3), (4, .int v4)] → W p l e ({ frames := 3, cells := 0, slots := 0, locals := 73 } : Room) s m args below meth c H locs 0 0 (MQ below (ZQ D ca base ad n np (zpi post)) args s 0 0 (zB base)) (F0 m 10 ls [])) (v2 : Int32) (v3 : Int32) (v4 : Int32) (μ : Mem) (H : Heap) (locs : List Loc) (ls : Array Slot) (h : b_X5_bestFor_102 post k10 a1 v2 v3 v4 μ) (hZ : ZS D ca base ad n np μ s H locs) (hl : lv_has ls 7 [(0, .ref (ad 0 0)), (1, .int a1), (2, .int v2), (3, .int v3), (4, .int v4)]) : W p l e ({ frames := 3, cells := 0, slots := 0, locals := 73 } : Room) s m args below meth c H locs 0 0 (MQ below (ZQ D ca base ad n np (zpi post)) args s 0 0 (zB base)) (F0 m 102 ls []) := by
  unfold b_X5_bestFor_102 at h
  refine lv_iinc (v := v4 + 1) (lv' := [(4, .int (v4 + 1)), (0, .ref (ad 0 0)), (1, .int a1), (2, .int v2), (3, .int v3)]) hC.1 hC.2.1 dX5_bestFor_102 hl (k := 4) rfl rfl (by decide) rfl (fun ls hl => ?_)
  refine lv_goto (tgt := 10) hC.1 hC.2.1 dX5_bestFor_105 (by decide) ?_
  exact hk10 _ _ _ _ _ _ _ h hZ (lv_sub hl [1, 2, 3, 4, 0] rfl)
def b_X5_bestFor_94 (post : Int32 → Mem → Prop) (k10 : Int32 → Int32 → Int32 → Mem → Prop) (a1 : Int32) (v2 : Int32) (v4 : Int32) (s0 : Int32) (μ : Mem) : Prop := (w_X5_swaps (fun (μ12 : Mem) => b_X5_bestFor_102 post k10 a1 v2 s0 v4 μ12) a1 v4 μ)
set_option maxRecDepth 100000 in
set_option maxHeartbeats 4000000 in
theorem t_X5_bestFor_94 {p : Program} {l : Launch} {e : Env} {s : State} {m : MethodId} {args : Array Value} {below : List Frame} {meth : Method} {c : Code} {D : va_G} {ca : Nat → ClassId} {base : Nat} {ad : Nat → Nat → Nat} {n np : Nat} {post : Int32 → Mem → Prop} {k10 : Int32 → Int32 → Int32 → Mem → Prop} (hC : ZC p m meth c s RX5 cX5_bestFor 7) (hr : meth.sig.returnType = (some FieldType.int)) (a1 : Int32) (hk10 : ∀ (v2 : Int32) (v3 : Int32) (v4 : Int32) (μ : Mem) (H : Heap) (locs : List Loc) (ls : Array Slot), k10 v2 v3 v4 μ → ZS D ca base ad n np μ s H locs → lv_has ls 7 [(0, .ref (ad 0 0)), (1, .int a1), (2, .int v2), (3, .int v3), (4, .int v4)] → W p l e ({ frames := 3, cells := 0, slots := 0, locals := 73 } : Room) s m args below meth c H locs 0 0 (MQ below (ZQ D ca base ad n np (zpi post)) args s 0 0 (zB base)) (F0 m 10 ls [])) (v2 : Int32) (v4 : Int32) (s0 : Int32) (μ : Mem) (H : Heap) (locs : List Loc) (ls : Array Slot) (h : b_X5_bestFor_94 post k10 a1 v2 v4 s0 μ) (hZ : ZS D ca base ad n np μ s H locs) (hl : lv_has ls 7 [(0, .ref (ad 0 0)), (1, .int a1), (2, .int v2), (4, .int v4)]) : W p l e ({ frames := 3, cells := 0, slots := 0, locals := 73 } : Room) s m args below meth c H locs 0 0 (MQ below (ZQ D ca base ad n np (zpi post)) args s 0 0 (zB base)) (F0 m 94 ls [.int s0]) := by
  unfold b_X5_bestFor_94 at h
  refine lv_istore_n (lv' := [(3, .int s0), (0, .ref (ad 0 0)), (1, .int a1), (2, .int v2), (4, .int v4)]) hC.1 hC.2.1 dX5_bestFor_94 rfl hl (by decide) rfl (fun ls hl => ?_)
  refine lv_aload_n hC.1 hC.2.1 dX5_bestFor_95 rfl (lv_at hl 1 rfl) ?_
  refine lv_iload_n hC.1 hC.2.1 dX5_bestFor_96 rfl (lv_at hl 2 rfl) ?_
  refine lv_iload hC.1 hC.2.1 dX5_bestFor_97 (lv_at hl 4 rfl) ?_
  refine z_cVv (As := [.int a1, .int v4]) hC hZ (zF_0 _) rfl zy_X5_swaps (c_X5_swaps l h) km_X5_143 rfl ⟨rfl, rfl⟩ ⟨Nat.le_of_ble_eq_true rfl, Nat.le_of_ble_eq_true rfl⟩ hl.1 rfl (Nat.le_of_ble_eq_true rfl) dX5_bestFor_99 ⟨Nat.le_of_ble_eq_true rfl, Nat.le_of_ble_eq_true rfl⟩ (fun μ12 H locs h hZ => ?_)
  exact t_X5_bestFor_102 (l := l) hC hr _ hk10 _ _ _ _ _ _ _ h hZ (lv_sub hl [1, 2, 3, 0, 4] rfl)
def b_X5_bestFor_82 (post : Int32 → Mem → Prop) (k10 : Int32 → Int32 → Int32 → Mem → Prop) (a1 : Int32) (v3 : Int32) (v4 : Int32) (v5 : Int32) (v6 : Int32) (s0 : Int32) (μ : Mem) : Prop := ((v6 = 0 → b_X5_bestFor_94 post k10 a1 s0 v4 v3 μ) ∧ (¬ v6 = 0 → b_X5_bestFor_94 post k10 a1 s0 v4 v5 μ))
set_option maxRecDepth 100000 in
set_option maxHeartbeats 4000000 in
theorem t_X5_bestFor_82 {p : Program} {l : Launch} {e : Env} {s : State} {m : MethodId} {args : Array Value} {below : List Frame} {meth : Method} {c : Code} {D : va_G} {ca : Nat → ClassId} {base : Nat} {ad : Nat → Nat → Nat} {n np : Nat} {post : Int32 → Mem → Prop} {k10 : Int32 → Int32 → Int32 → Mem → Prop} (hC : ZC p m meth c s RX5 cX5_bestFor 7) (hr : meth.sig.returnType = (some FieldType.int)) (a1 : Int32) (hk10 : ∀ (v2 : Int32) (v3 : Int32) (v4 : Int32) (μ : Mem) (H : Heap) (locs : List Loc) (ls : Array Slot), k10 v2 v3 v4 μ → ZS D ca base ad n np μ s H locs → lv_has ls 7 [(0, .ref (ad 0 0)), (1, .int a1), (2, .int v2), (3, .int v3), (4, .int v4)] → W p l e ({ frames := 3, cells := 0, slots := 0, locals := 73 } : Room) s m args below meth c H locs 0 0 (MQ below (ZQ D ca base ad n np (zpi post)) args s 0 0 (zB base)) (F0 m 10 ls [])) (v3 : Int32) (v4 : Int32) (v5 : Int32) (v6 : Int32) (s0 : Int32) (μ : Mem) (H : Heap) (locs : List Loc) (ls : Array Slot) (h : b_X5_bestFor_82 post k10 a1 v3 v4 v5 v6 s0 μ) (hZ : ZS D ca base ad n np μ s H locs) (hl : lv_has ls 7 [(0, .ref (ad 0 0)), (1, .int a1), (3, .int v3), (4, .int v4), (5, .int v5), (6, .int v6)]) : W p l e ({ frames := 3, cells := 0, slots := 0, locals := 73 } : Room) s m args below meth c H locs 0 0 (MQ below (ZQ D ca base ad n np (zpi post)) args s 0 0 (zB base)) (F0 m 82 ls [.int s0]) := by
  unfold b_X5_bestFor_82 at h
  refine lv_istore_n (lv' := [(2, .int s0), (0, .ref (ad 0 0)), (1, .int a1), (3, .int v3), (4, .int v4), (5, .int v5), (6, .int v6)]) hC.1 hC.2.1 dX5_bestFor_82 rfl hl (by decide) rfl (fun ls hl => ?_)
  refine lv_iload hC.1 hC.2.1 dX5_bestFor_83 (lv_at hl 6 rfl) ?_
  refine lv_if_eq (tgt := 93) hC.1 hC.2.1 dX5_bestFor_85 (by decide) (fun c11 => ?_) (fun c11 => ?_)
  · have h := h.1 c11
    refine lv_iload_n hC.1 hC.2.1 dX5_bestFor_93 rfl (lv_at hl 3 rfl) ?_
    exact t_X5_bestFor_94 (l := l) hC hr _ hk10 _ _ _ _ _ _ _ h hZ (lv_sub hl [1, 2, 0, 4] rfl)
  · have h := h.2 c11
    refine lv_iload hC.1 hC.2.1 dX5_bestFor_88 (lv_at hl 5 rfl) ?_
    refine lv_goto (tgt := 94) hC.1 hC.2.1 dX5_bestFor_90 (by decide) ?_
    exact t_X5_bestFor_94 (l := l) hC hr _ hk10 _ _ _ _ _ _ _ h hZ (lv_sub hl [1, 2, 0, 4] rfl)
def b_X5_bestFor_69 (post : Int32 → Mem → Prop) (k10 : Int32 → Int32 → Int32 → Mem → Prop) (a1 : Int32) (v2 : Int32) (v3 : Int32) (v4 : Int32) (v5 : Int32) (s0 : Int32) (μ : Mem) : Prop := ((s0 = 0 → b_X5_bestFor_82 post k10 a1 v3 v4 v5 s0 v2 μ) ∧ (¬ s0 = 0 → b_X5_bestFor_82 post k10 a1 v3 v4 v5 s0 v4 μ))
set_option maxRecDepth 100000 in
set_option maxHeartbeats 4000000 in
theorem t_X5_bestFor_69 {p : Program} {l : Launch} {e : Env} {s : State} {m : MethodId} {args : Array Value} {below : List Frame} {meth : Method} {c : Code} {D : va_G} {ca : Nat → ClassId} {base : Nat} {ad : Nat → Nat → Nat} {n np : Nat} {post : Int32 → Mem → Prop} {k10 : Int32 → Int32 → Int32 → Mem → Prop} (hC : ZC p m meth c s RX5 cX5_bestFor 7) (hr : meth.sig.returnType = (some FieldType.int)) (a1 : Int32) (hk10 : ∀ (v2 : Int32) (v3 : Int32) (v4 : Int32) (μ : Mem) (H : Heap) (locs : List Loc) (ls : Array Slot), k10 v2 v3 v4 μ → ZS D ca base ad n np μ s H locs → lv_has ls 7 [(0, .ref (ad 0 0)), (1, .int a1), (2, .int v2), (3, .int v3), (4, .int v4)] → W p l e ({ frames := 3, cells := 0, slots := 0, locals := 73 } : Room) s m args below meth c H locs 0 0 (MQ below (ZQ D ca base ad n np (zpi post)) args s 0 0 (zB base)) (F0 m 10 ls [])) (v2 : Int32) (v3 : Int32) (v4 : Int32) (v5 : Int32) (s0 : Int32) (μ : Mem) (H : Heap) (locs : List Loc) (ls : Array Slot) (h : b_X5_bestFor_69 post k10 a1 v2 v3 v4 v5 s0 μ) (hZ : ZS D ca base ad n np μ s H locs) (hl : lv_has ls 7 [(0, .ref (ad 0 0)), (1, .int a1), (2, .int v2), (3, .int v3), (4, .int v4), (5, .int v5)]) : W p l e ({ frames := 3, cells := 0, slots := 0, locals := 73 } : Room) s m args below meth c H locs 0 0 (MQ below (ZQ D ca base ad n np (zpi post)) args s 0 0 (zB base)) (F0 m 69 ls [.int s0]) := by
  unfold b_X5_bestFor_69 at h
  refine lv_istore (lv' := [(6, .int s0), (0, .ref (ad 0 0)), (1, .int a1), (2, .int v2), (3, .int v3), (4, .int v4), (5, .int v5)]) hC.1 hC.2.1 dX5_bestFor_69 hl (by decide) rfl (fun ls hl => ?_)
  refine lv_iload hC.1 hC.2.1 dX5_bestFor_71 (lv_at hl 0 rfl) ?_
  refine lv_if_eq (tgt := 81) hC.1 hC.2.1 dX5_bestFor_73 (by decide) (fun c10 => ?_) (fun c10 => ?_)
  · have h := h.1 c10
    refine lv_iload_n hC.1 hC.2.1 dX5_bestFor_81 rfl (lv_at hl 3 rfl) ?_
    exact t_X5_bestFor_82 (l := l) hC hr _ hk10 _ _ _ _ _ _ _ _ _ h hZ (lv_sub hl [1, 2, 4, 5, 6, 0] rfl)
  · have h := h.2 c10
    refine lv_iload hC.1 hC.2.1 dX5_bestFor_76 (lv_at hl 5 rfl) ?_
    refine lv_goto (tgt := 82) hC.1 hC.2.1 dX5_bestFor_78 (by decide) ?_
    exact t_X5_bestFor_82 (l := l) hC hr _ hk10 _ _ _ _ _ _ _ _ _ h hZ (lv_sub hl [1, 2, 4, 5, 6, 0] rfl)
def b_X5_bestFor_68 (post : Int32 → Mem → Prop) (k10 : Int32 → Int32 → Int32 → Mem → Prop) (a1 : Int32) (v2 : Int32) (v3 : Int32) (v4 : Int32) (v5 : Int32) (μ : Mem) : Prop := b_X5_bestFor_69 post k10 a1 v2 v3 v4 v5 (0 : Int32) μ
set_option maxRecDepth 100000 in
set_option maxHeartbeats 4000000 in
theorem t_X5_bestFor_68 {p : Program} {l : Launch} {e : Env} {s : State} {m : MethodId} {args : Array Value} {below : List Frame} {meth : Method} {c : Code} {D : va_G} {ca : Nat → ClassId} {base : Nat} {ad : Nat → Nat → Nat} {n np : Nat} {post : Int32 → Mem → Prop} {k10 : Int32 → Int32 → Int32 → Mem → Prop} (hC : ZC p m meth c s RX5 cX5_bestFor 7) (hr : meth.sig.returnType = (some FieldType.int)) (a1 : Int32) (hk10 : ∀ (v2 : Int32) (v3 : Int32) (v4 : Int32) (μ : Mem) (H : Heap) (locs : List Loc) (ls : Array Slot), k10 v2 v3 v4 μ → ZS D ca base ad n np μ s H locs → lv_has ls 7 [(0, .ref (ad 0 0)), (1, .int a1), (2, .int v2), (3, .int v3), (4, .int v4)] → W p l e ({ frames := 3, cells := 0, slots := 0, locals := 73 } : Room) s m args below meth c H locs 0 0 (MQ below (ZQ D ca base ad n np (zpi post)) args s 0 0 (zB base)) (F0 m 10 ls [])) (v2 : Int32) (v3 : Int32) (v4 : Int32) (v5 : Int32) (μ : Mem) (H : Heap) (locs : List Loc) (ls : Array Slot) (h : b_X5_bestFor_68 post k10 a1 v2 v3 v4 v5 μ) (hZ : ZS D ca base ad n np μ s H locs) (hl : lv_has ls 7 [(0, .ref (ad 0 0)), (1, .int a1), (2, .int v2), (3, .int v3), (4, .int v4), (5, .int v5)]) : W p l e ({ frames := 3, cells := 0, slots := 0, locals := 73 } : Room) s m args below meth c H locs 0 0 (MQ below (ZQ D ca base ad n np (zpi post)) args s 0 0 (zB base)) (F0 m 68 ls []) := by
  unfold b_X5_bestFor_68 at h
  refine lv_iconst (v := 0) hC.1 hC.2.1 dX5_bestFor_68 (by decide) ?_
  exact t_X5_bestFor_69 (l := l) hC hr _ hk10 _ _ _ _ _ _ _ _ _ h hZ (lv_sub hl [0, 1, 2, 3, 4, 5] rfl)
def b_X5_bestFor_64 (post : Int32 → Mem → Prop) (k10 : Int32 → Int32 → Int32 → Mem → Prop) (a1 : Int32) (v2 : Int32) (v3 : Int32) (v4 : Int32) (v5 : Int32) (μ : Mem) : Prop := b_X5_bestFor_69 post k10 a1 v2 v3 v4 v5 (1 : Int32) μ
set_option maxRecDepth 100000 in
set_option maxHeartbeats 4000000 in
theorem t_X5_bestFor_64 {p : Program} {l : Launch} {e : Env} {s : State} {m : MethodId} {args : Array Value} {below : List Frame} {meth : Method} {c : Code} {D : va_G} {ca : Nat → ClassId} {base : Nat} {ad : Nat → Nat → Nat} {n np : Nat} {post : Int32 → Mem → Prop} {k10 : Int32 → Int32 → Int32 → Mem → Prop} (hC : ZC p m meth c s RX5 cX5_bestFor 7) (hr : meth.sig.returnType = (some FieldType.int)) (a1 : Int32) (hk10 : ∀ (v2 : Int32) (v3 : Int32) (v4 : Int32) (μ : Mem) (H : Heap) (locs : List Loc) (ls : Array Slot), k10 v2 v3 v4 μ → ZS D ca base ad n np μ s H locs → lv_has ls 7 [(0, .ref (ad 0 0)), (1, .int a1), (2, .int v2), (3, .int v3), (4, .int v4)] → W p l e ({ frames := 3, cells := 0, slots := 0, locals := 73 } : Room) s m args below meth c H locs 0 0 (MQ below (ZQ D ca base ad n np (zpi post)) args s 0 0 (zB base)) (F0 m 10 ls [])) (v2 : Int32) (v3 : Int32) (v4 : Int32) (v5 : Int32) (μ : Mem) (H : Heap) (locs : List Loc) (ls : Array Slot) (h : b_X5_bestFor_64 post k10 a1 v2 v3 v4 v5 μ) (hZ : ZS D ca base ad n np μ s H locs) (hl : lv_has ls 7 [(0, .ref (ad 0 0)), (1, .int a1), (2, .int v2), (3, .int v3), (4, .int v4), (5, .int v5)]) : W p l e ({ frames := 3, cells := 0, slots := 0, locals := 73 } : Room) s m args below meth c H locs 0 0 (MQ below (ZQ D ca base ad n np (zpi post)) args s 0 0 (zB base)) (F0 m 64 ls []) := by
  unfold b_X5_bestFor_64 at h
  refine lv_iconst (v := 1) hC.1 hC.2.1 dX5_bestFor_64 (by decide) ?_
  refine lv_goto (tgt := 69) hC.1 hC.2.1 dX5_bestFor_65 (by decide) ?_
  exact t_X5_bestFor_69 (l := l) hC hr _ hk10 _ _ _ _ _ _ _ _ _ h hZ (lv_sub hl [0, 1, 2, 3, 4, 5] rfl)
def lb_X5_bestFor_10 (post : Int32 → Mem → Prop) (k10 : Int32 → Int32 → Int32 → Mem → Prop) (a1 : Int32) (v2 : Int32) (v3 : Int32) (v4 : Int32) (μ : Mem) : Prop := ((30 ≤ v4 → post v2 μ) ∧ (¬ 30 ≤ v4 → ((v4 = a1 → b_X5_bestFor_102 post k10 a1 v2 v3 v4 μ) ∧ (¬ v4 = a1 → (w_X5_swaps (fun (μ3 : Mem) => (w_X5_costs (fun (r6 : Int32) (μ5 : Mem) => (w_X5_isRefused (fun (r8 : Int32) (μ7 : Mem) => ((¬ r8 = 0 → b_X5_bestFor_68 post k10 a1 v2 v3 v4 r6 μ7) ∧ (r8 = 0 → (w_X5_isRefused (fun (r15 : Int32) (μ14 : Mem) => ((¬ r15 = 0 → b_X5_bestFor_68 post k10 a1 v2 v3 v4 r6 μ14) ∧ (r15 = 0 → ((v2 = (-1) → b_X5_bestFor_64 post k10 a1 v2 v3 v4 r6 μ14) ∧ (¬ v2 = (-1) → ((v3 ≤ r6 → b_X5_bestFor_68 post k10 a1 v2 v3 v4 r6 μ14) ∧ (¬ v3 ≤ r6 → b_X5_bestFor_64 post k10 a1 v2 v3 v4 r6 μ14))))))) v4 μ7)))) a1 μ5)) μ3)) a1 v4 μ)))))
def l_X5_bestFor_10 (post : Int32 → Mem → Prop) (a1 : Int32) : Nat → Int32 → Int32 → Int32 → Mem → Prop
  | 0 => fun _ _ _ _ => False
  | fuel + 1 => lb_X5_bestFor_10 post (l_X5_bestFor_10 post a1 fuel) a1 
set_option maxRecDepth 100000 in
set_option maxHeartbeats 4000000 in
theorem t_X5_bestFor_10 {p : Program} {l : Launch} {e : Env} {s : State} {m : MethodId} {args : Array Value} {below : List Frame} {meth : Method} {c : Code} {D : va_G} {ca : Nat → ClassId} {base : Nat} {ad : Nat → Nat → Nat} {n np : Nat} {post : Int32 → Mem → Prop} (hC : ZC p m meth c s RX5 cX5_bestFor 7) (hr : meth.sig.returnType = (some FieldType.int)) (a1 : Int32) : ∀ (fuel : Nat) (v2 : Int32) (v3 : Int32) (v4 : Int32) (μ : Mem) (H : Heap) (locs : List Loc) (ls : Array Slot), l_X5_bestFor_10 post a1 fuel v2 v3 v4 μ → ZS D ca base ad n np μ s H locs → lv_has ls 7 [(0, .ref (ad 0 0)), (1, .int a1), (2, .int v2), (3, .int v3), (4, .int v4)] → W p l e ({ frames := 3, cells := 0, slots := 0, locals := 73 } : Room) s m args below meth c H locs 0 0 (MQ below (ZQ D ca base ad n np (zpi post)) args s 0 0 (zB base)) (F0 m 10 ls []) := by
  intro fuel
  induction fuel with
  | zero => exact fun _ _ _ _ _ _ _ h => h.elim
  | succ fuel hk10 =>
    intro v2 v3 v4 μ H locs ls h hZ hl
    have h : lb_X5_bestFor_10 post (l_X5_bestFor_10 post a1 fuel) a1 v2 v3 v4 μ := h
    unfold lb_X5_bestFor_10 at h
    refine lv_iload hC.1 hC.2.1 dX5_bestFor_10 (lv_at hl 4 rfl) ?_
    refine lv_bipush (v := 30) hC.1 hC.2.1 dX5_bestFor_12 (by decide) ?_
    refine lv_icmp_ge (tgt := 108) hC.1 hC.2.1 dX5_bestFor_14 (by decide) (fun c1 => ?_) (fun c1 => ?_)
    · have h := h.1 c1
      refine lv_iload_n hC.1 hC.2.1 dX5_bestFor_108 rfl (lv_at hl 2 rfl) ?_
      exact z_iret hC hr hZ h dX5_bestFor_109 (Nat.le_of_ble_eq_true rfl) (Nat.le_of_ble_eq_true rfl)
    · have h := h.2 c1
      refine lv_iload hC.1 hC.2.1 dX5_bestFor_17 (lv_at hl 4 rfl) ?_
      refine lv_iload_n hC.1 hC.2.1 dX5_bestFor_19 rfl (lv_at hl 1 rfl) ?_
      refine lv_icmp_eq (tgt := 102) hC.1 hC.2.1 dX5_bestFor_20 (by decide) (fun c2 => ?_) (fun c2 => ?_)
      · have h := h.1 c2
        exact t_X5_bestFor_102 (l := l) hC hr _ hk10 _ _ _ _ _ _ _ h hZ (lv_sub hl [0, 1, 2, 3, 4] rfl)
      · have h := h.2 c2
        refine lv_aload_n hC.1 hC.2.1 dX5_bestFor_23 rfl (lv_at hl 0 rfl) ?_
        refine lv_iload_n hC.1 hC.2.1 dX5_bestFor_24 rfl (lv_at hl 1 rfl) ?_
        refine lv_iload hC.1 hC.2.1 dX5_bestFor_25 (lv_at hl 4 rfl) ?_
        refine z_cVv (As := [.int a1, .int v4]) hC hZ (zF_0 _) rfl zy_X5_swaps (c_X5_swaps l h) km_X5_143 rfl ⟨rfl, rfl⟩ ⟨Nat.le_of_ble_eq_true rfl, Nat.le_of_ble_eq_true rfl⟩ hl.1 rfl (Nat.le_of_ble_eq_true rfl) dX5_bestFor_27 ⟨Nat.le_of_ble_eq_true rfl, Nat.le_of_ble_eq_true rfl⟩ (fun μ3 H locs h hZ => ?_)
        refine lv_aload_n hC.1 hC.2.1 dX5_bestFor_30 rfl (lv_at hl 0 rfl) ?_
        refine z_cVi (As := []) hC hZ (zF_0 _) rfl zy_X5_costs (c_X5_costs l h) km_X5_146 rfl ⟨rfl, rfl⟩ ⟨Nat.le_of_ble_eq_true rfl, Nat.le_of_ble_eq_true rfl⟩ hl.1 rfl (Nat.le_of_ble_eq_true rfl) dX5_bestFor_31 ⟨Nat.le_of_ble_eq_true rfl, Nat.le_of_ble_eq_true rfl⟩ (fun r6 μ5 H locs h hZ => ?_)
        refine lv_istore (lv' := [(5, .int r6), (0, .ref (ad 0 0)), (1, .int a1), (2, .int v2), (3, .int v3), (4, .int v4)]) hC.1 hC.2.1 dX5_bestFor_34 hl (by decide) rfl (fun ls hl => ?_)
        refine lv_aload_n hC.1 hC.2.1 dX5_bestFor_36 rfl (lv_at hl 1 rfl) ?_
        refine lv_iload_n hC.1 hC.2.1 dX5_bestFor_37 rfl (lv_at hl 2 rfl) ?_
        refine z_cVi (As := [.int a1]) hC hZ (zF_0 _) rfl zy_X5_isRefused (c_X5_isRefused l h) km_X5_172 rfl ⟨rfl, rfl⟩ ⟨Nat.le_of_ble_eq_true rfl, Nat.le_of_ble_eq_true rfl⟩ hl.1 rfl (Nat.le_of_ble_eq_true rfl) dX5_bestFor_38 ⟨Nat.le_of_ble_eq_true rfl, Nat.le_of_ble_eq_true rfl⟩ (fun r8 μ7 H locs h hZ => ?_)
        refine lv_if_ne (tgt := 68) hC.1 hC.2.1 dX5_bestFor_41 (by decide) (fun c9 => ?_) (fun c9 => ?_)
        · have h := h.1 c9
          exact t_X5_bestFor_68 (l := l) hC hr _ hk10 _ _ _ _ _ _ _ _ h hZ (lv_sub hl [1, 2, 3, 4, 5, 0] rfl)
        · have h := h.2 c9
          refine lv_aload_n hC.1 hC.2.1 dX5_bestFor_44 rfl (lv_at hl 1 rfl) ?_
          refine lv_iload hC.1 hC.2.1 dX5_bestFor_45 (lv_at hl 5 rfl) ?_
          refine z_cVi (As := [.int v4]) hC hZ (zF_0 _) rfl zy_X5_isRefused (c_X5_isRefused l h) km_X5_172 rfl ⟨rfl, rfl⟩ ⟨Nat.le_of_ble_eq_true rfl, Nat.le_of_ble_eq_true rfl⟩ hl.1 rfl (Nat.le_of_ble_eq_true rfl) dX5_bestFor_47 ⟨Nat.le_of_ble_eq_true rfl, Nat.le_of_ble_eq_true rfl⟩ (fun r15 μ14 H locs h hZ => ?_)
          refine lv_if_ne (tgt := 68) hC.1 hC.2.1 dX5_bestFor_50 (by decide) (fun c16 => ?_) (fun c16 => ?_)
          · have h := h.1 c16
            exact t_X5_bestFor_68 (l := l) hC hr _ hk10 _ _ _ _ _ _ _ _ h hZ (lv_sub hl [1, 2, 3, 4, 5, 0] rfl)
          · have h := h.2 c16
            refine lv_iload_n hC.1 hC.2.1 dX5_bestFor_53 rfl (lv_at hl 3 rfl) ?_
            refine lv_iconst (v := (-1)) hC.1 hC.2.1 dX5_bestFor_54 (by decide) ?_
            refine lv_icmp_eq (tgt := 64) hC.1 hC.2.1 dX5_bestFor_55 (by decide) (fun c17 => ?_) (fun c17 => ?_)
            · have h := h.1 c17
              exact t_X5_bestFor_64 (l := l) hC hr _ hk10 _ _ _ _ _ _ _ _ h hZ (lv_sub hl [1, 2, 3, 4, 5, 0] rfl)
            · have h := h.2 c17
              refine lv_iload hC.1 hC.2.1 dX5_bestFor_58 (lv_at hl 0 rfl) ?_
              refine lv_iload_n hC.1 hC.2.1 dX5_bestFor_60 rfl (lv_at hl 4 rfl) ?_
              refine lv_icmp_ge (tgt := 68) hC.1 hC.2.1 dX5_bestFor_61 (by decide) (fun c18 => ?_) (fun c18 => ?_)
              · have h := h.1 c18
                exact t_X5_bestFor_68 (l := l) hC hr _ hk10 _ _ _ _ _ _ _ _ h hZ (lv_sub hl [1, 2, 3, 4, 5, 0] rfl)
              · have h := h.2 c18
                exact t_X5_bestFor_64 (l := l) hC hr _ hk10 _ _ _ _ _ _ _ _ h hZ (lv_sub hl [1, 2, 3, 4, 5, 0] rfl)
def w_X5_bestFor (post : Int32 → Mem → Prop) (a1 : Int32) (μ : Mem) : Prop := (∃ fuel : Nat, l_X5_bestFor_10 post a1 fuel (-1 : Int32) (0 : Int32) (μ 0 0 0) μ)
set_option maxRecDepth 100000 in
set_option maxHeartbeats 4000000 in
theorem c_X5_bestFor (l : Launch) {D : va_G} {ca : Nat → ClassId} {base : Nat} {ad : Nat → Nat → Nat} {n np : Nat} {μ : Mem} {post : Int32 → Mem → Prop} {a1 : Int32} (h : w_X5_bestFor post a1 μ) : ZMet l yX5_bestFor cX5_bestFor 7 (some FieldType.int) ({ frames := 3, cells := 0, slots := 0, locals := 73 } : Room) 0 0 D ca base ad n np [.ref (ad 0 0), .int a1] μ (zpi post) := by
  unfold ZMet
  refine Met.ofW (cc := cX5_bestFor) (maxL := 7) (ret := (some FieldType.int)) (by decide) rfl ?_
  intro p e s m args below meth c s₁ B hml hv
  obtain ⟨rfl, hU⟩ := hv
  have hZ := hU.toS
  have hC : ZC p m meth c s RX5 cX5_bestFor 7 := ⟨B.exec, B.bytes, hml, findClass_of_methodNamed B.named, B.notSynchronized⟩
  have hr := B.returns
  have key : W p l e ({ frames := 3, cells := 0, slots := 0, locals := 73 } : Room) s m (([.ref (ad 0 0), .int a1] : List Value).toArray) below meth c s.heap [] 0 0 (MQ below (ZQ D ca base ad n np (zpi post)) (([.ref (ad 0 0), .int a1] : List Value).toArray) s 0 0 (zB base)) (entryFrame m (([.ref (ad 0 0), .int a1] : List Value).toArray) 7) := by
    have hl := lv_entry ([.ref (ad 0 0), .int a1]) (n := 7) (Nat.le_of_ble_eq_true rfl)
    rw [lg_entry_eq]
    generalize (lg_sl ([.ref (ad 0 0), .int a1]) ++ List.replicate (7 - (lg_sl ([.ref (ad 0 0), .int a1])).length) Slot.unset).toArray = ls at hl ⊢
    have hl : lv_has ls 7 [(0, .ref (ad 0 0)), (1, .int a1)] := hl
    unfold w_X5_bestFor at h
    refine lv_iconst (v := (-1)) hC.1 hC.2.1 dX5_bestFor_0 (by decide) ?_
    refine lv_istore_n (lv' := [(2, .int (-1)), (0, .ref (ad 0 0)), (1, .int a1)]) hC.1 hC.2.1 dX5_bestFor_1 rfl hl (by decide) rfl (fun ls hl => ?_)
    refine lv_iconst (v := 0) hC.1 hC.2.1 dX5_bestFor_2 (by decide) ?_
    refine lv_istore_n (lv' := [(3, .int 0), (2, .int (-1)), (0, .ref (ad 0 0)), (1, .int a1)]) hC.1 hC.2.1 dX5_bestFor_3 rfl hl (by decide) rfl (fun ls hl => ?_)
    refine lv_aload_n hC.1 hC.2.1 dX5_bestFor_4 rfl (lv_at hl 2 rfl) ?_
    refine gX5_0 hC hZ kf_X5_85 dX5_bestFor_5 ?_
    refine lv_istore (lv' := [(4, .int (μ 0 0 0)), (3, .int 0), (2, .int (-1)), (0, .ref (ad 0 0)), (1, .int a1)]) hC.1 hC.2.1 dX5_bestFor_8 hl (by decide) rfl (fun ls hl => ?_)
    obtain ⟨fuel, h⟩ := h
    exact t_X5_bestFor_10 (l := l) hC hr _ _ _ _ _ _ _ _ _ h hZ (lv_sub hl [3, 4, 2, 1, 0] rfl)
  exact key
