def lb_L_others_709 (n np : Nat) (post : Int32 → Nat → Nat → Mem → Prop) (k709 : Int32 → Int32 → Int32 → Mem → Prop) (a4 : Int32) (a5 : Int32) (v6 : Int32) (v8 : Int32) (v9 : Int32) (μ : Mem) : Prop := ((5 ≤ v9 → (w_X4_clear n np (fun (r20 : Int32) (μ19 : Mem) => (∃ μ19g : Mem, gs μ19 μ19g ∧ ((¬ r20 = v8 → post 0 n np μ19g) ∧ (r20 = v8 → (w_X4_clear n np (fun (r23 : Int32) (μ22 : Mem) => (∃ μ22g : Mem, gs μ22 μ22g ∧ ((¬ r23 = 0 → post 0 n np μ22g) ∧ (r23 = 0 → (w_L_copies n np (fun (r26 : Int32) (μ25 : Mem) => ((¬ r26 = 0 → post 0 n np μ25) ∧ (r26 = 0 → post 1 n np μ25))) v6 (3 : Int32) μ22g))))) μ19g))))) μ)) ∧ (¬ 5 ≤ v9 → (w_L_copies n np (fun (r29 : Int32) (μ28 : Mem) => k709 v6 (v8 + r29) (v9 + 1) μ28) v9 (3 : Int32) μ)))
def l_L_others_709 (n np : Nat) (post : Int32 → Nat → Nat → Mem → Prop) (a4 : Int32) (a5 : Int32) : Nat → Int32 → Int32 → Int32 → Mem → Prop
  | 0 => fun _ _ _ _ => False
  | fuel + 1 => lb_L_others_709 n np post (l_L_others_709 n np post a4 a5 fuel) a4 a5 
set_option maxRecDepth 100000 in
set_option maxHeartbeats 4000000 in
theorem t_L_others_709 {p : Program} {l : Launch} {e : Env} {s : State} {m : MethodId} {args : Array Value} {below : List Frame} {meth : Method} {c : Code} {D : va_G} {ca : Nat → ClassId} {base : Nat} {ad : Nat → Nat → Nat} {n np : Nat} {ad0 : Nat → Nat → Nat} {post : Int32 → Nat → Nat → Mem → Prop} (hst : l.stackTraces = false) (hC : ZC p m meth c s RL cL_others 11) (hr : meth.sig.returnType = (some FieldType.boolean)) (hag : zagr ad0 ad) (a4 : Int32) (a5 : Int32) : ∀ (fuel : Nat) (v6 : Int32) (v8 : Int32) (v9 : Int32) (cx dx : Nat) (μ : Mem) (H : Heap) (locs : List Loc) (ls : Array Slot), cx + (fuel * 2 + (2)) ≤ 22 → dx + (fuel * 12 + (12)) ≤ 132 → l_L_others_709 n np post a4 a5 fuel v6 v8 v9 μ → ZS D ca base ad n np μ s H locs → lv_has ls 11 [(0, .ref (ad 30 0)), (6, .int v6), (8, .int v8), (9, .int v9)] → W p l e ({ frames := 9, cells := 22, slots := 132, locals := 180 } : Room) s m args below meth c H locs cx dx (MQ below (ZQN D ca base ad0 post) args s 22 132 (zB base)) (F0 m 709 ls []) := by
  intro fuel
  induction fuel with
  | zero => exact fun _ _ _ _ _ _ _ _ _ _ _ h => h.elim
  | succ fuel hk709 =>
    intro v6 v8 v9 cx dx μ H locs ls hBc hBs h hZ hl
    have h : lb_L_others_709 n np post (l_L_others_709 n np post a4 a5 fuel) a4 a5 v6 v8 v9 μ := h
    unfold lb_L_others_709 at h
    refine lv_iload hC.1 hC.2.1 dL_others_709 (lv_at hl 3 rfl) ?_
    refine lv_iconst (v := 5) hC.1 hC.2.1 dL_others_711 (by decide) ?_
    refine lv_icmp_ge (tgt := 733) hC.1 hC.2.1 dL_others_712 (by decide) (fun c18 => ?_) (fun c18 => ?_)
    · have h := h.1 c18
      refine lv_aload_n hC.1 hC.2.1 dL_others_733 rfl (lv_at hl 0 rfl) ?_
      refine z_cVi (As := []) hC hZ (zF_30 _) rfl zy_X4_clear (c_X4_clear l h) km_L_159 rfl ⟨rfl, rfl⟩ ⟨Nat.le_of_ble_eq_true rfl, Nat.le_of_ble_eq_true rfl⟩ hl.1 rfl (Nat.le_of_ble_eq_true rfl) dL_others_734 ⟨by show _ ≤ (22 : Nat); omega, by show _ ≤ (132 : Nat); omega⟩ (fun r20 μ19 H locs h hZ => ?_)
      obtain ⟨μ19g, hgs, h⟩ := h
      have hZ := hZ.gs hgs
      refine lv_iload hC.1 hC.2.1 dL_others_737 (lv_at hl 2 rfl) ?_
      refine lv_icmp_ne (tgt := 763) hC.1 hC.2.1 dL_others_739 (by decide) (fun c21 => ?_) (fun c21 => ?_)
      · have h := h.1 c21
        refine lv_iconst (v := 0) hC.1 hC.2.1 dL_others_763 (by decide) ?_
        exact z_nretb hC hr hZ hag (by decide) h dL_others_764 (by show _ ≤ (22 : Nat); omega) (by show _ ≤ (132 : Nat); omega)
      · have h := h.2 c21
        refine lv_aload_n hC.1 hC.2.1 dL_others_742 rfl (lv_at hl 0 rfl) ?_
        refine z_cVi (As := []) hC hZ (zF_30 _) rfl zy_X4_clear (c_X4_clear l h) km_L_159 rfl ⟨rfl, rfl⟩ ⟨Nat.le_of_ble_eq_true rfl, Nat.le_of_ble_eq_true rfl⟩ hl.1 rfl (Nat.le_of_ble_eq_true rfl) dL_others_743 ⟨by show _ ≤ (22 : Nat); omega, by show _ ≤ (132 : Nat); omega⟩ (fun r23 μ22 H locs h hZ => ?_)
        obtain ⟨μ22g, hgs, h⟩ := h
        have hZ := hZ.gs hgs
        refine lv_if_ne (tgt := 763) hC.1 hC.2.1 dL_others_746 (by decide) (fun c24 => ?_) (fun c24 => ?_)
        · have h := h.1 c24
          refine lv_iconst (v := 0) hC.1 hC.2.1 dL_others_763 (by decide) ?_
          exact z_nretb hC hr hZ hag (by decide) h dL_others_764 (by show _ ≤ (22 : Nat); omega) (by show _ ≤ (132 : Nat); omega)
        · have h := h.2 c24
          refine lv_aload_n hC.1 hC.2.1 dL_others_749 rfl (lv_at hl 0 rfl) ?_
          refine lv_iload hC.1 hC.2.1 dL_others_750 (lv_at hl 1 rfl) ?_
          refine lv_iconst (v := 3) hC.1 hC.2.1 dL_others_752 (by decide) ?_
          refine z_cWi (As := [.ref (ad 30 0), .int v6, .int 3]) hC hZ zy_L_copies (c_L_copies l hst h) km_L_116 rfl ⟨rfl, rfl⟩ ⟨Nat.le_of_ble_eq_true rfl, Nat.le_of_ble_eq_true rfl⟩ hl.1 rfl (Nat.le_of_ble_eq_true rfl) dL_others_753 ⟨by show _ ≤ (22 : Nat); omega, by show _ ≤ (132 : Nat); omega⟩ (fun r26 μ25 H locs h hZ => ?_)
          refine lv_if_ne (tgt := 763) hC.1 hC.2.1 dL_others_756 (by decide) (fun c27 => ?_) (fun c27 => ?_)
          · have h := h.1 c27
            refine lv_iconst (v := 0) hC.1 hC.2.1 dL_others_763 (by decide) ?_
            exact z_nretb hC hr hZ hag (by decide) h dL_others_764 (by show _ ≤ (22 : Nat); omega) (by show _ ≤ (132 : Nat); omega)
          · have h := h.2 c27
            refine lv_iconst (v := 1) hC.1 hC.2.1 dL_others_759 (by decide) ?_
            refine lv_goto (tgt := 764) hC.1 hC.2.1 dL_others_760 (by decide) ?_
            exact z_nretb hC hr hZ hag (by decide) h dL_others_764 (by show _ ≤ (22 : Nat); omega) (by show _ ≤ (132 : Nat); omega)
    · have h := h.2 c18
      refine lv_iload hC.1 hC.2.1 dL_others_715 (lv_at hl 2 rfl) ?_
      refine lv_aload_n hC.1 hC.2.1 dL_others_717 rfl (lv_at hl 0 rfl) ?_
      refine lv_iload hC.1 hC.2.1 dL_others_718 (lv_at hl 3 rfl) ?_
      refine lv_iconst (v := 3) hC.1 hC.2.1 dL_others_720 (by decide) ?_
      refine z_cWi (As := [.ref (ad 30 0), .int v9, .int 3]) hC hZ zy_L_copies (c_L_copies l hst h) km_L_116 rfl ⟨rfl, rfl⟩ ⟨Nat.le_of_ble_eq_true rfl, Nat.le_of_ble_eq_true rfl⟩ hl.1 rfl (Nat.le_of_ble_eq_true rfl) dL_others_721 ⟨by show _ ≤ (22 : Nat); omega, by show _ ≤ (132 : Nat); omega⟩ (fun r29 μ28 H locs h hZ => ?_)
      refine lv_iadd hC.1 hC.2.1 dL_others_724 ?_
      refine lv_istore (lv' := [(8, .int (v8 + r29)), (0, .ref (ad 30 0)), (6, .int v6), (9, .int v9)]) hC.1 hC.2.1 dL_others_725 hl (by decide) rfl (fun ls hl => ?_)
      refine lv_iinc (v := v9 + 1) (lv' := [(9, .int (v9 + 1)), (8, .int (v8 + r29)), (0, .ref (ad 30 0)), (6, .int v6)]) hC.1 hC.2.1 dL_others_727 hl (k := 3) rfl rfl (by decide) rfl (fun ls hl => ?_)
      refine lv_goto (tgt := 709) hC.1 hC.2.1 dL_others_730 (by decide) ?_
      exact hk709 _ _ _ _ _ _ _ _ _ (by show _ ≤ (22 : Nat); omega) (by show _ ≤ (132 : Nat); omega) h hZ (lv_sub hl [2, 3, 1, 0] rfl)
def b_L_others_672 (n np : Nat) (post : Int32 → Nat → Nat → Mem → Prop) (a4 : Int32) (a5 : Int32) (s0 : Int32) (s1 : Int32) (μ : Mem) : Prop := ((¬ s0 = s1 → post 0 n np μ) ∧ (s0 = s1 → (w_L_mishap n np (fun (r49 : Int32) (μ48 : Mem) => ((¬ r49 = (-1000002) → post 0 n np μ48) ∧ (r49 = (-1000002) → (w_L_mishap n np (fun (r52 : Int32) (μ51 : Mem) => ((¬ r52 = (-1000001) → post 0 n np μ51) ∧ (r52 = (-1000001) → post 1 n np μ51))) (5 : Int32) (3 : Int32) μ48)))) (0 : Int32) (3 : Int32) μ)))
set_option maxRecDepth 100000 in
set_option maxHeartbeats 4000000 in
theorem t_L_others_672 {p : Program} {l : Launch} {e : Env} {s : State} {m : MethodId} {args : Array Value} {below : List Frame} {meth : Method} {c : Code} {D : va_G} {ca : Nat → ClassId} {base : Nat} {ad : Nat → Nat → Nat} {n np : Nat} {ad0 : Nat → Nat → Nat} {post : Int32 → Nat → Nat → Mem → Prop} (hst : l.stackTraces = false) (hC : ZC p m meth c s RL cL_others 11) (hr : meth.sig.returnType = (some FieldType.boolean)) (hag : zagr ad0 ad) (a4 : Int32) (a5 : Int32) (s0 : Int32) (s1 : Int32) (cx dx : Nat) (μ : Mem) (H : Heap) (locs : List Loc) (ls : Array Slot) (hBc : cx + (4) ≤ 22) (hBs : dx + (24) ≤ 132) (h : b_L_others_672 n np post a4 a5 s0 s1 μ) (hZ : ZS D ca base ad n np μ s H locs) (hl : lv_has ls 11 [(0, .ref (ad 30 0))]) : W p l e ({ frames := 9, cells := 22, slots := 132, locals := 180 } : Room) s m args below meth c H locs cx dx (MQ below (ZQN D ca base ad0 post) args s 22 132 (zB base)) (F0 m 672 ls [.int s1, .int s0]) := by
  unfold b_L_others_672 at h
  refine lv_icmp_ne (tgt := 701) hC.1 hC.2.1 dL_others_672 (by decide) (fun c47 => ?_) (fun c47 => ?_)
  · have h := h.1 c47
    refine lv_iconst (v := 0) hC.1 hC.2.1 dL_others_701 (by decide) ?_
    exact z_nretb hC hr hZ hag (by decide) h dL_others_702 (by show _ ≤ (22 : Nat); omega) (by show _ ≤ (132 : Nat); omega)
  · have h := h.2 c47
    refine lv_aload_n hC.1 hC.2.1 dL_others_675 rfl (lv_at hl 0 rfl) ?_
    refine lv_iconst (v := 0) hC.1 hC.2.1 dL_others_676 (by decide) ?_
    refine lv_iconst (v := 3) hC.1 hC.2.1 dL_others_677 (by decide) ?_
    refine z_cWi (As := [.ref (ad 30 0), .int 0, .int 3]) hC hZ zy_L_mishap (c_L_mishap l hst h) km_L_157 rfl ⟨rfl, rfl⟩ ⟨Nat.le_of_ble_eq_true rfl, Nat.le_of_ble_eq_true rfl⟩ hl.1 rfl (Nat.le_of_ble_eq_true rfl) dL_others_678 ⟨by show _ ≤ (22 : Nat); omega, by show _ ≤ (132 : Nat); omega⟩ (fun r49 μ48 H locs h hZ => ?_)
    refine lv_ldc (v := (-1000002)) hC.1 hC.2.1 hC.2.2.2.1 (hZ.1.2.1.use _ kk_L_18 rfl) dL_others_681 ?_
    refine lv_icmp_ne (tgt := 701) hC.1 hC.2.1 dL_others_683 (by decide) (fun c50 => ?_) (fun c50 => ?_)
    · have h := h.1 c50
      refine lv_iconst (v := 0) hC.1 hC.2.1 dL_others_701 (by decide) ?_
      exact z_nretb hC hr hZ hag (by decide) h dL_others_702 (by show _ ≤ (22 : Nat); omega) (by show _ ≤ (132 : Nat); omega)
    · have h := h.2 c50
      refine lv_aload_n hC.1 hC.2.1 dL_others_686 rfl (lv_at hl 0 rfl) ?_
      refine lv_iconst (v := 5) hC.1 hC.2.1 dL_others_687 (by decide) ?_
      refine lv_iconst (v := 3) hC.1 hC.2.1 dL_others_688 (by decide) ?_
      refine z_cWi (As := [.ref (ad 30 0), .int 5, .int 3]) hC hZ zy_L_mishap (c_L_mishap l hst h) km_L_157 rfl ⟨rfl, rfl⟩ ⟨Nat.le_of_ble_eq_true rfl, Nat.le_of_ble_eq_true rfl⟩ hl.1 rfl (Nat.le_of_ble_eq_true rfl) dL_others_689 ⟨by show _ ≤ (22 : Nat); omega, by show _ ≤ (132 : Nat); omega⟩ (fun r52 μ51 H locs h hZ => ?_)
      refine lv_ldc (v := (-1000001)) hC.1 hC.2.1 hC.2.2.2.1 (hZ.1.2.1.use _ kk_L_28 rfl) dL_others_692 ?_
      refine lv_icmp_ne (tgt := 701) hC.1 hC.2.1 dL_others_694 (by decide) (fun c53 => ?_) (fun c53 => ?_)
      · have h := h.1 c53
        refine lv_iconst (v := 0) hC.1 hC.2.1 dL_others_701 (by decide) ?_
        exact z_nretb hC hr hZ hag (by decide) h dL_others_702 (by show _ ≤ (22 : Nat); omega) (by show _ ≤ (132 : Nat); omega)
      · have h := h.2 c53
        refine lv_iconst (v := 1) hC.1 hC.2.1 dL_others_697 (by decide) ?_
        refine lv_goto (tgt := 702) hC.1 hC.2.1 dL_others_698 (by decide) ?_
        exact z_nretb hC hr hZ hag (by decide) h dL_others_702 (by show _ ≤ (22 : Nat); omega) (by show _ ≤ (132 : Nat); omega)
def b_L_others_648 (n np : Nat) (post : Int32 → Nat → Nat → Mem → Prop) (a4 : Int32) (a5 : Int32) (v6 : Int32) (v9 : Int32) (v10 : Int32) (s0 : Int32) (s1 : Int32) (μ : Mem) : Prop := ((¬ s0 = s1 → post 0 n np μ) ∧ (s0 = s1 → (w_L_copies n np (fun (r45 : Int32) (μ44 : Mem) => ((v9 ≤ 0 → b_L_others_672 n np post a4 a5 r45 v10 μ44) ∧ (¬ v9 ≤ 0 → b_L_others_672 n np post a4 a5 r45 (v10 + 1) μ44))) v6 (3 : Int32) μ)))
set_option maxRecDepth 100000 in
set_option maxHeartbeats 4000000 in
theorem t_L_others_648 {p : Program} {l : Launch} {e : Env} {s : State} {m : MethodId} {args : Array Value} {below : List Frame} {meth : Method} {c : Code} {D : va_G} {ca : Nat → ClassId} {base : Nat} {ad : Nat → Nat → Nat} {n np : Nat} {ad0 : Nat → Nat → Nat} {post : Int32 → Nat → Nat → Mem → Prop} (hst : l.stackTraces = false) (hC : ZC p m meth c s RL cL_others 11) (hr : meth.sig.returnType = (some FieldType.boolean)) (hag : zagr ad0 ad) (a4 : Int32) (a5 : Int32) (v6 : Int32) (v9 : Int32) (v10 : Int32) (s0 : Int32) (s1 : Int32) (cx dx : Nat) (μ : Mem) (H : Heap) (locs : List Loc) (ls : Array Slot) (hBc : cx + (6) ≤ 22) (hBs : dx + (36) ≤ 132) (h : b_L_others_648 n np post a4 a5 v6 v9 v10 s0 s1 μ) (hZ : ZS D ca base ad n np μ s H locs) (hl : lv_has ls 11 [(0, .ref (ad 30 0)), (6, .int v6), (9, .int v9), (10, .int v10)]) : W p l e ({ frames := 9, cells := 22, slots := 132, locals := 180 } : Room) s m args below meth c H locs cx dx (MQ below (ZQN D ca base ad0 post) args s 22 132 (zB base)) (F0 m 648 ls [.int s1, .int s0]) := by
  unfold b_L_others_648 at h
  refine lv_icmp_ne (tgt := 701) hC.1 hC.2.1 dL_others_648 (by decide) (fun c43 => ?_) (fun c43 => ?_)
  · have h := h.1 c43
    refine lv_iconst (v := 0) hC.1 hC.2.1 dL_others_701 (by decide) ?_
    exact z_nretb hC hr hZ hag (by decide) h dL_others_702 (by show _ ≤ (22 : Nat); omega) (by show _ ≤ (132 : Nat); omega)
  · have h := h.2 c43
    refine lv_aload_n hC.1 hC.2.1 dL_others_651 rfl (lv_at hl 0 rfl) ?_
    refine lv_iload hC.1 hC.2.1 dL_others_652 (lv_at hl 1 rfl) ?_
    refine lv_iconst (v := 3) hC.1 hC.2.1 dL_others_654 (by decide) ?_
    refine z_cWi (As := [.ref (ad 30 0), .int v6, .int 3]) hC hZ zy_L_copies (c_L_copies l hst h) km_L_116 rfl ⟨rfl, rfl⟩ ⟨Nat.le_of_ble_eq_true rfl, Nat.le_of_ble_eq_true rfl⟩ hl.1 rfl (Nat.le_of_ble_eq_true rfl) dL_others_655 ⟨by show _ ≤ (22 : Nat); omega, by show _ ≤ (132 : Nat); omega⟩ (fun r45 μ44 H locs h hZ => ?_)
    refine lv_iload hC.1 hC.2.1 dL_others_658 (lv_at hl 2 rfl) ?_
    refine lv_if_le (tgt := 670) hC.1 hC.2.1 dL_others_660 (by decide) (fun c46 => ?_) (fun c46 => ?_)
    · have h := h.1 c46
      refine lv_iload hC.1 hC.2.1 dL_others_670 (lv_at hl 3 rfl) ?_
      exact t_L_others_672 (l := l) hst hC hr hag _ _ _ _ _ _ _ _ _ _ (by show _ ≤ (22 : Nat); omega) (by show _ ≤ (132 : Nat); omega) h hZ (lv_sub hl [0] rfl)
    · have h := h.2 c46
      refine lv_iload hC.1 hC.2.1 dL_others_663 (lv_at hl 3 rfl) ?_
      refine lv_iconst (v := 1) hC.1 hC.2.1 dL_others_665 (by decide) ?_
      refine lv_iadd hC.1 hC.2.1 dL_others_666 ?_
      refine lv_goto (tgt := 672) hC.1 hC.2.1 dL_others_667 (by decide) ?_
      exact t_L_others_672 (l := l) hst hC hr hag _ _ _ _ _ _ _ _ _ _ (by show _ ≤ (22 : Nat); omega) (by show _ ≤ (132 : Nat); omega) h hZ (lv_sub hl [0] rfl)
def b_L_others_624 (n np : Nat) (post : Int32 → Nat → Nat → Mem → Prop) (a4 : Int32) (a5 : Int32) (v6 : Int32) (v8 : Int32) (v9 : Int32) (v10 : Int32) (s0 : Int32) (s1 : Int32) (μ : Mem) : Prop := ((¬ s0 = s1 → post 0 n np μ) ∧ (s0 = s1 → (w_L_copies n np (fun (r41 : Int32) (μ40 : Mem) => ((v9 ≤ 0 → b_L_others_648 n np post a4 a5 v6 v9 v10 r41 (0 : Int32) μ40) ∧ (¬ v9 ≤ 0 → b_L_others_648 n np post a4 a5 v6 v9 v10 r41 (v9 - 1) μ40))) v6 v8 μ)))
set_option maxRecDepth 100000 in
set_option maxHeartbeats 4000000 in
theorem t_L_others_624 {p : Program} {l : Launch} {e : Env} {s : State} {m : MethodId} {args : Array Value} {below : List Frame} {meth : Method} {c : Code} {D : va_G} {ca : Nat → ClassId} {base : Nat} {ad : Nat → Nat → Nat} {n np : Nat} {ad0 : Nat → Nat → Nat} {post : Int32 → Nat → Nat → Mem → Prop} (hst : l.stackTraces = false) (hC : ZC p m meth c s RL cL_others 11) (hr : meth.sig.returnType = (some FieldType.boolean)) (hag : zagr ad0 ad) (a4 : Int32) (a5 : Int32) (v6 : Int32) (v8 : Int32) (v9 : Int32) (v10 : Int32) (s0 : Int32) (s1 : Int32) (cx dx : Nat) (μ : Mem) (H : Heap) (locs : List Loc) (ls : Array Slot) (hBc : cx + (8) ≤ 22) (hBs : dx + (48) ≤ 132) (h : b_L_others_624 n np post a4 a5 v6 v8 v9 v10 s0 s1 μ) (hZ : ZS D ca base ad n np μ s H locs) (hl : lv_has ls 11 [(0, .ref (ad 30 0)), (6, .int v6), (8, .int v8), (9, .int v9), (10, .int v10)]) : W p l e ({ frames := 9, cells := 22, slots := 132, locals := 180 } : Room) s m args below meth c H locs cx dx (MQ below (ZQN D ca base ad0 post) args s 22 132 (zB base)) (F0 m 624 ls [.int s1, .int s0]) := by
  unfold b_L_others_624 at h
  refine lv_icmp_ne (tgt := 701) hC.1 hC.2.1 dL_others_624 (by decide) (fun c39 => ?_) (fun c39 => ?_)
  · have h := h.1 c39
    refine lv_iconst (v := 0) hC.1 hC.2.1 dL_others_701 (by decide) ?_
    exact z_nretb hC hr hZ hag (by decide) h dL_others_702 (by show _ ≤ (22 : Nat); omega) (by show _ ≤ (132 : Nat); omega)
  · have h := h.2 c39
    refine lv_aload_n hC.1 hC.2.1 dL_others_627 rfl (lv_at hl 0 rfl) ?_
    refine lv_iload hC.1 hC.2.1 dL_others_628 (lv_at hl 1 rfl) ?_
    refine lv_iload hC.1 hC.2.1 dL_others_630 (lv_at hl 2 rfl) ?_
    refine z_cWi (As := [.ref (ad 30 0), .int v6, .int v8]) hC hZ zy_L_copies (c_L_copies l hst h) km_L_116 rfl ⟨rfl, rfl⟩ ⟨Nat.le_of_ble_eq_true rfl, Nat.le_of_ble_eq_true rfl⟩ hl.1 rfl (Nat.le_of_ble_eq_true rfl) dL_others_632 ⟨by show _ ≤ (22 : Nat); omega, by show _ ≤ (132 : Nat); omega⟩ (fun r41 μ40 H locs h hZ => ?_)
    refine lv_iload hC.1 hC.2.1 dL_others_635 (lv_at hl 3 rfl) ?_
    refine lv_if_le (tgt := 647) hC.1 hC.2.1 dL_others_637 (by decide) (fun c42 => ?_) (fun c42 => ?_)
    · have h := h.1 c42
      refine lv_iconst (v := 0) hC.1 hC.2.1 dL_others_647 (by decide) ?_
      exact t_L_others_648 (l := l) hst hC hr hag _ _ _ _ _ _ _ _ _ _ _ _ _ (by show _ ≤ (22 : Nat); omega) (by show _ ≤ (132 : Nat); omega) h hZ (lv_sub hl [0, 1, 3, 4] rfl)
    · have h := h.2 c42
      refine lv_iload hC.1 hC.2.1 dL_others_640 (lv_at hl 3 rfl) ?_
      refine lv_iconst (v := 1) hC.1 hC.2.1 dL_others_642 (by decide) ?_
      refine lv_isub hC.1 hC.2.1 dL_others_643 ?_
      refine lv_goto (tgt := 648) hC.1 hC.2.1 dL_others_644 (by decide) ?_
      exact t_L_others_648 (l := l) hst hC hr hag _ _ _ _ _ _ _ _ _ _ _ _ _ (by show _ ≤ (22 : Nat); omega) (by show _ ≤ (132 : Nat); omega) h hZ (lv_sub hl [0, 1, 3, 4] rfl)
def b_L_others_527 (n np : Nat) (post : Int32 → Nat → Nat → Mem → Prop) (a4 : Int32) (a5 : Int32) (v6 : Int32) (v8 : Int32) (s1 : Int32) (s2 : Int32) (s3 : Int32) (μ : Mem) : Prop := (vp_in s1 5 ∧ ∀ μ57 : Mem, μ57 = zst μ 22 0 s1.toNatClampNeg (s2 + s3) → (w_L_buy n np (fun (r59 : Int32) (μ58 : Mem) => ((¬ r59 = v8 → post 0 n np μ58) ∧ (r59 = v8 → (w_X4_spent n np (fun (r62 : Int32) (μ61 : Mem) => (∃ μ61g : Mem, gs μ61 μ61g ∧ ((¬ r62 = (μ61g 22 0 (3 : Int32).toNatClampNeg) → post 0 n np μ61g) ∧ (r62 = (μ61g 22 0 (3 : Int32).toNatClampNeg) → (w_L_buy n np (fun (r65 : Int32) (μ64 : Mem) => ((¬ r65 = (-1000001) → post 0 n np μ64) ∧ (r65 = (-1000001) → post 1 n np μ64))) (5 : Int32) μ61g))))) μ58)))) v6 μ57))
set_option maxRecDepth 100000 in
set_option maxHeartbeats 4000000 in
theorem t_L_others_527 {p : Program} {l : Launch} {e : Env} {s : State} {m : MethodId} {args : Array Value} {below : List Frame} {meth : Method} {c : Code} {D : va_G} {ca : Nat → ClassId} {base : Nat} {ad : Nat → Nat → Nat} {n np : Nat} {ad0 : Nat → Nat → Nat} {post : Int32 → Nat → Nat → Mem → Prop} (hst : l.stackTraces = false) (hC : ZC p m meth c s RL cL_others 11) (hr : meth.sig.returnType = (some FieldType.boolean)) (hag : zagr ad0 ad) (a4 : Int32) (a5 : Int32) (v6 : Int32) (v8 : Int32) (s1 : Int32) (s2 : Int32) (s3 : Int32) (cx dx : Nat) (μ : Mem) (H : Heap) (locs : List Loc) (ls : Array Slot) (hBc : cx + (4) ≤ 22) (hBs : dx + (24) ≤ 132) (h : b_L_others_527 n np post a4 a5 v6 v8 s1 s2 s3 μ) (hZ : ZS D ca base ad n np μ s H locs) (hl : lv_has ls 11 [(0, .ref (ad 30 0)), (1, .ref (ad 22 0)), (6, .int v6), (8, .int v8)]) : W p l e ({ frames := 9, cells := 22, slots := 132, locals := 180 } : Room) s m args below meth c H locs cx dx (MQ below (ZQN D ca base ad0 post) args s 22 132 (zB base)) (F0 m 527 ls [.int s3, .int s2, .int s1, .ref (ad 22 0)]) := by
  unfold b_L_others_527 at h
  refine lv_iadd hC.1 hC.2.1 dL_others_527 ?_
  obtain ⟨q56, h⟩ := h
  refine aS_22 hC hZ q56 dL_others_528 (fun μ57 H locs eμ57 hZ => ?_)
  have h := h μ57 eμ57
  refine lv_aload_n hC.1 hC.2.1 dL_others_529 rfl (lv_at hl 0 rfl) ?_
  refine lv_iload hC.1 hC.2.1 dL_others_530 (lv_at hl 2 rfl) ?_
  refine z_cWi (As := [.ref (ad 30 0), .int v6]) hC hZ zy_L_buy (c_L_buy l hst h) km_L_155 rfl ⟨rfl, rfl⟩ ⟨Nat.le_of_ble_eq_true rfl, Nat.le_of_ble_eq_true rfl⟩ hl.1 rfl (Nat.le_of_ble_eq_true rfl) dL_others_532 ⟨by show _ ≤ (22 : Nat); omega, by show _ ≤ (132 : Nat); omega⟩ (fun r59 μ58 H locs h hZ => ?_)
  refine lv_iload hC.1 hC.2.1 dL_others_535 (lv_at hl 3 rfl) ?_
  refine lv_icmp_ne (tgt := 564) hC.1 hC.2.1 dL_others_537 (by decide) (fun c60 => ?_) (fun c60 => ?_)
  · have h := h.1 c60
    refine lv_iconst (v := 0) hC.1 hC.2.1 dL_others_564 (by decide) ?_
    exact z_nretb hC hr hZ hag (by decide) h dL_others_565 (by show _ ≤ (22 : Nat); omega) (by show _ ≤ (132 : Nat); omega)
  · have h := h.2 c60
    refine lv_aload_n hC.1 hC.2.1 dL_others_540 rfl (lv_at hl 0 rfl) ?_
    refine z_cVi (As := []) hC hZ (zF_30 _) rfl zy_X4_spent (c_X4_spent l h) km_L_105 rfl ⟨rfl, rfl⟩ ⟨Nat.le_of_ble_eq_true rfl, Nat.le_of_ble_eq_true rfl⟩ hl.1 rfl (Nat.le_of_ble_eq_true rfl) dL_others_541 ⟨by show _ ≤ (22 : Nat); omega, by show _ ≤ (132 : Nat); omega⟩ (fun r62 μ61 H locs h hZ => ?_)
    obtain ⟨μ61g, hgs, h⟩ := h
    have hZ := hZ.gs hgs
    refine lv_aload_n hC.1 hC.2.1 dL_others_544 rfl (lv_at hl 1 rfl) ?_
    refine lv_iconst (v := 3) hC.1 hC.2.1 dL_others_545 (by decide) ?_
    refine aL_22 hC hZ (by unfold vp_in; decide) dL_others_546 ?_
    refine lv_icmp_ne (tgt := 564) hC.1 hC.2.1 dL_others_547 (by decide) (fun c63 => ?_) (fun c63 => ?_)
    · have h := h.1 c63
      refine lv_iconst (v := 0) hC.1 hC.2.1 dL_others_564 (by decide) ?_
      exact z_nretb hC hr hZ hag (by decide) h dL_others_565 (by show _ ≤ (22 : Nat); omega) (by show _ ≤ (132 : Nat); omega)
    · have h := h.2 c63
      refine lv_aload_n hC.1 hC.2.1 dL_others_550 rfl (lv_at hl 0 rfl) ?_
      refine lv_iconst (v := 5) hC.1 hC.2.1 dL_others_551 (by decide) ?_
      refine z_cWi (As := [.ref (ad 30 0), .int 5]) hC hZ zy_L_buy (c_L_buy l hst h) km_L_155 rfl ⟨rfl, rfl⟩ ⟨Nat.le_of_ble_eq_true rfl, Nat.le_of_ble_eq_true rfl⟩ hl.1 rfl (Nat.le_of_ble_eq_true rfl) dL_others_552 ⟨by show _ ≤ (22 : Nat); omega, by show _ ≤ (132 : Nat); omega⟩ (fun r65 μ64 H locs h hZ => ?_)
      refine lv_ldc (v := (-1000001)) hC.1 hC.2.1 hC.2.2.2.1 (hZ.1.2.1.use _ kk_L_28 rfl) dL_others_555 ?_
      refine lv_icmp_ne (tgt := 564) hC.1 hC.2.1 dL_others_557 (by decide) (fun c66 => ?_) (fun c66 => ?_)
      · have h := h.1 c66
        refine lv_iconst (v := 0) hC.1 hC.2.1 dL_others_564 (by decide) ?_
        exact z_nretb hC hr hZ hag (by decide) h dL_others_565 (by show _ ≤ (22 : Nat); omega) (by show _ ≤ (132 : Nat); omega)
      · have h := h.2 c66
        refine lv_iconst (v := 1) hC.1 hC.2.1 dL_others_560 (by decide) ?_
        refine lv_goto (tgt := 565) hC.1 hC.2.1 dL_others_561 (by decide) ?_
        exact z_nretb hC hr hZ hag (by decide) h dL_others_565 (by show _ ≤ (22 : Nat); omega) (by show _ ≤ (132 : Nat); omega)
def b_L_others_511 (n np : Nat) (post : Int32 → Nat → Nat → Mem → Prop) (a4 : Int32) (a5 : Int32) (v6 : Int32) (s0 : Int32) (μ : Mem) : Prop := ((0 ≤ s0 → b_L_others_527 n np post a4 a5 v6 s0 (3 : Int32) (μ 22 0 (3 : Int32).toNatClampNeg) (5 : Int32) μ) ∧ (¬ 0 ≤ s0 → b_L_others_527 n np post a4 a5 v6 s0 (3 : Int32) (μ 22 0 (3 : Int32).toNatClampNeg) (0 : Int32) μ))
set_option maxRecDepth 100000 in
set_option maxHeartbeats 4000000 in
theorem t_L_others_511 {p : Program} {l : Launch} {e : Env} {s : State} {m : MethodId} {args : Array Value} {below : List Frame} {meth : Method} {c : Code} {D : va_G} {ca : Nat → ClassId} {base : Nat} {ad : Nat → Nat → Nat} {n np : Nat} {ad0 : Nat → Nat → Nat} {post : Int32 → Nat → Nat → Mem → Prop} (hst : l.stackTraces = false) (hC : ZC p m meth c s RL cL_others 11) (hr : meth.sig.returnType = (some FieldType.boolean)) (hag : zagr ad0 ad) (a4 : Int32) (a5 : Int32) (v6 : Int32) (s0 : Int32) (cx dx : Nat) (μ : Mem) (H : Heap) (locs : List Loc) (ls : Array Slot) (hBc : cx + (4) ≤ 22) (hBs : dx + (24) ≤ 132) (h : b_L_others_511 n np post a4 a5 v6 s0 μ) (hZ : ZS D ca base ad n np μ s H locs) (hl : lv_has ls 11 [(0, .ref (ad 30 0)), (1, .ref (ad 22 0)), (6, .int v6)]) : W p l e ({ frames := 9, cells := 22, slots := 132, locals := 180 } : Room) s m args below meth c H locs cx dx (MQ below (ZQN D ca base ad0 post) args s 22 132 (zB base)) (F0 m 511 ls [.int s0]) := by
  unfold b_L_others_511 at h
  refine lv_istore (lv' := [(8, .int s0), (0, .ref (ad 30 0)), (1, .ref (ad 22 0)), (6, .int v6)]) hC.1 hC.2.1 dL_others_511 hl (by decide) rfl (fun ls hl => ?_)
  refine lv_aload_n hC.1 hC.2.1 dL_others_513 rfl (lv_at hl 2 rfl) ?_
  refine lv_iconst (v := 3) hC.1 hC.2.1 dL_others_514 (by decide) ?_
  refine lv_dup2_11 hC.1 hC.2.1 dL_others_515 rfl rfl ?_
  refine aL_22 hC hZ (by unfold vp_in; decide) dL_others_516 ?_
  refine lv_iload hC.1 hC.2.1 dL_others_517 (lv_at hl 0 rfl) ?_
  refine lv_if_ge (tgt := 526) hC.1 hC.2.1 dL_others_519 (by decide) (fun c55 => ?_) (fun c55 => ?_)
  · have h := h.1 c55
    refine lv_iconst (v := 5) hC.1 hC.2.1 dL_others_526 (by decide) ?_
    exact t_L_others_527 (l := l) hst hC hr hag _ _ _ _ _ _ _ _ _ _ _ _ _ (by show _ ≤ (22 : Nat); omega) (by show _ ≤ (132 : Nat); omega) h hZ (lv_sub hl [1, 2, 3, 0] rfl)
  · have h := h.2 c55
    refine lv_iconst (v := 0) hC.1 hC.2.1 dL_others_522 (by decide) ?_
    refine lv_goto (tgt := 527) hC.1 hC.2.1 dL_others_523 (by decide) ?_
    exact t_L_others_527 (l := l) hst hC hr hag _ _ _ _ _ _ _ _ _ _ _ _ _ (by show _ ≤ (22 : Nat); omega) (by show _ ≤ (132 : Nat); omega) h hZ (lv_sub hl [1, 2, 3, 0] rfl)
def b_L_others_410 (n np : Nat) (post : Int32 → Nat → Nat → Mem → Prop) (a4 : Int32) (a5 : Int32) (v8 : Int32) (s0 : Int32) (s1 : Int32) (μ : Mem) : Prop := ((¬ s0 = s1 → post 0 n np μ) ∧ (s0 = s1 → (w_L_away n np (fun (r82 : Int32) (μ81 : Mem) => ((¬ r82 = (-1000001) → post 0 n np μ81) ∧ (r82 = (-1000001) → (w_L_away n np (fun (r85 : Int32) (μ84 : Mem) => ((¬ r85 = (-1000002) → post 0 n np μ84) ∧ (r85 = (-1000002) → post 1 n np μ84))) (0 : Int32) (30 : Int32) v8 μ81)))) (5 : Int32) (30 : Int32) v8 μ)))
set_option maxRecDepth 100000 in
set_option maxHeartbeats 4000000 in
theorem t_L_others_410 {p : Program} {l : Launch} {e : Env} {s : State} {m : MethodId} {args : Array Value} {below : List Frame} {meth : Method} {c : Code} {D : va_G} {ca : Nat → ClassId} {base : Nat} {ad : Nat → Nat → Nat} {n np : Nat} {ad0 : Nat → Nat → Nat} {post : Int32 → Nat → Nat → Mem → Prop} (hst : l.stackTraces = false) (hC : ZC p m meth c s RL cL_others 11) (hr : meth.sig.returnType = (some FieldType.boolean)) (hag : zagr ad0 ad) (a4 : Int32) (a5 : Int32) (v8 : Int32) (s0 : Int32) (s1 : Int32) (cx dx : Nat) (μ : Mem) (H : Heap) (locs : List Loc) (ls : Array Slot) (hBc : cx + (4) ≤ 22) (hBs : dx + (24) ≤ 132) (h : b_L_others_410 n np post a4 a5 v8 s0 s1 μ) (hZ : ZS D ca base ad n np μ s H locs) (hl : lv_has ls 11 [(0, .ref (ad 30 0)), (8, .int v8)]) : W p l e ({ frames := 9, cells := 22, slots := 132, locals := 180 } : Room) s m args below meth c H locs cx dx (MQ below (ZQN D ca base ad0 post) args s 22 132 (zB base)) (F0 m 410 ls [.int s1, .int s0]) := by
  unfold b_L_others_410 at h
  refine lv_icmp_ne (tgt := 445) hC.1 hC.2.1 dL_others_410 (by decide) (fun c80 => ?_) (fun c80 => ?_)
  · have h := h.1 c80
    refine lv_iconst (v := 0) hC.1 hC.2.1 dL_others_445 (by decide) ?_
    exact z_nretb hC hr hZ hag (by decide) h dL_others_446 (by show _ ≤ (22 : Nat); omega) (by show _ ≤ (132 : Nat); omega)
  · have h := h.2 c80
    refine lv_aload_n hC.1 hC.2.1 dL_others_413 rfl (lv_at hl 0 rfl) ?_
    refine lv_iconst (v := 5) hC.1 hC.2.1 dL_others_414 (by decide) ?_
    refine lv_bipush (v := 30) hC.1 hC.2.1 dL_others_415 (by decide) ?_
    refine lv_iload hC.1 hC.2.1 dL_others_417 (lv_at hl 1 rfl) ?_
    refine z_cWi (As := [.ref (ad 30 0), .int 5, .int 30, .int v8]) hC hZ zy_L_away (c_L_away l hst h) km_L_152 rfl ⟨rfl, rfl⟩ ⟨Nat.le_of_ble_eq_true rfl, Nat.le_of_ble_eq_true rfl⟩ hl.1 rfl (Nat.le_of_ble_eq_true rfl) dL_others_419 ⟨by show _ ≤ (22 : Nat); omega, by show _ ≤ (132 : Nat); omega⟩ (fun r82 μ81 H locs h hZ => ?_)
    refine lv_ldc (v := (-1000001)) hC.1 hC.2.1 hC.2.2.2.1 (hZ.1.2.1.use _ kk_L_28 rfl) dL_others_422 ?_
    refine lv_icmp_ne (tgt := 445) hC.1 hC.2.1 dL_others_424 (by decide) (fun c83 => ?_) (fun c83 => ?_)
    · have h := h.1 c83
      refine lv_iconst (v := 0) hC.1 hC.2.1 dL_others_445 (by decide) ?_
      exact z_nretb hC hr hZ hag (by decide) h dL_others_446 (by show _ ≤ (22 : Nat); omega) (by show _ ≤ (132 : Nat); omega)
    · have h := h.2 c83
      refine lv_aload_n hC.1 hC.2.1 dL_others_427 rfl (lv_at hl 0 rfl) ?_
      refine lv_iconst (v := 0) hC.1 hC.2.1 dL_others_428 (by decide) ?_
      refine lv_bipush (v := 30) hC.1 hC.2.1 dL_others_429 (by decide) ?_
      refine lv_iload hC.1 hC.2.1 dL_others_431 (lv_at hl 1 rfl) ?_
      refine z_cWi (As := [.ref (ad 30 0), .int 0, .int 30, .int v8]) hC hZ zy_L_away (c_L_away l hst h) km_L_152 rfl ⟨rfl, rfl⟩ ⟨Nat.le_of_ble_eq_true rfl, Nat.le_of_ble_eq_true rfl⟩ hl.1 rfl (Nat.le_of_ble_eq_true rfl) dL_others_433 ⟨by show _ ≤ (22 : Nat); omega, by show _ ≤ (132 : Nat); omega⟩ (fun r85 μ84 H locs h hZ => ?_)
      refine lv_ldc (v := (-1000002)) hC.1 hC.2.1 hC.2.2.2.1 (hZ.1.2.1.use _ kk_L_18 rfl) dL_others_436 ?_
      refine lv_icmp_ne (tgt := 445) hC.1 hC.2.1 dL_others_438 (by decide) (fun c86 => ?_) (fun c86 => ?_)
      · have h := h.1 c86
        refine lv_iconst (v := 0) hC.1 hC.2.1 dL_others_445 (by decide) ?_
        exact z_nretb hC hr hZ hag (by decide) h dL_others_446 (by show _ ≤ (22 : Nat); omega) (by show _ ≤ (132 : Nat); omega)
      · have h := h.2 c86
        refine lv_iconst (v := 1) hC.1 hC.2.1 dL_others_441 (by decide) ?_
        refine lv_goto (tgt := 446) hC.1 hC.2.1 dL_others_442 (by decide) ?_
        exact z_nretb hC hr hZ hag (by decide) h dL_others_446 (by show _ ≤ (22 : Nat); omega) (by show _ ≤ (132 : Nat); omega)
def b_L_others_375 (n np : Nat) (post : Int32 → Nat → Nat → Mem → Prop) (a4 : Int32) (a5 : Int32) (v6 : Int32) (v7 : Int32) (s0 : Int32) (μ : Mem) : Prop := (w_L_away n np (fun (r75 : Int32) (μ74 : Mem) => ((r75 < 0 → post 0 n np μ74) ∧ (¬ r75 < 0 → (w_L_away n np (fun (r78 : Int32) (μ77 : Mem) => ((s0 = 0 → b_L_others_410 n np post a4 a5 s0 r78 (0 : Int32) μ77) ∧ (¬ s0 = 0 → b_L_others_410 n np post a4 a5 s0 r78 (1 : Int32) μ77))) v6 v7 s0 μ74)))) v6 v7 s0 μ)
set_option maxRecDepth 100000 in
set_option maxHeartbeats 4000000 in
theorem t_L_others_375 {p : Program} {l : Launch} {e : Env} {s : State} {m : MethodId} {args : Array Value} {below : List Frame} {meth : Method} {c : Code} {D : va_G} {ca : Nat → ClassId} {base : Nat} {ad : Nat → Nat → Nat} {n np : Nat} {ad0 : Nat → Nat → Nat} {post : Int32 → Nat → Nat → Mem → Prop} (hst : l.stackTraces = false) (hC : ZC p m meth c s RL cL_others 11) (hr : meth.sig.returnType = (some FieldType.boolean)) (hag : zagr ad0 ad) (a4 : Int32) (a5 : Int32) (v6 : Int32) (v7 : Int32) (s0 : Int32) (cx dx : Nat) (μ : Mem) (H : Heap) (locs : List Loc) (ls : Array Slot) (hBc : cx + (8) ≤ 22) (hBs : dx + (48) ≤ 132) (h : b_L_others_375 n np post a4 a5 v6 v7 s0 μ) (hZ : ZS D ca base ad n np μ s H locs) (hl : lv_has ls 11 [(0, .ref (ad 30 0)), (6, .int v6), (7, .int v7)]) : W p l e ({ frames := 9, cells := 22, slots := 132, locals := 180 } : Room) s m args below meth c H locs cx dx (MQ below (ZQN D ca base ad0 post) args s 22 132 (zB base)) (F0 m 375 ls [.int s0]) := by
  unfold b_L_others_375 at h
  refine lv_istore (lv' := [(8, .int s0), (0, .ref (ad 30 0)), (6, .int v6), (7, .int v7)]) hC.1 hC.2.1 dL_others_375 hl (by decide) rfl (fun ls hl => ?_)
  refine lv_aload_n hC.1 hC.2.1 dL_others_377 rfl (lv_at hl 1 rfl) ?_
  refine lv_iload hC.1 hC.2.1 dL_others_378 (lv_at hl 2 rfl) ?_
  refine lv_iload hC.1 hC.2.1 dL_others_380 (lv_at hl 3 rfl) ?_
  refine lv_iload hC.1 hC.2.1 dL_others_382 (lv_at hl 0 rfl) ?_
  refine z_cWi (As := [.ref (ad 30 0), .int v6, .int v7, .int s0]) hC hZ zy_L_away (c_L_away l hst h) km_L_152 rfl ⟨rfl, rfl⟩ ⟨Nat.le_of_ble_eq_true rfl, Nat.le_of_ble_eq_true rfl⟩ hl.1 rfl (Nat.le_of_ble_eq_true rfl) dL_others_384 ⟨by show _ ≤ (22 : Nat); omega, by show _ ≤ (132 : Nat); omega⟩ (fun r75 μ74 H locs h hZ => ?_)
  refine lv_if_lt (tgt := 445) hC.1 hC.2.1 dL_others_387 (by decide) (fun c76 => ?_) (fun c76 => ?_)
  · have h := h.1 c76
    refine lv_iconst (v := 0) hC.1 hC.2.1 dL_others_445 (by decide) ?_
    exact z_nretb hC hr hZ hag (by decide) h dL_others_446 (by show _ ≤ (22 : Nat); omega) (by show _ ≤ (132 : Nat); omega)
  · have h := h.2 c76
    refine lv_aload_n hC.1 hC.2.1 dL_others_390 rfl (lv_at hl 1 rfl) ?_
    refine lv_iload hC.1 hC.2.1 dL_others_391 (lv_at hl 2 rfl) ?_
    refine lv_iload hC.1 hC.2.1 dL_others_393 (lv_at hl 3 rfl) ?_
    refine lv_iload hC.1 hC.2.1 dL_others_395 (lv_at hl 0 rfl) ?_
    refine z_cWi (As := [.ref (ad 30 0), .int v6, .int v7, .int s0]) hC hZ zy_L_away (c_L_away l hst h) km_L_152 rfl ⟨rfl, rfl⟩ ⟨Nat.le_of_ble_eq_true rfl, Nat.le_of_ble_eq_true rfl⟩ hl.1 rfl (Nat.le_of_ble_eq_true rfl) dL_others_397 ⟨by show _ ≤ (22 : Nat); omega, by show _ ≤ (132 : Nat); omega⟩ (fun r78 μ77 H locs h hZ => ?_)
    refine lv_iload hC.1 hC.2.1 dL_others_400 (lv_at hl 0 rfl) ?_
    refine lv_if_eq (tgt := 409) hC.1 hC.2.1 dL_others_402 (by decide) (fun c79 => ?_) (fun c79 => ?_)
    · have h := h.1 c79
      refine lv_iconst (v := 0) hC.1 hC.2.1 dL_others_409 (by decide) ?_
      exact t_L_others_410 (l := l) hst hC hr hag _ _ _ _ _ _ _ _ _ _ _ (by show _ ≤ (22 : Nat); omega) (by show _ ≤ (132 : Nat); omega) h hZ (lv_sub hl [1, 0] rfl)
    · have h := h.2 c79
      refine lv_iconst (v := 1) hC.1 hC.2.1 dL_others_405 (by decide) ?_
      refine lv_goto (tgt := 410) hC.1 hC.2.1 dL_others_406 (by decide) ?_
      exact t_L_others_410 (l := l) hst hC hr hag _ _ _ _ _ _ _ _ _ _ _ (by show _ ≤ (22 : Nat); omega) (by show _ ≤ (132 : Nat); omega) h hZ (lv_sub hl [1, 0] rfl)
def b_L_others_292 (n np : Nat) (post : Int32 → Nat → Nat → Mem → Prop) (a4 : Int32) (a5 : Int32) (v6 : Int32) (s0 : Int32) (μ : Mem) : Prop := (vp_in v6 20 ∧ ∀ μ98 : Mem, μ98 = zst μ 24 0 v6.toNatClampNeg 1 → ((s0 = 0 → post 0 n np μ98) ∧ (¬ s0 = 0 → (w_L_revoke n np (fun (r101 : Int32) (μ100 : Mem) => ((¬ r101 = (-1000003) → post 0 n np μ100) ∧ (r101 = (-1000003) → (w_L_revoke n np (fun (r104 : Int32) (μ103 : Mem) => ((¬ r104 = (-1000001) → post 0 n np μ103) ∧ (r104 = (-1000001) → post 1 n np μ103))) (μ100 22 0 (1 : Int32).toNatClampNeg) μ100)))) v6 μ98))))
set_option maxRecDepth 100000 in
set_option maxHeartbeats 4000000 in
theorem t_L_others_292 {p : Program} {l : Launch} {e : Env} {s : State} {m : MethodId} {args : Array Value} {below : List Frame} {meth : Method} {c : Code} {D : va_G} {ca : Nat → ClassId} {base : Nat} {ad : Nat → Nat → Nat} {n np : Nat} {ad0 : Nat → Nat → Nat} {post : Int32 → Nat → Nat → Mem → Prop} (hst : l.stackTraces = false) (hC : ZC p m meth c s RL cL_others 11) (hr : meth.sig.returnType = (some FieldType.boolean)) (hag : zagr ad0 ad) (a4 : Int32) (a5 : Int32) (v6 : Int32) (s0 : Int32) (cx dx : Nat) (μ : Mem) (H : Heap) (locs : List Loc) (ls : Array Slot) (hBc : cx + (4) ≤ 22) (hBs : dx + (24) ≤ 132) (h : b_L_others_292 n np post a4 a5 v6 s0 μ) (hZ : ZS D ca base ad n np μ s H locs) (hl : lv_has ls 11 [(0, .ref (ad 30 0)), (1, .ref (ad 22 0)), (2, .ref (ad 24 0)), (6, .int v6)]) : W p l e ({ frames := 9, cells := 22, slots := 132, locals := 180 } : Room) s m args below meth c H locs cx dx (MQ below (ZQN D ca base ad0 post) args s 22 132 (zB base)) (F0 m 292 ls [.int s0]) := by
  unfold b_L_others_292 at h
  refine lv_istore (lv' := [(9, .int s0), (0, .ref (ad 30 0)), (1, .ref (ad 22 0)), (2, .ref (ad 24 0)), (6, .int v6)]) hC.1 hC.2.1 dL_others_292 hl (by decide) rfl (fun ls hl => ?_)
  refine lv_aload_n hC.1 hC.2.1 dL_others_294 rfl (lv_at hl 3 rfl) ?_
  refine lv_iload hC.1 hC.2.1 dL_others_295 (lv_at hl 4 rfl) ?_
  refine lv_iconst (v := 1) hC.1 hC.2.1 dL_others_297 (by decide) ?_
  obtain ⟨q97, h⟩ := h
  refine aS_24 hC hZ q97 dL_others_298 (fun μ98 H locs eμ98 hZ => ?_)
  have h := h μ98 eμ98
  refine lv_iload hC.1 hC.2.1 dL_others_299 (lv_at hl 0 rfl) ?_
  refine lv_if_eq (tgt := 331) hC.1 hC.2.1 dL_others_301 (by decide) (fun c99 => ?_) (fun c99 => ?_)
  · have h := h.1 c99
    refine lv_iconst (v := 0) hC.1 hC.2.1 dL_others_331 (by decide) ?_
    exact z_nretb hC hr hZ hag (by decide) h dL_others_332 (by show _ ≤ (22 : Nat); omega) (by show _ ≤ (132 : Nat); omega)
  · have h := h.2 c99
    refine lv_aload_n hC.1 hC.2.1 dL_others_304 rfl (lv_at hl 1 rfl) ?_
    refine lv_iload hC.1 hC.2.1 dL_others_305 (lv_at hl 4 rfl) ?_
    refine z_cWi (As := [.ref (ad 30 0), .int v6]) hC hZ zy_L_revoke (c_L_revoke l hst h) km_L_150 rfl ⟨rfl, rfl⟩ ⟨Nat.le_of_ble_eq_true rfl, Nat.le_of_ble_eq_true rfl⟩ hl.1 rfl (Nat.le_of_ble_eq_true rfl) dL_others_307 ⟨by show _ ≤ (22 : Nat); omega, by show _ ≤ (132 : Nat); omega⟩ (fun r101 μ100 H locs h hZ => ?_)
    refine lv_ldc (v := (-1000003)) hC.1 hC.2.1 hC.2.2.2.1 (hZ.1.2.1.use _ kk_L_21 rfl) dL_others_310 ?_
    refine lv_icmp_ne (tgt := 331) hC.1 hC.2.1 dL_others_312 (by decide) (fun c102 => ?_) (fun c102 => ?_)
    · have h := h.1 c102
      refine lv_iconst (v := 0) hC.1 hC.2.1 dL_others_331 (by decide) ?_
      exact z_nretb hC hr hZ hag (by decide) h dL_others_332 (by show _ ≤ (22 : Nat); omega) (by show _ ≤ (132 : Nat); omega)
    · have h := h.2 c102
      refine lv_aload_n hC.1 hC.2.1 dL_others_315 rfl (lv_at hl 1 rfl) ?_
      refine lv_aload_n hC.1 hC.2.1 dL_others_316 rfl (lv_at hl 2 rfl) ?_
      refine lv_iconst (v := 1) hC.1 hC.2.1 dL_others_317 (by decide) ?_
      refine aL_22 hC hZ (by unfold vp_in; decide) dL_others_318 ?_
      refine z_cWi (As := [.ref (ad 30 0), .int (μ100 22 0 (1 : Int32).toNatClampNeg)]) hC hZ zy_L_revoke (c_L_revoke l hst h) km_L_150 rfl ⟨rfl, rfl⟩ ⟨Nat.le_of_ble_eq_true rfl, Nat.le_of_ble_eq_true rfl⟩ hl.1 rfl (Nat.le_of_ble_eq_true rfl) dL_others_319 ⟨by show _ ≤ (22 : Nat); omega, by show _ ≤ (132 : Nat); omega⟩ (fun r104 μ103 H locs h hZ => ?_)
      refine lv_ldc (v := (-1000001)) hC.1 hC.2.1 hC.2.2.2.1 (hZ.1.2.1.use _ kk_L_28 rfl) dL_others_322 ?_
      refine lv_icmp_ne (tgt := 331) hC.1 hC.2.1 dL_others_324 (by decide) (fun c105 => ?_) (fun c105 => ?_)
      · have h := h.1 c105
        refine lv_iconst (v := 0) hC.1 hC.2.1 dL_others_331 (by decide) ?_
        exact z_nretb hC hr hZ hag (by decide) h dL_others_332 (by show _ ≤ (22 : Nat); omega) (by show _ ≤ (132 : Nat); omega)
      · have h := h.2 c105
        refine lv_iconst (v := 1) hC.1 hC.2.1 dL_others_327 (by decide) ?_
        refine lv_goto (tgt := 332) hC.1 hC.2.1 dL_others_328 (by decide) ?_
        exact z_nretb hC hr hZ hag (by decide) h dL_others_332 (by show _ ≤ (22 : Nat); omega) (by show _ ≤ (132 : Nat); omega)
def b_L_others_276 (n np : Nat) (post : Int32 → Nat → Nat → Mem → Prop) (a4 : Int32) (a5 : Int32) (v6 : Int32) (μ : Mem) : Prop := b_L_others_292 n np post a4 a5 v6 (0 : Int32) μ
set_option maxRecDepth 100000 in
set_option maxHeartbeats 4000000 in
theorem t_L_others_276 {p : Program} {l : Launch} {e : Env} {s : State} {m : MethodId} {args : Array Value} {below : List Frame} {meth : Method} {c : Code} {D : va_G} {ca : Nat → ClassId} {base : Nat} {ad : Nat → Nat → Nat} {n np : Nat} {ad0 : Nat → Nat → Nat} {post : Int32 → Nat → Nat → Mem → Prop} (hst : l.stackTraces = false) (hC : ZC p m meth c s RL cL_others 11) (hr : meth.sig.returnType = (some FieldType.boolean)) (hag : zagr ad0 ad) (a4 : Int32) (a5 : Int32) (v6 : Int32) (cx dx : Nat) (μ : Mem) (H : Heap) (locs : List Loc) (ls : Array Slot) (hBc : cx + (4) ≤ 22) (hBs : dx + (24) ≤ 132) (h : b_L_others_276 n np post a4 a5 v6 μ) (hZ : ZS D ca base ad n np μ s H locs) (hl : lv_has ls 11 [(0, .ref (ad 30 0)), (1, .ref (ad 22 0)), (2, .ref (ad 24 0)), (6, .int v6)]) : W p l e ({ frames := 9, cells := 22, slots := 132, locals := 180 } : Room) s m args below meth c H locs cx dx (MQ below (ZQN D ca base ad0 post) args s 22 132 (zB base)) (F0 m 276 ls []) := by
  unfold b_L_others_276 at h
  refine lv_iconst (v := 0) hC.1 hC.2.1 dL_others_276 (by decide) ?_
  refine lv_goto (tgt := 292) hC.1 hC.2.1 dL_others_277 (by decide) ?_
  exact t_L_others_292 (l := l) hst hC hr hag _ _ _ _ _ _ _ _ _ _ (by show _ ≤ (22 : Nat); omega) (by show _ ≤ (132 : Nat); omega) h hZ (lv_sub hl [0, 1, 2, 3] rfl)
def b_L_others_185 (n np : Nat) (post : Int32 → Nat → Nat → Mem → Prop) (a4 : Int32) (a5 : Int32) (s0 : Int32) (μ : Mem) : Prop := ((¬ s0 = (-1000002) → post 0 n np μ) ∧ (s0 = (-1000002) → post 1 n np μ))
set_option maxRecDepth 100000 in
set_option maxHeartbeats 4000000 in
theorem t_L_others_185 {p : Program} {l : Launch} {e : Env} {s : State} {m : MethodId} {args : Array Value} {below : List Frame} {meth : Method} {c : Code} {D : va_G} {ca : Nat → ClassId} {base : Nat} {ad : Nat → Nat → Nat} {n np : Nat} {ad0 : Nat → Nat → Nat} {post : Int32 → Nat → Nat → Mem → Prop} (hst : l.stackTraces = false) (hC : ZC p m meth c s RL cL_others 11) (hr : meth.sig.returnType = (some FieldType.boolean)) (hag : zagr ad0 ad) (a4 : Int32) (a5 : Int32) (s0 : Int32) (cx dx : Nat) (μ : Mem) (H : Heap) (locs : List Loc) (ls : Array Slot) (hBc : cx + (0) ≤ 22) (hBs : dx + (0) ≤ 132) (h : b_L_others_185 n np post a4 a5 s0 μ) (hZ : ZS D ca base ad n np μ s H locs) (hl : lv_has ls 11 []) : W p l e ({ frames := 9, cells := 22, slots := 132, locals := 180 } : Room) s m args below meth c H locs cx dx (MQ below (ZQN D ca base ad0 post) args s 22 132 (zB base)) (F0 m 185 ls [.int s0]) := by
  unfold b_L_others_185 at h
  refine lv_ldc (v := (-1000002)) hC.1 hC.2.1 hC.2.2.2.1 (hZ.1.2.1.use _ kk_L_18 rfl) dL_others_185 ?_
  refine lv_icmp_ne (tgt := 194) hC.1 hC.2.1 dL_others_187 (by decide) (fun c147 => ?_) (fun c147 => ?_)
  · have h := h.1 c147
    refine lv_iconst (v := 0) hC.1 hC.2.1 dL_others_194 (by decide) ?_
    exact z_nretb hC hr hZ hag (by decide) h dL_others_195 (by show _ ≤ (22 : Nat); omega) (by show _ ≤ (132 : Nat); omega)
  · have h := h.2 c147
    refine lv_iconst (v := 1) hC.1 hC.2.1 dL_others_190 (by decide) ?_
    refine lv_goto (tgt := 195) hC.1 hC.2.1 dL_others_191 (by decide) ?_
    exact z_nretb hC hr hZ hag (by decide) h dL_others_195 (by show _ ≤ (22 : Nat); omega) (by show _ ≤ (132 : Nat); omega)
def b_L_others_171 (n np : Nat) (post : Int32 → Nat → Nat → Mem → Prop) (a4 : Int32) (a5 : Int32) (s0 : Int32) (μ : Mem) : Prop := ((¬ s0 = (-1000002) → post 0 n np μ) ∧ (s0 = (-1000002) → (w_L_permit n np (fun (r146 : Int32) (n np : Nat) (μ145 : Mem) => b_L_others_185 n np post a4 a5 r146 μ145) (0 : Int32) (0 : Int32) (0 : Int32) (10 : Int32) μ)))
set_option maxRecDepth 100000 in
set_option maxHeartbeats 4000000 in
theorem t_L_others_171 {p : Program} {l : Launch} {e : Env} {s : State} {m : MethodId} {args : Array Value} {below : List Frame} {meth : Method} {c : Code} {D : va_G} {ca : Nat → ClassId} {base : Nat} {ad : Nat → Nat → Nat} {n np : Nat} {ad0 : Nat → Nat → Nat} {post : Int32 → Nat → Nat → Mem → Prop} (hst : l.stackTraces = false) (hC : ZC p m meth c s RL cL_others 11) (hr : meth.sig.returnType = (some FieldType.boolean)) (hag : zagr ad0 ad) (a4 : Int32) (a5 : Int32) (s0 : Int32) (cx dx : Nat) (μ : Mem) (H : Heap) (locs : List Loc) (ls : Array Slot) (hBc : cx + (1) ≤ 22) (hBs : dx + (6) ≤ 132) (h : b_L_others_171 n np post a4 a5 s0 μ) (hZ : ZS D ca base ad n np μ s H locs) (hl : lv_has ls 11 [(0, .ref (ad 30 0))]) : W p l e ({ frames := 9, cells := 22, slots := 132, locals := 180 } : Room) s m args below meth c H locs cx dx (MQ below (ZQN D ca base ad0 post) args s 22 132 (zB base)) (F0 m 171 ls [.int s0]) := by
  unfold b_L_others_171 at h
  refine lv_ldc (v := (-1000002)) hC.1 hC.2.1 hC.2.2.2.1 (hZ.1.2.1.use _ kk_L_18 rfl) dL_others_171 ?_
  refine lv_icmp_ne (tgt := 194) hC.1 hC.2.1 dL_others_173 (by decide) (fun c144 => ?_) (fun c144 => ?_)
  · have h := h.1 c144
    refine lv_iconst (v := 0) hC.1 hC.2.1 dL_others_194 (by decide) ?_
    exact z_nretb hC hr hZ hag (by decide) h dL_others_195 (by show _ ≤ (22 : Nat); omega) (by show _ ≤ (132 : Nat); omega)
  · have h := h.2 c144
    refine lv_aload_n hC.1 hC.2.1 dL_others_176 rfl (lv_at hl 0 rfl) ?_
    refine lv_iconst (v := 0) hC.1 hC.2.1 dL_others_177 (by decide) ?_
    refine lv_iconst (v := 0) hC.1 hC.2.1 dL_others_178 (by decide) ?_
    refine lv_iconst (v := 0) hC.1 hC.2.1 dL_others_179 (by decide) ?_
    refine lv_bipush (v := 10) hC.1 hC.2.1 dL_others_180 (by decide) ?_
    refine z_callW (As := [.ref (ad 30 0), .int 0, .int 0, .int 0, .int 10]) hC hZ zy_L_permit (c_L_permit l hst h) km_L_148 rfl ⟨rfl, rfl⟩ ⟨Nat.le_of_ble_eq_true rfl, Nat.le_of_ble_eq_true rfl⟩ hl.1 rfl (Nat.le_of_ble_eq_true rfl) dL_others_182 ⟨by show _ ≤ (22 : Nat); omega, by show _ ≤ (132 : Nat); omega⟩ (fun r146 n2 np2 ad2 μ145 H locs h hag2 hZ => ?_)
    have hl : lv_has ls 11 [(0, .ref (ad2 30 0))] := by
      have q := hl
      rw [← hag2 30 0 (by decide)] at q
      exact q
    exact t_L_others_185 (l := l) hst hC hr (zagr_tr hag hag2) _ _ _ _ _ _ _ _ _ (by show _ ≤ (22 : Nat); omega) (by show _ ≤ (132 : Nat); omega) h hZ (lv_sub hl [] rfl)
def b_L_others_158 (n np : Nat) (post : Int32 → Nat → Nat → Mem → Prop) (a4 : Int32) (a5 : Int32) (s0 : Int32) (μ : Mem) : Prop := ((¬ s0 = (-1000002) → post 0 n np μ) ∧ (s0 = (-1000002) → (w_L_permit n np (fun (r143 : Int32) (n np : Nat) (μ142 : Mem) => b_L_others_171 n np post a4 a5 r143 μ142) (0 : Int32) (0 : Int32) (0 : Int32) (0 : Int32) μ)))
set_option maxRecDepth 100000 in
set_option maxHeartbeats 4000000 in
theorem t_L_others_158 {p : Program} {l : Launch} {e : Env} {s : State} {m : MethodId} {args : Array Value} {below : List Frame} {meth : Method} {c : Code} {D : va_G} {ca : Nat → ClassId} {base : Nat} {ad : Nat → Nat → Nat} {n np : Nat} {ad0 : Nat → Nat → Nat} {post : Int32 → Nat → Nat → Mem → Prop} (hst : l.stackTraces = false) (hC : ZC p m meth c s RL cL_others 11) (hr : meth.sig.returnType = (some FieldType.boolean)) (hag : zagr ad0 ad) (a4 : Int32) (a5 : Int32) (s0 : Int32) (cx dx : Nat) (μ : Mem) (H : Heap) (locs : List Loc) (ls : Array Slot) (hBc : cx + (2) ≤ 22) (hBs : dx + (12) ≤ 132) (h : b_L_others_158 n np post a4 a5 s0 μ) (hZ : ZS D ca base ad n np μ s H locs) (hl : lv_has ls 11 [(0, .ref (ad 30 0))]) : W p l e ({ frames := 9, cells := 22, slots := 132, locals := 180 } : Room) s m args below meth c H locs cx dx (MQ below (ZQN D ca base ad0 post) args s 22 132 (zB base)) (F0 m 158 ls [.int s0]) := by
  unfold b_L_others_158 at h
  refine lv_ldc (v := (-1000002)) hC.1 hC.2.1 hC.2.2.2.1 (hZ.1.2.1.use _ kk_L_18 rfl) dL_others_158 ?_
  refine lv_icmp_ne (tgt := 194) hC.1 hC.2.1 dL_others_160 (by decide) (fun c141 => ?_) (fun c141 => ?_)
  · have h := h.1 c141
    refine lv_iconst (v := 0) hC.1 hC.2.1 dL_others_194 (by decide) ?_
    exact z_nretb hC hr hZ hag (by decide) h dL_others_195 (by show _ ≤ (22 : Nat); omega) (by show _ ≤ (132 : Nat); omega)
  · have h := h.2 c141
    refine lv_aload_n hC.1 hC.2.1 dL_others_163 rfl (lv_at hl 0 rfl) ?_
    refine lv_iconst (v := 0) hC.1 hC.2.1 dL_others_164 (by decide) ?_
    refine lv_iconst (v := 0) hC.1 hC.2.1 dL_others_165 (by decide) ?_
    refine lv_iconst (v := 0) hC.1 hC.2.1 dL_others_166 (by decide) ?_
    refine lv_iconst (v := 0) hC.1 hC.2.1 dL_others_167 (by decide) ?_
    refine z_callW (As := [.ref (ad 30 0), .int 0, .int 0, .int 0, .int 0]) hC hZ zy_L_permit (c_L_permit l hst h) km_L_148 rfl ⟨rfl, rfl⟩ ⟨Nat.le_of_ble_eq_true rfl, Nat.le_of_ble_eq_true rfl⟩ hl.1 rfl (Nat.le_of_ble_eq_true rfl) dL_others_168 ⟨by show _ ≤ (22 : Nat); omega, by show _ ≤ (132 : Nat); omega⟩ (fun r143 n2 np2 ad2 μ142 H locs h hag2 hZ => ?_)
    have hl : lv_has ls 11 [(0, .ref (ad2 30 0))] := by
      have q := hl
      rw [← hag2 30 0 (by decide)] at q
      exact q
    exact t_L_others_171 (l := l) hst hC hr (zagr_tr hag hag2) _ _ _ _ _ _ _ _ _ (by show _ ≤ (22 : Nat); omega) (by show _ ≤ (132 : Nat); omega) h hZ (lv_sub hl [0] rfl)
def b_L_others_144 (n np : Nat) (post : Int32 → Nat → Nat → Mem → Prop) (a4 : Int32) (a5 : Int32) (s0 : Int32) (μ : Mem) : Prop := ((¬ s0 = (-1000002) → post 0 n np μ) ∧ (s0 = (-1000002) → (w_L_permit n np (fun (r140 : Int32) (n np : Nat) (μ139 : Mem) => b_L_others_158 n np post a4 a5 r140 μ139) (0 : Int32) (0 : Int32) (30 : Int32) (1 : Int32) μ)))
set_option maxRecDepth 100000 in
set_option maxHeartbeats 4000000 in
theorem t_L_others_144 {p : Program} {l : Launch} {e : Env} {s : State} {m : MethodId} {args : Array Value} {below : List Frame} {meth : Method} {c : Code} {D : va_G} {ca : Nat → ClassId} {base : Nat} {ad : Nat → Nat → Nat} {n np : Nat} {ad0 : Nat → Nat → Nat} {post : Int32 → Nat → Nat → Mem → Prop} (hst : l.stackTraces = false) (hC : ZC p m meth c s RL cL_others 11) (hr : meth.sig.returnType = (some FieldType.boolean)) (hag : zagr ad0 ad) (a4 : Int32) (a5 : Int32) (s0 : Int32) (cx dx : Nat) (μ : Mem) (H : Heap) (locs : List Loc) (ls : Array Slot) (hBc : cx + (3) ≤ 22) (hBs : dx + (18) ≤ 132) (h : b_L_others_144 n np post a4 a5 s0 μ) (hZ : ZS D ca base ad n np μ s H locs) (hl : lv_has ls 11 [(0, .ref (ad 30 0))]) : W p l e ({ frames := 9, cells := 22, slots := 132, locals := 180 } : Room) s m args below meth c H locs cx dx (MQ below (ZQN D ca base ad0 post) args s 22 132 (zB base)) (F0 m 144 ls [.int s0]) := by
  unfold b_L_others_144 at h
  refine lv_ldc (v := (-1000002)) hC.1 hC.2.1 hC.2.2.2.1 (hZ.1.2.1.use _ kk_L_18 rfl) dL_others_144 ?_
  refine lv_icmp_ne (tgt := 194) hC.1 hC.2.1 dL_others_146 (by decide) (fun c138 => ?_) (fun c138 => ?_)
  · have h := h.1 c138
    refine lv_iconst (v := 0) hC.1 hC.2.1 dL_others_194 (by decide) ?_
    exact z_nretb hC hr hZ hag (by decide) h dL_others_195 (by show _ ≤ (22 : Nat); omega) (by show _ ≤ (132 : Nat); omega)
  · have h := h.2 c138
    refine lv_aload_n hC.1 hC.2.1 dL_others_149 rfl (lv_at hl 0 rfl) ?_
    refine lv_iconst (v := 0) hC.1 hC.2.1 dL_others_150 (by decide) ?_
    refine lv_iconst (v := 0) hC.1 hC.2.1 dL_others_151 (by decide) ?_
    refine lv_bipush (v := 30) hC.1 hC.2.1 dL_others_152 (by decide) ?_
    refine lv_iconst (v := 1) hC.1 hC.2.1 dL_others_154 (by decide) ?_
    refine z_callW (As := [.ref (ad 30 0), .int 0, .int 0, .int 30, .int 1]) hC hZ zy_L_permit (c_L_permit l hst h) km_L_148 rfl ⟨rfl, rfl⟩ ⟨Nat.le_of_ble_eq_true rfl, Nat.le_of_ble_eq_true rfl⟩ hl.1 rfl (Nat.le_of_ble_eq_true rfl) dL_others_155 ⟨by show _ ≤ (22 : Nat); omega, by show _ ≤ (132 : Nat); omega⟩ (fun r140 n2 np2 ad2 μ139 H locs h hag2 hZ => ?_)
    have hl : lv_has ls 11 [(0, .ref (ad2 30 0))] := by
      have q := hl
      rw [← hag2 30 0 (by decide)] at q
      exact q
    exact t_L_others_158 (l := l) hst hC hr (zagr_tr hag hag2) _ _ _ _ _ _ _ _ _ (by show _ ≤ (22 : Nat); omega) (by show _ ≤ (132 : Nat); omega) h hZ (lv_sub hl [0] rfl)
def b_L_others_131 (n np : Nat) (post : Int32 → Nat → Nat → Mem → Prop) (a4 : Int32) (a5 : Int32) (s0 : Int32) (μ : Mem) : Prop := ((¬ s0 = (-1000002) → post 0 n np μ) ∧ (s0 = (-1000002) → (w_L_permit n np (fun (r137 : Int32) (n np : Nat) (μ136 : Mem) => b_L_others_144 n np post a4 a5 r137 μ136) (0 : Int32) (5 : Int32) (4 : Int32) (1 : Int32) μ)))
set_option maxRecDepth 100000 in
set_option maxHeartbeats 4000000 in
theorem t_L_others_131 {p : Program} {l : Launch} {e : Env} {s : State} {m : MethodId} {args : Array Value} {below : List Frame} {meth : Method} {c : Code} {D : va_G} {ca : Nat → ClassId} {base : Nat} {ad : Nat → Nat → Nat} {n np : Nat} {ad0 : Nat → Nat → Nat} {post : Int32 → Nat → Nat → Mem → Prop} (hst : l.stackTraces = false) (hC : ZC p m meth c s RL cL_others 11) (hr : meth.sig.returnType = (some FieldType.boolean)) (hag : zagr ad0 ad) (a4 : Int32) (a5 : Int32) (s0 : Int32) (cx dx : Nat) (μ : Mem) (H : Heap) (locs : List Loc) (ls : Array Slot) (hBc : cx + (4) ≤ 22) (hBs : dx + (24) ≤ 132) (h : b_L_others_131 n np post a4 a5 s0 μ) (hZ : ZS D ca base ad n np μ s H locs) (hl : lv_has ls 11 [(0, .ref (ad 30 0))]) : W p l e ({ frames := 9, cells := 22, slots := 132, locals := 180 } : Room) s m args below meth c H locs cx dx (MQ below (ZQN D ca base ad0 post) args s 22 132 (zB base)) (F0 m 131 ls [.int s0]) := by
  unfold b_L_others_131 at h
  refine lv_ldc (v := (-1000002)) hC.1 hC.2.1 hC.2.2.2.1 (hZ.1.2.1.use _ kk_L_18 rfl) dL_others_131 ?_
  refine lv_icmp_ne (tgt := 194) hC.1 hC.2.1 dL_others_133 (by decide) (fun c135 => ?_) (fun c135 => ?_)
  · have h := h.1 c135
    refine lv_iconst (v := 0) hC.1 hC.2.1 dL_others_194 (by decide) ?_
    exact z_nretb hC hr hZ hag (by decide) h dL_others_195 (by show _ ≤ (22 : Nat); omega) (by show _ ≤ (132 : Nat); omega)
  · have h := h.2 c135
    refine lv_aload_n hC.1 hC.2.1 dL_others_136 rfl (lv_at hl 0 rfl) ?_
    refine lv_iconst (v := 0) hC.1 hC.2.1 dL_others_137 (by decide) ?_
    refine lv_iconst (v := 5) hC.1 hC.2.1 dL_others_138 (by decide) ?_
    refine lv_iconst (v := 4) hC.1 hC.2.1 dL_others_139 (by decide) ?_
    refine lv_iconst (v := 1) hC.1 hC.2.1 dL_others_140 (by decide) ?_
    refine z_callW (As := [.ref (ad 30 0), .int 0, .int 5, .int 4, .int 1]) hC hZ zy_L_permit (c_L_permit l hst h) km_L_148 rfl ⟨rfl, rfl⟩ ⟨Nat.le_of_ble_eq_true rfl, Nat.le_of_ble_eq_true rfl⟩ hl.1 rfl (Nat.le_of_ble_eq_true rfl) dL_others_141 ⟨by show _ ≤ (22 : Nat); omega, by show _ ≤ (132 : Nat); omega⟩ (fun r137 n2 np2 ad2 μ136 H locs h hag2 hZ => ?_)
    have hl : lv_has ls 11 [(0, .ref (ad2 30 0))] := by
      have q := hl
      rw [← hag2 30 0 (by decide)] at q
      exact q
    exact t_L_others_144 (l := l) hst hC hr (zagr_tr hag hag2) _ _ _ _ _ _ _ _ _ (by show _ ≤ (22 : Nat); omega) (by show _ ≤ (132 : Nat); omega) h hZ (lv_sub hl [0] rfl)
def b_L_others_109 (n np : Nat) (post : Int32 → Nat → Nat → Mem → Prop) (a4 : Int32) (a5 : Int32) (v8 : Int32) (v9 : Int32) (s0 : Int32) (μ : Mem) : Prop := ((¬ s0 = v8 → post 0 n np μ) ∧ (s0 = v8 → (w_X4_refused n np (fun (r131 : Int32) (μ130 : Mem) => (∃ μ130g : Mem, gs μ130 μ130g ∧ ((v9 < r131 → post 0 n np μ130g) ∧ (¬ v9 < r131 → (w_L_permit n np (fun (r134 : Int32) (n np : Nat) (μ133 : Mem) => b_L_others_131 n np post a4 a5 r134 μ133) (4 : Int32) (0 : Int32) (0 : Int32) (1 : Int32) μ130g))))) μ)))
set_option maxRecDepth 100000 in
set_option maxHeartbeats 4000000 in
theorem t_L_others_109 {p : Program} {l : Launch} {e : Env} {s : State} {m : MethodId} {args : Array Value} {below : List Frame} {meth : Method} {c : Code} {D : va_G} {ca : Nat → ClassId} {base : Nat} {ad : Nat → Nat → Nat} {n np : Nat} {ad0 : Nat → Nat → Nat} {post : Int32 → Nat → Nat → Mem → Prop} (hst : l.stackTraces = false) (hC : ZC p m meth c s RL cL_others 11) (hr : meth.sig.returnType = (some FieldType.boolean)) (hag : zagr ad0 ad) (a4 : Int32) (a5 : Int32) (v8 : Int32) (v9 : Int32) (s0 : Int32) (cx dx : Nat) (μ : Mem) (H : Heap) (locs : List Loc) (ls : Array Slot) (hBc : cx + (5) ≤ 22) (hBs : dx + (30) ≤ 132) (h : b_L_others_109 n np post a4 a5 v8 v9 s0 μ) (hZ : ZS D ca base ad n np μ s H locs) (hl : lv_has ls 11 [(0, .ref (ad 30 0)), (8, .int v8), (9, .int v9)]) : W p l e ({ frames := 9, cells := 22, slots := 132, locals := 180 } : Room) s m args below meth c H locs cx dx (MQ below (ZQN D ca base ad0 post) args s 22 132 (zB base)) (F0 m 109 ls [.int s0]) := by
  unfold b_L_others_109 at h
  refine lv_iload hC.1 hC.2.1 dL_others_109 (lv_at hl 1 rfl) ?_
  refine lv_icmp_ne (tgt := 194) hC.1 hC.2.1 dL_others_111 (by decide) (fun c129 => ?_) (fun c129 => ?_)
  · have h := h.1 c129
    refine lv_iconst (v := 0) hC.1 hC.2.1 dL_others_194 (by decide) ?_
    exact z_nretb hC hr hZ hag (by decide) h dL_others_195 (by show _ ≤ (22 : Nat); omega) (by show _ ≤ (132 : Nat); omega)
  · have h := h.2 c129
    refine lv_aload_n hC.1 hC.2.1 dL_others_114 rfl (lv_at hl 0 rfl) ?_
    refine z_cVi (As := []) hC hZ (zF_30 _) rfl zy_X4_refused (c_X4_refused l h) km_L_99 rfl ⟨rfl, rfl⟩ ⟨Nat.le_of_ble_eq_true rfl, Nat.le_of_ble_eq_true rfl⟩ hl.1 rfl (Nat.le_of_ble_eq_true rfl) dL_others_115 ⟨by show _ ≤ (22 : Nat); omega, by show _ ≤ (132 : Nat); omega⟩ (fun r131 μ130 H locs h hZ => ?_)
    obtain ⟨μ130g, hgs, h⟩ := h
    have hZ := hZ.gs hgs
    refine lv_iload hC.1 hC.2.1 dL_others_118 (lv_at hl 2 rfl) ?_
    refine lv_icmp_gt (tgt := 194) hC.1 hC.2.1 dL_others_120 (by decide) (fun c132 => ?_) (fun c132 => ?_)
    · have h := h.1 c132
      refine lv_iconst (v := 0) hC.1 hC.2.1 dL_others_194 (by decide) ?_
      exact z_nretb hC hr hZ hag (by decide) h dL_others_195 (by show _ ≤ (22 : Nat); omega) (by show _ ≤ (132 : Nat); omega)
    · have h := h.2 c132
      refine lv_aload_n hC.1 hC.2.1 dL_others_123 rfl (lv_at hl 0 rfl) ?_
      refine lv_iconst (v := 4) hC.1 hC.2.1 dL_others_124 (by decide) ?_
      refine lv_iconst (v := 0) hC.1 hC.2.1 dL_others_125 (by decide) ?_
      refine lv_iconst (v := 0) hC.1 hC.2.1 dL_others_126 (by decide) ?_
      refine lv_iconst (v := 1) hC.1 hC.2.1 dL_others_127 (by decide) ?_
      refine z_callW (As := [.ref (ad 30 0), .int 4, .int 0, .int 0, .int 1]) hC hZ zy_L_permit (c_L_permit l hst h) km_L_148 rfl ⟨rfl, rfl⟩ ⟨Nat.le_of_ble_eq_true rfl, Nat.le_of_ble_eq_true rfl⟩ hl.1 rfl (Nat.le_of_ble_eq_true rfl) dL_others_128 ⟨by show _ ≤ (22 : Nat); omega, by show _ ≤ (132 : Nat); omega⟩ (fun r134 n2 np2 ad2 μ133 H locs h hag2 hZ => ?_)
      have hl : lv_has ls 11 [(0, .ref (ad2 30 0)), (8, .int v8), (9, .int v9)] := by
        have q := hl
        rw [← hag2 30 0 (by decide)] at q
        exact q
      exact t_L_others_131 (l := l) hst hC hr (zagr_tr hag hag2) _ _ _ _ _ _ _ _ _ (by show _ ≤ (22 : Nat); omega) (by show _ ≤ (132 : Nat); omega) h hZ (lv_sub hl [0] rfl)
def b_L_others_78 (n np : Nat) (post : Int32 → Nat → Nat → Mem → Prop) (a4 : Int32) (a5 : Int32) (v6 : Int32) (v7 : Int32) (v8 : Int32) (v9 : Int32) (s1 : Int32) (s2 : Int32) (s3 : Int32) (μ : Mem) : Prop := (vp_in s1 5 ∧ ∀ μ122 : Mem, μ122 = zst μ 22 0 s1.toNatClampNeg (s2 + s3) → (w_L_low n np (fun (r124 : Int32) (μ123 : Mem) => (w_L_low n np (fun (r126 : Int32) (μ125 : Mem) => (w_L_permit n np (fun (r128 : Int32) (n np : Nat) (μ127 : Mem) => b_L_others_109 n np post a4 a5 v8 v9 r128 μ127) r124 v6 v7 (1 + r126) μ125)) (a5 >>> (12 &&& 31)) (9 : Int32) μ123)) (a5 >>> (10 &&& 31)) (4 : Int32) μ122))
set_option maxRecDepth 100000 in
set_option maxHeartbeats 4000000 in
theorem t_L_others_78 {p : Program} {l : Launch} {e : Env} {s : State} {m : MethodId} {args : Array Value} {below : List Frame} {meth : Method} {c : Code} {D : va_G} {ca : Nat → ClassId} {base : Nat} {ad : Nat → Nat → Nat} {n np : Nat} {ad0 : Nat → Nat → Nat} {post : Int32 → Nat → Nat → Mem → Prop} (hst : l.stackTraces = false) (hC : ZC p m meth c s RL cL_others 11) (hr : meth.sig.returnType = (some FieldType.boolean)) (hag : zagr ad0 ad) (a4 : Int32) (a5 : Int32) (v6 : Int32) (v7 : Int32) (v8 : Int32) (v9 : Int32) (s1 : Int32) (s2 : Int32) (s3 : Int32) (cx dx : Nat) (μ : Mem) (H : Heap) (locs : List Loc) (ls : Array Slot) (hBc : cx + (6) ≤ 22) (hBs : dx + (36) ≤ 132) (h : b_L_others_78 n np post a4 a5 v6 v7 v8 v9 s1 s2 s3 μ) (hZ : ZS D ca base ad n np μ s H locs) (hl : lv_has ls 11 [(0, .ref (ad 30 0)), (4, .int a5), (6, .int v6), (7, .int v7), (8, .int v8), (9, .int v9)]) : W p l e ({ frames := 9, cells := 22, slots := 132, locals := 180 } : Room) s m args below meth c H locs cx dx (MQ below (ZQN D ca base ad0 post) args s 22 132 (zB base)) (F0 m 78 ls [.int s3, .int s2, .int s1, .ref (ad 22 0)]) := by
  unfold b_L_others_78 at h
  refine lv_iadd hC.1 hC.2.1 dL_others_78 ?_
  obtain ⟨q121, h⟩ := h
  refine aS_22 hC hZ q121 dL_others_79 (fun μ122 H locs eμ122 hZ => ?_)
  have h := h μ122 eμ122
  refine lv_aload_n hC.1 hC.2.1 dL_others_80 rfl (lv_at hl 0 rfl) ?_
  refine lv_iload hC.1 hC.2.1 dL_others_81 (lv_at hl 1 rfl) ?_
  refine lv_bipush (v := 10) hC.1 hC.2.1 dL_others_83 (by decide) ?_
  refine lv_ishr hC.1 hC.2.1 dL_others_85 ?_
  refine lv_iconst (v := 4) hC.1 hC.2.1 dL_others_86 (by decide) ?_
  refine z_cSi (As := [.int (a5 >>> (10 &&& 31)), .int 4]) hC hZ zy_L_low (c_L_low l h) km_L_118 rfl ⟨rfl, rfl⟩ ⟨Nat.le_of_ble_eq_true rfl, Nat.le_of_ble_eq_true rfl⟩ hl.1 rfl (Nat.le_of_ble_eq_true rfl) dL_others_87 ⟨by show _ ≤ (22 : Nat); omega, by show _ ≤ (132 : Nat); omega⟩ (fun r124 μ123 H locs h hZ => ?_)
  refine lv_iload hC.1 hC.2.1 dL_others_90 (lv_at hl 2 rfl) ?_
  refine lv_iload hC.1 hC.2.1 dL_others_92 (lv_at hl 3 rfl) ?_
  refine lv_iconst (v := 1) hC.1 hC.2.1 dL_others_94 (by decide) ?_
  refine lv_iload hC.1 hC.2.1 dL_others_95 (lv_at hl 1 rfl) ?_
  refine lv_bipush (v := 12) hC.1 hC.2.1 dL_others_97 (by decide) ?_
  refine lv_ishr hC.1 hC.2.1 dL_others_99 ?_
  refine lv_bipush (v := 9) hC.1 hC.2.1 dL_others_100 (by decide) ?_
  refine z_cSi (As := [.int (a5 >>> (12 &&& 31)), .int 9]) hC hZ zy_L_low (c_L_low l h) km_L_118 rfl ⟨rfl, rfl⟩ ⟨Nat.le_of_ble_eq_true rfl, Nat.le_of_ble_eq_true rfl⟩ hl.1 rfl (Nat.le_of_ble_eq_true rfl) dL_others_102 ⟨by show _ ≤ (22 : Nat); omega, by show _ ≤ (132 : Nat); omega⟩ (fun r126 μ125 H locs h hZ => ?_)
  refine lv_iadd hC.1 hC.2.1 dL_others_105 ?_
  refine z_callW (As := [.ref (ad 30 0), .int r124, .int v6, .int v7, .int (1 + r126)]) hC hZ zy_L_permit (c_L_permit l hst h) km_L_148 rfl ⟨rfl, rfl⟩ ⟨Nat.le_of_ble_eq_true rfl, Nat.le_of_ble_eq_true rfl⟩ hl.1 rfl (Nat.le_of_ble_eq_true rfl) dL_others_106 ⟨by show _ ≤ (22 : Nat); omega, by show _ ≤ (132 : Nat); omega⟩ (fun r128 n2 np2 ad2 μ127 H locs h hag2 hZ => ?_)
  have hl : lv_has ls 11 [(0, .ref (ad2 30 0)), (4, .int a5), (6, .int v6), (7, .int v7), (8, .int v8), (9, .int v9)] := by
    have q := hl
    rw [← hag2 30 0 (by decide)] at q
    exact q
  exact t_L_others_109 (l := l) hst hC hr (zagr_tr hag hag2) _ _ _ _ _ _ _ _ _ _ _ (by show _ ≤ (22 : Nat); omega) (by show _ ≤ (132 : Nat); omega) h hZ (lv_sub hl [0, 4, 5] rfl)
def b_L_others_56 (n np : Nat) (post : Int32 → Nat → Nat → Mem → Prop) (a4 : Int32) (a5 : Int32) (v6 : Int32) (v7 : Int32) (s0 : Int32) (μ : Mem) : Prop := (w_X4_refused n np (fun (r119 : Int32) (μ118 : Mem) => (∃ μ118g : Mem, gs μ118 μ118g ∧ ((0 ≤ s0 → b_L_others_78 n np post a4 a5 v6 v7 s0 r119 (1 : Int32) (μ118g 22 0 (1 : Int32).toNatClampNeg) (1 : Int32) μ118g) ∧ (¬ 0 ≤ s0 → b_L_others_78 n np post a4 a5 v6 v7 s0 r119 (1 : Int32) (μ118g 22 0 (1 : Int32).toNatClampNeg) (0 : Int32) μ118g)))) μ)
set_option maxRecDepth 100000 in
set_option maxHeartbeats 4000000 in
theorem t_L_others_56 {p : Program} {l : Launch} {e : Env} {s : State} {m : MethodId} {args : Array Value} {below : List Frame} {meth : Method} {c : Code} {D : va_G} {ca : Nat → ClassId} {base : Nat} {ad : Nat → Nat → Nat} {n np : Nat} {ad0 : Nat → Nat → Nat} {post : Int32 → Nat → Nat → Mem → Prop} (hst : l.stackTraces = false) (hC : ZC p m meth c s RL cL_others 11) (hr : meth.sig.returnType = (some FieldType.boolean)) (hag : zagr ad0 ad) (a4 : Int32) (a5 : Int32) (v6 : Int32) (v7 : Int32) (s0 : Int32) (cx dx : Nat) (μ : Mem) (H : Heap) (locs : List Loc) (ls : Array Slot) (hBc : cx + (6) ≤ 22) (hBs : dx + (36) ≤ 132) (h : b_L_others_56 n np post a4 a5 v6 v7 s0 μ) (hZ : ZS D ca base ad n np μ s H locs) (hl : lv_has ls 11 [(0, .ref (ad 30 0)), (1, .ref (ad 22 0)), (4, .int a5), (6, .int v6), (7, .int v7)]) : W p l e ({ frames := 9, cells := 22, slots := 132, locals := 180 } : Room) s m args below meth c H locs cx dx (MQ below (ZQN D ca base ad0 post) args s 22 132 (zB base)) (F0 m 56 ls [.int s0]) := by
  unfold b_L_others_56 at h
  refine lv_istore (lv' := [(8, .int s0), (0, .ref (ad 30 0)), (1, .ref (ad 22 0)), (4, .int a5), (6, .int v6), (7, .int v7)]) hC.1 hC.2.1 dL_others_56 hl (by decide) rfl (fun ls hl => ?_)
  refine lv_aload_n hC.1 hC.2.1 dL_others_58 rfl (lv_at hl 1 rfl) ?_
  refine z_cVi (As := []) hC hZ (zF_30 _) rfl zy_X4_refused (c_X4_refused l h) km_L_99 rfl ⟨rfl, rfl⟩ ⟨Nat.le_of_ble_eq_true rfl, Nat.le_of_ble_eq_true rfl⟩ hl.1 rfl (Nat.le_of_ble_eq_true rfl) dL_others_59 ⟨by show _ ≤ (22 : Nat); omega, by show _ ≤ (132 : Nat); omega⟩ (fun r119 μ118 H locs h hZ => ?_)
  obtain ⟨μ118g, hgs, h⟩ := h
  have hZ := hZ.gs hgs
  refine lv_istore (lv' := [(9, .int r119), (8, .int s0), (0, .ref (ad 30 0)), (1, .ref (ad 22 0)), (4, .int a5), (6, .int v6), (7, .int v7)]) hC.1 hC.2.1 dL_others_62 hl (by decide) rfl (fun ls hl => ?_)
  refine lv_aload_n hC.1 hC.2.1 dL_others_64 rfl (lv_at hl 3 rfl) ?_
  refine lv_iconst (v := 1) hC.1 hC.2.1 dL_others_65 (by decide) ?_
  refine lv_dup2_11 hC.1 hC.2.1 dL_others_66 rfl rfl ?_
  refine aL_22 hC hZ (by unfold vp_in; decide) dL_others_67 ?_
  refine lv_iload hC.1 hC.2.1 dL_others_68 (lv_at hl 1 rfl) ?_
  refine lv_if_ge (tgt := 77) hC.1 hC.2.1 dL_others_70 (by decide) (fun c120 => ?_) (fun c120 => ?_)
  · have h := h.1 c120
    refine lv_iconst (v := 1) hC.1 hC.2.1 dL_others_77 (by decide) ?_
    exact t_L_others_78 (l := l) hst hC hr hag _ _ _ _ _ _ _ _ _ _ _ _ _ _ _ (by show _ ≤ (22 : Nat); omega) (by show _ ≤ (132 : Nat); omega) h hZ (lv_sub hl [2, 4, 5, 6, 1, 0] rfl)
  · have h := h.2 c120
    refine lv_iconst (v := 0) hC.1 hC.2.1 dL_others_73 (by decide) ?_
    refine lv_goto (tgt := 78) hC.1 hC.2.1 dL_others_74 (by decide) ?_
    exact t_L_others_78 (l := l) hst hC hr hag _ _ _ _ _ _ _ _ _ _ _ _ _ _ _ (by show _ ≤ (22 : Nat); omega) (by show _ ≤ (132 : Nat); omega) h hZ (lv_sub hl [2, 4, 5, 6, 1, 0] rfl)
def w_L_others (n np : Nat) (post : Int32 → Nat → Nat → Mem → Prop) (a4 : Int32) (a5 : Int32) (μ : Mem) : Prop := (w_L_low n np (fun (r2 : Int32) (μ1 : Mem) => ((2 ≤ r2 → ((¬ r2 = 2 → ((¬ r2 = 3 → (w_L_low n np (fun (r7 : Int32) (μ6 : Mem) => (w_L_copies n np (fun (r9 : Int32) (μ8 : Mem) => (w_L_copies n np (fun (r11 : Int32) (μ10 : Mem) => (w_L_copies n np (fun (r13 : Int32) (μ12 : Mem) => (w_L_copies n np (fun (r15 : Int32) (μ14 : Mem) => ((6 ≤ r2 → ((¬ r2 = 6 → (∃ fuel : Nat, fuel ≤ 6 ∧ l_L_others_709 n np post a4 a5 fuel r7 (0 : Int32) (0 : Int32) μ14)) ∧ (r2 = 6 → (w_L_low n np (fun (r31 : Int32) (μ30 : Mem) => (w_L_copies n np (fun (r33 : Int32) (μ32 : Mem) => (w_L_copies n np (fun (r35 : Int32) (μ34 : Mem) => (w_L_mishap n np (fun (r37 : Int32) (μ36 : Mem) => ((r33 ≤ 0 → b_L_others_624 n np post a4 a5 r7 r31 r33 r35 r37 (-1000003 : Int32) μ36) ∧ (¬ r33 ≤ 0 → b_L_others_624 n np post a4 a5 r7 r31 r33 r35 r37 (r35 + 1) μ36))) r7 r31 μ34)) r7 (3 : Int32) μ32)) r7 r31 μ30)) (a5 >>> (3 &&& 31)) (3 : Int32) μ14)))) ∧ (¬ 6 ≤ r2 → ((20 ≤ (((r9 + r11) + r13) + r15) → b_L_others_511 n np post a4 a5 r7 (-1000003 : Int32) μ14) ∧ (¬ 20 ≤ (((r9 + r11) + r13) + r15) → b_L_others_511 n np post a4 a5 r7 ((((r9 + r11) + r13) + r15) + 1) μ14))))) r7 (3 : Int32) μ12)) r7 (2 : Int32) μ10)) r7 (1 : Int32) μ8)) r7 (0 : Int32) μ6)) a5 (5 : Int32) μ1)) ∧ (r2 = 3 → (w_L_low n np (fun (r68 : Int32) (μ67 : Mem) => (w_L_low n np (fun (r70 : Int32) (μ69 : Mem) => (w_L_low n np (fun (r72 : Int32) (μ71 : Mem) => ((¬ r72 = 0 → b_L_others_375 n np post a4 a5 r68 r70 (0 : Int32) μ71) ∧ (r72 = 0 → b_L_others_375 n np post a4 a5 r68 r70 (1 : Int32) μ71))) (a5 >>> (8 &&& 31)) (2 : Int32) μ69)) (a5 >>> (3 &&& 31)) (30 : Int32) μ67)) a5 (5 : Int32) μ1)))) ∧ (r2 = 2 → ((¬ (μ1 22 0 (1 : Int32).toNatClampNeg) = 0 → (w_L_low n np (fun (r89 : Int32) (μ88 : Mem) => (w_X4_refused n np (fun (r91 : Int32) (μ90 : Mem) => (∃ μ90g : Mem, gs μ90 μ90g ∧ (w_L_revoke n np (fun (r93 : Int32) (μ92 : Mem) => (vp_in r89 20 ∧ ((¬ (μ92 24 0 r89.toNatClampNeg) = 0 → ((¬ r93 = (-1000003) → b_L_others_292 n np post a4 a5 r89 (0 : Int32) μ92) ∧ (r93 = (-1000003) → b_L_others_292 n np post a4 a5 r89 (1 : Int32) μ92))) ∧ ((μ92 24 0 r89.toNatClampNeg) = 0 → ((r93 < 0 → b_L_others_276 n np post a4 a5 r89 μ92) ∧ (¬ r93 < 0 → (w_X4_refused n np (fun (r108 : Int32) (μ107 : Mem) => (∃ μ107g : Mem, gs μ107 μ107g ∧ ((¬ r108 = (r91 + r93) → b_L_others_276 n np post a4 a5 r89 μ107g) ∧ (r108 = (r91 + r93) → b_L_others_292 n np post a4 a5 r89 (1 : Int32) μ107g)))) μ92))))))) r89 μ90g))) μ88)) a5 (μ1 22 0 (1 : Int32).toNatClampNeg) μ1)) ∧ ((μ1 22 0 (1 : Int32).toNatClampNeg) = 0 → (w_L_revoke n np (fun (r111 : Int32) (μ110 : Mem) => ((¬ r111 = (-1000001) → post 0 n np μ110) ∧ (r111 = (-1000001) → post 1 n np μ110))) (0 : Int32) μ1)))))) ∧ (¬ 2 ≤ r2 → (w_L_low n np (fun (r114 : Int32) (μ113 : Mem) => (w_L_low n np (fun (r116 : Int32) (μ115 : Mem) => ((20 ≤ (μ115 22 0 (1 : Int32).toNatClampNeg) → b_L_others_56 n np post a4 a5 r114 (r114 + r116) (-1000003 : Int32) μ115) ∧ (¬ 20 ≤ (μ115 22 0 (1 : Int32).toNatClampNeg) → b_L_others_56 n np post a4 a5 r114 (r114 + r116) (μ115 22 0 (1 : Int32).toNatClampNeg) μ115))) (a5 >>> (5 &&& 31)) (30 - r114) μ113)) a5 (30 : Int32) μ1)))) a4 (8 : Int32) μ)
set_option maxRecDepth 100000 in
set_option maxHeartbeats 4000000 in
theorem c_L_others (l : Launch) (hst : l.stackTraces = false) {D : va_G} {ca : Nat → ClassId} {base : Nat} {ad : Nat → Nat → Nat} {n np : Nat} {μ : Mem} {post : Int32 → Nat → Nat → Mem → Prop} {a4 : Int32} {a5 : Int32} (h : w_L_others n np post a4 a5 μ) : ZGMet l yL_others cL_others 11 (some FieldType.boolean) ({ frames := 9, cells := 22, slots := 132, locals := 180 } : Room) 22 132 D ca base ad n np [.ref (ad 30 0), .ref (ad 22 0), .ref (ad 24 0), .int a4, .int a5] μ (post) := by
  unfold ZGMet
  refine Met.ofW (cc := cL_others) (maxL := 11) (ret := (some FieldType.boolean)) (by decide) rfl ?_
  intro p e s m args below meth c s₁ B hml hv
  obtain ⟨rfl, hU⟩ := hv
  have hZ := hU.toS
  have hC : ZC p m meth c s RL cL_others 11 := ⟨B.exec, B.bytes, hml, findClass_of_methodNamed B.named, B.notSynchronized⟩
  have hr := B.returns
  have hag := zagr_rf ad
  have key : W p l e ({ frames := 9, cells := 22, slots := 132, locals := 180 } : Room) s m (([.ref (ad 30 0), .ref (ad 22 0), .ref (ad 24 0), .int a4, .int a5] : List Value).toArray) below meth c s.heap [] 0 0 (MQ below (ZQN D ca base ad post) (([.ref (ad 30 0), .ref (ad 22 0), .ref (ad 24 0), .int a4, .int a5] : List Value).toArray) s 22 132 (zB base)) (entryFrame m (([.ref (ad 30 0), .ref (ad 22 0), .ref (ad 24 0), .int a4, .int a5] : List Value).toArray) 11) := by
    have hl := lv_entry ([.ref (ad 30 0), .ref (ad 22 0), .ref (ad 24 0), .int a4, .int a5]) (n := 11) (Nat.le_of_ble_eq_true rfl)
    rw [lg_entry_eq]
    generalize (lg_sl ([.ref (ad 30 0), .ref (ad 22 0), .ref (ad 24 0), .int a4, .int a5]) ++ List.replicate (11 - (lg_sl ([.ref (ad 30 0), .ref (ad 22 0), .ref (ad 24 0), .int a4, .int a5])).length) Slot.unset).toArray = ls at hl ⊢
    have hl : lv_has ls 11 [(0, .ref (ad 30 0)), (1, .ref (ad 22 0)), (2, .ref (ad 24 0)), (3, .int a4), (4, .int a5)] := hl
    unfold w_L_others at h
    refine lv_iload_n hC.1 hC.2.1 dL_others_0 rfl (lv_at hl 3 rfl) ?_
    refine lv_bipush (v := 8) hC.1 hC.2.1 dL_others_1 (by decide) ?_
    refine z_cSi (As := [.int a4, .int 8]) hC hZ zy_L_low (c_L_low l h) km_L_118 rfl ⟨rfl, rfl⟩ ⟨Nat.le_of_ble_eq_true rfl, Nat.le_of_ble_eq_true rfl⟩ hl.1 rfl (Nat.le_of_ble_eq_true rfl) dL_others_3 ⟨by show _ ≤ (22 : Nat); omega, by show _ ≤ (132 : Nat); omega⟩ (fun r2 μ1 H locs h hZ => ?_)
    refine lv_istore (lv' := [(5, .int r2), (0, .ref (ad 30 0)), (1, .ref (ad 22 0)), (2, .ref (ad 24 0)), (3, .int a4), (4, .int a5)]) hC.1 hC.2.1 dL_others_6 hl (by decide) rfl (fun ls hl => ?_)
    refine lv_iload hC.1 hC.2.1 dL_others_8 (lv_at hl 0 rfl) ?_
    refine lv_iconst (v := 2) hC.1 hC.2.1 dL_others_10 (by decide) ?_
    refine lv_icmp_ge (tgt := 196) hC.1 hC.2.1 dL_others_11 (by decide) (fun c3 => ?_) (fun c3 => ?_)
    · have h := h.1 c3
      refine lv_iload hC.1 hC.2.1 dL_others_196 (lv_at hl 0 rfl) ?_
      refine lv_iconst (v := 2) hC.1 hC.2.1 dL_others_198 (by decide) ?_
      refine lv_icmp_ne (tgt := 333) hC.1 hC.2.1 dL_others_199 (by decide) (fun c4 => ?_) (fun c4 => ?_)
      · have h := h.1 c4
        refine lv_iload hC.1 hC.2.1 dL_others_333 (lv_at hl 0 rfl) ?_
        refine lv_iconst (v := 3) hC.1 hC.2.1 dL_others_335 (by decide) ?_
        refine lv_icmp_ne (tgt := 447) hC.1 hC.2.1 dL_others_336 (by decide) (fun c5 => ?_) (fun c5 => ?_)
        · have h := h.1 c5
          refine lv_iload hC.1 hC.2.1 dL_others_447 (lv_at hl 5 rfl) ?_
          refine lv_iconst (v := 5) hC.1 hC.2.1 dL_others_449 (by decide) ?_
          refine z_cSi (As := [.int a5, .int 5]) hC hZ zy_L_low (c_L_low l h) km_L_118 rfl ⟨rfl, rfl⟩ ⟨Nat.le_of_ble_eq_true rfl, Nat.le_of_ble_eq_true rfl⟩ hl.1 rfl (Nat.le_of_ble_eq_true rfl) dL_others_450 ⟨by show _ ≤ (22 : Nat); omega, by show _ ≤ (132 : Nat); omega⟩ (fun r7 μ6 H locs h hZ => ?_)
          refine lv_istore (lv' := [(6, .int r7), (5, .int r2), (0, .ref (ad 30 0)), (1, .ref (ad 22 0)), (2, .ref (ad 24 0)), (3, .int a4), (4, .int a5)]) hC.1 hC.2.1 dL_others_453 hl (by decide) rfl (fun ls hl => ?_)
          refine lv_aload_n hC.1 hC.2.1 dL_others_455 rfl (lv_at hl 2 rfl) ?_
          refine lv_iload hC.1 hC.2.1 dL_others_456 (lv_at hl 0 rfl) ?_
          refine lv_iconst (v := 0) hC.1 hC.2.1 dL_others_458 (by decide) ?_
          refine z_cWi (As := [.ref (ad 30 0), .int r7, .int 0]) hC hZ zy_L_copies (c_L_copies l hst h) km_L_116 rfl ⟨rfl, rfl⟩ ⟨Nat.le_of_ble_eq_true rfl, Nat.le_of_ble_eq_true rfl⟩ hl.1 rfl (Nat.le_of_ble_eq_true rfl) dL_others_459 ⟨by show _ ≤ (22 : Nat); omega, by show _ ≤ (132 : Nat); omega⟩ (fun r9 μ8 H locs h hZ => ?_)
          refine lv_aload_n hC.1 hC.2.1 dL_others_462 rfl (lv_at hl 2 rfl) ?_
          refine lv_iload hC.1 hC.2.1 dL_others_463 (lv_at hl 0 rfl) ?_
          refine lv_iconst (v := 1) hC.1 hC.2.1 dL_others_465 (by decide) ?_
          refine z_cWi (As := [.ref (ad 30 0), .int r7, .int 1]) hC hZ zy_L_copies (c_L_copies l hst h) km_L_116 rfl ⟨rfl, rfl⟩ ⟨Nat.le_of_ble_eq_true rfl, Nat.le_of_ble_eq_true rfl⟩ hl.1 rfl (Nat.le_of_ble_eq_true rfl) dL_others_466 ⟨by show _ ≤ (22 : Nat); omega, by show _ ≤ (132 : Nat); omega⟩ (fun r11 μ10 H locs h hZ => ?_)
          refine lv_iadd hC.1 hC.2.1 dL_others_469 ?_
          refine lv_aload_n hC.1 hC.2.1 dL_others_470 rfl (lv_at hl 2 rfl) ?_
          refine lv_iload hC.1 hC.2.1 dL_others_471 (lv_at hl 0 rfl) ?_
          refine lv_iconst (v := 2) hC.1 hC.2.1 dL_others_473 (by decide) ?_
          refine z_cWi (As := [.ref (ad 30 0), .int r7, .int 2]) hC hZ zy_L_copies (c_L_copies l hst h) km_L_116 rfl ⟨rfl, rfl⟩ ⟨Nat.le_of_ble_eq_true rfl, Nat.le_of_ble_eq_true rfl⟩ hl.1 rfl (Nat.le_of_ble_eq_true rfl) dL_others_474 ⟨by show _ ≤ (22 : Nat); omega, by show _ ≤ (132 : Nat); omega⟩ (fun r13 μ12 H locs h hZ => ?_)
          refine lv_iadd hC.1 hC.2.1 dL_others_477 ?_
          refine lv_aload_n hC.1 hC.2.1 dL_others_478 rfl (lv_at hl 2 rfl) ?_
          refine lv_iload hC.1 hC.2.1 dL_others_479 (lv_at hl 0 rfl) ?_
          refine lv_iconst (v := 3) hC.1 hC.2.1 dL_others_481 (by decide) ?_
          refine z_cWi (As := [.ref (ad 30 0), .int r7, .int 3]) hC hZ zy_L_copies (c_L_copies l hst h) km_L_116 rfl ⟨rfl, rfl⟩ ⟨Nat.le_of_ble_eq_true rfl, Nat.le_of_ble_eq_true rfl⟩ hl.1 rfl (Nat.le_of_ble_eq_true rfl) dL_others_482 ⟨by show _ ≤ (22 : Nat); omega, by show _ ≤ (132 : Nat); omega⟩ (fun r15 μ14 H locs h hZ => ?_)
          refine lv_iadd hC.1 hC.2.1 dL_others_485 ?_
          refine lv_istore (lv' := [(7, .int (((r9 + r11) + r13) + r15)), (6, .int r7), (5, .int r2), (0, .ref (ad 30 0)), (1, .ref (ad 22 0)), (2, .ref (ad 24 0)), (3, .int a4), (4, .int a5)]) hC.1 hC.2.1 dL_others_486 hl (by decide) rfl (fun ls hl => ?_)
          refine lv_iload hC.1 hC.2.1 dL_others_488 (lv_at hl 2 rfl) ?_
          refine lv_bipush (v := 6) hC.1 hC.2.1 dL_others_490 (by decide) ?_
          refine lv_icmp_ge (tgt := 566) hC.1 hC.2.1 dL_others_492 (by decide) (fun c16 => ?_) (fun c16 => ?_)
          · have h := h.1 c16
            refine lv_iload hC.1 hC.2.1 dL_others_566 (lv_at hl 2 rfl) ?_
            refine lv_bipush (v := 6) hC.1 hC.2.1 dL_others_568 (by decide) ?_
            refine lv_icmp_ne (tgt := 703) hC.1 hC.2.1 dL_others_570 (by decide) (fun c17 => ?_) (fun c17 => ?_)
            · have h := h.1 c17
              refine lv_iconst (v := 0) hC.1 hC.2.1 dL_others_703 (by decide) ?_
              refine lv_istore (lv' := [(8, .int 0), (7, .int (((r9 + r11) + r13) + r15)), (6, .int r7), (5, .int r2), (0, .ref (ad 30 0)), (1, .ref (ad 22 0)), (2, .ref (ad 24 0)), (3, .int a4), (4, .int a5)]) hC.1 hC.2.1 dL_others_704 hl (by decide) rfl (fun ls hl => ?_)
              refine lv_iconst (v := 0) hC.1 hC.2.1 dL_others_706 (by decide) ?_
              refine lv_istore (lv' := [(9, .int 0), (8, .int 0), (7, .int (((r9 + r11) + r13) + r15)), (6, .int r7), (5, .int r2), (0, .ref (ad 30 0)), (1, .ref (ad 22 0)), (2, .ref (ad 24 0)), (3, .int a4), (4, .int a5)]) hC.1 hC.2.1 dL_others_707 hl (by decide) rfl (fun ls hl => ?_)
              obtain ⟨fuel, hfu, h⟩ := h
              exact t_L_others_709 (l := l) hst hC hr hag _ _ _ _ _ _ _ _ _ _ _ _ (by show _ ≤ (22 : Nat); omega) (by show _ ≤ (132 : Nat); omega) h hZ (lv_sub hl [5, 3, 1, 0] rfl)
            · have h := h.2 c17
              refine lv_iload hC.1 hC.2.1 dL_others_573 (lv_at hl 7 rfl) ?_
              refine lv_iconst (v := 3) hC.1 hC.2.1 dL_others_575 (by decide) ?_
              refine lv_ishr hC.1 hC.2.1 dL_others_576 ?_
              refine lv_iconst (v := 3) hC.1 hC.2.1 dL_others_577 (by decide) ?_
              refine z_cSi (As := [.int (a5 >>> (3 &&& 31)), .int 3]) hC hZ zy_L_low (c_L_low l h) km_L_118 rfl ⟨rfl, rfl⟩ ⟨Nat.le_of_ble_eq_true rfl, Nat.le_of_ble_eq_true rfl⟩ hl.1 rfl (Nat.le_of_ble_eq_true rfl) dL_others_578 ⟨by show _ ≤ (22 : Nat); omega, by show _ ≤ (132 : Nat); omega⟩ (fun r31 μ30 H locs h hZ => ?_)
              refine lv_istore (lv' := [(8, .int r31), (7, .int (((r9 + r11) + r13) + r15)), (6, .int r7), (5, .int r2), (0, .ref (ad 30 0)), (1, .ref (ad 22 0)), (2, .ref (ad 24 0)), (3, .int a4), (4, .int a5)]) hC.1 hC.2.1 dL_others_581 hl (by decide) rfl (fun ls hl => ?_)
              refine lv_aload_n hC.1 hC.2.1 dL_others_583 rfl (lv_at hl 4 rfl) ?_
              refine lv_iload hC.1 hC.2.1 dL_others_584 (lv_at hl 2 rfl) ?_
              refine lv_iload hC.1 hC.2.1 dL_others_586 (lv_at hl 0 rfl) ?_
              refine z_cWi (As := [.ref (ad 30 0), .int r7, .int r31]) hC hZ zy_L_copies (c_L_copies l hst h) km_L_116 rfl ⟨rfl, rfl⟩ ⟨Nat.le_of_ble_eq_true rfl, Nat.le_of_ble_eq_true rfl⟩ hl.1 rfl (Nat.le_of_ble_eq_true rfl) dL_others_588 ⟨by show _ ≤ (22 : Nat); omega, by show _ ≤ (132 : Nat); omega⟩ (fun r33 μ32 H locs h hZ => ?_)
              refine lv_istore (lv' := [(9, .int r33), (8, .int r31), (7, .int (((r9 + r11) + r13) + r15)), (6, .int r7), (5, .int r2), (0, .ref (ad 30 0)), (1, .ref (ad 22 0)), (2, .ref (ad 24 0)), (3, .int a4), (4, .int a5)]) hC.1 hC.2.1 dL_others_591 hl (by decide) rfl (fun ls hl => ?_)
              refine lv_aload_n hC.1 hC.2.1 dL_others_593 rfl (lv_at hl 5 rfl) ?_
              refine lv_iload hC.1 hC.2.1 dL_others_594 (lv_at hl 3 rfl) ?_
              refine lv_iconst (v := 3) hC.1 hC.2.1 dL_others_596 (by decide) ?_
              refine z_cWi (As := [.ref (ad 30 0), .int r7, .int 3]) hC hZ zy_L_copies (c_L_copies l hst h) km_L_116 rfl ⟨rfl, rfl⟩ ⟨Nat.le_of_ble_eq_true rfl, Nat.le_of_ble_eq_true rfl⟩ hl.1 rfl (Nat.le_of_ble_eq_true rfl) dL_others_597 ⟨by show _ ≤ (22 : Nat); omega, by show _ ≤ (132 : Nat); omega⟩ (fun r35 μ34 H locs h hZ => ?_)
              refine lv_istore (lv' := [(10, .int r35), (9, .int r33), (8, .int r31), (7, .int (((r9 + r11) + r13) + r15)), (6, .int r7), (5, .int r2), (0, .ref (ad 30 0)), (1, .ref (ad 22 0)), (2, .ref (ad 24 0)), (3, .int a4), (4, .int a5)]) hC.1 hC.2.1 dL_others_600 hl (by decide) rfl (fun ls hl => ?_)
              refine lv_aload_n hC.1 hC.2.1 dL_others_602 rfl (lv_at hl 6 rfl) ?_
              refine lv_iload hC.1 hC.2.1 dL_others_603 (lv_at hl 4 rfl) ?_
              refine lv_iload hC.1 hC.2.1 dL_others_605 (lv_at hl 2 rfl) ?_
              refine z_cWi (As := [.ref (ad 30 0), .int r7, .int r31]) hC hZ zy_L_mishap (c_L_mishap l hst h) km_L_157 rfl ⟨rfl, rfl⟩ ⟨Nat.le_of_ble_eq_true rfl, Nat.le_of_ble_eq_true rfl⟩ hl.1 rfl (Nat.le_of_ble_eq_true rfl) dL_others_607 ⟨by show _ ≤ (22 : Nat); omega, by show _ ≤ (132 : Nat); omega⟩ (fun r37 μ36 H locs h hZ => ?_)
              refine lv_iload hC.1 hC.2.1 dL_others_610 (lv_at hl 1 rfl) ?_
              refine lv_if_le (tgt := 622) hC.1 hC.2.1 dL_others_612 (by decide) (fun c38 => ?_) (fun c38 => ?_)
              · have h := h.1 c38
                refine lv_ldc (v := (-1000003)) hC.1 hC.2.1 hC.2.2.2.1 (hZ.1.2.1.use _ kk_L_21 rfl) dL_others_622 ?_
                exact t_L_others_624 (l := l) hst hC hr hag _ _ _ _ _ _ _ _ _ _ _ _ _ _ (by show _ ≤ (22 : Nat); omega) (by show _ ≤ (132 : Nat); omega) h hZ (lv_sub hl [6, 4, 2, 1, 0] rfl)
              · have h := h.2 c38
                refine lv_iload hC.1 hC.2.1 dL_others_615 (lv_at hl 0 rfl) ?_
                refine lv_iconst (v := 1) hC.1 hC.2.1 dL_others_617 (by decide) ?_
                refine lv_iadd hC.1 hC.2.1 dL_others_618 ?_
                refine lv_goto (tgt := 624) hC.1 hC.2.1 dL_others_619 (by decide) ?_
                exact t_L_others_624 (l := l) hst hC hr hag _ _ _ _ _ _ _ _ _ _ _ _ _ _ (by show _ ≤ (22 : Nat); omega) (by show _ ≤ (132 : Nat); omega) h hZ (lv_sub hl [6, 4, 2, 1, 0] rfl)
          · have h := h.2 c16
            refine lv_iload hC.1 hC.2.1 dL_others_495 (lv_at hl 0 rfl) ?_
            refine lv_bipush (v := 20) hC.1 hC.2.1 dL_others_497 (by decide) ?_
            refine lv_icmp_ge (tgt := 509) hC.1 hC.2.1 dL_others_499 (by decide) (fun c54 => ?_) (fun c54 => ?_)
            · have h := h.1 c54
              refine lv_ldc (v := (-1000003)) hC.1 hC.2.1 hC.2.2.2.1 (hZ.1.2.1.use _ kk_L_21 rfl) dL_others_509 ?_
              exact t_L_others_511 (l := l) hst hC hr hag _ _ _ _ _ _ _ _ _ _ (by show _ ≤ (22 : Nat); omega) (by show _ ≤ (132 : Nat); omega) h hZ (lv_sub hl [3, 4, 1] rfl)
            · have h := h.2 c54
              refine lv_iload hC.1 hC.2.1 dL_others_502 (lv_at hl 0 rfl) ?_
              refine lv_iconst (v := 1) hC.1 hC.2.1 dL_others_504 (by decide) ?_
              refine lv_iadd hC.1 hC.2.1 dL_others_505 ?_
              refine lv_goto (tgt := 511) hC.1 hC.2.1 dL_others_506 (by decide) ?_
              exact t_L_others_511 (l := l) hst hC hr hag _ _ _ _ _ _ _ _ _ _ (by show _ ≤ (22 : Nat); omega) (by show _ ≤ (132 : Nat); omega) h hZ (lv_sub hl [3, 4, 1] rfl)
        · have h := h.2 c5
          refine lv_iload hC.1 hC.2.1 dL_others_339 (lv_at hl 5 rfl) ?_
          refine lv_iconst (v := 5) hC.1 hC.2.1 dL_others_341 (by decide) ?_
          refine z_cSi (As := [.int a5, .int 5]) hC hZ zy_L_low (c_L_low l h) km_L_118 rfl ⟨rfl, rfl⟩ ⟨Nat.le_of_ble_eq_true rfl, Nat.le_of_ble_eq_true rfl⟩ hl.1 rfl (Nat.le_of_ble_eq_true rfl) dL_others_342 ⟨by show _ ≤ (22 : Nat); omega, by show _ ≤ (132 : Nat); omega⟩ (fun r68 μ67 H locs h hZ => ?_)
          refine lv_istore (lv' := [(6, .int r68), (5, .int r2), (0, .ref (ad 30 0)), (1, .ref (ad 22 0)), (2, .ref (ad 24 0)), (3, .int a4), (4, .int a5)]) hC.1 hC.2.1 dL_others_345 hl (by decide) rfl (fun ls hl => ?_)
          refine lv_iload hC.1 hC.2.1 dL_others_347 (lv_at hl 6 rfl) ?_
          refine lv_iconst (v := 3) hC.1 hC.2.1 dL_others_349 (by decide) ?_
          refine lv_ishr hC.1 hC.2.1 dL_others_350 ?_
          refine lv_bipush (v := 30) hC.1 hC.2.1 dL_others_351 (by decide) ?_
          refine z_cSi (As := [.int (a5 >>> (3 &&& 31)), .int 30]) hC hZ zy_L_low (c_L_low l h) km_L_118 rfl ⟨rfl, rfl⟩ ⟨Nat.le_of_ble_eq_true rfl, Nat.le_of_ble_eq_true rfl⟩ hl.1 rfl (Nat.le_of_ble_eq_true rfl) dL_others_353 ⟨by show _ ≤ (22 : Nat); omega, by show _ ≤ (132 : Nat); omega⟩ (fun r70 μ69 H locs h hZ => ?_)
          refine lv_istore (lv' := [(7, .int r70), (6, .int r68), (5, .int r2), (0, .ref (ad 30 0)), (1, .ref (ad 22 0)), (2, .ref (ad 24 0)), (3, .int a4), (4, .int a5)]) hC.1 hC.2.1 dL_others_356 hl (by decide) rfl (fun ls hl => ?_)
          refine lv_iload hC.1 hC.2.1 dL_others_358 (lv_at hl 7 rfl) ?_
          refine lv_bipush (v := 8) hC.1 hC.2.1 dL_others_360 (by decide) ?_
          refine lv_ishr hC.1 hC.2.1 dL_others_362 ?_
          refine lv_iconst (v := 2) hC.1 hC.2.1 dL_others_363 (by decide) ?_
          refine z_cSi (As := [.int (a5 >>> (8 &&& 31)), .int 2]) hC hZ zy_L_low (c_L_low l h) km_L_118 rfl ⟨rfl, rfl⟩ ⟨Nat.le_of_ble_eq_true rfl, Nat.le_of_ble_eq_true rfl⟩ hl.1 rfl (Nat.le_of_ble_eq_true rfl) dL_others_364 ⟨by show _ ≤ (22 : Nat); omega, by show _ ≤ (132 : Nat); omega⟩ (fun r72 μ71 H locs h hZ => ?_)
          refine lv_if_ne (tgt := 374) hC.1 hC.2.1 dL_others_367 (by decide) (fun c73 => ?_) (fun c73 => ?_)
          · have h := h.1 c73
            refine lv_iconst (v := 0) hC.1 hC.2.1 dL_others_374 (by decide) ?_
            exact t_L_others_375 (l := l) hst hC hr hag _ _ _ _ _ _ _ _ _ _ _ (by show _ ≤ (22 : Nat); omega) (by show _ ≤ (132 : Nat); omega) h hZ (lv_sub hl [3, 1, 0] rfl)
          · have h := h.2 c73
            refine lv_iconst (v := 1) hC.1 hC.2.1 dL_others_370 (by decide) ?_
            refine lv_goto (tgt := 375) hC.1 hC.2.1 dL_others_371 (by decide) ?_
            exact t_L_others_375 (l := l) hst hC hr hag _ _ _ _ _ _ _ _ _ _ _ (by show _ ≤ (22 : Nat); omega) (by show _ ≤ (132 : Nat); omega) h hZ (lv_sub hl [3, 1, 0] rfl)
      · have h := h.2 c4
        refine lv_aload_n hC.1 hC.2.1 dL_others_202 rfl (lv_at hl 2 rfl) ?_
        refine lv_iconst (v := 1) hC.1 hC.2.1 dL_others_203 (by decide) ?_
        refine aL_22 hC hZ (by unfold vp_in; decide) dL_others_204 ?_
        refine lv_if_ne (tgt := 224) hC.1 hC.2.1 dL_others_205 (by decide) (fun c87 => ?_) (fun c87 => ?_)
        · have h := h.1 c87
          refine lv_iload hC.1 hC.2.1 dL_others_224 (lv_at hl 5 rfl) ?_
          refine lv_aload_n hC.1 hC.2.1 dL_others_226 rfl (lv_at hl 2 rfl) ?_
          refine lv_iconst (v := 1) hC.1 hC.2.1 dL_others_227 (by decide) ?_
          refine aL_22 hC hZ (by unfold vp_in; decide) dL_others_228 ?_
          refine z_cSi (As := [.int a5, .int (μ1 22 0 (1 : Int32).toNatClampNeg)]) hC hZ zy_L_low (c_L_low l h) km_L_118 rfl ⟨rfl, rfl⟩ ⟨Nat.le_of_ble_eq_true rfl, Nat.le_of_ble_eq_true rfl⟩ hl.1 rfl (Nat.le_of_ble_eq_true rfl) dL_others_229 ⟨by show _ ≤ (22 : Nat); omega, by show _ ≤ (132 : Nat); omega⟩ (fun r89 μ88 H locs h hZ => ?_)
          refine lv_istore (lv' := [(6, .int r89), (5, .int r2), (0, .ref (ad 30 0)), (1, .ref (ad 22 0)), (2, .ref (ad 24 0)), (3, .int a4), (4, .int a5)]) hC.1 hC.2.1 dL_others_232 hl (by decide) rfl (fun ls hl => ?_)
          refine lv_aload_n hC.1 hC.2.1 dL_others_234 rfl (lv_at hl 2 rfl) ?_
          refine z_cVi (As := []) hC hZ (zF_30 _) rfl zy_X4_refused (c_X4_refused l h) km_L_99 rfl ⟨rfl, rfl⟩ ⟨Nat.le_of_ble_eq_true rfl, Nat.le_of_ble_eq_true rfl⟩ hl.1 rfl (Nat.le_of_ble_eq_true rfl) dL_others_235 ⟨by show _ ≤ (22 : Nat); omega, by show _ ≤ (132 : Nat); omega⟩ (fun r91 μ90 H locs h hZ => ?_)
          obtain ⟨μ90g, hgs, h⟩ := h
          have hZ := hZ.gs hgs
          refine lv_istore (lv' := [(7, .int r91), (6, .int r89), (5, .int r2), (0, .ref (ad 30 0)), (1, .ref (ad 22 0)), (2, .ref (ad 24 0)), (3, .int a4), (4, .int a5)]) hC.1 hC.2.1 dL_others_238 hl (by decide) rfl (fun ls hl => ?_)
          refine lv_aload_n hC.1 hC.2.1 dL_others_240 rfl (lv_at hl 3 rfl) ?_
          refine lv_iload hC.1 hC.2.1 dL_others_241 (lv_at hl 1 rfl) ?_
          refine z_cWi (As := [.ref (ad 30 0), .int r89]) hC hZ zy_L_revoke (c_L_revoke l hst h) km_L_150 rfl ⟨rfl, rfl⟩ ⟨Nat.le_of_ble_eq_true rfl, Nat.le_of_ble_eq_true rfl⟩ hl.1 rfl (Nat.le_of_ble_eq_true rfl) dL_others_243 ⟨by show _ ≤ (22 : Nat); omega, by show _ ≤ (132 : Nat); omega⟩ (fun r93 μ92 H locs h hZ => ?_)
          refine lv_istore (lv' := [(8, .int r93), (7, .int r91), (6, .int r89), (5, .int r2), (0, .ref (ad 30 0)), (1, .ref (ad 22 0)), (2, .ref (ad 24 0)), (3, .int a4), (4, .int a5)]) hC.1 hC.2.1 dL_others_246 hl (by decide) rfl (fun ls hl => ?_)
          refine lv_aload_n hC.1 hC.2.1 dL_others_248 rfl (lv_at hl 6 rfl) ?_
          refine lv_iload hC.1 hC.2.1 dL_others_249 (lv_at hl 2 rfl) ?_
          obtain ⟨q94, h⟩ := h
          refine aL_24 hC hZ q94 dL_others_251 ?_
          refine lv_if_ne (tgt := 280) hC.1 hC.2.1 dL_others_252 (by decide) (fun c95 => ?_) (fun c95 => ?_)
          · have h := h.1 c95
            refine lv_iload hC.1 hC.2.1 dL_others_280 (lv_at hl 0 rfl) ?_
            refine lv_ldc (v := (-1000003)) hC.1 hC.2.1 hC.2.2.2.1 (hZ.1.2.1.use _ kk_L_21 rfl) dL_others_282 ?_
            refine lv_icmp_ne (tgt := 291) hC.1 hC.2.1 dL_others_284 (by decide) (fun c96 => ?_) (fun c96 => ?_)
            · have h := h.1 c96
              refine lv_iconst (v := 0) hC.1 hC.2.1 dL_others_291 (by decide) ?_
              exact t_L_others_292 (l := l) hst hC hr hag _ _ _ _ _ _ _ _ _ _ (by show _ ≤ (22 : Nat); omega) (by show _ ≤ (132 : Nat); omega) h hZ (lv_sub hl [4, 5, 6, 2] rfl)
            · have h := h.2 c96
              refine lv_iconst (v := 1) hC.1 hC.2.1 dL_others_287 (by decide) ?_
              refine lv_goto (tgt := 292) hC.1 hC.2.1 dL_others_288 (by decide) ?_
              exact t_L_others_292 (l := l) hst hC hr hag _ _ _ _ _ _ _ _ _ _ (by show _ ≤ (22 : Nat); omega) (by show _ ≤ (132 : Nat); omega) h hZ (lv_sub hl [4, 5, 6, 2] rfl)
          · have h := h.2 c95
            refine lv_iload hC.1 hC.2.1 dL_others_255 (lv_at hl 0 rfl) ?_
            refine lv_if_lt (tgt := 276) hC.1 hC.2.1 dL_others_257 (by decide) (fun c106 => ?_) (fun c106 => ?_)
            · have h := h.1 c106
              exact t_L_others_276 (l := l) hst hC hr hag _ _ _ _ _ _ _ _ _ (by show _ ≤ (22 : Nat); omega) (by show _ ≤ (132 : Nat); omega) h hZ (lv_sub hl [4, 5, 6, 2] rfl)
            · have h := h.2 c106
              refine lv_aload_n hC.1 hC.2.1 dL_others_260 rfl (lv_at hl 4 rfl) ?_
              refine z_cVi (As := []) hC hZ (zF_30 _) rfl zy_X4_refused (c_X4_refused l h) km_L_99 rfl ⟨rfl, rfl⟩ ⟨Nat.le_of_ble_eq_true rfl, Nat.le_of_ble_eq_true rfl⟩ hl.1 rfl (Nat.le_of_ble_eq_true rfl) dL_others_261 ⟨by show _ ≤ (22 : Nat); omega, by show _ ≤ (132 : Nat); omega⟩ (fun r108 μ107 H locs h hZ => ?_)
              obtain ⟨μ107g, hgs, h⟩ := h
              have hZ := hZ.gs hgs
              refine lv_iload hC.1 hC.2.1 dL_others_264 (lv_at hl 1 rfl) ?_
              refine lv_iload hC.1 hC.2.1 dL_others_266 (lv_at hl 0 rfl) ?_
              refine lv_iadd hC.1 hC.2.1 dL_others_268 ?_
              refine lv_icmp_ne (tgt := 276) hC.1 hC.2.1 dL_others_269 (by decide) (fun c109 => ?_) (fun c109 => ?_)
              · have h := h.1 c109
                exact t_L_others_276 (l := l) hst hC hr hag _ _ _ _ _ _ _ _ _ (by show _ ≤ (22 : Nat); omega) (by show _ ≤ (132 : Nat); omega) h hZ (lv_sub hl [4, 5, 6, 2] rfl)
              · have h := h.2 c109
                refine lv_iconst (v := 1) hC.1 hC.2.1 dL_others_272 (by decide) ?_
                refine lv_goto (tgt := 292) hC.1 hC.2.1 dL_others_273 (by decide) ?_
                exact t_L_others_292 (l := l) hst hC hr hag _ _ _ _ _ _ _ _ _ _ (by show _ ≤ (22 : Nat); omega) (by show _ ≤ (132 : Nat); omega) h hZ (lv_sub hl [4, 5, 6, 2] rfl)
        · have h := h.2 c87
          refine lv_aload_n hC.1 hC.2.1 dL_others_208 rfl (lv_at hl 1 rfl) ?_
          refine lv_iconst (v := 0) hC.1 hC.2.1 dL_others_209 (by decide) ?_
          refine z_cWi (As := [.ref (ad 30 0), .int 0]) hC hZ zy_L_revoke (c_L_revoke l hst h) km_L_150 rfl ⟨rfl, rfl⟩ ⟨Nat.le_of_ble_eq_true rfl, Nat.le_of_ble_eq_true rfl⟩ hl.1 rfl (Nat.le_of_ble_eq_true rfl) dL_others_210 ⟨by show _ ≤ (22 : Nat); omega, by show _ ≤ (132 : Nat); omega⟩ (fun r111 μ110 H locs h hZ => ?_)
          refine lv_ldc (v := (-1000001)) hC.1 hC.2.1 hC.2.2.2.1 (hZ.1.2.1.use _ kk_L_28 rfl) dL_others_213 ?_
          refine lv_icmp_ne (tgt := 222) hC.1 hC.2.1 dL_others_215 (by decide) (fun c112 => ?_) (fun c112 => ?_)
          · have h := h.1 c112
            refine lv_iconst (v := 0) hC.1 hC.2.1 dL_others_222 (by decide) ?_
            exact z_nretb hC hr hZ hag (by decide) h dL_others_223 (by show _ ≤ (22 : Nat); omega) (by show _ ≤ (132 : Nat); omega)
          · have h := h.2 c112
            refine lv_iconst (v := 1) hC.1 hC.2.1 dL_others_218 (by decide) ?_
            refine lv_goto (tgt := 223) hC.1 hC.2.1 dL_others_219 (by decide) ?_
            exact z_nretb hC hr hZ hag (by decide) h dL_others_223 (by show _ ≤ (22 : Nat); omega) (by show _ ≤ (132 : Nat); omega)
    · have h := h.2 c3
      refine lv_iload hC.1 hC.2.1 dL_others_14 (lv_at hl 5 rfl) ?_
      refine lv_bipush (v := 30) hC.1 hC.2.1 dL_others_16 (by decide) ?_
      refine z_cSi (As := [.int a5, .int 30]) hC hZ zy_L_low (c_L_low l h) km_L_118 rfl ⟨rfl, rfl⟩ ⟨Nat.le_of_ble_eq_true rfl, Nat.le_of_ble_eq_true rfl⟩ hl.1 rfl (Nat.le_of_ble_eq_true rfl) dL_others_18 ⟨by show _ ≤ (22 : Nat); omega, by show _ ≤ (132 : Nat); omega⟩ (fun r114 μ113 H locs h hZ => ?_)
      refine lv_istore (lv' := [(6, .int r114), (5, .int r2), (0, .ref (ad 30 0)), (1, .ref (ad 22 0)), (2, .ref (ad 24 0)), (3, .int a4), (4, .int a5)]) hC.1 hC.2.1 dL_others_21 hl (by decide) rfl (fun ls hl => ?_)
      refine lv_iload hC.1 hC.2.1 dL_others_23 (lv_at hl 0 rfl) ?_
      refine lv_iload hC.1 hC.2.1 dL_others_25 (lv_at hl 6 rfl) ?_
      refine lv_iconst (v := 5) hC.1 hC.2.1 dL_others_27 (by decide) ?_
      refine lv_ishr hC.1 hC.2.1 dL_others_28 ?_
      refine lv_bipush (v := 30) hC.1 hC.2.1 dL_others_29 (by decide) ?_
      refine lv_iload hC.1 hC.2.1 dL_others_31 (lv_at hl 0 rfl) ?_
      refine lv_isub hC.1 hC.2.1 dL_others_33 ?_
      refine z_cSi (As := [.int (a5 >>> (5 &&& 31)), .int (30 - r114)]) hC hZ zy_L_low (c_L_low l h) km_L_118 rfl ⟨rfl, rfl⟩ ⟨Nat.le_of_ble_eq_true rfl, Nat.le_of_ble_eq_true rfl⟩ hl.1 rfl (Nat.le_of_ble_eq_true rfl) dL_others_34 ⟨by show _ ≤ (22 : Nat); omega, by show _ ≤ (132 : Nat); omega⟩ (fun r116 μ115 H locs h hZ => ?_)
      refine lv_iadd hC.1 hC.2.1 dL_others_37 ?_
      refine lv_istore (lv' := [(7, .int (r114 + r116)), (6, .int r114), (5, .int r2), (0, .ref (ad 30 0)), (1, .ref (ad 22 0)), (2, .ref (ad 24 0)), (3, .int a4), (4, .int a5)]) hC.1 hC.2.1 dL_others_38 hl (by decide) rfl (fun ls hl => ?_)
      refine lv_aload_n hC.1 hC.2.1 dL_others_40 rfl (lv_at hl 4 rfl) ?_
      refine lv_iconst (v := 1) hC.1 hC.2.1 dL_others_41 (by decide) ?_
      refine aL_22 hC hZ (by unfold vp_in; decide) dL_others_42 ?_
      refine lv_bipush (v := 20) hC.1 hC.2.1 dL_others_43 (by decide) ?_
      refine lv_icmp_ge (tgt := 54) hC.1 hC.2.1 dL_others_45 (by decide) (fun c117 => ?_) (fun c117 => ?_)
      · have h := h.1 c117
        refine lv_ldc (v := (-1000003)) hC.1 hC.2.1 hC.2.2.2.1 (hZ.1.2.1.use _ kk_L_21 rfl) dL_others_54 ?_
        exact t_L_others_56 (l := l) hst hC hr hag _ _ _ _ _ _ _ _ _ _ _ (by show _ ≤ (22 : Nat); omega) (by show _ ≤ (132 : Nat); omega) h hZ (lv_sub hl [3, 4, 7, 1, 0] rfl)
      · have h := h.2 c117
        refine lv_aload_n hC.1 hC.2.1 dL_others_48 rfl (lv_at hl 4 rfl) ?_
        refine lv_iconst (v := 1) hC.1 hC.2.1 dL_others_49 (by decide) ?_
        refine aL_22 hC hZ (by unfold vp_in; decide) dL_others_50 ?_
        refine lv_goto (tgt := 56) hC.1 hC.2.1 dL_others_51 (by decide) ?_
        exact t_L_others_56 (l := l) hst hC hr hag _ _ _ _ _ _ _ _ _ _ _ (by show _ ≤ (22 : Nat); omega) (by show _ ≤ (132 : Nat); omega) h hZ (lv_sub hl [3, 4, 7, 1, 0] rfl)
  exact key
def b_L_acts_35 (n np : Nat) (post : Int32 → Nat → Nat → Mem → Prop) (a5 : Int32) (a6 : Int32) (s0 : Int32) (μ : Mem) : Prop := ((s0 = 0 ∨ s0 = 1) ∧ post s0 n np μ)
set_option maxRecDepth 100000 in
set_option maxHeartbeats 4000000 in
theorem t_L_acts_35 {p : Program} {l : Launch} {e : Env} {s : State} {m : MethodId} {args : Array Value} {below : List Frame} {meth : Method} {c : Code} {D : va_G} {ca : Nat → ClassId} {base : Nat} {ad : Nat → Nat → Nat} {n np : Nat} {ad0 : Nat → Nat → Nat} {post : Int32 → Nat → Nat → Mem → Prop} (hst : l.stackTraces = false) (hC : ZC p m meth c s RL cL_acts 7) (hr : meth.sig.returnType = (some FieldType.boolean)) (hag : zagr ad0 ad) (a5 : Int32) (a6 : Int32) (s0 : Int32) (cx dx : Nat) (μ : Mem) (H : Heap) (locs : List Loc) (ls : Array Slot) (hBc : cx + (0) ≤ 45) (hBs : dx + (0) ≤ 267) (h : b_L_acts_35 n np post a5 a6 s0 μ) (hZ : ZS D ca base ad n np μ s H locs) (hl : lv_has ls 7 []) : W p l e ({ frames := 11, cells := 45, slots := 267, locals := 210 } : Room) s m args below meth c H locs cx dx (MQ below (ZQN D ca base ad0 post) args s 45 267 (zB base)) (F0 m 35 ls [.int s0]) := by
  unfold b_L_acts_35 at h
  obtain ⟨q6, h⟩ := h
  exact z_nretb hC hr hZ hag q6 h dL_acts_35 (by show _ ≤ (45 : Nat); omega) (by show _ ≤ (267 : Nat); omega)
def b_L_acts_23 (n np : Nat) (post : Int32 → Nat → Nat → Mem → Prop) (a5 : Int32) (a6 : Int32) (μ : Mem) : Prop := (w_L_scenes n np (fun (r5 : Int32) (n np : Nat) (μ4 : Mem) => b_L_acts_35 n np post a5 a6 r5 μ4) (a5 >>> (5 &&& 31)) a6 μ)
set_option maxRecDepth 100000 in
set_option maxHeartbeats 4000000 in
theorem t_L_acts_23 {p : Program} {l : Launch} {e : Env} {s : State} {m : MethodId} {args : Array Value} {below : List Frame} {meth : Method} {c : Code} {D : va_G} {ca : Nat → ClassId} {base : Nat} {ad : Nat → Nat → Nat} {n np : Nat} {ad0 : Nat → Nat → Nat} {post : Int32 → Nat → Nat → Mem → Prop} (hst : l.stackTraces = false) (hC : ZC p m meth c s RL cL_acts 7) (hr : meth.sig.returnType = (some FieldType.boolean)) (hag : zagr ad0 ad) (a5 : Int32) (a6 : Int32) (cx dx : Nat) (μ : Mem) (H : Heap) (locs : List Loc) (ls : Array Slot) (hBc : cx + (45) ≤ 45) (hBs : dx + (267) ≤ 267) (h : b_L_acts_23 n np post a5 a6 μ) (hZ : ZS D ca base ad n np μ s H locs) (hl : lv_has ls 7 [(0, .ref (ad 30 0)), (1, .ref (ad 22 0)), (2, .ref (ad 23 0)), (4, .int a5), (5, .int a6)]) : W p l e ({ frames := 11, cells := 45, slots := 267, locals := 210 } : Room) s m args below meth c H locs cx dx (MQ below (ZQN D ca base ad0 post) args s 45 267 (zB base)) (F0 m 23 ls []) := by
  unfold b_L_acts_23 at h
  refine lv_aload_n hC.1 hC.2.1 dL_acts_23 rfl (lv_at hl 0 rfl) ?_
  refine lv_aload_n hC.1 hC.2.1 dL_acts_24 rfl (lv_at hl 1 rfl) ?_
  refine lv_aload_n hC.1 hC.2.1 dL_acts_25 rfl (lv_at hl 2 rfl) ?_
  refine lv_iload hC.1 hC.2.1 dL_acts_26 (lv_at hl 3 rfl) ?_
  refine lv_iconst (v := 5) hC.1 hC.2.1 dL_acts_28 (by decide) ?_
  refine lv_ishr hC.1 hC.2.1 dL_acts_29 ?_
  refine lv_iload hC.1 hC.2.1 dL_acts_30 (lv_at hl 4 rfl) ?_
  refine z_callG (As := [.ref (ad 30 0), .ref (ad 22 0), .ref (ad 23 0), .int (a5 >>> (5 &&& 31)), .int a6]) hC hZ zy_L_scenes (c_L_scenes l hst h) km_L_162 rfl ⟨rfl, rfl⟩ ⟨Nat.le_of_ble_eq_true rfl, Nat.le_of_ble_eq_true rfl⟩ hl.1 rfl (Nat.le_of_ble_eq_true rfl) dL_acts_32 ⟨by show _ ≤ (45 : Nat); omega, by show _ ≤ (267 : Nat); omega⟩ (fun r5 n2 np2 ad2 μ4 H locs h hag2 hZ => ?_)
  have hl : lv_has ls 7 [(0, .ref (ad2 30 0)), (1, .ref (ad2 22 0)), (2, .ref (ad2 23 0)), (4, .int a5), (5, .int a6)] := by
    have q := hl
    rw [← hag2 22 0 (by decide), ← hag2 23 0 (by decide), ← hag2 30 0 (by decide)] at q
    exact q
  exact t_L_acts_35 (l := l) hst hC hr (zagr_tr hag hag2) _ _ _ _ _ _ _ _ _ (by show _ ≤ (45 : Nat); omega) (by show _ ≤ (267 : Nat); omega) h hZ (lv_sub hl [] rfl)
def b_L_acts_116 (n np : Nat) (post : Int32 → Nat → Nat → Mem → Prop) (a5 : Int32) (a6 : Int32) (s0 : Int32) (μ : Mem) : Prop := ((s0 = 0 ∨ s0 = 1) ∧ post s0 n np μ)
set_option maxRecDepth 100000 in
set_option maxHeartbeats 4000000 in
theorem t_L_acts_116 {p : Program} {l : Launch} {e : Env} {s : State} {m : MethodId} {args : Array Value} {below : List Frame} {meth : Method} {c : Code} {D : va_G} {ca : Nat → ClassId} {base : Nat} {ad : Nat → Nat → Nat} {n np : Nat} {ad0 : Nat → Nat → Nat} {post : Int32 → Nat → Nat → Mem → Prop} (hst : l.stackTraces = false) (hC : ZC p m meth c s RL cL_acts 7) (hr : meth.sig.returnType = (some FieldType.boolean)) (hag : zagr ad0 ad) (a5 : Int32) (a6 : Int32) (s0 : Int32) (cx dx : Nat) (μ : Mem) (H : Heap) (locs : List Loc) (ls : Array Slot) (hBc : cx + (0) ≤ 45) (hBs : dx + (0) ≤ 267) (h : b_L_acts_116 n np post a5 a6 s0 μ) (hZ : ZS D ca base ad n np μ s H locs) (hl : lv_has ls 7 []) : W p l e ({ frames := 11, cells := 45, slots := 267, locals := 210 } : Room) s m args below meth c H locs cx dx (MQ below (ZQN D ca base ad0 post) args s 45 267 (zB base)) (F0 m 116 ls [.int s0]) := by
  unfold b_L_acts_116 at h
  obtain ⟨q13, h⟩ := h
  exact z_nretb hC hr hZ hag q13 h dL_acts_116 (by show _ ≤ (45 : Nat); omega) (by show _ ≤ (267 : Nat); omega)
def b_L_acts_89 (n np : Nat) (post : Int32 → Nat → Nat → Mem → Prop) (a5 : Int32) (a6 : Int32) (v6 : Int32) (μ : Mem) : Prop := ((18 ≤ v6 → (w_L_others n np (fun (r12 : Int32) (n np : Nat) (μ11 : Mem) => b_L_acts_116 n np post a5 a6 r12 μ11) (a5 >>> (5 &&& 31)) a6 μ)) ∧ (¬ 18 ≤ v6 → (w_L_ends n np (fun (r15 : Int32) (μ14 : Mem) => b_L_acts_116 n np post a5 a6 r15 μ14) μ)))
set_option maxRecDepth 100000 in
set_option maxHeartbeats 4000000 in
theorem t_L_acts_89 {p : Program} {l : Launch} {e : Env} {s : State} {m : MethodId} {args : Array Value} {below : List Frame} {meth : Method} {c : Code} {D : va_G} {ca : Nat → ClassId} {base : Nat} {ad : Nat → Nat → Nat} {n np : Nat} {ad0 : Nat → Nat → Nat} {post : Int32 → Nat → Nat → Mem → Prop} (hst : l.stackTraces = false) (hC : ZC p m meth c s RL cL_acts 7) (hr : meth.sig.returnType = (some FieldType.boolean)) (hag : zagr ad0 ad) (a5 : Int32) (a6 : Int32) (v6 : Int32) (cx dx : Nat) (μ : Mem) (H : Heap) (locs : List Loc) (ls : Array Slot) (hBc : cx + (40) ≤ 45) (hBs : dx + (240) ≤ 267) (h : b_L_acts_89 n np post a5 a6 v6 μ) (hZ : ZS D ca base ad n np μ s H locs) (hl : lv_has ls 7 [(0, .ref (ad 30 0)), (1, .ref (ad 22 0)), (3, .ref (ad 24 0)), (4, .int a5), (5, .int a6), (6, .int v6)]) : W p l e ({ frames := 11, cells := 45, slots := 267, locals := 210 } : Room) s m args below meth c H locs cx dx (MQ below (ZQN D ca base ad0 post) args s 45 267 (zB base)) (F0 m 89 ls []) := by
  unfold b_L_acts_89 at h
  refine lv_iload hC.1 hC.2.1 dL_acts_89 (lv_at hl 5 rfl) ?_
  refine lv_bipush (v := 18) hC.1 hC.2.1 dL_acts_91 (by decide) ?_
  refine lv_icmp_ge (tgt := 104) hC.1 hC.2.1 dL_acts_93 (by decide) (fun c10 => ?_) (fun c10 => ?_)
  · have h := h.1 c10
    refine lv_aload_n hC.1 hC.2.1 dL_acts_104 rfl (lv_at hl 0 rfl) ?_
    refine lv_aload_n hC.1 hC.2.1 dL_acts_105 rfl (lv_at hl 1 rfl) ?_
    refine lv_aload_n hC.1 hC.2.1 dL_acts_106 rfl (lv_at hl 2 rfl) ?_
    refine lv_iload hC.1 hC.2.1 dL_acts_107 (lv_at hl 3 rfl) ?_
    refine lv_iconst (v := 5) hC.1 hC.2.1 dL_acts_109 (by decide) ?_
    refine lv_ishr hC.1 hC.2.1 dL_acts_110 ?_
    refine lv_iload hC.1 hC.2.1 dL_acts_111 (lv_at hl 4 rfl) ?_
    refine z_callG (As := [.ref (ad 30 0), .ref (ad 22 0), .ref (ad 24 0), .int (a5 >>> (5 &&& 31)), .int a6]) hC hZ zy_L_others (c_L_others l hst h) km_L_176 rfl ⟨rfl, rfl⟩ ⟨Nat.le_of_ble_eq_true rfl, Nat.le_of_ble_eq_true rfl⟩ hl.1 rfl (Nat.le_of_ble_eq_true rfl) dL_acts_113 ⟨by show _ ≤ (45 : Nat); omega, by show _ ≤ (267 : Nat); omega⟩ (fun r12 n2 np2 ad2 μ11 H locs h hag2 hZ => ?_)
    have hl : lv_has ls 7 [(0, .ref (ad2 30 0)), (1, .ref (ad2 22 0)), (3, .ref (ad2 24 0)), (4, .int a5), (5, .int a6), (6, .int v6)] := by
      have q := hl
      rw [← hag2 22 0 (by decide), ← hag2 24 0 (by decide), ← hag2 30 0 (by decide)] at q
      exact q
    exact t_L_acts_116 (l := l) hst hC hr (zagr_tr hag hag2) _ _ _ _ _ _ _ _ _ (by show _ ≤ (45 : Nat); omega) (by show _ ≤ (267 : Nat); omega) h hZ (lv_sub hl [] rfl)
  · have h := h.2 c10
    refine lv_aload_n hC.1 hC.2.1 dL_acts_96 rfl (lv_at hl 0 rfl) ?_
    refine lv_aload_n hC.1 hC.2.1 dL_acts_97 rfl (lv_at hl 1 rfl) ?_
    refine z_cSi (As := [.ref (ad 30 0), .ref (ad 22 0)]) hC hZ zy_L_ends (c_L_ends l hst h) km_L_172 rfl ⟨rfl, rfl⟩ ⟨Nat.le_of_ble_eq_true rfl, Nat.le_of_ble_eq_true rfl⟩ hl.1 rfl (Nat.le_of_ble_eq_true rfl) dL_acts_98 ⟨by show _ ≤ (45 : Nat); omega, by show _ ≤ (267 : Nat); omega⟩ (fun r15 μ14 H locs h hZ => ?_)
    refine lv_goto (tgt := 116) hC.1 hC.2.1 dL_acts_101 (by decide) ?_
    exact t_L_acts_116 (l := l) hst hC hr hag _ _ _ _ _ _ _ _ _ (by show _ ≤ (45 : Nat); omega) (by show _ ≤ (267 : Nat); omega) h hZ (lv_sub hl [] rfl)
def w_L_acts (n np : Nat) (post : Int32 → Nat → Nat → Mem → Prop) (a5 : Int32) (a6 : Int32) (μ : Mem) : Prop := (w_L_low n np (fun (r2 : Int32) (μ1 : Mem) => (((μ1 22 0 (0 : Int32).toNatClampNeg) < 2 → b_L_acts_23 n np post a5 a6 μ1) ∧ (¬ (μ1 22 0 (0 : Int32).toNatClampNeg) < 2 → ((11 ≤ r2 → ((15 ≤ r2 → ((¬ r2 = 15 → b_L_acts_89 n np post a5 a6 r2 μ1) ∧ (r2 = 15 → ((8 ≤ (μ1 22 0 (4 : Int32).toNatClampNeg) → b_L_acts_89 n np post a5 a6 r2 μ1) ∧ (¬ 8 ≤ (μ1 22 0 (4 : Int32).toNatClampNeg) → (∀ μ17 : Mem, μ17 = zst μ1 22 0 ((4 : Int32).toNatClampNeg) ((μ1 22 0 (4 : Int32).toNatClampNeg) + 1) → (w_L_betters n np (fun (r19 : Int32) (μ18 : Mem) => ((r19 = 0 ∨ r19 = 1) ∧ post r19 n np μ18)) (a5 >>> (5 &&& 31)) a6 μ17))))))) ∧ (¬ 15 ≤ r2 → (w_L_swaps n np (fun (r22 : Int32) (μ21 : Mem) => ((r22 = 0 ∨ r22 = 1) ∧ post r22 n np μ21)) (a5 >>> (5 &&& 31)) a6 μ1)))) ∧ (¬ 11 ≤ r2 → b_L_acts_23 n np post a5 a6 μ1))))) a5 (24 : Int32) μ)
set_option maxRecDepth 100000 in
set_option maxHeartbeats 4000000 in
theorem c_L_acts (l : Launch) (hst : l.stackTraces = false) {D : va_G} {ca : Nat → ClassId} {base : Nat} {ad : Nat → Nat → Nat} {n np : Nat} {μ : Mem} {post : Int32 → Nat → Nat → Mem → Prop} {a5 : Int32} {a6 : Int32} (h : w_L_acts n np post a5 a6 μ) : ZGMet l yL_acts cL_acts 7 (some FieldType.boolean) ({ frames := 11, cells := 45, slots := 267, locals := 210 } : Room) 45 267 D ca base ad n np [.ref (ad 30 0), .ref (ad 22 0), .ref (ad 23 0), .ref (ad 24 0), .int a5, .int a6] μ (post) := by
  unfold ZGMet
  refine Met.ofW (cc := cL_acts) (maxL := 7) (ret := (some FieldType.boolean)) (by decide) rfl ?_
  intro p e s m args below meth c s₁ B hml hv
  obtain ⟨rfl, hU⟩ := hv
  have hZ := hU.toS
  have hC : ZC p m meth c s RL cL_acts 7 := ⟨B.exec, B.bytes, hml, findClass_of_methodNamed B.named, B.notSynchronized⟩
  have hr := B.returns
  have hag := zagr_rf ad
  have key : W p l e ({ frames := 11, cells := 45, slots := 267, locals := 210 } : Room) s m (([.ref (ad 30 0), .ref (ad 22 0), .ref (ad 23 0), .ref (ad 24 0), .int a5, .int a6] : List Value).toArray) below meth c s.heap [] 0 0 (MQ below (ZQN D ca base ad post) (([.ref (ad 30 0), .ref (ad 22 0), .ref (ad 23 0), .ref (ad 24 0), .int a5, .int a6] : List Value).toArray) s 45 267 (zB base)) (entryFrame m (([.ref (ad 30 0), .ref (ad 22 0), .ref (ad 23 0), .ref (ad 24 0), .int a5, .int a6] : List Value).toArray) 7) := by
    have hl := lv_entry ([.ref (ad 30 0), .ref (ad 22 0), .ref (ad 23 0), .ref (ad 24 0), .int a5, .int a6]) (n := 7) (Nat.le_of_ble_eq_true rfl)
    rw [lg_entry_eq]
    generalize (lg_sl ([.ref (ad 30 0), .ref (ad 22 0), .ref (ad 23 0), .ref (ad 24 0), .int a5, .int a6]) ++ List.replicate (7 - (lg_sl ([.ref (ad 30 0), .ref (ad 22 0), .ref (ad 23 0), .ref (ad 24 0), .int a5, .int a6])).length) Slot.unset).toArray = ls at hl ⊢
    have hl : lv_has ls 7 [(0, .ref (ad 30 0)), (1, .ref (ad 22 0)), (2, .ref (ad 23 0)), (3, .ref (ad 24 0)), (4, .int a5), (5, .int a6)] := hl
    unfold w_L_acts at h
    refine lv_iload hC.1 hC.2.1 dL_acts_0 (lv_at hl 4 rfl) ?_
    refine lv_bipush (v := 24) hC.1 hC.2.1 dL_acts_2 (by decide) ?_
    refine z_cSi (As := [.int a5, .int 24]) hC hZ zy_L_low (c_L_low l h) km_L_118 rfl ⟨rfl, rfl⟩ ⟨Nat.le_of_ble_eq_true rfl, Nat.le_of_ble_eq_true rfl⟩ hl.1 rfl (Nat.le_of_ble_eq_true rfl) dL_acts_4 ⟨by show _ ≤ (45 : Nat); omega, by show _ ≤ (267 : Nat); omega⟩ (fun r2 μ1 H locs h hZ => ?_)
    refine lv_istore (lv' := [(6, .int r2), (0, .ref (ad 30 0)), (1, .ref (ad 22 0)), (2, .ref (ad 23 0)), (3, .ref (ad 24 0)), (4, .int a5), (5, .int a6)]) hC.1 hC.2.1 dL_acts_7 hl (by decide) rfl (fun ls hl => ?_)
    refine lv_aload_n hC.1 hC.2.1 dL_acts_9 rfl (lv_at hl 2 rfl) ?_
    refine lv_iconst (v := 0) hC.1 hC.2.1 dL_acts_10 (by decide) ?_
    refine aL_22 hC hZ (by unfold vp_in; decide) dL_acts_11 ?_
    refine lv_iconst (v := 2) hC.1 hC.2.1 dL_acts_12 (by decide) ?_
    refine lv_icmp_lt (tgt := 23) hC.1 hC.2.1 dL_acts_13 (by decide) (fun c3 => ?_) (fun c3 => ?_)
    · have h := h.1 c3
      exact t_L_acts_23 (l := l) hst hC hr hag _ _  _ _ _ _ _ _ (by show _ ≤ (45 : Nat); omega) (by show _ ≤ (267 : Nat); omega) h hZ (lv_sub hl [1, 2, 3, 5, 6] rfl)
    · have h := h.2 c3
      refine lv_iload hC.1 hC.2.1 dL_acts_16 (lv_at hl 0 rfl) ?_
      refine lv_bipush (v := 11) hC.1 hC.2.1 dL_acts_18 (by decide) ?_
      refine lv_icmp_ge (tgt := 36) hC.1 hC.2.1 dL_acts_20 (by decide) (fun c7 => ?_) (fun c7 => ?_)
      · have h := h.1 c7
        refine lv_iload hC.1 hC.2.1 dL_acts_36 (lv_at hl 0 rfl) ?_
        refine lv_bipush (v := 15) hC.1 hC.2.1 dL_acts_38 (by decide) ?_
        refine lv_icmp_ge (tgt := 55) hC.1 hC.2.1 dL_acts_40 (by decide) (fun c8 => ?_) (fun c8 => ?_)
        · have h := h.1 c8
          refine lv_iload hC.1 hC.2.1 dL_acts_55 (lv_at hl 0 rfl) ?_
          refine lv_bipush (v := 15) hC.1 hC.2.1 dL_acts_57 (by decide) ?_
          refine lv_icmp_ne (tgt := 89) hC.1 hC.2.1 dL_acts_59 (by decide) (fun c9 => ?_) (fun c9 => ?_)
          · have h := h.1 c9
            exact t_L_acts_89 (l := l) hst hC hr hag _ _ _ _ _ _ _ _ _ (by show _ ≤ (45 : Nat); omega) (by show _ ≤ (267 : Nat); omega) h hZ (lv_sub hl [1, 2, 4, 5, 6, 0] rfl)
          · have h := h.2 c9
            refine lv_aload_n hC.1 hC.2.1 dL_acts_62 rfl (lv_at hl 2 rfl) ?_
            refine lv_iconst (v := 4) hC.1 hC.2.1 dL_acts_63 (by decide) ?_
            refine aL_22 hC hZ (by unfold vp_in; decide) dL_acts_64 ?_
            refine lv_bipush (v := 8) hC.1 hC.2.1 dL_acts_65 (by decide) ?_
            refine lv_icmp_ge (tgt := 89) hC.1 hC.2.1 dL_acts_67 (by decide) (fun c16 => ?_) (fun c16 => ?_)
            · have h := h.1 c16
              exact t_L_acts_89 (l := l) hst hC hr hag _ _ _ _ _ _ _ _ _ (by show _ ≤ (45 : Nat); omega) (by show _ ≤ (267 : Nat); omega) h hZ (lv_sub hl [1, 2, 4, 5, 6, 0] rfl)
            · have h := h.2 c16
              refine lv_aload_n hC.1 hC.2.1 dL_acts_70 rfl (lv_at hl 2 rfl) ?_
              refine lv_iconst (v := 4) hC.1 hC.2.1 dL_acts_71 (by decide) ?_
              refine lv_dup2_11 hC.1 hC.2.1 dL_acts_72 rfl rfl ?_
              refine aL_22 hC hZ (by unfold vp_in; decide) dL_acts_73 ?_
              refine lv_iconst (v := 1) hC.1 hC.2.1 dL_acts_74 (by decide) ?_
              refine lv_iadd hC.1 hC.2.1 dL_acts_75 ?_
              refine aS_22 hC hZ (by unfold vp_in; decide) dL_acts_76 (fun μ17 H locs eμ17 hZ => ?_)
              have h := h μ17 eμ17
              refine lv_aload_n hC.1 hC.2.1 dL_acts_77 rfl (lv_at hl 1 rfl) ?_
              refine lv_aload_n hC.1 hC.2.1 dL_acts_78 rfl (lv_at hl 2 rfl) ?_
              refine lv_iload hC.1 hC.2.1 dL_acts_79 (lv_at hl 5 rfl) ?_
              refine lv_iconst (v := 5) hC.1 hC.2.1 dL_acts_81 (by decide) ?_
              refine lv_ishr hC.1 hC.2.1 dL_acts_82 ?_
              refine lv_iload hC.1 hC.2.1 dL_acts_83 (lv_at hl 6 rfl) ?_
              refine z_cSi (As := [.ref (ad 30 0), .ref (ad 22 0), .int (a5 >>> (5 &&& 31)), .int a6]) hC hZ zy_L_betters (c_L_betters l hst h) km_L_169 rfl ⟨rfl, rfl⟩ ⟨Nat.le_of_ble_eq_true rfl, Nat.le_of_ble_eq_true rfl⟩ hl.1 rfl (Nat.le_of_ble_eq_true rfl) dL_acts_85 ⟨by show _ ≤ (45 : Nat); omega, by show _ ≤ (267 : Nat); omega⟩ (fun r19 μ18 H locs h hZ => ?_)
              obtain ⟨q20, h⟩ := h
              exact z_nretb hC hr hZ hag q20 h dL_acts_88 (by show _ ≤ (45 : Nat); omega) (by show _ ≤ (267 : Nat); omega)
        · have h := h.2 c8
          refine lv_aload_n hC.1 hC.2.1 dL_acts_43 rfl (lv_at hl 1 rfl) ?_
          refine lv_aload_n hC.1 hC.2.1 dL_acts_44 rfl (lv_at hl 2 rfl) ?_
          refine lv_iload hC.1 hC.2.1 dL_acts_45 (lv_at hl 5 rfl) ?_
          refine lv_iconst (v := 5) hC.1 hC.2.1 dL_acts_47 (by decide) ?_
          refine lv_ishr hC.1 hC.2.1 dL_acts_48 ?_
          refine lv_iload hC.1 hC.2.1 dL_acts_49 (lv_at hl 6 rfl) ?_
          refine z_cSi (As := [.ref (ad 30 0), .ref (ad 22 0), .int (a5 >>> (5 &&& 31)), .int a6]) hC hZ zy_L_swaps (c_L_swaps l hst h) km_L_165 rfl ⟨rfl, rfl⟩ ⟨Nat.le_of_ble_eq_true rfl, Nat.le_of_ble_eq_true rfl⟩ hl.1 rfl (Nat.le_of_ble_eq_true rfl) dL_acts_51 ⟨by show _ ≤ (45 : Nat); omega, by show _ ≤ (267 : Nat); omega⟩ (fun r22 μ21 H locs h hZ => ?_)
          obtain ⟨q23, h⟩ := h
          exact z_nretb hC hr hZ hag q23 h dL_acts_54 (by show _ ≤ (45 : Nat); omega) (by show _ ≤ (267 : Nat); omega)
      · have h := h.2 c7
        exact t_L_acts_23 (l := l) hst hC hr hag _ _  _ _ _ _ _ _ (by show _ ≤ (45 : Nat); omega) (by show _ ≤ (267 : Nat); omega) h hZ (lv_sub hl [1, 2, 3, 5, 6] rfl)
  exact key
