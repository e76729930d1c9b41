/-! THE SCRIPT, READ BY A METHOD OF THE LAW -/
def AU (D : va_G) (ca : Nat → ClassId) (base : Nat) (ad : Nat → Nat → Nat) (n np : Nat) (μ : Mem) (b L : Nat) (xs : Nat → Int32) (U : State) : Prop := ZU D ca base ad n np μ U ∧ va_X b L xs U U.heap
theorem AU_blind {D : va_G} {ca : Nat → ClassId} {base : Nat} {ad : Nat → Nat → Nat} {n np : Nat} {μ : Mem} {b L : Nat} {xs : Nat → Int32} {av : List Value} : FrameBlind (va_Pc av (AU D ca base ad n np μ b L xs)) := by
  intro a U g_ mk q
  obtain ⟨h0, h1, h2⟩ := q
  exact ⟨h0, (ZU_blind (av := av) a U g_ mk ⟨h0, h1⟩).2, va_X.moved (u := U) (U := U.calling g_ mk a) (Vm.Alike.refl U.vm) h2⟩
theorem c_L_at (l : Launch) {D : va_G} {ca : Nat → ClassId} {base : Nat} {ad : Nat → Nat → Nat} {n np : Nat} {μ : Mem} {post : Int32 → Mem → Prop} {b L k : Nat} {xs : Nat → Int32} (hbb : b < base) (hL : L ≤ 260) (hk : k < 1000) (h : ∀ r, post r μ) : Met l yL_at [Cond.code yL_at cL_at 2 (some FieldType.int)] ({ frames := 0, cells := 0, slots := 0, locals := 0 } : Room) (va_Pc [.ref b, .int (nI k)] (AU D ca base ad n np μ b L xs)) (ZQ D ca base ad n np (zpi post)) 0 0 (zB base) := by
  refine Met.ofW (cc := cL_at) (maxL := 2) (ret := (some FieldType.int)) (by decide) rfl ?_
  intro p e s m args below meth c s₁ B hml hv
  obtain ⟨rfl, hU, hX⟩ := hv
  have hZ := hU.toS
  have hC : ZC p m meth c s RL cL_at 2 := ⟨B.exec, B.bytes, hml, findClass_of_methodNamed B.named, B.notSynchronized⟩
  have hr := B.returns
  have hbl : b < s.heap.size := by
    obtain ⟨scr, h1, -⟩ := id hX
    exact (Array.getElem?_eq_some_iff.mp h1).1
  have hbA : ¬ zB base b := Nat.not_le.mpr hbb
  have key : W p l e ({ frames := 0, cells := 0, slots := 0, locals := 0 } : Room) s m (([.ref b, .int (nI k)] : List Value).toArray) below meth c s.heap [] 0 0 (MQ below (ZQ D ca base ad n np (zpi post)) (([.ref b, .int (nI k)] : List Value).toArray) s 0 0 (zB base)) (entryFrame m (([.ref b, .int (nI k)] : List Value).toArray) 2) := by
    have hl := lv_entry ([.ref b, .int (nI k)]) (n := 2) (Nat.le_of_ble_eq_true rfl)
    rw [lg_entry_eq]
    generalize (lg_sl ([.ref b, .int (nI k)]) ++ List.replicate (2 - (lg_sl ([.ref b, .int (nI k)])).length) Slot.unset).toArray = ls at hl ⊢
    have hl : lv_has ls 2 [(0, .ref b), (1, .int (nI k))] := hl
    refine lv_iload_n hC.1 hC.2.1 dL_at_0 rfl (lv_at hl 1 rfl) ?_
    refine lv_aload_n hC.1 hC.2.1 dL_at_1 rfl (lv_at hl 0 rfl) ?_
    refine va_slen hC.1 hC.2.1 hX hbl hbA hZ.2.1 dL_at_2 ?_
    refine lv_icmp_ge (tgt := 12) hC.1 hC.2.1 dL_at_3 (by decide) (fun c1 => ?_) (fun c1 => ?_)
    · refine lv_ldc (v := 905433545) hC.1 hC.2.1 hC.2.2.2.1 (hZ.1.2.1.use _ kk_L_7 rfl) dL_at_12 ?_
      refine lv_iload_n hC.1 hC.2.1 dL_at_14 rfl (lv_at hl 1 rfl) ?_
      refine lv_iconst (v := 1) hC.1 hC.2.1 dL_at_15 (by decide) ?_
      refine lv_iadd hC.1 hC.2.1 dL_at_16 ?_
      refine lv_imul hC.1 hC.2.1 dL_at_17 ?_
      refine lv_ldc (v := 1523114935) hC.1 hC.2.1 hC.2.2.2.1 (hZ.1.2.1.use _ kk_L_8 rfl) dL_at_18 ?_
      refine lv_iadd hC.1 hC.2.1 dL_at_20 ?_
      exact z_iret hC hr hZ (h _) dL_at_21 (Nat.le_refl _) (Nat.le_refl _)
    · have hin : vp_in (nI k) L := by
        refine vin ?_ (by omega)
        rcases Nat.lt_or_ge k L with w | w
        · exact w
        · exact absurd (nI_le w (by omega)) c1
      refine lv_aload_n hC.1 hC.2.1 dL_at_6 rfl (lv_at hl 0 rfl) ?_
      refine lv_iload_n hC.1 hC.2.1 dL_at_7 rfl (lv_at hl 1 rfl) ?_
      refine va_sld hC.1 hC.2.1 hX hbl hbA hZ.2.1 hin dL_at_8 ?_
      refine lv_goto (tgt := 21) hC.1 hC.2.1 dL_at_9 (by decide) ?_
      exact z_iret hC hr hZ (h _) dL_at_21 (Nat.le_refl _) (Nat.le_refl _)
  exact key
theorem z_callAt {p : Program} {l : Launch} {e : Env} {R : Room} {s : State} {m : MethodId} {args : Array Value} {below : List Frame} {meth : Method} {c : Code} {H : Heap} {locs : List Loc} {cells slots : Nat} {Q : State → Prop} {cc : ByteArray} {pc : Nat} {ls : Array Slot} {rest st0 : List Value} {nL : Nat} {D : va_G} {ca : Nat → ClassId} {ad : Nat → Nat → Nat} {n np : Nat} {μ : Mem} {b L k : Nat} {xs : Nat → Int32} (hC : ZC p m meth c s RL cc nL) (hZ : ZS D ca s.heap.size ad n np μ s H locs) (hX : va_X b L xs s s.heap) (hbl : b < s.heap.size) (hL : L ≤ 260) (hk : k < 1000) (hR : 0 + 1 ≤ R.frames ∧ 8 + (2 + 11) + 0 ≤ R.locals) (hsize : ls.size = nL) (hst : st0 = .int (nI k) :: .ref b :: rest) (hrest : (rest.map fun v => v.category).sum ≤ 8) (hdg : decode cc pc = .ok (.invokestatic 180, 3)) (hf : cells + 0 ≤ R.cells ∧ slots + 0 ≤ R.slots)
    (kk : ∀ (r : Int32) (H1 : Heap) (locs1 : List Loc), ZS D ca s.heap.size ad n np μ s H1 locs1 → W p l e R s m args below meth c H1 locs1 (cells + 0) (slots + 0) Q (F0 m (pc + 3) ls (.int r :: rest))) : W p l e R s m args below meth c H locs cells slots Q (F0 m pc ls st0) := by
  obtain ⟨y1, y2, y3, y4, y5⟩ := zy_L_at
  have hW := hZ.1.2.1
  have hbA : ¬ zB s.heap.size b := Nat.not_le.mpr hbl
  have hM := c_L_at l (D := D) (ca := ca) (base := s.heap.size) (ad := ad) (n := n) (np := np) (μ := μ) (post := fun _ u => u = μ) (xs := xs) hbl hL hk (fun _ => rfl)
  refine z_run hZ (fun _ h => h) (va_runS (g := F0 m pc ls st0) (As := [.ref b, .int (nI k)]) (rest := rest) (hC.fix args) hM ⟨zCallB hW y3 y2 y4 y5 km_L_180 ⟨rfl, rfl⟩ hR, hW.use args y1 rfl⟩ ⟨AU_blind, fun U hU hWU => ⟨rfl, hZ.toU hU hWU, by rw [hU]; exact (hX.kept (hZ.2.1.2.1 b hbl hbA)).moved hWU.alike⟩⟩ rfl rfl hsize hst (lv_room hrest) hdg hf) (fun v u H1 locs1 hv h => ?_)
  obtain ⟨r, rfl, hp⟩ := hv
  have hp : u = μ := hp
  subst hp
  exact kk r H1 locs1 h
