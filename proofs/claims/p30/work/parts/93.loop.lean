/-! THE LAW'S LOOP -/
def LL (b : Nat) (ad : Nat → Nat → Nat) : List (Nat × Value) := [(0, .ref b), (1, .ref (ad 30 0)), (2, .ref (ad 22 0)), (3, .ref (ad 23 0)), (4, .ref (ad 24 0))]
def LM (b : Nat) (ad : Nat → Nat → Nat) (i : Int32) : List (Nat × Value) := [(6, .int i), (5, .int 1), (0, .ref b), (1, .ref (ad 30 0)), (2, .ref (ad 22 0)), (3, .ref (ad 23 0)), (4, .ref (ad 24 0))]
def oA (r : Int32) (n np : Nat) (u : Mem) : Prop := r = 1 ∧ ∃ (t : Nat) (E : Mem), Jv n np t E u ∧ LI n np t E
theorem two_k (k : Nat) : (2 : Int32) * nI k = nI (2 * k) := nI_mul 2 k
set_option maxRecDepth 100000 in
set_option maxHeartbeats 4000000 in
theorem law_loop {p : Program} {l : Launch} {e : Env} {s : State} {m : MethodId} {below : List Frame} {meth : Method} {c : Code} {b L : Nat} {xs : Nat → Int32} {D : va_G} {ca : Nat → ClassId} {c0 s0 : Nat} (hst : l.stackTraces = false) (hC : ZC p m meth c s RL cL_law 7) (hr : meth.sig.returnType = ret) (hX : va_X b L xs s s.heap) (hbl : b < s.heap.size) (hL : L ≤ 260) (hc0 : c0 ≤ 500000) (hs0 : s0 ≤ 5000000) :
    ∀ (f k : Nat) (ad : Nat → Nat → Nat) (n np t : Nat) (E μ : Mem) (H : Heap) (locs : List Loc) (ls : Array Slot), k + f = 140 → Jv n np t E μ → LI n np t E → ZS D ca s.heap.size ad n np μ s H locs → lv_has ls 7 (LM b ad (nI k)) → W p l e room_1 s m #[Value.ref b] below meth c H locs (c0 + 474 * k) (s0 + 2841 * k) (lw_Z below #[Value.ref b] s) (F0 m 68 ls []) := by
  intro f
  induction f with
  | zero =>
    intro k ad n np t E μ H locs ls hk hJ hI hZ hl
    have ek : k = 140 := by omega
    subst ek
    refine lv_iload hC.1 hC.2.1 dL_law_68 (lv_at hl 0 rfl) ?_
    refine lv_sipush (v := 140) hC.1 hC.2.1 dL_law_70 (by decide) ?_
    refine lv_icmp_ge (tgt := 142) hC.1 hC.2.1 dL_law_73 (by decide) (fun _ => ?_) (fun c1 => absurd (show (140 : Int32) ≤ nI 140 by decide) c1)
    refine lv_iload hC.1 hC.2.1 dL_law_142 (lv_at hl 1 rfl) ?_
    refine va_forget (fun q hq => hZ.2.1.2.2 q hq) ?_
    refine W.widen (k := 600104) (n := 7301314) (by omega) (by omega) ?_
    exact lw_ret hC.1 hC.2.1 hr hC.2.2.2.2 dL_law_144
  | succ f ih =>
    intro k ad n np t E μ H locs ls hk hJ hI hZ hl
    refine lv_iload hC.1 hC.2.1 dL_law_68 (lv_at hl 0 rfl) ?_
    refine lv_sipush (v := 140) hC.1 hC.2.1 dL_law_70 (by decide) ?_
    refine lv_icmp_ge (tgt := 142) hC.1 hC.2.1 dL_law_73 (by decide) (fun c1 => absurd ((nI_leI (a := 140) (b := k) (by omega) (by omega)).mp c1) (by omega)) (fun _ => ?_)
    refine lv_iload hC.1 hC.2.1 dL_law_76 (lv_at hl 1 rfl) ?_
    refine lv_if_eq (tgt := 142) hC.1 hC.2.1 dL_law_78 (by decide) (fun c1 => absurd c1 z10) (fun _ => ?_)
    refine lv_aload_n hC.1 hC.2.1 dL_law_81 rfl (lv_at hl 3 rfl) ?_
    refine lv_aload_n hC.1 hC.2.1 dL_law_82 rfl (lv_at hl 4 rfl) ?_
    refine lv_aload_n hC.1 hC.2.1 dL_law_83 rfl (lv_at hl 5 rfl) ?_
    refine lv_aload hC.1 hC.2.1 dL_law_84 (lv_at hl 6 rfl) ?_
    refine lv_aload_n hC.1 hC.2.1 dL_law_86 rfl (lv_at hl 2 rfl) ?_
    refine lv_iconst (v := 2) hC.1 hC.2.1 dL_law_87 (by decide) ?_
    refine lv_iload hC.1 hC.2.1 dL_law_88 (lv_at hl 0 rfl) ?_
    refine lv_imul hC.1 hC.2.1 dL_law_90 ?_
    rw [two_k]
    refine z_callAt (k := 2 * k) hC hZ hX hbl hL (by omega) ⟨(Nat.le_of_ble_eq_true rfl), (Nat.le_of_ble_eq_true rfl)⟩ hl.1 rfl (Nat.le_of_ble_eq_true rfl) dL_law_91 ⟨by show _ ≤ 600104; omega, by show _ ≤ 7301314; omega⟩ (fun r1 H locs hZ => ?_)
    refine lv_aload_n hC.1 hC.2.1 dL_law_94 rfl (lv_at hl 2 rfl) ?_
    refine lv_iconst (v := 2) hC.1 hC.2.1 dL_law_95 (by decide) ?_
    refine lv_iload hC.1 hC.2.1 dL_law_96 (lv_at hl 0 rfl) ?_
    refine lv_imul hC.1 hC.2.1 dL_law_98 ?_
    refine lv_iconst (v := 1) hC.1 hC.2.1 dL_law_99 (by decide) ?_
    refine lv_iadd hC.1 hC.2.1 dL_law_100 ?_
    rw [two_k, nI_s1]
    refine z_callAt (k := 2 * k + 1) hC hZ hX hbl hL (by omega) ⟨(Nat.le_of_ble_eq_true rfl), (Nat.le_of_ble_eq_true rfl)⟩ hl.1 rfl (Nat.le_of_ble_eq_true rfl) dL_law_101 ⟨by show _ ≤ 600104; omega, by show _ ≤ 7301314; omega⟩ (fun r2 H locs hZ => ?_)
    have hA : w_L_acts n np oA r1 r2 μ := L_acts hJ hI (fun n' np' t' E' v h1 h2 => ⟨rfl, t', E', h1, h2⟩)
    refine z_callG (As := [.ref (ad 30 0), .ref (ad 22 0), .ref (ad 23 0), .ref (ad 24 0), .int r1, .int r2]) (rest := []) hC hZ zy_L_acts (c_L_acts l hst hA) km_L_184 rfl ⟨rfl, rfl⟩ ⟨(Nat.le_of_ble_eq_true rfl), (Nat.le_of_ble_eq_true rfl)⟩ hl.1 rfl (Nat.le_of_ble_eq_true rfl) dL_law_104 ⟨by show _ ≤ 600104; omega, by show _ ≤ 7301314; omega⟩ (fun r n2 np2 ad2 u H locs h hag hZ => ?_)
    obtain ⟨er, t2, E2, hJ2, hI2⟩ := h
    subst er
    have hl : lv_has ls 7 (LM b ad2 (nI k)) := by
      unfold LM
      rw [hag 30 0 (by decide), hag 22 0 (by decide), hag 23 0 (by decide), hag 24 0 (by decide)]
      exact hl
    have fin : ∀ (v : Mem) (H : Heap) (locs : List Loc), Jv n2 np2 t2 E2 v → ZS D ca s.heap.size ad2 n2 np2 v s H locs → W p l e room_1 s m #[Value.ref b] below meth c H locs (c0 + 474 * (k + 1)) (s0 + 2841 * (k + 1)) (lw_Z below #[Value.ref b] s) (F0 m 129 ls []) := by
      intro v H locs hJ3 hZ
      refine lv_iconst (v := 1) hC.1 hC.2.1 dL_law_129 (by decide) ?_
      refine lv_goto (tgt := 134) hC.1 hC.2.1 dL_law_130 (by decide) ?_
      refine lv_istore (lv' := [(5, .int 1), (6, .int (nI k)), (0, .ref b), (1, .ref (ad2 30 0)), (2, .ref (ad2 22 0)), (3, .ref (ad2 23 0)), (4, .ref (ad2 24 0))]) hC.1 hC.2.1 dL_law_134 hl (by decide) rfl (fun ls hl => ?_)
      refine lv_iinc (v := nI (k + 1)) (lv' := LM b ad2 (nI (k + 1))) hC.1 hC.2.1 dL_law_136 hl (k := 1) rfl ?_ (by decide) rfl (fun ls hl => ?_)
      · rw [show Int32.ofInt 1 = 1 from rfl]
        exact nI_s1 k
      refine lv_goto (tgt := 68) hC.1 hC.2.1 dL_law_139 (by decide) ?_
      exact ih (k + 1) ad2 n2 np2 t2 E2 v H locs ls (by omega) hJ3 hI2 hZ hl
    refine lv_if_eq (tgt := 133) hC.1 hC.2.1 dL_law_107 (by decide) (fun c1 => absurd c1 z10) (fun _ => ?_)
    refine lv_iload hC.1 hC.2.1 dL_law_110 (lv_at hl 0 rfl) ?_
    refine lv_bipush (v := 10) hC.1 hC.2.1 dL_law_112 (by decide) ?_
    refine lv_irem hC.1 hC.2.1 dL_law_114 (by decide) ?_
    refine lv_bipush (v := 9) hC.1 hC.2.1 dL_law_115 (by decide) ?_
    refine lv_icmp_lt (tgt := 129) hC.1 hC.2.1 dL_law_117 (by decide) (fun _ => ?_) (fun _ => ?_)
    · refine W.widen (k := c0 + 474 * (k + 1)) (n := s0 + 2841 * (k + 1)) (by omega) (by omega) ?_
      exact fin u H locs hJ2 hZ
    · refine lv_aload_n hC.1 hC.2.1 dL_law_120 rfl (lv_at hl 3 rfl) ?_
      refine lv_aload_n hC.1 hC.2.1 dL_law_121 rfl (lv_at hl 4 rfl) ?_
      refine lv_aload_n hC.1 hC.2.1 dL_law_122 rfl (lv_at hl 5 rfl) ?_
      have hS : w_L_isSo n2 np2 (fun (r : Int32) (v : Mem) => r = 1 ∧ Jv n2 np2 t2 E2 v) u := L_isSo hJ2 hI2 (fun v h => ⟨rfl, h⟩)
      refine z_cSi (As := [.ref (ad2 30 0), .ref (ad2 22 0), .ref (ad2 23 0)]) (rest := []) hC hZ zy_L_isSo (c_L_isSo l hst hS) km_L_188 rfl ⟨rfl, rfl⟩ ⟨(Nat.le_of_ble_eq_true rfl), (Nat.le_of_ble_eq_true rfl)⟩ hl.1 rfl (Nat.le_of_ble_eq_true rfl) dL_law_123 ⟨by show _ ≤ 600104; omega, by show _ ≤ 7301314; omega⟩ (fun r u3 H locs h hZ => ?_)
      obtain ⟨er, hJ3⟩ := h
      subst er
      refine lv_if_eq (tgt := 133) hC.1 hC.2.1 dL_law_126 (by decide) (fun c1 => absurd c1 z10) (fun _ => ?_)
      refine W.widen (k := c0 + 474 * (k + 1)) (n := s0 + 2841 * (k + 1)) (by omega) (by omega) ?_
      exact fin u3 H locs hJ3 hZ
/-! THE FIRST ANSWERS: an empty plan costs nothing, and there is nothing to mend, to better, to clear -/
theorem dC_emp {E : Mem} {np : Nat} {P : Nat → Int32} : ∀ (r d : Nat) (s b : Int32) (g : Nat → Int32) (c : Nat → Nat → Int32), (∀ k, d ≤ k → k < d + r → P k = -1) → dC E np P r d s b g c = s := by
  intro r
  induction r with
  | zero => intro d s b g c _; rfl
  | succ r ih =>
    intro d s b g c h
    unfold dC
    rw [if_pos (h d (Nat.le_refl d) (by omega))]
    exact ih (d + 1) s b (gw g) c (fun k h1 h2 => h k (by omega) (by omega))
theorem cost_emp {E : Mem} {np : Nat} {P : Nat → Int32} (h : ∀ d, d < 30 → P d = -1) : costF E np 0 P = 0 := dC_emp 30 0 0 _ _ _ (fun k _ h2 => h k (by omega))
theorem pswap_emp {P : Nat → Int32} {i j : Nat} (h : ∀ d, d < 30 → P d = -1) (hi : i < 30) (hj : j < 30) : ∀ d, d < 30 → pswap P i j d = -1 := by
  intro d hd
  unfold pswap
  by_cases c1 : d = j
  · rw [if_pos c1]; exact h i hi
  · rw [if_neg c1]
    by_cases c2 : d = i
    · rw [if_pos c2]; exact h j hj
    · rw [if_neg c2]; exact h d hd
theorem mnl_emp {E : Mem} {np : Nat} {P : Nat → Int32} (h : ∀ d, d < 30 → P d = -1) : mnl E np 0 P := fun i j hi hj => by
  rw [cost_emp h, cost_emp (pswap_emp h hi.2 hj.2)]
  exact Int32.le_refl _
theorem sR_emp {E : Mem} {np : Nat} {P : Nat → Int32} (h : ∀ d, d < 30 → P d = -1) : sR E np P = 0 := by
  have h1 : sR E np P ≤ sumN (fun _ => 0) 30 := sumN_le2 30 (fun i hi => by
    unfold rD fre
    rw [ind_0 (fun q => q (Or.inl (h i hi)))]
    exact Nat.le_refl 0)
  have h2 : sumN (fun _ => 0) 30 = 0 := rfl
  omega
def oF (E0 : Mem) (r : Int32) (v : Mem) : Prop := r = 0 ∧ ∃ E : Mem, Jv 0 0 0 E v ∧ LI 0 0 0 E ∧ (∀ d, d < 30 → E 8 0 d = -1) ∧ E 16 0 = E0 16 0
section FIRST
variable {E μ : Mem}
theorem f_cost (h : Jv 0 0 0 E μ) (hl : LI 0 0 0 E) (h8 : ∀ d, d < 30 → E 8 0 d = -1) : w_X4_cost 0 0 (fun r u => ∃ v, gs u v ∧ oF E r v) μ := s_cost h (fun u hu => ⟨cost_emp h8, E, hu, hl, h8, rfl⟩)
theorem f_mend (h : Jv 0 0 0 E μ) (hl : LI 0 0 0 E) (h8 : ∀ d, d < 30 → E 8 0 d = -1) : w_X4_mend 0 0 (fun r u => ∃ v, gs u v ∧ oF E r v) μ := s_mend h (fun Q m v _ hle h0 hJ => by
  rw [sR_emp h8] at hle
  have em : m = 0 := by omega
  subst em
  refine ⟨rfl, plF E Q, hJ, LI_plF hl Q, fun d hd => ?_, by rw [plF_o (by omega) (by omega)]⟩
  show Q d = -1
  rw [h0 rfl]
  exact h8 d hd)
theorem f_better (h : Jv 0 0 0 E μ) (hl : LI 0 0 0 E) (h8 : ∀ d, d < 30 → E 8 0 d = -1) : w_X4_better 0 0 (fun r u => ∃ v, gs u v ∧ oF E r v) μ := s_better h (fun Q m v _ _ _ hor h0 hJ => by
  have em : m = 0 := h0 (mnl_emp h8)
  subst em
  refine ⟨rfl, plF E Q, hJ, LI_plF hl Q, fun d hd => ?_, by rw [plF_o (by omega) (by omega)]⟩
  show Q d = -1
  rcases hor with w | w
  · rw [w.2]; exact h8 d hd
  · exact absurd w.1 (Nat.lt_irrefl 0))
theorem f_least (h : Jv 0 0 0 E μ) (hl : LI 0 0 0 E) (h8 : ∀ d, d < 30 → E 8 0 d = -1) : w_L_least 0 0 (oF E) μ := s_least h (fun _ L v hle hge hJ => by
  rw [cost_emp h8] at hle
  exact ⟨Int32.le_antisymm hle (Int32.not_lt.mp hge), E, hJ, hl, h8, rfl⟩) (fun hc => by
  rw [cnt_start h8] at hc
  exact absurd hc (by omega))
theorem f_clear (h : Jv 0 0 0 E μ) (hl : LI 0 0 0 E) (h8 : ∀ d, d < 30 → E 8 0 d = -1) (h16 : ∀ k, E 16 0 k = 0) : w_X4_clear 0 0 (fun r u => ∃ v, gs u v ∧ (r = 0 ∧ ∃ F : Mem, Jv 0 0 0 F v ∧ LI 0 0 0 F)) μ := s_clear h (fun F v hF fo f16 => by
  refine ⟨?_, F, hF, LI_16 hl fo⟩
  rw [csm_congr (r' := fun _ => 0) 5 (fun q _ => h16 _)]
  rfl)
end FIRST
set_option maxRecDepth 100000 in
set_option maxHeartbeats 4000000 in
theorem law_first {p : Program} {l : Launch} {e : Env} {s : State} {m : MethodId} {below : List Frame} {meth : Method} {c : Code} {b L : Nat} {xs : Nat → Int32} {D : va_G} {ca : Nat → ClassId} {ad : Nat → Nat → Nat} {E μ : Mem} {H : Heap} {locs : List Loc} {ls : Array Slot} {c0 s0 : Nat} (hst : l.stackTraces = false) (hC : ZC p m meth c s RL cL_law 7) (hr : meth.sig.returnType = ret) (hX : va_X b L xs s s.heap) (hbl : b < s.heap.size) (hL : L ≤ 260) (hc0 : c0 ≤ 400000) (hs0 : s0 ≤ 4000000) (hJ : Jv 0 0 0 E μ) (hI : LI 0 0 0 E) (h8 : ∀ d, d < 30 → E 8 0 d = -1) (h16 : ∀ k, E 16 0 k = 0) (hZ : ZS D ca s.heap.size ad 0 0 μ s H locs) (hl : lv_has ls 7 (LL b ad)) : W p l e room_1 s m #[Value.ref b] below meth c H locs c0 s0 (lw_Z below #[Value.ref b] s) (F0 m 23 ls []) := by
  refine lv_aload_n hC.1 hC.2.1 dL_law_23 rfl (lv_at hl 1 rfl) ?_
  refine z_cVi (As := []) (rest := []) hC hZ (zF_30 _) rfl zy_X4_cost (c_X4_cost l (f_cost hJ hI h8)) km_L_111 rfl ⟨rfl, rfl⟩ ⟨(Nat.le_of_ble_eq_true rfl), (Nat.le_of_ble_eq_true rfl)⟩ hl.1 rfl (Nat.le_of_ble_eq_true rfl) dL_law_24 ⟨by show _ ≤ 600104; omega, by show _ ≤ 7301314; omega⟩ (fun r1 u1 H locs h hZ => ?_)
  obtain ⟨v1, hgs, er, E1, hJ, hI, h8, e16⟩ := h
  have hZ := hZ.gs hgs
  have h16 : ∀ k, E1 16 0 k = 0 := fun k => by rw [e16]; exact h16 k
  subst er
  refine lv_if_ne (tgt := 62) hC.1 hC.2.1 dL_law_27 (by decide) (fun c1 => absurd rfl c1) (fun _ => ?_)
  refine lv_aload_n hC.1 hC.2.1 dL_law_30 rfl (lv_at hl 1 rfl) ?_
  refine z_cVi (As := []) (rest := []) hC hZ (zF_30 _) rfl zy_X4_mend (c_X4_mend l (f_mend hJ hI h8)) km_L_140 rfl ⟨rfl, rfl⟩ ⟨(Nat.le_of_ble_eq_true rfl), (Nat.le_of_ble_eq_true rfl)⟩ hl.1 rfl (Nat.le_of_ble_eq_true rfl) dL_law_31 ⟨by show _ ≤ 600104; omega, by show _ ≤ 7301314; omega⟩ (fun r2 u2 H locs h hZ => ?_)
  obtain ⟨v2, hgs, er, E2, hJ, hI, h8, e16⟩ := h
  have hZ := hZ.gs hgs
  have h16 : ∀ k, E2 16 0 k = 0 := fun k => by rw [e16]; exact h16 k
  subst er
  refine lv_if_ne (tgt := 62) hC.1 hC.2.1 dL_law_34 (by decide) (fun c1 => absurd rfl c1) (fun _ => ?_)
  refine lv_aload_n hC.1 hC.2.1 dL_law_37 rfl (lv_at hl 1 rfl) ?_
  refine z_cVi (As := []) (rest := []) hC hZ (zF_30 _) rfl zy_X4_better (c_X4_better l (f_better hJ hI h8)) km_L_145 rfl ⟨rfl, rfl⟩ ⟨(Nat.le_of_ble_eq_true rfl), (Nat.le_of_ble_eq_true rfl)⟩ hl.1 rfl (Nat.le_of_ble_eq_true rfl) dL_law_38 ⟨by show _ ≤ 600104; omega, by show _ ≤ 7301314; omega⟩ (fun r3 u3 H locs h hZ => ?_)
  obtain ⟨v3, hgs, er, E3, hJ, hI, h8, e16⟩ := h
  have hZ := hZ.gs hgs
  have h16 : ∀ k, E3 16 0 k = 0 := fun k => by rw [e16]; exact h16 k
  subst er
  refine lv_if_ne (tgt := 62) hC.1 hC.2.1 dL_law_41 (by decide) (fun c1 => absurd rfl c1) (fun _ => ?_)
  refine lv_aload_n hC.1 hC.2.1 dL_law_44 rfl (lv_at hl 1 rfl) ?_
  refine z_cWi (As := [.ref (ad 30 0)]) (rest := []) hC hZ zy_L_least (c_L_least l hst (f_least hJ hI h8)) km_L_143 rfl ⟨rfl, rfl⟩ ⟨(Nat.le_of_ble_eq_true rfl), (Nat.le_of_ble_eq_true rfl)⟩ hl.1 rfl (Nat.le_of_ble_eq_true rfl) dL_law_45 ⟨by show _ ≤ 600104; omega, by show _ ≤ 7301314; omega⟩ (fun r4 v4 H locs h hZ => ?_)
  obtain ⟨er, E4, hJ, hI, h8, e16⟩ := h
  have h16 : ∀ k, E4 16 0 k = 0 := fun k => by rw [e16]; exact h16 k
  subst er
  refine lv_if_ne (tgt := 62) hC.1 hC.2.1 dL_law_48 (by decide) (fun c1 => absurd rfl c1) (fun _ => ?_)
  refine lv_aload_n hC.1 hC.2.1 dL_law_51 rfl (lv_at hl 1 rfl) ?_
  refine z_cVi (As := []) (rest := []) hC hZ (zF_30 _) rfl zy_X4_clear (c_X4_clear l (f_clear hJ hI h8 h16)) km_L_159 rfl ⟨rfl, rfl⟩ ⟨(Nat.le_of_ble_eq_true rfl), (Nat.le_of_ble_eq_true rfl)⟩ hl.1 rfl (Nat.le_of_ble_eq_true rfl) dL_law_52 ⟨by show _ ≤ 600104; omega, by show _ ≤ 7301314; omega⟩ (fun r5 u5 H locs h hZ => ?_)
  obtain ⟨v5, hgs, er, E5, hJ, hI⟩ := h
  have hZ := hZ.gs hgs
  subst er
  refine lv_if_ne (tgt := 62) hC.1 hC.2.1 dL_law_55 (by decide) (fun c1 => absurd rfl c1) (fun _ => ?_)
  refine lv_iconst (v := 1) hC.1 hC.2.1 dL_law_58 (by decide) ?_
  refine lv_goto (tgt := 63) hC.1 hC.2.1 dL_law_59 (by decide) ?_
  refine lv_istore (lv' := [(5, .int 1), (0, .ref b), (1, .ref (ad 30 0)), (2, .ref (ad 22 0)), (3, .ref (ad 23 0)), (4, .ref (ad 24 0))]) hC.1 hC.2.1 dL_law_63 hl (by decide) rfl (fun ls hl => ?_)
  refine lv_iconst (v := 0) hC.1 hC.2.1 dL_law_65 (by decide) ?_
  refine lv_istore (lv' := LM b ad (nI 0)) hC.1 hC.2.1 dL_law_66 hl (by decide) rfl (fun ls hl => ?_)
  refine W.widen (k := (c0 + 1) + 474 * 0) (n := (s0 + 6) + 2841 * 0) (by omega) (by omega) ?_
  exact law_loop (c0 := c0 + 1) (s0 := s0 + 6) hst hC hr hX hbl hL (by omega) (by omega) 140 0 ad 0 0 0 E5 v5 H locs ls rfl hJ hI hZ hl
