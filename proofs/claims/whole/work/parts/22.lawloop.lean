/-! THE LAW'S LOOP, from what each call owes -/
theorem lw_nIsub {L : Nat} (hL : L ≤ 2560) : (Int32.ofNat L - 5).toInt = (L : Int) - 5 := by
  have h1 : (Int32.ofNat L).toInt = (L : Int) := nI_toInt (n := L) (by omega)
  have h5 : (5 : Int32).toInt = 5 := rfl
  rw [Int32.toInt_sub, h1, h5]
  exact Int.bmod_eq_of_le (by omega) (by omega)
theorem lw_gt {L i : Nat} (hL : L ≤ 2560) (hi : i ≤ 2560) : Int32.ofNat L - 5 < nI i ↔ L < i + 5 := by
  rw [Int32.lt_iff_toInt_lt, lw_nIsub hL, nI_toInt (n := i) (by omega)]
  omega
theorem lw_in {L i k : Nat} {x y : Int32} (hL : L ≤ 2560) (h : i + k < L) (hx : x = nI i) (hy : y = nI k) : vp_in (x + y) L := by
  subst hx
  subst hy
  rw [nI_add]
  exact vp_in_nI h (by omega)
def obAll (Inv : Nat → Nat → Mem → Prop) : Prop := ob_scene Inv ∧ ob_plays Inv ∧ ob_uses Inv ∧ ob_cut Inv ∧ ob_swap Inv ∧ ob_permit Inv ∧ ob_revoke Inv ∧ ob_away Inv ∧ ob_buy Inv ∧ ob_clear Inv ∧ ob_mishap Inv ∧ ob_shoot Inv ∧ ob_mend Inv ∧ ob_better Inv ∧ ob_least Inv ∧ ob_today Inv ∧ ob_spent Inv ∧ ob_cost Inv ∧ ob_scenes Inv ∧ ob_stateOf Inv ∧ ob_dayOf Inv ∧ ob_sceneOn Inv ∧ ob_refused Inv ∧ ob_isAllowed Inv ∧ ob_ahead Inv ∧ ob_copies Inv ∧ ob_growth Inv
set_option maxHeartbeats 4000000 in
set_option maxRecDepth 100000 in
theorem law_loop {p : Program} {l : Launch} {e : Env} {s : State} {m : MethodId} {below : List Frame} {meth : Method} {c : Code} {b L : Nat} {xs : Nat → Int32} {D : va_G} {ca : Nat → ClassId} {Inv : Nat → Nat → Mem → Prop} {c0 s0 : Nat} (hst : l.stackTraces = false) (hC : ZC p m meth c s RL cL_law 7) (hr : meth.sig.returnType = ret) (hX : va_X b L xs s s.heap) (hbl : b < s.heap.size) (hL : L ≤ 2560) (hob : obAll Inv) (hc0 : c0 ≤ 500000) (hs0 : s0 ≤ 5000000) :
    ∀ (f j : Nat) (ad : Nat → Nat → Nat) (n np : Nat) (μ : Mem) (H : Heap) (locs : List Loc) (ls : Array Slot), 5 * j ≤ L → L < 5 * j + 5 * f → Inv n np μ → ZS D ca s.heap.size ad n np μ s H locs → lv_has ls 7 (LL b ad (nI (5 * j))) → W p l e room_1 s m #[Value.ref b] below meth c H locs (c0 + 4 * j) (s0 + 24 * j) (lw_Z below #[Value.ref b] s) (F0 m 23 ls []) := by
  have hbA : ¬ zB s.heap.size b := Nat.not_le.mpr hbl
  intro f
  induction f with
  | zero =>
    intro j ad n np μ H locs ls h1 h2
    exact absurd h2 (by omega)
  | succ f ih =>
    intro j ad n np μ H locs ls hj hf hI hZ hl
    have hc : c0 + 4 * j + 4 ≤ 605506 := by omega
    have hs : s0 + 24 * j + 24 ≤ 7279587 := by omega
    refine lv_iload hC.1 hC.2.1 dL_law_23 (lv_at hl 4 rfl) ?_
    refine lv_aload_n hC.1 hC.2.1 dL_law_25 rfl (lv_at hl 0 rfl) ?_
    refine va_slen hC.1 hC.2.1 hX hbl hbA hZ.2.1 dL_law_26 ?_
    refine lv_iconst (v := 5) hC.1 hC.2.1 dL_law_27 (by decide) ?_
    refine lv_isub hC.1 hC.2.1 dL_law_28 ?_
    refine lv_icmp_gt (tgt := 1532) hC.1 hC.2.1 dL_law_29 (by decide) (fun c1 => ?_) (fun c1 => ?_)
    · refine lv_iconst (v := 1) hC.1 hC.2.1 dL_law_1532 (by decide) ?_
      refine va_forget (fun q hq => hZ.2.1.2.2 q hq) ?_
      refine W.widen (k := 605506) (n := 7279587) (by omega) (by omega) ?_
      exact lw_ret hC.1 hC.2.1 hr hC.2.2.2.2 dL_law_1533
    · have hlt : 5 * j + 5 ≤ L := by
        rcases Nat.lt_or_ge L (5 * j + 5) with q | q
        · exact absurd ((lw_gt hL (by omega)).mpr q) c1
        · exact q
      have hi0 : vp_in (nI (5 * j)) L := vp_in_nI (by omega) (by omega)
      have hi1 : vp_in (nI (5 * j) + 1) L := lw_in (i := 5 * j) (k := 1) hL (by omega) rfl rfl
      have hi2 : vp_in (nI (5 * j) + 2) L := lw_in (i := 5 * j) (k := 2) hL (by omega) rfl rfl
      have hi3 : vp_in (nI (5 * j) + 3) L := lw_in (i := 5 * j) (k := 3) hL (by omega) rfl rfl
      have hi4 : vp_in (nI (5 * j) + 4) L := lw_in (i := 5 * j) (k := 4) hL (by omega) rfl rfl
      have kk : LK p l e s m #[Value.ref b] below meth c Inv D ca b (nI (5 * j)) (c0 + 4 * j) (s0 + 24 * j) (lw_Z below #[Value.ref b] s) := by
        intro n2 np2 ad2 u H2 locs2 ls2 hI2 hZ2 hl2
        refine lv_iinc (v := nI (5 * (j + 1))) (lv' := [(4, .int (nI (5 * (j + 1)))), (0, .ref b), (1, .ref (ad2 30 0)), (2, .ref (ad2 0 0)), (3, .ref (ad2 21 0))]) hC.1 hC.2.1 dL_law_1526 hl2 (k := 4) rfl ?_ (by decide) rfl (fun ls hl => ?_)
        · rw [show Int32.ofInt 5 = nI 5 from rfl, nI_add]
          rfl
        refine lv_goto (tgt := 23) hC.1 hC.2.1 dL_law_1529 (by decide) ?_
        exact ih (j + 1) ad2 n2 np2 u H2 locs2 ls (by omega) (by omega) hI2 hZ2 (lv_sub hl [1, 2, 3, 4, 0] rfl)
      refine lv_aload_n hC.1 hC.2.1 dL_law_32 rfl (lv_at hl 0 rfl) ?_
      refine lv_iload hC.1 hC.2.1 dL_law_33 (lv_at hl 4 rfl) ?_
      refine va_sld hC.1 hC.2.1 hX hbl hbA hZ.2.1 hi0 dL_law_35 ?_
      refine lv_bipush (v := 31) hC.1 hC.2.1 dL_law_36 (by decide) ?_
      refine lv_iand hC.1 hC.2.1 dL_law_38 ?_
      refine lv_topi (fun x ex => ?_)
      clear ex
      by_cases hx : x.toInt < 0 ∨ 26 < x.toInt
      · refine lv_tableOut (tgt := 1526) hC.1 hC.2.1 dL_law_39 hx (by decide) ?_
        refine W.widen (k := c0 + 4 * j + 4) (n := s0 + 24 * j + 24) (by omega) (by omega) ?_
        exact kk n np ad μ H locs ls hI hZ hl
      · rcases (show x.toInt = 0 ∨ x.toInt = 1 ∨ x.toInt = 2 ∨ x.toInt = 3 ∨ x.toInt = 4 ∨ x.toInt = 5 ∨ x.toInt = 6 ∨ x.toInt = 7 ∨ x.toInt = 8 ∨ x.toInt = 9 ∨ x.toInt = 10 ∨ x.toInt = 11 ∨ x.toInt = 12 ∨ x.toInt = 13 ∨ x.toInt = 14 ∨ x.toInt = 15 ∨ x.toInt = 16 ∨ x.toInt = 17 ∨ x.toInt = 18 ∨ x.toInt = 19 ∨ x.toInt = 20 ∨ x.toInt = 21 ∨ x.toInt = 22 ∨ x.toInt = 23 ∨ x.toInt = 24 ∨ x.toInt = 25 ∨ x.toInt = 26 by omega) with hx | hx | hx | hx | hx | hx | hx | hx | hx | hx | hx | hx | hx | hx | hx | hx | hx | hx | hx | hx | hx | hx | hx | hx | hx | hx | hx
        · refine lv_tableIn (off := 121) (tgt := 160) hC.1 hC.2.1 dL_law_39 (by rw [hx]; decide) (by rw [hx]; decide) (by rw [hx]; rfl) (by decide) ?_
          exact law_160 hst hC hX hbl (hob.1) hI hZ hl hi1 hi2 hi3 hi4 hc hs kk
        · refine lv_tableIn (off := 189) (tgt := 228) hC.1 hC.2.1 dL_law_39 (by rw [hx]; decide) (by rw [hx]; decide) (by rw [hx]; rfl) (by decide) ?_
          exact law_228 hst hC hX hbl (hob.2.1) hI hZ hl hi1 hi2 hi3 hi4 hc hs kk
        · refine lv_tableIn (off := 269) (tgt := 308) hC.1 hC.2.1 dL_law_39 (by rw [hx]; decide) (by rw [hx]; decide) (by rw [hx]; rfl) (by decide) ?_
          exact law_308 hst hC hX hbl (hob.2.2.1) hI hZ hl hi1 hi2 hi3 hi4 hc hs kk
        · refine lv_tableIn (off := 361) (tgt := 400) hC.1 hC.2.1 dL_law_39 (by rw [hx]; decide) (by rw [hx]; decide) (by rw [hx]; rfl) (by decide) ?_
          exact law_400 hst hC hX hbl (hob.2.2.2.1) hI hZ hl hi1 hi2 hi3 hi4 hc hs kk
        · refine lv_tableIn (off := 417) (tgt := 456) hC.1 hC.2.1 dL_law_39 (by rw [hx]; decide) (by rw [hx]; decide) (by rw [hx]; rfl) (by decide) ?_
          exact law_456 hst hC hX hbl (hob.2.2.2.2.1) hI hZ hl hi1 hi2 hi3 hi4 hc hs kk
        · refine lv_tableIn (off := 485) (tgt := 524) hC.1 hC.2.1 dL_law_39 (by rw [hx]; decide) (by rw [hx]; decide) (by rw [hx]; rfl) (by decide) ?_
          exact law_524 hst hC hX hbl (hob.2.2.2.2.2.1) hI hZ hl hi1 hi2 hi3 hi4 hc hs kk
        · refine lv_tableIn (off := 577) (tgt := 616) hC.1 hC.2.1 dL_law_39 (by rw [hx]; decide) (by rw [hx]; decide) (by rw [hx]; rfl) (by decide) ?_
          exact law_616 hst hC hX hbl (hob.2.2.2.2.2.2.1) hI hZ hl hi1 hi2 hi3 hi4 hc hs kk
        · refine lv_tableIn (off := 633) (tgt := 672) hC.1 hC.2.1 dL_law_39 (by rw [hx]; decide) (by rw [hx]; decide) (by rw [hx]; rfl) (by decide) ?_
          exact law_672 hst hC hX hbl (hob.2.2.2.2.2.2.2.1) hI hZ hl hi1 hi2 hi3 hi4 hc hs kk
        · refine lv_tableIn (off := 736) (tgt := 775) hC.1 hC.2.1 dL_law_39 (by rw [hx]; decide) (by rw [hx]; decide) (by rw [hx]; rfl) (by decide) ?_
          exact law_775 hst hC hX hbl (hob.2.2.2.2.2.2.2.2.1) hI hZ hl hi1 hi2 hi3 hi4 hc hs kk
        · refine lv_tableIn (off := 792) (tgt := 831) hC.1 hC.2.1 dL_law_39 (by rw [hx]; decide) (by rw [hx]; decide) (by rw [hx]; rfl) (by decide) ?_
          exact law_831 hst hC hX hbl (hob.2.2.2.2.2.2.2.2.2.1) hI hZ hl hi1 hi2 hi3 hi4 hc hs kk
        · refine lv_tableIn (off := 805) (tgt := 844) hC.1 hC.2.1 dL_law_39 (by rw [hx]; decide) (by rw [hx]; decide) (by rw [hx]; rfl) (by decide) ?_
          exact law_844 hst hC hX hbl (hob.2.2.2.2.2.2.2.2.2.2.1) hI hZ hl hi1 hi2 hi3 hi4 hc hs kk
        · refine lv_tableIn (off := 873) (tgt := 912) hC.1 hC.2.1 dL_law_39 (by rw [hx]; decide) (by rw [hx]; decide) (by rw [hx]; rfl) (by decide) ?_
          exact law_912 hst hC hX hbl (hob.2.2.2.2.2.2.2.2.2.2.2.1) hI hZ hl hi1 hi2 hi3 hi4 hc hs kk
        · refine lv_tableIn (off := 917) (tgt := 956) hC.1 hC.2.1 dL_law_39 (by rw [hx]; decide) (by rw [hx]; decide) (by rw [hx]; rfl) (by decide) ?_
          exact law_956 hst hC hX hbl (hob.2.2.2.2.2.2.2.2.2.2.2.2.1) hI hZ hl hi1 hi2 hi3 hi4 hc hs kk
        · refine lv_tableIn (off := 930) (tgt := 969) hC.1 hC.2.1 dL_law_39 (by rw [hx]; decide) (by rw [hx]; decide) (by rw [hx]; rfl) (by decide) ?_
          exact law_969 hst hC hX hbl (hob.2.2.2.2.2.2.2.2.2.2.2.2.2.1) hI hZ hl hi1 hi2 hi3 hi4 hc hs kk
        · refine lv_tableIn (off := 943) (tgt := 982) hC.1 hC.2.1 dL_law_39 (by rw [hx]; decide) (by rw [hx]; decide) (by rw [hx]; rfl) (by decide) ?_
          exact law_982 hst hC hX hbl (hob.2.2.2.2.2.2.2.2.2.2.2.2.2.2.1) hI hZ hl hi1 hi2 hi3 hi4 hc hs kk
        · refine lv_tableIn (off := 987) (tgt := 1026) hC.1 hC.2.1 dL_law_39 (by rw [hx]; decide) (by rw [hx]; decide) (by rw [hx]; rfl) (by decide) ?_
          exact law_1026 hst hC hX hbl (hob.2.2.2.2.2.2.2.2.2.2.2.2.2.2.2.1) hI hZ hl hi1 hi2 hi3 hi4 hc hs kk
        · refine lv_tableIn (off := 1000) (tgt := 1039) hC.1 hC.2.1 dL_law_39 (by rw [hx]; decide) (by rw [hx]; decide) (by rw [hx]; rfl) (by decide) ?_
          exact law_1039 hst hC hX hbl (hob.2.2.2.2.2.2.2.2.2.2.2.2.2.2.2.2.1) hI hZ hl hi1 hi2 hi3 hi4 hc hs kk
        · refine lv_tableIn (off := 1013) (tgt := 1052) hC.1 hC.2.1 dL_law_39 (by rw [hx]; decide) (by rw [hx]; decide) (by rw [hx]; rfl) (by decide) ?_
          exact law_1052 hst hC hX hbl (hob.2.2.2.2.2.2.2.2.2.2.2.2.2.2.2.2.2.1) hI hZ hl hi1 hi2 hi3 hi4 hc hs kk
        · refine lv_tableIn (off := 1026) (tgt := 1065) hC.1 hC.2.1 dL_law_39 (by rw [hx]; decide) (by rw [hx]; decide) (by rw [hx]; rfl) (by decide) ?_
          exact law_1065 hst hC hX hbl (hob.2.2.2.2.2.2.2.2.2.2.2.2.2.2.2.2.2.2.1) hI hZ hl hi1 hi2 hi3 hi4 hc hs kk
        · refine lv_tableIn (off := 1039) (tgt := 1078) hC.1 hC.2.1 dL_law_39 (by rw [hx]; decide) (by rw [hx]; decide) (by rw [hx]; rfl) (by decide) ?_
          exact law_1078 hst hC hX hbl (hob.2.2.2.2.2.2.2.2.2.2.2.2.2.2.2.2.2.2.2.1) hI hZ hl hi1 hi2 hi3 hi4 hc hs kk
        · refine lv_tableIn (off := 1095) (tgt := 1134) hC.1 hC.2.1 dL_law_39 (by rw [hx]; decide) (by rw [hx]; decide) (by rw [hx]; rfl) (by decide) ?_
          exact law_1134 hst hC hX hbl (hob.2.2.2.2.2.2.2.2.2.2.2.2.2.2.2.2.2.2.2.2.1) hI hZ hl hi1 hi2 hi3 hi4 hc hs kk
        · refine lv_tableIn (off := 1151) (tgt := 1190) hC.1 hC.2.1 dL_law_39 (by rw [hx]; decide) (by rw [hx]; decide) (by rw [hx]; rfl) (by decide) ?_
          exact law_1190 hst hC hX hbl (hob.2.2.2.2.2.2.2.2.2.2.2.2.2.2.2.2.2.2.2.2.2.1) hI hZ hl hi1 hi2 hi3 hi4 hc hs kk
        · refine lv_tableIn (off := 1207) (tgt := 1246) hC.1 hC.2.1 dL_law_39 (by rw [hx]; decide) (by rw [hx]; decide) (by rw [hx]; rfl) (by decide) ?_
          exact law_1246 hst hC hX hbl (hob.2.2.2.2.2.2.2.2.2.2.2.2.2.2.2.2.2.2.2.2.2.2.1) hI hZ hl hi1 hi2 hi3 hi4 hc hs kk
        · refine lv_tableIn (off := 1220) (tgt := 1259) hC.1 hC.2.1 dL_law_39 (by rw [hx]; decide) (by rw [hx]; decide) (by rw [hx]; rfl) (by decide) ?_
          exact law_1259 hst hC hX hbl (hob.2.2.2.2.2.2.2.2.2.2.2.2.2.2.2.2.2.2.2.2.2.2.2.1) hI hZ hl hi1 hi2 hi3 hi4 hc hs kk
        · refine lv_tableIn (off := 1295) (tgt := 1334) hC.1 hC.2.1 dL_law_39 (by rw [hx]; decide) (by rw [hx]; decide) (by rw [hx]; rfl) (by decide) ?_
          exact law_1334 hst hC hX hbl (hob.2.2.2.2.2.2.2.2.2.2.2.2.2.2.2.2.2.2.2.2.2.2.2.2.1) hI hZ hl hi1 hi2 hi3 hi4 hc hs kk
        · refine lv_tableIn (off := 1363) (tgt := 1402) hC.1 hC.2.1 dL_law_39 (by rw [hx]; decide) (by rw [hx]; decide) (by rw [hx]; rfl) (by decide) ?_
          exact law_1402 hst hC hX hbl (hob.2.2.2.2.2.2.2.2.2.2.2.2.2.2.2.2.2.2.2.2.2.2.2.2.2.1) hI hZ hl hi1 hi2 hi3 hi4 hc hs kk
        · refine lv_tableIn (off := 1431) (tgt := 1470) hC.1 hC.2.1 dL_law_39 (by rw [hx]; decide) (by rw [hx]; decide) (by rw [hx]; rfl) (by decide) ?_
          exact law_1470 hst hC hX hbl (hob.2.2.2.2.2.2.2.2.2.2.2.2.2.2.2.2.2.2.2.2.2.2.2.2.2.2) hI hZ hl hi1 hi2 hi3 hi4 hc hs kk
