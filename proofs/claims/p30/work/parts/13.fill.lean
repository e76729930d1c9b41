/-! Arrays.fill(int[], int) on one array -/
def zfill (N : Nat) (v : Int32) (f : Nat → Int32) : Nat → Int32 := fun k => if k < N then v else f k
theorem zfill_0 (v : Int32) (f : Nat → Int32) : zfill 0 v f = f := by funext k; simp [zfill]
theorem zfill_s (i : Nat) (v : Int32) (f : Nat → Int32) : upd (zfill i v f) i v = zfill (i + 1) v f := by
  funext k
  unfold upd zfill
  by_cases h : k = i
  · subst h
    simp
  · by_cases h2 : k < i
    · simp [h, h2, Nat.lt_succ_of_lt h2]
    · have h3 : ¬ k < i + 1 := by omega
      simp [h, h2, h3]
set_option maxRecDepth 100000 in
set_option maxHeartbeats 4000000 in
theorem t_fill {p : Program} {l : Launch} {e : Env} {s : State} {m : MethodId} {args : Array Value} {below : List Frame} {meth : Method} {c : Code} {D : va_G} {ca : Nat → ClassId} {b N : Nat} {v : Int32} {f : Nat → Int32} (hN : N < 2 ^ 31) (hC : ZC p m meth c s RJ7 cJ7_fill_53178 4) (hr : meth.sig.returnType = none) (hK : va_K D vwCl (zT ca) s) :
    ∀ (j i : Nat) (H : Heap) (locs : List Loc) (ls : Array Slot), i + j = N → va_P D vwCl [(b, .inl (ca 0, N, .inl (zfill i v f)))] H → va_D (fun q => q = b ∨ s.heap.size ≤ q) [(b, .inl (ca 0, N, .inl (zfill i v f)))] → va_S (fun q => q = b ∨ s.heap.size ≤ q) s.heap H locs → lv_has ls 4 [(0, .ref b), (1, .int v), (2, .int (nI i)), (3, .int (nI N))] →
      W p l e ({ frames := 0, cells := 0, slots := 0, locals := 0 } : Room) s m args below meth c H locs 0 0 (MQ below (KQ (fun H => va_at D vwCl (b, .inl (ca 0, N, .inl (zfill N v f))) H) b s.heap.size) args s 0 0 (fun q => q = b ∨ s.heap.size ≤ q)) (F0 m 5 ls []) := by
  intro j
  induction j with
  | zero =>
    intro i H locs ls hij hP hD hS hl
    have hiN : i = N := by omega
    subst hiN
    refine lv_iload_n hC.1 hC.2.1 dJ7_fill_53178_5 rfl (lv_at hl 2 rfl) ?_
    refine lv_iload_n hC.1 hC.2.1 dJ7_fill_53178_6 rfl (lv_at hl 3 rfl) ?_
    refine lv_icmp_ge (tgt := 20) hC.1 hC.2.1 dJ7_fill_53178_7 (by decide) (fun _ => ?_) (fun h => absurd (nI_le (Nat.le_refl i) hN) h)
    have hlk := hC.2.2.2.2
    exact W.vret hC.1 hC.2.1 hr (fun t ht _ => ⟨rfl, by rw [ht]; exact hP 0 _ rfl, hS.F ht⟩) hS.2.2 dJ7_fill_53178_20
  | succ j ih =>
    intro i H locs ls hij hP hD hS hl
    refine lv_iload_n hC.1 hC.2.1 dJ7_fill_53178_5 rfl (lv_at hl 2 rfl) ?_
    refine lv_iload_n hC.1 hC.2.1 dJ7_fill_53178_6 rfl (lv_at hl 3 rfl) ?_
    refine lv_icmp_ge (tgt := 20) hC.1 hC.2.1 dJ7_fill_53178_7 (by decide) (fun h => absurd h (nI_ge (by omega) hN)) (fun _ => ?_)
    refine lv_aload_n hC.1 hC.2.1 dJ7_fill_53178_10 rfl (lv_at hl 0 rfl) ?_
    refine lv_iload_n hC.1 hC.2.1 dJ7_fill_53178_11 rfl (lv_at hl 2 rfl) ?_
    refine lv_iload_n hC.1 hC.2.1 dJ7_fill_53178_12 rfl (lv_at hl 1 rfl) ?_
    refine va_iast hC.1 hC.2.1 hK hP hD hS 0 0 rfl rfl (vp_in_nI (by omega) hN) dJ7_fill_53178_13 (fun H locs hP hD hS => ?_)
    rw [nI_clamp (by omega : i < 2 ^ 31), zfill_s] at hP hD
    refine lv_iinc (v := nI (i + 1)) (lv' := [(2, .int (nI (i + 1))), (0, .ref b), (1, .int v), (3, .int (nI N))]) hC.1 hC.2.1 dJ7_fill_53178_14 hl (k := 2) rfl (nI_1 i) (by decide) rfl (fun ls hl => ?_)
    refine lv_goto (tgt := 5) hC.1 hC.2.1 dJ7_fill_53178_17 (by decide) ?_
    exact ih (i + 1) _ _ _ (by omega) hP hD hS (lv_sub hl [1, 2, 0, 3] rfl)
set_option maxRecDepth 100000 in
set_option maxHeartbeats 4000000 in
theorem c_J7_fill (l : Launch) {D : va_G} {ca : Nat → ClassId} {b sz N : Nat} {v : Int32} {f : Nat → Int32} (hN : N < 2 ^ 31) : KMet l yJ7_fill_53178 cJ7_fill_53178 4 ({ frames := 0, cells := 0, slots := 0, locals := 0 } : Room) 0 0 D ca b sz (.inl (ca 0, N, .inl f)) [.ref b, .int v] (fun H => va_at D vwCl (b, .inl (ca 0, N, .inl (zfill N v f))) H) := by
  unfold KMet
  refine Met.ofW (cc := cJ7_fill_53178) (maxL := 4) (ret := none) (by decide) rfl ?_
  intro p e s m args below meth c s₁ B hml hv
  obtain ⟨rfl, hsz, hat, hb, hKU⟩ := hv
  subst hsz
  have hC : ZC p m meth c s RJ7 cJ7_fill_53178 4 := ⟨B.exec, B.bytes, hml, findClass_of_methodNamed B.named, B.notSynchronized⟩
  have hr := B.returns
  have hP : va_P D vwCl [(b, .inl (ca 0, N, .inl f))] s.heap := va_P1 hat
  have hD : va_D (fun q => q = b ∨ s.heap.size ≤ q) [(b, .inl (ca 0, N, .inl f))] := ⟨fun i j p q h1 h2 _ => by
      match i, j, h1, h2 with
      | 0, 0, _, _ => rfl
      | i + 1, _, h1, _ => simp at h1
      | _, j + 1, _, h2 => simp at h2, fun k q hk => by
      match k, hk with
      | 0, hk => cases hk; exact Or.inl rfl
      | k + 1, hk => simp at hk⟩
  have hl := lv_entry ([.ref b, .int v]) (n := 4) (Nat.le_of_ble_eq_true rfl)
  rw [lg_entry_eq]
  generalize (lg_sl ([.ref b, .int v]) ++ List.replicate (4 - (lg_sl ([.ref b, .int v])).length) Slot.unset).toArray = ls at hl ⊢
  have hl : lv_has ls 4 [(0, .ref b), (1, .int v)] := hl
  refine lv_iconst (v := 0) hC.1 hC.2.1 dJ7_fill_53178_0 (by decide) ?_
  refine lv_istore_n (lv' := [(2, .int 0), (0, .ref b), (1, .int v)]) hC.1 hC.2.1 dJ7_fill_53178_1 rfl hl (by decide) rfl (fun ls hl => ?_)
  refine lv_aload_n hC.1 hC.2.1 dJ7_fill_53178_2 rfl (lv_at hl 1 rfl) ?_
  refine va_alen hC.1 hC.2.1 hKU.1 hP 0 0 rfl rfl (v := nI N) rfl dJ7_fill_53178_3 ?_
  refine lv_istore_n (lv' := [(3, .int (nI N)), (2, .int 0), (0, .ref b), (1, .int v)]) hC.1 hC.2.1 dJ7_fill_53178_4 rfl hl (by decide) rfl (fun ls hl => ?_)
  exact t_fill (f := f) hN hC hr hKU.1 N 0 _ _ _ (by omega) (by rw [zfill_0]; exact hP) (by rw [zfill_0]; exact hD) va_S.rf (lv_sub hl [2, 3, 1, 0] rfl)
