/-! others: the copies; and which move is made -/
section OTHR2
variable {n np t : Nat} {E μ : Mem}
theorem LI_16 (hl : LI n np t E) {F : Mem} (fo : ∀ f, f ≠ 16 → F f = E f) : LI n np t F := LI_mv hl (by rw [fo 0 (by omega)]) (by rw [fo 3 (by omega)]) (fun _ _ _ => by rw [fo 4 (by omega)]) (by rw [fo 6 (by omega)]) (by rw [fo 7 (by omega)]) (by rw [fo 13 (by omega)]) (fun _ _ => by rw [fo 22 (by omega)]) (by rw [fo 23 (by omega)]) (by rw [fo 24 (by omega)])
theorem csm4 (r : Nat → Int32) : csm r 4 = ((r 0 + r 1) + r 2) + r 3 := by
  show ((((0 : Int32) + r 0) + r 1) + r 2) + r 3 = _
  rw [Int32.zero_add]
theorem x_buy {P : Int32 → Mem → Prop} (h : Jv n np t E μ) {a1 : Int32} (q : ¬ ∃ k, k < 5 ∧ a1 = nI k) (hp : P (-1000001) μ) : w_L_buy n np P a1 μ := s_buy h (fun p _ hp5 e => absurd ⟨p, hp5, e⟩ q) (fun p _ hp5 e => absurd ⟨p, hp5, e⟩ q) (fun _ => hp)
theorem L_others_527 {post : Int32 → Nat → Nat → Mem → Prop} {v8 g3 : Int32} (h : Jv n np t E μ) (hl : LI n np t E) (e3 : E 22 0 3 = g3) (e0 : E 0 0 1 = g3) (r : Int32) (er : r = v8) (hp : ∀ E' v, Jv n np t E' v → LI n np t E' → post 1 n np v) : ((¬ r = v8 → post 0 n np μ) ∧ (r = v8 → (w_X4_spent n np (fun (r62 : Int32) (μ61 : Mem) => (∃ μ61g : Mem, gs μ61 μ61g ∧ ((¬ r62 = (μ61g 22 0 3) → post 0 n np μ61g) ∧ (r62 = (μ61g 22 0 3) → (w_L_buy n np (fun (r65 : Int32) (μ64 : Mem) => ((¬ r65 = (-1000001) → post 0 n np μ64) ∧ (r65 = (-1000001) → post 1 n np μ64))) (5 : Int32) μ61g))))) μ))) := by
  have x5 : ¬ ∃ k, k < 5 ∧ (5 : Int32) = nI k := no_lit (K := 5) rfl (Nat.le_refl _) (by omega)
  refine ⟨fun c => absurd er c, fun _ => s_spent h ⟨fun c => absurd ?_ c, fun _ => x_buy h x5 ⟨fun c => absurd rfl c, fun _ => hp E μ h hl⟩⟩⟩
  rw [h.r22, e3, e0]
theorem L_others_511 {post : Int32 → Nat → Nat → Mem → Prop} {a4 a5 due : Int32} (h : Jv n np t E μ) (hl : LI n np t E) {p S : Nat} (hp5 : p < 5) (hS : csm (fun s => E 16 0 (4 * p + s)) 4 = nI S) (hS1 : S < 1000) (hs : (S < 20 ∧ due = nI S + 1) ∨ (¬ S < 20 ∧ due = -1000003)) (hp : ∀ E' v, Jv n np t E' v → LI n np t E' → post 1 n np v) : b_L_others_511 n np post a4 a5 (nI p) due μ := by
  have in3 : vp_in (3 : Int32) 5 := vin (k := 3) (by omega) (by omega)
  obtain ⟨a0, a1, a2, a3, -⟩ := id hl
  unfold b_L_others_511
  rcases hs with ⟨hlt, e⟩ | ⟨hno, e⟩
  · refine ⟨fun _ => ?_, fun c => absurd (by rw [e, nI_s1]; exact nI_le (a := 0) (Nat.zero_le _) (by omega)) c⟩
    unfold b_L_others_527
    simp only [tc3]
    refine ⟨in3, fun w ew => ?_⟩
    rw [h.r22, a3] at ew
    have hw : Jv n np t (zst E 22 0 3 (E 0 0 1 + 5)) w := by rw [ew]; exact h.row ⟨by omega, by omega⟩ _
    have zo : ∀ f, f ≠ 22 → zst E 22 0 3 (E 0 0 1 + 5) f = E f := fun f hf => zst_o hf
    have z22 : ∀ k, zst E 22 0 3 (E 0 0 1 + 5) 22 0 k = if k = 3 then E 0 0 1 + 5 else E 22 0 k := fun k => by
      rw [zst_ap]
      by_cases c : k = 3 <;> simp [c]
    refine s_buy hw (fun p2 S2 hp2 e2 hS2 hS20 F v hF fo f0 => ?_) (fun p2 S2 hp2 e2 hS2 hS21 q => ?_) (fun q => absurd ⟨p, hp5, rfl⟩ q)
    · have ep := (nI_eq (by omega) (by omega)).mp e2
      subst ep
      rw [zo 16 (by omega)] at hS2
      have eS : S = S2 := (nI_eq (by omega) (by omega)).mp (hS.symm.trans hS2)
      have eF : F 0 0 1 = E 0 0 1 + 5 := by rw [f0, if_pos rfl, zo 0 (by omega)]
      have e22 : ∀ k, F 22 0 k = if k = 3 then E 0 0 1 + 5 else E 22 0 k := fun k => by rw [fo 22 (by omega) (by omega), z22]
      have hlF : LI n np t F := by
        have fo' : ∀ f, f ≠ 0 → f ≠ 16 → f ≠ 22 → F f = E f := fun f h0 h1 h2 => (fo f h0 h1).trans (zo f h2)
        refine LI_np hl (by rw [e22, if_neg (by omega)]; exact a0) (by rw [e22, if_neg (by omega)]; exact a1) (by rw [e22, if_neg (by omega)]; exact a2) (by rw [e22, if_pos rfl, eF]) (by rw [fo' 23 (by omega) (by omega) (by omega)]) (fun k hk => ?_) (by rw [fo' 3 (by omega) (by omega) (by omega)]) (by rw [fo' 4 (by omega) (by omega) (by omega)]) (by rw [fo' 6 (by omega) (by omega) (by omega)]) (by rw [fo' 7 (by omega) (by omega) (by omega)])
        rw [fo' 24 (by omega) (by omega) (by omega), fo' 13 (by omega) (by omega) (by omega)]
        obtain ⟨-, -, -, -, -, av, -, -⟩ := id hl
        exact av k hk
      exact L_others_527 hF hlF (g3 := E 0 0 1 + 5) (by rw [e22, if_pos rfl]) eF _ (by rw [e, eS]) hp
    · have ep := (nI_eq (by omega) (by omega)).mp e2
      subst ep
      rw [zo 16 (by omega)] at hS2
      have eS : S = S2 := (nI_eq (by omega) (by omega)).mp (hS.symm.trans hS2)
      omega
  · refine ⟨fun c => absurd c (by rw [e]; decide), fun _ => ?_⟩
    unfold b_L_others_527
    simp only [tc3]
    refine ⟨in3, fun w ew => ?_⟩
    rw [Int32.add_zero, h.r22] at ew
    have hw : Jv n np t E w := by
      have := h.row (f := 22) (k := 3) ⟨by omega, by omega⟩ (E 22 0 3)
      rw [zst_self E 22 0 3, ← ew] at this
      exact this
    refine s_buy hw (fun p2 S2 hp2 e2 hS2 hS20 F v hF fo f0 => ?_) (fun p2 S2 hp2 e2 hS2 hS21 q => ?_) (fun q => absurd ⟨p, hp5, rfl⟩ q)
    · have ep := (nI_eq (by omega) (by omega)).mp e2
      subst ep
      have eS : S = S2 := (nI_eq (by omega) (by omega)).mp (hS.symm.trans hS2)
      omega
    · exact L_others_527 hw hl (g3 := E 22 0 3) rfl a3.symm _ (by rw [e]) hp
theorem L_others_672 {post : Int32 → Nat → Nat → Mem → Prop} {a4 a5 s0 s1 : Int32} (h : Jv n np t E μ) (hs : s0 = s1) (hp : post 1 n np μ) : b_L_others_672 n np post a4 a5 s0 s1 μ := by
  have x5 : ¬ ∃ k, k < 5 ∧ (5 : Int32) = nI k := no_lit (K := 5) rfl (Nat.le_refl _) (by omega)
  have x3 : ¬ ∃ k, k < 3 ∧ (3 : Int32) = nI k := no_lit (K := 3) rfl (Nat.le_refl _) (by omega)
  unfold b_L_others_672
  refine ⟨fun c => absurd hs c, fun _ => s_mishap h (fun _ s _ hs3 _ e => absurd ⟨s, hs3, e⟩ x3) (fun _ s _ hs3 _ e => absurd ⟨s, hs3, e⟩ x3) (fun _ _ => ⟨fun c => absurd rfl c, fun _ => ?_⟩) (fun q => absurd ⟨0, by omega, rfl⟩ q)⟩
  exact s_mishap h (fun p _ hp5 _ e _ => absurd ⟨p, hp5, e⟩ x5) (fun p _ hp5 _ e _ => absurd ⟨p, hp5, e⟩ x5) (fun q => absurd q x5) (fun _ => ⟨fun c => absurd rfl c, fun _ => hp⟩)
theorem L_others_mishap {post : Int32 → Nat → Nat → Mem → Prop} {a4 a5 : Int32} (h : Jv n np t E μ) (hl : LI n np t E) {p s : Nat} (hp5 : p < 5) (hs3 : s < 3) (hp : ∀ E' v, Jv n np t E' v → LI n np t E' → post 1 n np v) : w_L_mishap n np (fun (r37 : Int32) (μ36 : Mem) => ((E 16 0 (4 * p + s) ≤ 0 → b_L_others_624 n np post a4 a5 (nI p) (nI s) (E 16 0 (4 * p + s)) (E 16 0 (4 * p + 3)) r37 (-1000003 : Int32) μ36) ∧ (¬ E 16 0 (4 * p + s) ≤ 0 → b_L_others_624 n np post a4 a5 (nI p) (nI s) (E 16 0 (4 * p + s)) (E 16 0 (4 * p + 3)) r37 (E 16 0 (4 * p + 3) + 1) μ36))) (nI p) (nI s) μ := by
  obtain ⟨X, hX, hS⟩ := h.sk p hp5
  have hXs : E 16 0 (4 * p + s) = nI (X s) := hX s (by omega)
  refine s_mishap h (fun p2 s2 hp2 hs2 ep es hpos F v hF fo f16 => ?_) (fun p2 s2 hp2 hs2 ep es hno => ?_) (fun _ q => absurd ⟨s, hs3, rfl⟩ q) (fun q => absurd ⟨p, hp5, rfl⟩ q)
  · have ep' := (nI_eq (by omega) (by omega)).mp ep
    subst ep'
    have es' := (nI_eq (by omega) (by omega)).mp es
    subst es'
    have hle : ¬ E 16 0 (4 * p + s) ≤ 0 := Int32.not_le.mpr hpos
    refine ⟨fun c => absurd c hle, fun _ => ?_⟩
    unfold b_L_others_624
    refine ⟨fun c => absurd rfl c, fun _ => a_copies hF hp5 (s := s) (by omega) rfl rfl ⟨fun c => absurd c hle, fun _ => ?_⟩⟩
    unfold b_L_others_648
    refine ⟨fun c => absurd ?_ c, fun _ => a_copies hF hp5 (s := 3) (by omega) rfl rfl ⟨fun c => absurd c hle, fun _ => L_others_672 hF ?_ (hp F v hF (LI_16 hl fo))⟩⟩
    · rw [f16, if_neg (by omega), if_pos rfl]
    · rw [f16, if_pos rfl]
  · have ep' := (nI_eq (by omega) (by omega)).mp ep
    subst ep'
    have es' := (nI_eq (by omega) (by omega)).mp es
    subst es'
    have hle : E 16 0 (4 * p + s) ≤ 0 := Int32.not_lt.mp hno
    have hz : E 16 0 (4 * p + s) = 0 := by
      rw [hXs] at hle ⊢
      have ht := h.t30
      have hb : X s ≤ 100 := by rcases (show s = 0 ∨ s = 1 ∨ s = 2 by omega) with rfl | rfl | rfl <;> omega
      exact Int32.le_antisymm hle (nI_le (a := 0) (Nat.zero_le _) (by omega))
    refine ⟨fun _ => ?_, fun c => absurd hle c⟩
    unfold b_L_others_624
    refine ⟨fun c => absurd rfl c, fun _ => a_copies h hp5 (s := s) (by omega) rfl rfl ⟨fun _ => ?_, fun c => absurd hle c⟩⟩
    unfold b_L_others_648
    exact ⟨fun c => absurd hz c, fun _ => a_copies h hp5 (s := 3) (by omega) rfl rfl ⟨fun _ => L_others_672 h rfl (hp E μ h hl), fun c => absurd hle c⟩⟩
theorem L_others_709 {post : Int32 → Nat → Nat → Mem → Prop} {a4 a5 : Int32} (h : Jv n np t E μ) (hl : LI n np t E) {p : Nat} (hp5 : p < 5) (hp : ∀ E' v, Jv n np t E' v → LI n np t E' → post 1 n np v) : ∃ fuel : Nat, fuel ≤ 6 ∧ l_L_others_709 n np post a4 a5 fuel (nI p) (0 : Int32) (0 : Int32) μ := by
  have loop : ∀ m j : Nat, j + m = 5 → l_L_others_709 n np post a4 a5 (m + 1) (nI p) (csm (fun q => E 16 0 (4 * q + 3)) j) (nI j) μ := by
    intro m
    induction m with
    | zero =>
      intro j hj
      have e : j = 5 := by omega
      subst e
      show lb_L_others_709 n np post _ _ _ _ _ _ _
      unfold lb_L_others_709
      refine ⟨fun _ => s_clear h (fun F v hF fo f16 => ⟨fun c => absurd rfl c, fun _ => s_clear hF (fun G w hG go g16 => ⟨fun c => absurd ?_ c, fun _ => a_copies hG hp5 (s := 3) (by omega) rfl rfl ⟨fun c => absurd ?_ c, fun _ => hp G w hG (LI_16 (LI_16 hl fo) go)⟩⟩)⟩), fun c => absurd ((le5 (k := 5) (by omega)).mpr (Nat.le_refl _)) c⟩
      · rw [csm_congr (r' := fun _ => 0) 5 (fun q hq => by rw [f16 q 3 hq (by omega), if_pos rfl])]
        rfl
      · rw [g16 p 3 hp5 (by omega), if_pos rfl]
    | succ m ih =>
      intro j hj
      show lb_L_others_709 n np post (l_L_others_709 n np post a4 a5 (m + 1)) _ _ _ _ _ _
      unfold lb_L_others_709
      refine ⟨fun c => absurd ((le5 (k := j) (by omega)).mp c) (by omega), fun _ => a_copies h (p := j) (by omega) (s := 3) (by omega) rfl rfl ?_⟩
      have i2 := ih (j + 1) (by omega)
      rw [← nI_s1] at i2
      exact i2
  exact ⟨6, Nat.le_refl _, loop 5 0 rfl⟩
theorem L_others {post : Int32 → Nat → Nat → Mem → Prop} (h : Jv n np t E μ) (hl : LI n np t E) (hp : ∀ np' E' v, Jv n np' t E' v → LI n np' t E' → post 1 n np' v) {a4 a5 : Int32} : w_L_others n np post a4 a5 μ := by
  have hnp := h.np20
  obtain ⟨a0, a1, a2, a3, -⟩ := id hl
  have hpp : ∀ E' v, Jv n np t E' v → LI n np t E' → post 1 n np v := hp np
  unfold w_L_others
  simp only [tc1]
  refine s_low (m := 8) rfl (by omega) (by omega) (fun q hq => ⟨fun c => ⟨fun c2 => ⟨fun c3 => ?_, fun c3 => ?_⟩, fun c2 => ⟨fun c3 => ?_, fun c3 => ?_⟩⟩, fun c => ?_⟩)
  · refine s_low (m := 5) rfl (by omega) (by omega) (fun p hp5 => a_copies h hp5 (s := 0) (by omega) rfl rfl (a_copies h hp5 (s := 1) (by omega) rfl rfl (a_copies h hp5 (s := 2) (by omega) rfl rfl (a_copies h hp5 (s := 3) (by omega) rfl rfl ⟨fun c6 => ⟨fun c7 => L_others_709 h hl hp5 hpp, fun c7 => s_low (m := 3) rfl (by omega) (by omega) (fun s hs3 => a_copies h hp5 (s := s) (by omega) rfl rfl (a_copies h hp5 (s := 3) (by omega) rfl rfl (L_others_mishap h hl hp5 hs3 hpp)))⟩, fun c6 => ?_⟩))))
    obtain ⟨X, hX, hS⟩ := h.sk p hp5
    have hc : csm (fun s => E 16 0 (4 * p + s)) 4 = nI (X 0 + X 1 + X 2 + X 3) := csm_X hX
    generalize hSS : X 0 + X 1 + X 2 + X 3 = S at hc hS
    have ht := h.t30
    have e : ((E 16 0 (4 * p + 0) + E 16 0 (4 * p + 1)) + E 16 0 (4 * p + 2)) + E 16 0 (4 * p + 3) = nI S := (csm4 (fun s => E 16 0 (4 * p + s))).symm.trans hc
    rw [e]
    refine ⟨fun c7 => L_others_511 h hl hp5 hc (by omega) (Or.inr ⟨fun w => ?_, rfl⟩) hpp, fun c7 => L_others_511 h hl hp5 hc (by omega) (Or.inl ⟨?_, rfl⟩) hpp⟩
    · exact absurd ((lt_lit 20 rfl (by omega) rfl (by omega)).mpr w) (Int32.not_lt.mpr c7)
    · exact (lt_lit 20 rfl (by omega) rfl (by omega)).mp (Int32.not_le.mp c7)
  · exact s_low (m := 5) rfl (by omega) (by omega) (fun k hk => s_low (m := 30) rfl (by omega) (by omega) (fun d hd => s_low (m := 2) rfl (by omega) (by omega) (fun b hb => ⟨fun _ => L_others_375 h hl hk hd (Or.inl rfl) hpp, fun _ => L_others_375 h hl hk hd (Or.inr rfl) hpp⟩)))
  · rw [h.r22, a1] at c3 ⊢
    have h0 : 0 < np := Nat.pos_of_ne_zero (fun e => c3 (by rw [e]; rfl))
    exact s_low rfl h0 (by omega) (fun k hk => s_refused h (L_others_revoke h hl hk hpp))
  · rw [h.r22, a1] at c3
    have h0 : np = 0 := (nI_eq (a := np) (b := 0) (by omega) (by omega)).mp c3
    exact x_revoke h (fun ⟨k, hk, _⟩ => by omega) ⟨fun c => absurd rfl c, fun _ => hpp E μ h hl⟩
  · refine s_low (m := 30) rfl (by omega) (by omega) (fun f hf => s_low (m := 30 - f) (nI_sub (a := 30) (by omega)) (by omega) (by omega) (fun g hg => ⟨fun c3 => ?_, fun c3 => ?_⟩))
    · rw [h.r22, a1] at c3
      rw [nI_add]
      exact L_others_56 h hl (Nat.le_add_right f g) (by omega) (Or.inr ⟨fun w => absurd ((lt_lit 20 rfl (by omega) rfl (by omega)).mpr w) (Int32.not_lt.mpr c3), rfl⟩) hp
    · rw [h.r22, a1] at c3 ⊢
      rw [nI_add]
      exact L_others_56 h hl (Nat.le_add_right f g) (by omega) (Or.inl ⟨(lt_lit 20 rfl (by omega) rfl (by omega)).mp (Int32.not_le.mp c3), rfl⟩) hp
theorem L_acts {post : Int32 → Nat → Nat → Mem → Prop} (h : Jv n np t E μ) (hl : LI n np t E) (hp : ∀ n' np' t' E' v, Jv n' np' t' E' v → LI n' np' t' E' → post 1 n' np' v) {a5 a6 : Int32} : w_L_acts n np post a5 a6 μ := by
  have k23 : b_L_acts_23 n np post a5 a6 μ := by
    unfold b_L_acts_23
    refine L_scenes h hl (fun n' E' v hJ hL => ?_)
    show ((1 : Int32) = 0 ∨ (1 : Int32) = 1) ∧ post 1 n' np v
    exact ⟨Or.inr rfl, hp n' np t E' v hJ hL⟩
  have k89 : ∀ v6, b_L_acts_89 n np post a5 a6 v6 μ := by
    intro v6
    unfold b_L_acts_89
    refine ⟨fun _ => L_others h hl (fun np' E' v hJ hL => ?_), fun _ => L_ends h hl (fun t' E' v hJ hL => ?_)⟩
    · show ((1 : Int32) = 0 ∨ (1 : Int32) = 1) ∧ post 1 n np' v
      exact ⟨Or.inr rfl, hp n np' t E' v hJ hL⟩
    · show ((1 : Int32) = 0 ∨ (1 : Int32) = 1) ∧ post 1 n np v
      exact ⟨Or.inr rfl, hp n np t' E' v hJ hL⟩
  unfold w_L_acts
  simp only [tc4]
  refine s_low (m := 24) rfl (by omega) (by omega) (fun q hq => ⟨fun _ => k23, fun _ => ⟨fun _ => ⟨fun _ => ⟨fun _ => k89 _, fun _ => ⟨fun _ => k89 _, fun _ w ew => ?_⟩⟩, fun _ => L_swaps h hl (fun E' v hJ hL => ⟨Or.inr rfl, hp n np t E' v hJ hL⟩)⟩, fun _ => k23⟩⟩)
  have hw : Jv n np t (zst E 22 0 4 (μ 22 0 4 + 1)) w := by rw [ew]; exact h.row ⟨by omega, by omega⟩ _
  have hlw : LI n np t (zst E 22 0 4 (μ 22 0 4 + 1)) := by
    have zo : ∀ f, f ≠ 22 → zst E 22 0 4 (μ 22 0 4 + 1) f = E f := fun f hf => zst_o hf
    refine LI_mv hl (by rw [zo 0 (by omega)]) (by rw [zo 3 (by omega)]) (fun _ _ _ => by rw [zo 4 (by omega)]) (by rw [zo 6 (by omega)]) (by rw [zo 7 (by omega)]) (by rw [zo 13 (by omega)]) (fun k hk => ?_) (by rw [zo 23 (by omega)]) (by rw [zo 24 (by omega)])
    rw [zst_ap, if_neg (by omega)]
  exact L_betters hw hlw (fun E' v hJ hL => ⟨Or.inr rfl, hp n np t E' v hJ hL⟩)
end OTHR2
