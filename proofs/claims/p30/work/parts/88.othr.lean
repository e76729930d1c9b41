/-! others -/
theorem sumN_le2 {f g : Nat → Nat} : ∀ m : Nat, (∀ i, i < m → f i ≤ g i) → sumN f m ≤ sumN g m := by
  intro m
  induction m with
  | zero => intro _; exact Nat.le_refl 0
  | succ m ih =>
    intro h
    have h1 := ih (fun i hi => h i (by omega))
    have h2 := h m (by omega)
    show sumN f m + f m ≤ sumN g m + g m
    omega
theorem rD_le {E F : Mem} {np np' : Nat} {P : Nat → Int32} {d : Nat} (h : ∀ a, al E np a d → al F np' a d) : rD F np' P d ≤ rD E np P d := by
  unfold rD
  by_cases c : fre F np' (P d) d
  · rw [ind_0 (fun q => q c)]
    exact Nat.zero_le _
  · rw [ind_1 c, ind_1 (fun q => c (q.imp id (h _)))]
    exact Nat.le_refl _
section OTHR
variable {n np t : Nat} {E μ : Mem}
theorem LI_np {np' : Nat} {F : Mem} (hl : LI n np t E) (h0 : F 22 0 0 = nI n) (h1 : F 22 0 1 = nI np') (h2 : F 22 0 2 = nI t) (h3 : F 22 0 3 = F 0 0 1) (h23 : F 23 0 = E 23 0) (hv : ∀ k, k < 20 → (F 24 0 k = 0 ↔ F 13 0 k = 0)) (e3 : F 3 0 = E 3 0) (e4 : F 4 0 = E 4 0) (e6 : F 6 0 = E 6 0) (e7 : F 7 0 = E 7 0) : LI n np' t F := by
  obtain ⟨a0, a1, a2, a3, a4, a5, a6, a7⟩ := hl
  refine ⟨h0, h1, h2, h3, fun a p ha hp => ?_, hv, ?_, ?_⟩
  · rw [h23]
    unfold uvl
    rw [e6, e7]
    exact a4 a p ha hp
  · unfold fwd
    rw [e3, e6, e7]
    exact a6
  · rw [e3, e4]
    exact a7
theorem n_permit {P : Int32 → Nat → Nat → Mem → Prop} (h : Jv n np t E μ) {a1 a2 a3 a4 : Int32} (hb : ¬ pmArg a1 a2 a3 a4) (hp : P (-1000002) n np μ) : w_L_permit n np P a1 a2 a3 a4 μ := s_permit h (fun q => absurd q hb) (fun q => absurd q hb) (fun _ => hp)
theorem L_others_109 {post : Int32 → Nat → Nat → Mem → Prop} {a4 a5 v8 v9 s0 : Int32} (h : Jv n np t E μ) (hs : s0 = v8) (h9 : ¬ v9 < nI (sumN (rD E np (E 8 0)) 30)) (hp : post 1 n np μ) : b_L_others_109 n np post a4 a5 v8 v9 s0 μ := by
  unfold b_L_others_109
  refine ⟨fun c => absurd hs c, fun _ => s_refused h ⟨fun c => absurd c h9, fun _ => n_permit h (fun q => q.2.1 (by decide)) ?_⟩⟩
  unfold b_L_others_131
  refine ⟨fun c => absurd rfl c, fun _ => n_permit h (fun q => q.2.2.2.2.1 (by decide)) ?_⟩
  unfold b_L_others_144
  refine ⟨fun c => absurd rfl c, fun _ => n_permit h (fun q => q.2.2.2.2.2.1 (by decide)) ?_⟩
  unfold b_L_others_158
  refine ⟨fun c => absurd rfl c, fun _ => n_permit h (fun q => q.2.2.2.2.2.2.1 (by decide)) ?_⟩
  unfold b_L_others_171
  refine ⟨fun c => absurd rfl c, fun _ => n_permit h (fun q => q.2.2.2.2.2.2.2 (by decide)) ?_⟩
  unfold b_L_others_185
  exact ⟨fun c => absurd rfl c, fun _ => hp⟩
theorem L_others_56 {post : Int32 → Nat → Nat → Mem → Prop} {a4 a5 s0 : Int32} (h : Jv n np t E μ) (hl : LI n np t E) {f g : Nat} (hfg : f ≤ g) (hg : g < 30) (hs : (np < 20 ∧ s0 = nI np) ∨ (¬ np < 20 ∧ s0 = -1000003)) (hp : ∀ np' E' v, Jv n np' t E' v → LI n np' t E' → post 1 n np' v) : b_L_others_56 n np post a4 a5 (nI f) (nI g) s0 μ := by
  have hnp := h.np20
  obtain ⟨a0, a1, a2, a3, au, av, af, ash⟩ := id hl
  unfold b_L_others_56
  simp only [tc1]
  refine s_refused h ?_
  rw [h.r22, a1]
  have hA : ∀ k1 k2 : Nat, k1 < 4 → k2 < 9 → pmArg (nI k1) (nI f) (nI g) (1 + nI k2) := by
    intro k1 k2 h1 h2
    rw [show (1 : Int32) = nI 1 from rfl, nI_add]
    exact ⟨pos (by omega), nI_nlt (a := 3) (by omega) (by omega), pos (by omega), nI_nlt (a := 29) (by omega) (by omega), nI_nlt hfg (by omega), nI_nlt (a := 29) (by omega) (by omega), nI_nlt (b := 1) (by omega) (by omega), nI_nlt (a := 9) (by omega) (by omega)⟩
  have in1 : vp_in (1 : Int32) 5 := vin (k := 1) (by omega) (by omega)
  rcases hs with ⟨hlt, e⟩ | ⟨hno, e⟩
  · refine ⟨fun _ => ?_, fun c => absurd (by rw [e]; exact nI_le (a := 0) (Nat.zero_le np) (by omega)) c⟩
    unfold b_L_others_78
    simp only [tc1]
    rw [nI_s1]
    refine ⟨in1, fun w ew => s_low (m := 4) rfl (by omega) (by omega) (fun k1 hk1 => s_low (m := 9) rfl (by omega) (by omega) (fun k2 hk2 => ?_))⟩
    have hw : Jv n np t (zst E 22 0 1 (nI (np + 1))) w := by rw [ew]; exact h.row ⟨by omega, by omega⟩ _
    have zo : ∀ f, f ≠ 22 → zst E 22 0 1 (nI (np + 1)) f = E f := fun f hf => zst_o hf
    have z22 : ∀ k, zst E 22 0 1 (nI (np + 1)) 22 0 k = if k = 1 then nI (np + 1) else E 22 0 k := fun k => by
      rw [zst_ap]
      by_cases c : k = 1 <;> simp [c]
    refine s_permit hw (fun _ _ F v hF fo f0 fk => ?_) (fun _ q => absurd hlt q) (fun q => absurd (hA k1 k2 hk1 hk2) q)
    have hlF : LI n (np + 1) t F := by
      have fo' : ∀ f, f ≠ 0 → f ≠ 9 → f ≠ 10 → f ≠ 11 → f ≠ 12 → f ≠ 22 → F f = E f := fun f h0 h9 h10 h11 h12 h22 => (fo f h0 h9 h10 h11 h12).trans (zo f h22)
      have e22 : F 22 = zst E 22 0 1 (nI (np + 1)) 22 := fo 22 (by omega) (by omega) (by omega) (by omega) (by omega)
      refine LI_np hl ?_ ?_ ?_ ?_ (by rw [fo' 23 (by omega) (by omega) (by omega) (by omega) (by omega) (by omega)]) (fun k hk => ?_) (by rw [fo' 3 (by omega) (by omega) (by omega) (by omega) (by omega) (by omega)]) (by rw [fo' 4 (by omega) (by omega) (by omega) (by omega) (by omega) (by omega)]) (by rw [fo' 6 (by omega) (by omega) (by omega) (by omega) (by omega) (by omega)]) (by rw [fo' 7 (by omega) (by omega) (by omega) (by omega) (by omega) (by omega)])
      · rw [e22, z22, if_neg (by omega)]; exact a0
      · rw [e22, z22, if_pos rfl]
      · rw [e22, z22, if_neg (by omega)]; exact a2
      · rw [e22, z22, if_neg (by omega), f0 1 (by omega), zo 0 (by omega)]; exact a3
      · rw [fo' 24 (by omega) (by omega) (by omega) (by omega) (by omega) (by omega), fo' 13 (by omega) (by omega) (by omega) (by omega) (by omega) (by omega)]; exact av k hk
    refine L_others_109 hF e.symm (nI_nlt ?_ ?_) (hp _ F v hF hlF)
    · rw [show F 8 0 = E 8 0 by rw [fo 8 (by omega) (by omega) (by omega) (by omega) (by omega), zo 8 (by omega)]]
      refine sumN_le2 30 (fun d _ => rD_le (fun a ha => ?_))
      obtain ⟨w1, w2⟩ := ha
      have f1 : F 1 0 = E 1 0 := by rw [fo 1 (by omega) (by omega) (by omega) (by omega) (by omega), zo 1 (by omega)]
      have f2 : F 2 0 = E 2 0 := by rw [fo 2 (by omega) (by omega) (by omega) (by omega) (by omega), zo 2 (by omega)]
      have f5 : F 5 0 = E 5 0 := by rw [fo 5 (by omega) (by omega) (by omega) (by omega) (by omega), zo 5 (by omega)]
      have f13 : F 13 0 = E 13 0 := by rw [fo 13 (by omega) (by omega) (by omega) (by omega) (by omega), zo 13 (by omega)]
      have f14 : F 14 0 = E 14 0 := by rw [fo 14 (by omega) (by omega) (by omega) (by omega) (by omega), zo 14 (by omega)]
      refine ⟨?_, fun k hk => by rw [f5, f14]; exact w2 k hk⟩
      rcases w1 with w1 | ⟨k, hk, w1⟩
      · exact Or.inl (by rw [f2]; exact w1)
      · refine Or.inr ⟨k, by omega, ?_⟩
        unfold cov
        rw [f13, f1, f2, fk 9 k hk (by omega), fk 10 k hk (by omega), fk 11 k hk (by omega), fk 12 k hk (by omega), zo 9 (by omega), zo 10 (by omega), zo 11 (by omega), zo 12 (by omega)]
        exact w1
    · have : sumN (rD E np (E 8 0)) 30 ≤ 30 := sumN_le 30 (fun i _ => ind_le _)
      omega
  · refine ⟨fun c => absurd c (by rw [e]; decide), fun _ => ?_⟩
    unfold b_L_others_78
    simp only [tc1]
    rw [Int32.add_zero]
    refine ⟨in1, fun w ew => s_low (m := 4) rfl (by omega) (by omega) (fun k1 hk1 => s_low (m := 9) rfl (by omega) (by omega) (fun k2 hk2 => ?_))⟩
    have ez : zst E 22 0 1 (nI np) = E := by
      rw [← a1]
      exact zst_self E 22 0 1
    have hw : Jv n np t E w := by
      have := h.row (f := 22) (k := 1) ⟨by omega, by omega⟩ (nI np)
      rw [ez, ← ew] at this
      exact this
    refine s_permit hw (fun _ q => absurd q hno) (fun _ _ => ?_) (fun q => absurd (hA k1 k2 hk1 hk2) q)
    exact L_others_109 hw e.symm Int32.lt_irrefl (hp _ E w hw hl)
theorem n_revoke {P : Int32 → Mem → Prop} (h : Jv n np t E μ) {k : Nat} (hk : k < np) (e : ¬ E 13 0 k = 0) (hp : P (-1000003) μ) : w_L_revoke n np P (nI k) μ := by
  have hnp := h.np20
  refine s_revoke h (fun k2 hk2 ek e2 => ?_) (fun _ _ _ _ => hp) (fun q => absurd ⟨k, hk, rfl⟩ q)
  rw [← (nI_eq (by omega) (by omega)).mp ek] at e2
  exact absurd e2 e
theorem x_revoke {P : Int32 → Mem → Prop} (h : Jv n np t E μ) {a1 : Int32} (q : ¬ ∃ k, k < np ∧ a1 = nI k) (hp : P (-1000001) μ) : w_L_revoke n np P a1 μ := s_revoke h (fun k hk e => absurd ⟨k, hk, e⟩ q) (fun k hk e => absurd ⟨k, hk, e⟩ q) (fun _ => hp)
theorem L_others_292 {post : Int32 → Nat → Nat → Mem → Prop} {a4 a5 : Int32} (h : Jv n np t E μ) {k : Nat} (hk : k < np) (g1 : E 22 0 1 = nI np) (e : ¬ E 13 0 k = 0) (hl : LI n np t (zst E 24 0 k 1)) (hp : ∀ E' v, Jv n np t E' v → LI n np t E' → post 1 n np v) : b_L_others_292 n np post a4 a5 (nI k) 1 μ := by
  have hnp := h.np20
  unfold b_L_others_292
  simp only [tc1]
  rw [cl (by omega)]
  refine ⟨vin (by omega) (by omega), fun w ew => ⟨fun c => absurd c z10, fun _ => ?_⟩⟩
  have hw : Jv n np t (zst E 24 0 k 1) w := by rw [ew]; exact h.row ⟨by omega, by omega⟩ _
  have e13 : ¬ zst E 24 0 k 1 13 0 k = 0 := by rw [zst_o (by omega)]; exact e
  refine n_revoke hw hk e13 ⟨fun c => absurd rfl c, fun _ => ?_⟩
  rw [hw.r22, zst_o (by omega), g1]
  exact x_revoke hw (no_lit (K := np) rfl (Nat.le_refl _) (by omega)) ⟨fun c => absurd rfl c, fun _ => hp _ w hw hl⟩
theorem L_others_revoke {post : Int32 → Nat → Nat → Mem → Prop} {a4 a5 : Int32} (h : Jv n np t E μ) (hl : LI n np t E) {k : Nat} (hk : k < np) (hp : ∀ E' v, Jv n np t E' v → LI n np t E' → post 1 n np v) : w_L_revoke n np (fun (r93 : Int32) (μ92 : Mem) => (vp_in (nI k) 20 ∧ ((¬ (μ92 24 0 (nI k).toNatClampNeg) = 0 → ((¬ r93 = (-1000003) → b_L_others_292 n np post a4 a5 (nI k) (0 : Int32) μ92) ∧ (r93 = (-1000003) → b_L_others_292 n np post a4 a5 (nI k) (1 : Int32) μ92))) ∧ ((μ92 24 0 (nI k).toNatClampNeg) = 0 → ((r93 < 0 → b_L_others_276 n np post a4 a5 (nI k) μ92) ∧ (¬ r93 < 0 → (w_X4_refused n np (fun (r108 : Int32) (μ107 : Mem) => (∃ μ107g : Mem, gs μ107 μ107g ∧ ((¬ r108 = (nI (sumN (rD E np (E 8 0)) 30) + r93) → b_L_others_276 n np post a4 a5 (nI k) μ107g) ∧ (r108 = (nI (sumN (rD E np (E 8 0)) 30) + r93) → b_L_others_292 n np post a4 a5 (nI k) (1 : Int32) μ107g)))) μ92))))))) (nI k) μ := by
  have hnp := h.np20
  obtain ⟨a0, a1, a2, a3, au, av, af, ash⟩ := id hl
  have kin : vp_in (nI k) 20 := vin (by omega) (by omega)
  refine s_revoke h (fun k2 hk2 ek e13 F v hF fo f13 => ⟨kin, ?_⟩) (fun k2 hk2 ek e13 => ⟨kin, ?_⟩) (fun q => absurd ⟨k, hk, rfl⟩ q)
  · have ek' := (nI_eq (by omega) (by omega)).mp ek
    subst ek'
    have c0 : E 24 0 k = 0 := (av k (by omega)).mpr e13
    have hle : sumN (rD E np (E 8 0)) 30 ≤ sumN (rD F np (F 8 0)) 30 := by
      rw [show F 8 0 = E 8 0 by rw [fo 8 (by omega)]]
      refine sumN_le2 30 (fun d _ => rD_le (fun a ha => ?_))
      obtain ⟨w1, w2⟩ := ha
      refine ⟨?_, fun i hi => ?_⟩
      rotate_left
      · have w3 := w2 i hi
        rw [fo 5 (by omega), fo 14 (by omega)] at w3
        exact w3
      rcases w1 with w1 | ⟨j, hj, w1⟩
      · rw [fo 2 (by omega)] at w1
        exact Or.inl w1
      · refine Or.inr ⟨j, hj, ?_⟩
        unfold cov at w1 ⊢
        rw [f13, fo 9 (by omega), fo 10 (by omega), fo 11 (by omega), fo 12 (by omega), fo 1 (by omega), fo 2 (by omega)] at w1
        by_cases c : j = k
        · rw [if_pos c] at w1
          exact absurd w1.1 z10
        · rw [if_neg c] at w1
          exact w1
    have hle2 : sumN (rD F np (F 8 0)) 30 ≤ 30 := sumN_le 30 (fun i _ => ind_le _)
    have hlz : LI n np t (zst F 24 0 k 1) := by
      have zo : ∀ f, f ≠ 24 → zst F 24 0 k 1 f = F f := fun f hf => zst_o hf
      refine LI_np hl (by rw [zo 22 (by omega), fo 22 (by omega)]; exact a0) (by rw [zo 22 (by omega), fo 22 (by omega)]; exact a1) (by rw [zo 22 (by omega), fo 22 (by omega)]; exact a2) (by rw [zo 22 (by omega), fo 22 (by omega), zo 0 (by omega), fo 0 (by omega)]; exact a3) (by rw [zo 23 (by omega), fo 23 (by omega)]) (fun j hj => ?_) (by rw [zo 3 (by omega), fo 3 (by omega)]) (by rw [zo 4 (by omega), fo 4 (by omega)]) (by rw [zo 6 (by omega), fo 6 (by omega)]) (by rw [zo 7 (by omega), fo 7 (by omega)])
      rw [zo 13 (by omega), f13, zst_ap]
      by_cases c : j = k
      · rw [if_pos ⟨rfl, rfl, c⟩, if_pos c]
      · rw [if_neg (fun q => c q.2.2), if_neg c, fo 24 (by omega)]
        exact av j hj
    have fin := L_others_292 (a4 := a4) (a5 := a5) hF hk (by rw [fo 22 (by omega)]; exact a1) (by rw [f13, if_pos rfl]; exact z10) hlz hp
    rw [cl (by omega), hF.r24, fo 24 (by omega), c0]
    refine ⟨fun c => absurd rfl c, fun _ => ?_⟩
    rw [nI_sub hle]
    refine ⟨fun c => absurd c (pos (by omega)), fun _ => s_refused hF ⟨fun c => absurd ?_ c, fun _ => fin⟩⟩
    rw [nI_add]
    congr 1
    omega
  · have ek' := (nI_eq (by omega) (by omega)).mp ek
    subst ek'
    have c0 : ¬ E 24 0 k = 0 := fun w => e13 ((av k (by omega)).mp w)
    have hlz : LI n np t (zst E 24 0 k 1) := by
      have zo : ∀ f, f ≠ 24 → zst E 24 0 k 1 f = E f := fun f hf => zst_o hf
      refine LI_np hl (by rw [zo 22 (by omega)]; exact a0) (by rw [zo 22 (by omega)]; exact a1) (by rw [zo 22 (by omega)]; exact a2) (by rw [zo 22 (by omega), zo 0 (by omega)]; exact a3) (by rw [zo 23 (by omega)]) (fun j hj => ?_) (by rw [zo 3 (by omega)]) (by rw [zo 4 (by omega)]) (by rw [zo 6 (by omega)]) (by rw [zo 7 (by omega)])
      rw [zo 13 (by omega), zst_ap]
      by_cases c : j = k
      · rw [if_pos ⟨rfl, rfl, c⟩, c]
        exact ⟨fun w => absurd w z10, fun w => absurd w e13⟩
      · rw [if_neg (fun q => c q.2.2)]
        exact av j hj
    rw [cl (by omega), h.r24]
    exact ⟨fun _ => ⟨fun c => absurd rfl c, fun _ => L_others_292 h hk a1 e13 hlz hp⟩, fun c => absurd c c0⟩
theorem L_others_375 {post : Int32 → Nat → Nat → Mem → Prop} {a4 a5 s0 : Int32} (h : Jv n np t E μ) (hl : LI n np t E) {k d : Nat} (hk : k < 5) (hd : d < 30) (h01 : s0 = 0 ∨ s0 = 1) (hp : ∀ E' v, Jv n np t E' v → LI n np t E' → post 1 n np v) : b_L_others_375 n np post a4 a5 (nI k) (nI d) s0 μ := by
  have x5 : ¬ ∃ k, k < 5 ∧ (5 : Int32) = nI k := no_lit (K := 5) rfl (Nat.le_refl _) (by omega)
  have x30 : ¬ ∃ d, d < 30 ∧ (30 : Int32) = nI d := no_lit (K := 30) rfl (Nat.le_refl _) (by omega)
  have mv : ∀ {E F : Mem}, LI n np t E → (∀ f, f ≠ 14 → F f = E f) → LI n np t F := fun {E F} hl fo => LI_mv hl (by rw [fo 0 (by omega)]) (by rw [fo 3 (by omega)]) (fun _ _ _ => by rw [fo 4 (by omega)]) (by rw [fo 6 (by omega)]) (by rw [fo 7 (by omega)]) (by rw [fo 13 (by omega)]) (fun _ _ => by rw [fo 22 (by omega)]) (by rw [fo 23 (by omega)]) (by rw [fo 24 (by omega)])
  unfold b_L_others_375
  refine s_away h h01 (fun k1 d1 hk1 hd1 ek ed F v hF fo f14 r hr er => ?_) (fun q => absurd ⟨k, hk, rfl⟩ q) (fun _ q => absurd ⟨d, hd, rfl⟩ q)
  have ek' := (nI_eq (by omega) (by omega)).mp ek
  have ed' := (nI_eq (by omega) (by omega)).mp ed
  subst ek'
  subst ed'
  have hlF := mv hl fo
  refine ⟨fun c => absurd c (by rcases hr with w | w <;> rw [w] <;> decide), fun _ => s_away hF h01 (fun k1 d1 hk1 hd1 ek ed F2 v2 hF2 fo2 f142 r2 hr2 er2 => ?_) (fun q => absurd ⟨k, hk, rfl⟩ q) (fun _ q => absurd ⟨d, hd, rfl⟩ q)⟩
  rw [← (nI_eq (by omega) (by omega)).mp ek, ← (nI_eq (by omega) (by omega)).mp ed, f14, if_pos rfl] at er2
  have hlF2 := mv hlF fo2
  have fin : ∀ x : Int32, r2 = x → b_L_others_410 n np post a4 a5 s0 r2 x v2 := by
    intro x ex
    unfold b_L_others_410
    refine ⟨fun c => absurd ex c, fun _ => s_away hF2 h01 (fun k3 _ hk3 _ e => absurd ⟨k3, hk3, e⟩ x5) (fun _ => ⟨fun c => absurd rfl c, fun _ => ?_⟩) (fun q => absurd q x5)⟩
    exact s_away hF2 h01 (fun _ d3 _ hd3 _ e => absurd ⟨d3, hd3, e⟩ x30) (fun q => absurd ⟨0, by omega, rfl⟩ q) (fun _ _ => ⟨fun c => absurd rfl c, fun _ => hp F2 v2 hF2 hlF2⟩)
  exact ⟨fun c => fin 0 (er2.trans c), fun c => fin 1 (er2.trans (h01.resolve_left c))⟩
end OTHR
