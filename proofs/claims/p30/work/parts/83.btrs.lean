/-! betters -/
section BTRS
variable {n np t : Nat} {E μ : Mem}
theorem LI_plF (hl : LI n np t E) (Q : Nat → Int32) : LI n np t (plF E Q) := by
  refine LI_mv hl (by rw [plF_o (by omega) (by omega)]) (by rw [plF_o (by omega) (by omega)]) (fun a ha q => ?_) (by rw [plF_o (by omega) (by omega)]) (by rw [plF_o (by omega) (by omega)]) (by rw [plF_o (by omega) (by omega)]) (fun k _ => by rw [plF_o (by omega) (by omega)]) (by rw [plF_o (by omega) (by omega)]) (by rw [plF_o (by omega) (by omega)])
  show (if E 3 0 a = 0 then nI (fdy Q a 30) else E 4 0 a) = E 4 0 a
  rw [if_neg (by rw [q]; decide)]
theorem cost_plF (Q R : Nat → Int32) : costF (plF E Q) np t R = costF E np t R := costF_gh (fun f _ h4 h8 => plF_o h8 h4)
theorem rD_plF (Q R : Nat → Int32) : rD (plF E Q) np R = rD E np R := by
  funext d
  unfold rD
  have ha : ∀ a, al (plF E Q) np a d ↔ al E np a d := fun a => al_of (fun f hf => by rw [plF_o (by omega) (by omega)])
  have : fre (plF E Q) np (R d) d ↔ fre E np (R d) d := by
    unfold fre
    rw [ha]
  by_cases c : fre E np (R d) d
  · rw [ind_0 (fun q => q (this.mpr c)), ind_0 (fun q => q c)]
  · rw [ind_1 (fun q => c (this.mp q)), ind_1 c]
theorem L_betters_mend {post : Int32 → Mem → Prop} (h : Jv n np t E μ) (hl : LI n np t E) (hp : ∀ E' v, Jv n np t E' v → LI n np t E' → post 1 v) {a3 a4 : Int32} {Q : Nat → Int32} {m : Nat} (hm : m ≤ 30) (hm0 : m = 0 → Q = E 8 0) (hQ : sR E np Q + m ≤ sR E np (E 8 0)) {v : Mem} (hv : Jv n np t (plF E Q) v) : b_L_betters_41 n np post a3 a4 (costF E np t (E 8 0)) (nI (sumN (rD E np (E 8 0)) 30)) (nI m) v := by
  have hlQ := LI_plF hl Q
  have hle : sumN (rD E np (E 8 0)) 30 ≤ 30 := sumN_le 30 (fun i _ => ind_le _)
  unfold b_L_betters_41
  refine s_refused hv ⟨fun c => absurd c ?_, fun _ => ⟨fun _ => hp _ _ hv hlQ, fun c => s_cost hv (fun w hw => ⟨fun c2 => absurd ?_ c2, fun _ => hp _ _ hw hlQ⟩)⟩⟩
  · rw [plF_8, rD_plF]
    unfold sR at hQ
    exact nI_nlt (by omega) (by omega)
  · have hm00 : m = 0 := by
      rcases Nat.eq_zero_or_pos m with w | w
      · exact w
      · exact absurd (nI_lt (a := 0) w (by omega)) c
    rw [plF_8, cost_plF, hm0 hm00]
theorem L_betters_234 {post : Int32 → Mem → Prop} {a3 a4 : Int32} {E0 : Mem} {Q : Nat → Int32} (hQ : mnl E0 np t Q) (hp : ∀ E' v, Jv n np t E' v → LI n np t E' → post 1 v) : ∀ m k : Nat, k + m = 6 → ∀ E μ : Mem, Jv n np t E μ → LI n np t E → E 8 0 = Q → (∀ f, f ≠ 4 → f ≠ 8 → E f = E0 f) → l_L_betters_234 n np post a3 a4 (m + 1) (costF E0 np t Q) 1 (nI k) μ := by
  intro m
  induction m with
  | zero =>
    intro k hk E μ h hl e8 fo
    have e : k = 6 := by omega
    subst e
    show lb_L_betters_234 n np post _ _ _ _ _ _ _
    unfold lb_L_betters_234
    exact ⟨fun _ => ⟨Or.inr rfl, hp E μ h hl⟩, fun c => absurd (by decide) c⟩
  | succ m ih =>
    intro k hk E μ h hl e8 fo
    show lb_L_betters_234 n np post (l_L_betters_234 n np post a3 a4 (m + 1)) _ _ _ _ _ _
    unfold lb_L_betters_234
    obtain ⟨g0, g1, g2, g3, -⟩ := id hl
    have ht := h.t30
    simp only [tc2]
    rw [h.r22, g2]
    refine ⟨fun c => absurd ((nI_leI (a := 6) (by omega) (by omega)).mp c) (by omega), fun _ => ⟨fun c => absurd c z10, fun _ => ⟨fun _ => ⟨Or.inr trivial, hp E μ h hl⟩, fun c => ?_⟩⟩⟩
    have ht30 : t < 30 := by
      rcases Nat.lt_or_ge t 30 with w | w
      · exact w
      · exact absurd ((le30 (by omega)).mpr w) c
    have e30 : (30 : Int32) - nI t = nI (30 - t) := by rw [show (30 : Int32) = nI 30 from rfl, nI_sub (by omega)]
    refine s_low e30 (by omega) (by omega) (fun k1 hk1 => ?_)
    rw [h.r22, g2]
    refine s_low e30 (by omega) (by omega) (fun k2 hk2 => ?_)
    have hi : t ≤ t + k1 ∧ t + k1 < 30 := by omega
    have hj : t ≤ t + k2 ∧ t + k2 < 30 := by omega
    refine a_swap h hl hi hj (nI_add _ _) (nI_add _ _) (fun F v hF hlF foF f8F => ⟨fun c2 => ?_, fun _ => a_swap hF hlF hi hj (nI_add _ _) (nI_add _ _) (fun F2 v2 hF2 hlF2 foF2 f8F2 => ?_)⟩)
    · rw [e8, costF_gh (E := E0) (fun f _ h2 h3 => fo f h2 h3)] at c2
      exact absurd (hQ _ _ hi hj) (Int32.not_le.mpr c2)
    · have e2 : pswap (F 8 0) (t + k1) (t + k2) = Q := by rw [f8F, pswap_pswap, e8]
      rw [e2] at f8F2
      have foF0 : ∀ f, f ≠ 4 → f ≠ 8 → F f = E0 f := fun f q1 q2 => (foF f q1 q2).trans (fo f q1 q2)
      rw [e2, costF_gh (E := E0) (fun f _ h2 h3 => foF0 f h2 h3)]
      refine ⟨fun c2 => absurd rfl c2, fun _ => ?_⟩
      unfold b_L_betters_323
      rw [nI_s1]
      exact ih (k + 1) (by omega) F2 v2 hF2 hlF2 f8F2 (fun f q1 q2 => (foF2 f q1 q2).trans (foF0 f q1 q2))
theorem L_betters_208 {post : Int32 → Mem → Prop} {a3 a4 : Int32} (h : Jv n np t E μ) (hl : LI n np t E) (hQ : mnl E np t (E 8 0)) (hp : ∀ E' v, Jv n np t E' v → LI n np t E' → post 1 v) : b_L_betters_208 n np post a3 a4 (costF E np t (E 8 0)) μ := by
  unfold b_L_betters_208
  refine s_better h (fun Q m v hm hr hQ2 hor hz hv => ?_)
  have m0 := hz hQ
  have eQ : Q = E 8 0 := by
    rcases hor with ⟨-, w⟩ | ⟨w, -⟩
    · exact w
    · omega
  subst m0
  subst eQ
  have hlv := LI_plF hl (E 8 0)
  refine ⟨fun c => absurd rfl c, fun _ => s_cost hv (fun w hw => ?_)⟩
  rw [plF_8, cost_plF]
  refine ⟨fun c => absurd rfl c, fun _ => ?_⟩
  unfold b_L_betters_229
  exact ⟨7, by omega, L_betters_234 (E0 := E) hQ hp 6 0 rfl (plF E (E 8 0)) w hw hlv plF_8 (fun f q1 q2 => plF_o q2 q1)⟩
theorem L_betters_145 {post : Int32 → Mem → Prop} {a3 a4 : Int32} (h : Jv n np t E μ) (hl : LI n np t E) (hp : ∀ E' v, Jv n np t E' v → LI n np t E' → post 1 v) : b_L_betters_145 n np post a3 a4 (costF E np t (E 8 0)) μ := by
  unfold b_L_betters_145
  refine s_low (m := 3) rfl (by omega) (by omega) (fun k hk => ⟨fun _ => s_better h (fun Q m v hm hr hQ2 hor hz hv => s_cost hv (fun w hw => ?_)), fun _ => s_cost h (fun w hw => ⟨fun c => absurd rfl c, fun _ => hp E w hw hl⟩)⟩)
  have hlv := LI_plF hl Q
  have hmn : mnl (plF E Q) np t (plF E Q 8 0) := by
    intro i j hi hj
    rw [plF_8, cost_plF, cost_plF]
    exact hQ2 i j hi hj
  have fin := L_betters_208 (a3 := a3) (a4 := a4) hw hlv hmn hp
  rw [plF_8, cost_plF] at fin ⊢
  refine ⟨fun c => absurd c (nI_pos (n := m) (by omega)), fun _ => ⟨fun c => ⟨fun c2 => ?_, fun _ => fin⟩, fun c => ⟨fun c2 => ?_, fun _ => fin⟩⟩⟩
  · rcases hor with ⟨w1, -⟩ | ⟨-, w2⟩
    · rw [w1] at c
      exact absurd rfl c
    · exact absurd c2 (Int32.not_le.mpr w2)
  · rcases hor with ⟨-, w2⟩ | ⟨w1, -⟩
    · rw [w2] at c2
      exact absurd rfl c2
    · have := (nI_eq (a := m) (b := 0) (by omega) (by omega)).mp c
      omega
theorem L_betters {post : Int32 → Mem → Prop} (h : Jv n np t E μ) (hl : LI n np t E) (hp : ∀ E' v, Jv n np t E' v → LI n np t E' → post 1 v) {a3 a4 : Int32} : w_L_betters n np post a3 a4 μ := by
  have hn := h.n10
  have hle : sumN (rD E np (E 8 0)) 30 ≤ 30 := sumN_le 30 (fun i _ => ind_le _)
  unfold w_L_betters
  refine s_cost h (fun u hu => s_refused hu (s_low (m := 3) rfl (by omega) (by omega) (fun k hk => ⟨fun _ => ?_, fun _ => s_mend hu (fun Q m v hr hQ hm0 hv => ?_)⟩)))
  · obtain ⟨g0, g1, g2, g3, -⟩ := id hl
    have hpl := hu.pl
    obtain ⟨G, hG⟩ : ∃ G : Nat → Nat, G = fun k => ind (E 3 0 k = 0) := ⟨_, rfl⟩
    have hcnt : cnt (E 8 0) 30 = sumN G n := by rw [hG]; exact pln_eq hn hpl
    have hGle : sumN G n ≤ n := sumN_le n (fun i _ => by rw [hG]; exact ind_le _)
    have loop : ∀ m a : Nat, a + m = n → l_L_betters_76 n np post a3 a4 (m + 1) (costF E np t (E 8 0)) (nI (sumN G a)) (nI a) u := by
      intro m
      induction m with
      | zero =>
        intro a ha
        have e : a = n := by omega
        subst e
        show lb_L_betters_76 a np post _ _ _ _ _ _ _
        unfold lb_L_betters_76
        simp only [tc0]
        rw [hu.r22, g0]
        refine ⟨fun _ => s_least hu (fun c5 L v hL1 hL2 hv => ⟨fun _ => ⟨fun c => absurd c hL2, fun _ => ⟨fun _ => L_betters_145 hv hl hp, fun c => absurd hL1 c⟩⟩, fun c => absurd ?_ c⟩) (fun c5 v hv => ⟨fun c => absurd ((nI_leI (b := 5) (by omega) (by omega)).mp c) (by omega), fun _ => ⟨fun _ => L_betters_145 hv hl hp, fun c => absurd rfl c⟩⟩), fun c => absurd (Int32.le_refl _) c⟩
        exact nI_le (b := 5) (by omega) (by omega)
      | succ m ih =>
        intro a ha
        show lb_L_betters_76 n np post (l_L_betters_76 n np post a3 a4 (m + 1)) _ _ _ _ _ _
        unfold lb_L_betters_76 b_L_betters_100
        simp only [tc0]
        rw [hu.r22, g0, nI_s1]
        have ih3 := ih (a + 1) (by omega)
        have hGs : sumN G (a + 1) = sumN G a + G a := rfl
        rw [hGs] at ih3
        refine ⟨fun c => absurd ((nI_leI (by omega) (by omega)).mp c) (by omega), fun _ => a_stateOf hu (by omega) rfl ⟨fun c => ?_, fun c => ?_⟩⟩
        · have e : G a = 0 := by rw [hG]; exact ind_0 c
          rw [e] at ih3
          simp only [Int32.add_zero]
          exact ih3
        · have e : G a = 1 := by rw [hG]; exact ind_1 c
          rw [e] at ih3
          rw [nI_s1]
          exact ih3
    exact ⟨n + 1, by omega, loop n 0 (by omega)⟩
  · have hm : m ≤ 30 := by
      have : sR E np (E 8 0) ≤ 30 := hle
      omega
    have fin := L_betters_mend (a3 := a3) (a4 := a4) hu hl hp hm hm0 hQ hv
    refine ⟨fun c => absurd c (pos (by omega)), fun _ => ⟨fun _ => fin, fun c => ⟨fun c2 => absurd ?_ c2, fun _ => fin⟩⟩⟩
    have h0 : sumN (rD E np (E 8 0)) 30 = 0 := by
      rcases Nat.eq_zero_or_pos (sumN (rD E np (E 8 0)) 30) with w | w
      · exact w
      · exact absurd (nI_lt (a := 0) w (by omega)) c
    have h1 : sR E np (E 8 0) = 0 := h0
    rw [show m = 0 by omega]
    rfl
end BTRS
