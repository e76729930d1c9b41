/-! scenes: plays, cut, uses -/
section SCNS2
variable {n np t : Nat} {E μ : Mem}
theorem n1_le (b : Nat) (hb : b < 22) : ¬ nI b - 1 < (-1) ∧ nI b - 1 ≤ 20 := by
  cases b with
  | zero => exact ⟨by decide, by decide⟩
  | succ k =>
    rw [nI_pred]
    exact ⟨fun c => pos (k := k) (by omega) (Int32.lt_trans c neg1), nI_le (b := 20) (by omega) (by omega)⟩
theorem L_scenes_286 {post : Int32 → Nat → Nat → Mem → Prop} {a4 a5 v5 v7 : Int32} (h : Jv n np t E μ) (g0 : E 22 0 0 = nI n) {a k : Nat} (ha : a < n) (hk : k < 5) (e5 : v5 = nI a) (e7 : v7 = nI k) (hp : post 1 n np μ) : b_L_scenes_286 n np post a4 a5 v5 v7 μ := by
  subst e5
  subst e7
  have hn := h.n10
  unfold b_L_scenes_286
  simp only [tc0]
  have b21 : ¬ (¬ (21 : Int32) < (-1) ∧ (21 : Int32) ≤ 20) := fun q => absurd q.2 (by decide)
  refine s_plays h (fun _ _ _ _ _ _ _ q1 q2 => absurd ⟨q1, q2⟩ b21) (fun _ _ _ _ _ _ _ q1 q2 => absurd ⟨q1, q2⟩ b21) (fun _ _ _ => ⟨fun c => absurd rfl c, fun _ => ?_⟩) (fun q => absurd ⟨⟨a, ha, rfl⟩, ⟨k, hk, rfl⟩⟩ q)
  have x5 : ¬ ∃ k, k < 5 ∧ (5 : Int32) = nI k := no_lit (K := 5) rfl (Nat.le_refl _) (by omega)
  refine s_plays h (fun _ k2 _ hk2 _ e _ _ _ => absurd ⟨k2, hk2, e⟩ x5) (fun _ k2 _ hk2 _ e _ _ _ => absurd ⟨k2, hk2, e⟩ x5) (fun _ q _ => absurd q x5) (fun _ => ⟨fun c => absurd rfl c, fun _ => ?_⟩)
  rw [h.r22, g0]
  have xn : ¬ ∃ k, k < n ∧ nI n = nI k := no_lit (K := n) rfl (Nat.le_refl _) (by omega)
  exact s_plays h (fun k2 _ hk2 _ e _ _ _ _ => absurd ⟨k2, hk2, e⟩ xn) (fun k2 _ hk2 _ e _ _ _ _ => absurd ⟨k2, hk2, e⟩ xn) (fun q _ _ => absurd q xn) (fun _ => ⟨fun c => absurd rfl c, fun _ => hp⟩)
theorem L_scenes_plays {post : Int32 → Nat → Nat → Mem → Prop} {a4 a5 s0 : Int32} (h : Jv n np t E μ) (hl : LI n np t E) {a k b : Nat} (ha : a < n) (hk : k < 5) (hb : b < 22) (h0 : s0 = 0 ↔ ¬ E 3 0 a = 0) (hp : ∀ E' v, Jv n np t E' v → LI n np t E' → post 1 n np v) : w_L_plays n np (fun (r104 : Int32) (μ103 : Mem) => ((s0 = 0 → ((¬ r104 = (-1000003) → post 0 n np μ103) ∧ (r104 = (-1000003) → b_L_scenes_286 n np post a4 a5 (nI a) (nI k) μ103))) ∧ (¬ s0 = 0 → ((r104 < 1 → post 0 n np μ103) ∧ (¬ r104 < 1 → ((5 < r104 → post 0 n np μ103) ∧ (¬ 5 < r104 → b_L_scenes_286 n np post a4 a5 (nI a) (nI k) μ103))))))) (nI a) (nI k) (nI b - 1) μ := by
  have hn := h.n10
  obtain ⟨q1, q2⟩ := n1_le b hb
  refine s_plays h (fun a2 k2 ha2 hk2 ea ek e3 _ _ F v r hF fo hr => ?_) (fun a2 k2 ha2 hk2 ea ek e3 _ _ => ?_) (fun _ _ q => absurd ⟨q1, q2⟩ q) (fun q => absurd ⟨⟨a, ha, rfl⟩, ⟨k, hk, rfl⟩⟩ q)
  · rw [← (nI_eq (by omega) (by omega)).mp ea] at e3
    have hlF : LI n np t F := LI_mv hl (by rw [fo 0 (by omega)]) (by rw [fo 3 (by omega)]) (fun _ _ _ => by rw [fo 4 (by omega)]) (by rw [fo 6 (by omega)]) (by rw [fo 7 (by omega)]) (by rw [fo 13 (by omega)]) (fun _ _ => by rw [fo 22 (by omega)]) (by rw [fo 23 (by omega)]) (by rw [fo 24 (by omega)])
    obtain ⟨c, c1, c2, ec⟩ := hr
    rw [ec]
    refine ⟨fun w => absurd e3 (h0.mp w), fun _ => ⟨fun w => absurd w (nI_nlt (b := 1) c1 (by omega)), fun _ => ⟨fun w => absurd w (nI_nlt (a := 5) c2 (by omega)), fun _ => L_scenes_286 hF hlF.1 ha hk rfl rfl (hp F v hF hlF)⟩⟩⟩
  · rw [← (nI_eq (by omega) (by omega)).mp ea] at e3
    exact ⟨fun _ => ⟨fun c => absurd rfl c, fun _ => L_scenes_286 h hl.1 ha hk rfl rfl (hp E μ h hl)⟩, fun w => absurd (h0.mpr e3) w⟩
/-- cut is refused where the scene is not planned -/
theorem n_cut {P : Int32 → Mem → Prop} (h : Jv n np t E μ) {a : Nat} (ha : a < n) (e3 : ¬ E 3 0 a = 0) (hp : P (-1000003) μ) : w_L_cut n np P (nI a) μ := by
  have hn := h.n10
  refine s_cut h (fun a2 d ha2 _ ea e _ _ => ?_) (fun _ _ _ _ => hp) (fun q => absurd ⟨a, ha, rfl⟩ q)
  rw [← (nI_eq (by omega) (by omega)).mp ea] at e
  exact absurd e e3
theorem L_scenes_384 {post : Int32 → Nat → Nat → Mem → Prop} {a4 a5 v6 v8 s0 s1 : Int32} (h : Jv n np t E μ) (g0 : E 22 0 0 = nI n) {a : Nat} (ha : a < n) (e3 : ¬ E 3 0 a = 0) (hs : s0 = s1) (h8 : (v6 = 0 → (if E 3 0 a = 2 then (-1 : Int32) else E 4 0 a) = v8) ∧ (¬ v6 = 0 → (if E 3 0 a = 2 then (-1 : Int32) else E 4 0 a) = -1)) (hp : post 1 n np μ) : b_L_scenes_384 n np post a4 a5 (nI a) v6 v8 s0 s1 μ := by
  have hn := h.n10
  unfold b_L_scenes_384
  refine ⟨fun c => absurd hs c, fun _ => n_cut h ha e3 ⟨fun c => absurd rfl c, fun _ => a_dayOf h ha rfl ?_⟩⟩
  have fin : ∀ x y : Int32, x = y → b_L_scenes_415 n np post a4 a5 x y μ := by
    intro x y e
    unfold b_L_scenes_415
    simp only [tc0]
    rw [h.r22, g0]
    have xn : ¬ ∃ k, k < n ∧ nI n = nI k := no_lit (K := n) rfl (Nat.le_refl _) (by omega)
    exact ⟨fun c => absurd e c, fun _ => s_cut h (fun k2 _ hk2 _ e _ _ _ => absurd ⟨k2, hk2, e⟩ xn) (fun k2 hk2 e _ => absurd ⟨k2, hk2, e⟩ xn) (fun _ => ⟨fun c => absurd rfl c, fun _ => hp⟩)⟩
  exact ⟨fun c => fin _ _ (h8.1 c), fun c => fin _ _ (h8.2 c)⟩
theorem L_scenes_cut {post : Int32 → Nat → Nat → Mem → Prop} {a4 a5 s0 : Int32} (h : Jv n np t E μ) (hl : LI n np t E) {a : Nat} (ha : a < n) (h0 : s0 = 0 ↔ ¬ E 3 0 a = 0) (hp : ∀ E' v, Jv n np t E' v → LI n np t E' → post 1 n np v) : w_L_dayOf n np (fun (r86 : Int32) (μ85 : Mem) => (w_L_cut n np (fun (r88 : Int32) (μ87 : Mem) => ((s0 = 0 → b_L_scenes_384 n np post a4 a5 (nI a) s0 r86 r88 (-1000003 : Int32) μ87) ∧ (¬ s0 = 0 → b_L_scenes_384 n np post a4 a5 (nI a) s0 r86 r88 r86 μ87))) (nI a) μ85)) (nI a) μ := by
  have hn := h.n10
  refine a_dayOf h ha rfl ?_
  by_cases e3 : E 3 0 a = 0
  · have hs0 : ¬ s0 = 0 := fun q => h0.mp q e3
    refine s_cut h (fun a2 d ha2 hd ea _ e4 e8 F v hF fo f3 f8 => ?_) (fun a2 ha2 ea e => ?_) (fun q => absurd ⟨a, ha, rfl⟩ q)
    · have ea' := (nI_eq (by omega) (by omega)).mp ea
      subst ea'
      refine ⟨fun c => absurd c hs0, fun _ => ?_⟩
      have hlF : LI n np t F := by
        obtain ⟨a0, a1, a2, a3, -, -, -, ash⟩ := id hl
        refine LI_gen hl rfl (by rw [fo 22 (by omega) (by omega)]; exact a0) (by rw [fo 22 (by omega) (by omega)]; exact a1) (by rw [fo 22 (by omega) (by omega)]; exact a2) (by rw [fo 22 (by omega) (by omega), fo 0 (by omega) (by omega)]; exact a3) (by rw [fo 23 (by omega) (by omega)]) (by rw [fo 24 (by omega) (by omega)]) (by rw [fo 13 (by omega) (by omega)]) (by rw [fo 6 (by omega) (by omega)]) (by rw [fo 7 (by omega) (by omega)]) (fun k hk q => ?_) (fun b hb q => ?_)
        · rw [f3] at q
          by_cases c : k = a
          · rw [if_pos c] at q
            exact absurd rfl q
          · rw [if_neg c] at q
            exact q
        · rw [f3] at q
          rw [fo 4 (by omega) (by omega)]
          by_cases c : b = a
          · rw [if_pos c] at q
            exact absurd q (by decide)
          · rw [if_neg c] at q
            exact ash b hb q
      refine L_scenes_384 hF hlF.1 ha ?_ ?_ ⟨fun c => absurd c hs0, fun _ => ?_⟩ (hp F v hF hlF)
      · rw [f3, if_pos rfl]
        decide
      · rw [e3, if_neg (by decide), e4]
      · rw [f3, if_pos rfl, if_pos rfl]
    · rw [← (nI_eq (by omega) (by omega)).mp ea] at e
      exact absurd e3 e
  · have hs0 : s0 = 0 := h0.mpr e3
    exact n_cut h ha e3 ⟨fun _ => L_scenes_384 h hl.1 ha e3 rfl ⟨fun _ => rfl, fun c => absurd hs0 c⟩ (hp E μ h hl), fun c => absurd hs0 c⟩
theorem L_scenes_631 {post : Int32 → Nat → Nat → Mem → Prop} {a4 a5 : Int32} (h : Jv n np t E μ) {a k : Nat} (ha : a < n) (hk : k < 5) (hp : post 1 n np μ) : b_L_scenes_631 n np post a4 a5 (nI a) (nI k) μ := by
  have hn := h.n10
  unfold b_L_scenes_631
  have v44 : ¬ usVal 4 4 := by
    rintro ⟨q, s, h1, h2, e1, e2⟩
    have := (nI_eq (a := 4) (b := s) (by omega) (by omega)).mp e2
    omega
  have v21 : ¬ usVal 2 1 := by
    rintro ⟨q, s, h1, h2, e1, e2⟩
    have := (nI_eq (a := 1) (b := s) (by omega) (by omega)).mp e2
    have := (nI_eq (a := 2) (b := q) (by omega) (by omega)).mp e1
    omega
  have xm : ¬ ∃ k, k < 5 ∧ (-1 : Int32) = nI k := no_neg (by decide) (by omega)
  refine s_uses h (fun _ _ _ _ _ _ q => absurd q v44) (fun _ _ _ _ _ _ q => absurd q v44) (fun _ _ _ => ⟨fun c => absurd rfl c, fun _ => ?_⟩) (fun q => absurd ⟨⟨a, ha, rfl⟩, ⟨k, hk, rfl⟩⟩ q)
  refine s_uses h (fun _ _ _ _ _ _ q => absurd q v21) (fun _ _ _ _ _ _ q => absurd q v21) (fun _ _ _ => ⟨fun c => absurd rfl c, fun _ => ?_⟩) (fun q => absurd ⟨⟨a, ha, rfl⟩, ⟨k, hk, rfl⟩⟩ q)
  exact s_uses h (fun _ p _ hp5 _ e => absurd ⟨p, hp5, e⟩ xm) (fun _ p _ hp5 _ e => absurd ⟨p, hp5, e⟩ xm) (fun _ q _ => absurd q xm) (fun _ => ⟨fun c => absurd rfl c, fun _ => hp⟩)
theorem L_scenes_603 {post : Int32 → Nat → Nat → Mem → Prop} {a4 a5 v10 v11 s1 s2 : Int32} (h : Jv n np t E μ) {a k : Nat} (ha : a < n) (hk : k < 5) (e1 : s1 = nI (5 * a + k)) (hv : (v10 = 0 → v11 = -1000003) ∧ (¬ v10 = 0 → ∃ c, 1 ≤ c ∧ c ≤ 5 ∧ v11 = nI c)) (hl : LI n np t (zst E 23 0 (5 * a + k) s2)) (hp : ∀ E' v, Jv n np t E' v → LI n np t E' → post 1 n np v) : b_L_scenes_603 n np post a4 a5 (nI a) (nI k) v10 v11 s1 s2 μ := by
  have hn := h.n10
  unfold b_L_scenes_603
  subst e1
  rw [cl (by omega)]
  refine ⟨vin (by omega) (by omega), fun w ew => ?_⟩
  have hw : Jv n np t (zst E 23 0 (5 * a + k) s2) w := by rw [ew]; exact h.row ⟨by omega, by omega⟩ _
  have fin := L_scenes_631 (a4 := a4) (a5 := a5) hw ha hk (hp _ w hw hl)
  refine ⟨fun c => ⟨fun c2 => absurd (hv.1 c) c2, fun _ => fin⟩, fun c => ?_⟩
  obtain ⟨m, m1, m2, em⟩ := hv.2 c
  rw [em]
  exact ⟨fun q => absurd q (nI_nlt (b := 1) m1 (by omega)), fun _ => ⟨fun q => absurd q (nI_nlt (a := 5) m2 (by omega)), fun _ => fin⟩⟩
theorem s_use {P : Int32 → Mem → Prop} (h : Jv n np t E μ) (hl : LI n np t E) {a p : Nat} (ha : a < n) (hp5 : p < 5) (hp : P (if E 3 0 a = 2 then 0 else uvl E (5 * a + p)) μ) : w_L_use n np P (nI a) (nI p) μ := by
  have hn := h.n10
  unfold w_L_use
  refine a_stateOf h ha rfl ⟨fun c => ?_, fun c => ?_⟩
  · rw [if_neg c] at hp
    rw [ix5, cl (by omega), h.r23, hl.2.2.2.2.1 a p (by omega) hp5, if_pos ha]
    exact ⟨vin (by omega) (by omega), hp⟩
  · rw [if_pos c] at hp
    exact hp
theorem L_scenes_436 {post : Int32 → Nat → Nat → Mem → Prop} {a4 a5 v6 : Int32} (h : Jv n np t E μ) (hl : LI n np t E) {a k : Nat} (ha : a < n) (hk : k < 5) (h0 : v6 = 0 ↔ ¬ E 3 0 a = 0) (h01 : v6 = 0 ∨ v6 = 1) (hp : ∀ E' v, Jv n np t E' v → LI n np t E' → post 1 n np v) : b_L_scenes_436 n np post a4 a5 (nI a) v6 (nI k) μ := by
  have hn := h.n10
  obtain ⟨a0, a1, a2, a3, au, av, af, ash⟩ := id hl
  unfold b_L_scenes_436
  refine s_low (m := 4) rfl (by omega) (by omega) (fun q hq => s_low (m := 4 - q) (by rw [show (4 : Int32) = nI 4 from rfl, nI_sub (by omega)]) (by omega) (by omega) (fun x hx => ?_))
  rw [nI_add]
  obtain ⟨s, es⟩ : ∃ s, s = q + x := ⟨_, rfl⟩
  rw [← es]
  have hqs : q ≤ s := by omega
  have hs4 : s < 4 := by omega
  have hval : usVal (nI q) (nI s) := ⟨q, s, hqs, hs4, rfl, rfl⟩
  have loop : ∀ m j : Nat, j + m = n → ∀ can : Int32, (can = 0 ∨ can = 1) → (can = 1 ↔ E 3 0 a = 0 ∧ ∀ i, i < j → agK E a k (nI q) (nI s) i) → l_L_scenes_469 n np post a4 a5 (m + 1) (nI a) (nI k) (nI q) (nI s) can (nI j) μ := by
    intro m
    induction m with
    | zero =>
      intro j hj can hc hiff
      have e : j = n := by omega
      subst e
      show lb_L_scenes_469 j np post _ _ _ _ _ _ _ _ _ _
      unfold lb_L_scenes_469
      simp only [tc0]
      rw [h.r22, a0]
      refine ⟨fun _ => s_uses h (fun a2 p2 ha2 hp2 ea ep _ e3 hag F v r hF fo f6 f7 hr => ?_) (fun a2 p2 ha2 hp2 ea ep _ hno => ?_) (fun _ _ w => absurd hval w) (fun w => absurd ⟨⟨a, ha, rfl⟩, ⟨k, hk, rfl⟩⟩ w), fun c => absurd (Int32.le_refl _) c⟩
      · have ea' := (nI_eq (by omega) (by omega)).mp ea
        have ep' := (nI_eq (by omega) (by omega)).mp ep
        subst ea'
        subst ep'
        have c1 : can = 1 := hiff.mpr ⟨e3, hag⟩
        have hne : ¬ nI q = -1 := nI_neg1 (by omega)
        have hlF : LI j np t (zst F 23 0 (5 * a + k) ((1 + nI q) + 8 * nI s)) := by
          have zo : ∀ f, f ≠ 23 → zst F 23 0 (5 * a + k) ((1 + nI q) + 8 * nI s) f = F f := fun f hf => zst_o hf
          refine ⟨?_, ?_, ?_, ?_, fun b p hb hp5 => ?_, fun i hi => ?_, ⟨fun b p hb hp5 w => ?_, fun b c p hbc hcn hp5 w1 w2 w3 w4 => ?_⟩, fun b hb w => ?_⟩
          · rw [zo 22 (by omega), fo 22 (by omega) (by omega)]; exact a0
          · rw [zo 22 (by omega), fo 22 (by omega) (by omega)]; exact a1
          · rw [zo 22 (by omega), fo 22 (by omega) (by omega)]; exact a2
          · rw [zo 22 (by omega), fo 22 (by omega) (by omega), zo 0 (by omega), fo 0 (by omega) (by omega)]; exact a3
          · have ez : zst F 23 0 (5 * a + k) ((1 + nI q) + 8 * nI s) 23 0 (5 * b + p) = if 5 * b + p = 5 * a + k then (1 + nI q) + 8 * nI s else E 23 0 (5 * b + p) := by
              rw [zst_ap, fo 23 (by omega) (by omega)]
              by_cases c : 5 * b + p = 5 * a + k <;> simp [c]
            rw [ez]
            by_cases c : 5 * b + p = 5 * a + k
            · rw [if_pos c, if_pos (show b < j by omega)]
              unfold uvl
              rw [zo 6 (by omega), zo 7 (by omega), f6, f7, if_pos c, if_pos c, if_neg hne]
            · rw [if_neg c, au b p hb hp5]
              have eu : uvl (zst F 23 0 (5 * a + k) ((1 + nI q) + 8 * nI s)) (5 * b + p) = uvl E (5 * b + p) := by
                unfold uvl
                rw [zo 6 (by omega), zo 7 (by omega), f6, f7, if_neg c, if_neg c]
              rw [eu]
          · rw [zo 24 (by omega), fo 24 (by omega) (by omega), zo 13 (by omega), fo 13 (by omega) (by omega)]; exact av i hi
          · rw [zo 6 (by omega), f6] at w ⊢
            rw [zo 7 (by omega), f7]
            by_cases c : 5 * b + p = 5 * a + k
            · rw [if_pos c, if_pos c]
              exact hval
            · rw [if_neg c] at w ⊢
              rw [if_neg c]
              exact af.1 b p hb hp5 w
          · rw [zo 6 (by omega), f6] at w3 w4 ⊢
            rw [zo 3 (by omega), fo 3 (by omega) (by omega)] at w1 w2
            rw [zo 7 (by omega), f7]
            by_cases cb : 5 * b + p = 5 * a + k
            · have eb : b = a := by omega
              have epk : p = k := by omega
              subst eb
              subst epk
              rw [if_pos rfl]
              rw [if_neg (show ¬ 5 * c + p = 5 * b + p by omega)] at w4 ⊢
              exact (hag c hcn (by omega) w2 w4).2 hbc
            · rw [if_neg cb] at w3 ⊢
              by_cases cc : 5 * c + p = 5 * a + k
              · have ec : c = a := by omega
                have epk : p = k := by omega
                subst ec
                subst epk
                rw [if_pos rfl]
                exact (hag b (by omega) (by omega) w1 w3).1 hbc
              · rw [if_neg cc] at w4 ⊢
                exact af.2 b c p hbc hcn hp5 w1 w2 w3 w4
          · rw [zo 3 (by omega), fo 3 (by omega) (by omega)] at w
            rw [zo 4 (by omega), fo 4 (by omega) (by omega)]
            exact ash b hb w
        refine ⟨fun c => absurd (c1.symm.trans c) z10, fun _ => L_scenes_603 hF ha hk (ix5 a k) ⟨fun c => absurd (c1.symm.trans c) z10, fun _ => hr⟩ hlF hp⟩
      · have c0 : can = 0 := by
          refine hc.resolve_right (fun w => ?_)
          have ea' := (nI_eq (by omega) (by omega)).mp ea
          have ep' := (nI_eq (by omega) (by omega)).mp ep
          subst ea'
          subst ep'
          obtain ⟨w1, w2⟩ := hiff.mp w
          rcases hno with q | q
          · exact q w1
          · exact q w2
        rw [ix5, cl (by omega)]
        have ez : zst E 23 0 (5 * a + k) (μ 23 0 (5 * a + k)) = E := by
          rw [h.r23]
          exact zst_self E 23 0 _
        exact ⟨fun _ => ⟨vin (by omega) (by omega), L_scenes_603 h ha hk rfl ⟨fun _ => rfl, fun c => absurd c0 c⟩ (by rw [ez]; exact hl) hp⟩, fun c => absurd c0 c⟩
    | succ m ih =>
      intro j hj can hc hiff
      show lb_L_scenes_469 n np post (l_L_scenes_469 n np post a4 a5 (m + 1)) _ _ _ _ _ _ _ _ _
      unfold lb_L_scenes_469
      simp only [tc0]
      rw [h.r22, a0]
      have hjn : j < n := by omega
      have hsplit : (∀ i, i < j + 1 → agK E a k (nI q) (nI s) i) ↔ (∀ i, i < j → agK E a k (nI q) (nI s) i) ∧ agK E a k (nI q) (nI s) j := by
        constructor
        · intro w
          exact ⟨fun i hi => w i (by omega), w j (by omega)⟩
        · intro w i hi
          by_cases c : i = j
          · subst c; exact w.2
          · exact w.1 i (by omega)
      have n0 : ¬ (E 3 0 a = 0 ∧ (∀ i, i < j → agK E a k (nI q) (nI s) i) ∧ agK E a k (nI q) (nI s) j) → b_L_scenes_545 n np post (l_L_scenes_469 n np post a4 a5 (m + 1)) a4 a5 (nI a) (nI k) (nI q) (nI s) (nI j) μ := by
        intro w
        unfold b_L_scenes_545 b_L_scenes_546
        rw [nI_s1]
        exact ih (j + 1) (by omega) 0 (Or.inl rfl) ⟨fun e => absurd e (by decide), fun e => absurd ⟨e.1, hsplit.mp e.2⟩ w⟩
      have n1 : (E 3 0 a = 0 ∧ (∀ i, i < j → agK E a k (nI q) (nI s) i) ∧ agK E a k (nI q) (nI s) j) → b_L_scenes_541 n np post (l_L_scenes_469 n np post a4 a5 (m + 1)) a4 a5 (nI a) (nI k) (nI q) (nI s) (nI j) μ := by
        intro w
        unfold b_L_scenes_541 b_L_scenes_546
        rw [nI_s1]
        exact ih (j + 1) (by omega) 1 (Or.inr rfl) ⟨fun _ => ⟨w.1, hsplit.mpr w.2⟩, fun _ => rfl⟩
      have was : ¬ can = 0 → E 3 0 a = 0 ∧ ∀ i, i < j → agK E a k (nI q) (nI s) i := fun w => hiff.mp (hc.resolve_left w)
      have not0 : can = 0 → ¬ (E 3 0 a = 0 ∧ (∀ i, i < j → agK E a k (nI q) (nI s) i) ∧ agK E a k (nI q) (nI s) j) := by
        intro c w
        have := hiff.mpr ⟨w.1, w.2.1⟩
        rw [c] at this
        exact absurd this (by decide)
      refine ⟨fun c => absurd ((nI_leI (by omega) (by omega)).mp c) (by omega), fun _ => ⟨fun c => s_use h hl hjn hk ?_, fun c => ?_⟩⟩
      · have hja : j ≠ a := fun w => c (by rw [w])
        unfold b_L_scenes_497
        refine ⟨fun c0 => n0 (not0 c0), fun c0 => ?_⟩
        obtain ⟨w1, w2⟩ := was c0
        by_cases e3 : E 3 0 j = 2
        · rw [if_pos e3]
          exact ⟨fun _ => n1 ⟨w1, w2, fun _ x _ => absurd e3 x⟩, fun x => absurd rfl x⟩
        · rw [if_neg e3]
          by_cases e6 : E 6 0 (5 * j + k) = -1
          · have eu : uvl E (5 * j + k) = 0 := by
              unfold uvl
              rw [if_pos e6]
            exact ⟨fun _ => n1 ⟨w1, w2, fun _ _ x => absurd e6 x⟩, fun x => absurd eu x⟩
          · obtain ⟨q', s', r1, r2, x1, x2, x3, x4, x5, x6⟩ := uvl_val af hjn hk e6
            rw [x5, x4]
            refine ⟨fun x => absurd (by rw [x]; exact Int32.le_refl _) x6, fun _ => ⟨fun c1 => ?_, fun c1 => ?_⟩⟩
            · have haj : a < j := by
                have := (nI_leI (by omega) (by omega)).mp c1
                omega
              refine ⟨fun c2 => n0 (fun w => ?_), fun c2 => n1 ⟨w1, w2, fun _ _ _ => ⟨fun x => by omega, fun _ => by rw [x1]; exact c2⟩⟩⟩
              have := (w.2.2 hja e3 e6).2 haj
              rw [x1] at this
              exact this c2
            · have haj : j < a := by
                rcases Nat.lt_or_ge j a with w | w
                · exact w
                · exact absurd (nI_le w (by omega)) c1
              refine ⟨fun c2 => n0 (fun w => ?_), fun c2 => n1 ⟨w1, w2, fun _ _ _ => ⟨fun _ => by rw [x2]; exact c2, fun x => by omega⟩⟩⟩
              have := (w.2.2 hja e3 e6).1 haj
              rw [x2] at this
              exact this c2
      · have hja : j = a := (nI_eq (by omega) (by omega)).mp c
        unfold b_L_scenes_497
        refine ⟨fun c0 => n0 (not0 c0), fun c0 => ?_⟩
        obtain ⟨w1, w2⟩ := was c0
        exact ⟨fun _ => n1 ⟨w1, w2, fun x => absurd hja x⟩, fun x => absurd rfl x⟩
  refine ⟨n + 1, by omega, loop n 0 (by omega) v6 h01 ⟨fun w => ⟨?_, fun i hi => absurd hi (Nat.not_lt_zero i)⟩, fun w => ?_⟩⟩
  · refine Classical.byContradiction (fun x => ?_)
    have := h0.mpr x
    rw [w] at this
    exact z10 this
  · exact h01.resolve_left (fun x => h0.mp x w.1)
theorem L_scenes {post : Int32 → Nat → Nat → Mem → Prop} (h : Jv n np t E μ) (hl : LI n np t E) (hp : ∀ n' E' v, Jv n' np t E' v → LI n' np t E' → post 1 n' np v) {a4 a5 : Int32} : w_L_scenes n np post a4 a5 μ := by
  have hn := h.n10
  obtain ⟨a0, a1, a2, a3, -⟩ := id hl
  unfold w_L_scenes
  simp only [tc0]
  rw [h.r22, a0]
  refine ⟨fun _ => L_scenes_15 h hl hp, fun c => ?_⟩
  have hn2 : 2 ≤ n := by
    rcases Nat.lt_or_ge n 2 with w | w
    · exact absurd (nI_lt (b := 2) w (by omega)) c
    · exact w
  refine s_low (m := 5) rfl (by omega) (by omega) (fun k5 hk5 => ⟨fun _ => ?_, fun _ => L_scenes_15 h hl hp⟩)
  rw [h.r22, a0]
  have hpp : ∀ E' v, Jv n np t E' v → LI n np t E' → post 1 n np v := hp n
  refine s_low rfl (by omega) (by omega) (fun a ha => a_stateOf h ha rfl ?_)
  have go : ∀ s0 : Int32, (s0 = 0 ∨ s0 = 1) → (s0 = 0 ↔ ¬ E 3 0 a = 0) → b_L_scenes_217 n np post a4 a5 (nI a) s0 μ := by
    intro s0 h01 h0
    unfold b_L_scenes_217
    refine s_low (m := 5) rfl (by omega) (by omega) (fun k hk => s_low (m := 3) rfl (by omega) (by omega) (fun x hx => ⟨fun _ => s_low (m := 3) rfl (by omega) (by omega) (fun y hy => ⟨fun _ => L_scenes_436 h hl ha hk h0 h01 hpp, fun _ => s_low (m := 5) rfl (by omega) (by omega) (fun z hz => ⟨fun _ => L_scenes_436 h hl ha hk h0 h01 hpp, fun _ => L_scenes_cut h hl ha h0 hpp⟩)⟩), fun _ => s_low (m := 22) rfl (by omega) (by omega) (fun b hb => L_scenes_plays h hl ha hk hb h0 hpp)⟩))
  exact ⟨fun c2 => go 0 (Or.inl rfl) ⟨fun _ => c2, fun _ => rfl⟩, fun c2 => go 1 (Or.inr rfl) ⟨fun w => absurd w z10, fun w => absurd c2 w⟩⟩
end SCNS2
