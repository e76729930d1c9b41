section ENDS2
variable {n np t : Nat} {E μ : Mem}
theorem L_ends_126 {post : Int32 → Mem → Prop} {v2 v3 v4 v5 v6 v7 s0 s1 : Int32} (h : Jv n np t E μ) (g2 : E 22 0 2 = nI t) (hs : s0 = s1) (hg : ¬ 0 ≤ v7 → (20 ≤ v6 → E 15 0 0 = 20) ∧ (¬ 20 ≤ v6 → E 15 0 0 = v6 + 1)) (fin : b_L_ends_168 n np post v2 v3 v4 v5 v7 μ) : b_L_ends_126 n np post v2 v3 v4 v5 v6 v7 s0 s1 μ := by
  unfold b_L_ends_126
  simp only [tc2]
  refine ⟨fun c => absurd hs c, fun _ => s_today h ⟨fun c => absurd ?_ c, fun _ => ⟨fun _ => fin, fun c => a_growth h (k := 0) (by omega) rfl ⟨fun c2 => ?_, fun c2 => ?_⟩⟩⟩⟩
  · rw [h.r22, g2]
  · unfold b_L_ends_165
    exact ⟨fun c3 => absurd ((hg c).1 c2) c3, fun _ => fin⟩
  · unfold b_L_ends_165
    exact ⟨fun c3 => absurd ((hg c).2 c2) c3, fun _ => fin⟩
/-- the law's row g behind a day -/
def dy2 (t : Nat) (F : Mem) : Mem := zst F 22 0 2 (nI (t + 1))
theorem dy2_o {F : Mem} {f : Nat} (h : f ≠ 22) : dy2 t F f = F f := zst_o h
theorem dy2_22 {F : Mem} (k : Nat) : dy2 t F 22 0 k = if k = 2 then nI (t + 1) else F 22 0 k := by
  unfold dy2
  rw [zst_ap]
  by_cases c : k = 2 <;> simp [c]
theorem dy3_LI {x1 x2 : Int32} {s3 d4 p8 G : Nat → Int32} {C : Nat → Nat → Int32} {F : Mem} (hF : F = dyF t E x1 x2 s3 d4 p8 G C) (hl : LI n np t E) {E3 : Mem} (e22 : ∀ k, E3 22 0 k = if k = 3 then x1 else dy2 t F 22 0 k) (eo : ∀ f, f ≠ 22 → E3 f = F f) (hs : ∀ k, k < n → ¬ s3 k = 2 → ¬ E 3 0 k = 2) (hd : ∀ a, a < n → s3 a = 1 → ∃ d, d < t + 1 ∧ d4 a = nI d) : LI n np (t + 1) E3 := by
  obtain ⟨a0, a1, a2, a3, -⟩ := id hl
  have fo : ∀ f, f ≠ 0 → f ≠ 3 → f ≠ 4 → f ≠ 8 → f ≠ 15 → f ≠ 16 → F f = E f := fun f h0 h3 h4 h8 h15 h16 => by rw [hF, dyF_o h0 h3 h4 h8 h15 h16]
  have f22 : F 22 = E 22 := fo 22 (by omega) (by omega) (by omega) (by omega) (by omega) (by omega)
  refine LI_day hl ?_ ?_ ?_ ?_ (by rw [eo 23 (by omega), fo 23 (by omega) (by omega) (by omega) (by omega) (by omega) (by omega)]) (by rw [eo 24 (by omega), fo 24 (by omega) (by omega) (by omega) (by omega) (by omega) (by omega)]) (by rw [eo 13 (by omega), fo 13 (by omega) (by omega) (by omega) (by omega) (by omega) (by omega)]) (by rw [eo 6 (by omega), fo 6 (by omega) (by omega) (by omega) (by omega) (by omega) (by omega)]) (by rw [eo 7 (by omega), fo 7 (by omega) (by omega) (by omega) (by omega) (by omega) (by omega)]) ?_ ?_
  · rw [e22, if_neg (by omega), dy2_22, if_neg (by omega), f22]; exact a0
  · rw [e22, if_neg (by omega), dy2_22, if_neg (by omega), f22]; exact a1
  · rw [e22, if_neg (by omega), dy2_22, if_pos rfl]
  · rw [e22, if_pos rfl, eo 0 (by omega), hF, dyF_01]
  · rw [eo 3 (by omega), hF, dyF_3]; exact hs
  · rw [eo 3 (by omega), eo 4 (by omega), hF, dyF_3, dyF_4]; exact hd
theorem L_ends_94 {post : Int32 → Mem → Prop} {v2 v3 v4 v5 : Int32} (h : Jv n np t E μ) (hl : LI n np t E) (ht : t < 30) (h2 : v2 = costF E np t (E 8 0)) (h3 : v3 = E 8 0 t) (h5 : v5 = nI (ffd (E 8 0) (29 - t) (t + 1))) (hc : (v4 = 0 ∧ (E 8 0 t = -1 ∨ ∃ a, a < n ∧ E 8 0 t = nI a ∧ al E np a t)) ∨ (v4 = 1 ∧ ∃ a, a < n ∧ E 8 0 t = nI a ∧ ¬ al E np a t)) (hp : ∀ E' v, Jv n np (t + 1) E' v → LI n np (t + 1) E' → post 1 v) : b_L_ends_94 n np post v2 v3 v4 v5 μ := by
  have hn := h.n10
  have hpl := h.pl
  obtain ⟨a0, a1, a2, a3, a4, a5, a6, a7⟩ := id hl
  obtain ⟨y, hy, ey⟩ := h.g 0 (by omega)
  unfold b_L_ends_94
  simp only [tc2]
  refine a_growth h (k := 0) (by omega) rfl ?_
  rw [ey]
  -- what is common: the law writes its row
  have row : ∀ (F v : Mem) (r : Int32), Jv n np (t + 1) F v → F 22 = E 22 → ∀ (Q : Mem → Prop), (∀ w, Jv n np (t + 1) (dy2 t F) w → Q w) → ∀ w : Mem, w = zst v 22 0 2 (v 22 0 2 + 1) → Q w := by
    intro F v r hv f22 Q hQ w ew
    rw [hv.r22, f22, a2, nI_s1] at ew
    refine hQ w ?_
    rw [ew]
    exact hv.row ⟨by omega, by omega⟩ _
  have f22 : ∀ (x1 x2 : Int32) (s3 d4 p8 G : Nat → Int32) (C : Nat → Nat → Int32), dyF t E x1 x2 s3 d4 p8 G C 22 = E 22 := fun x1 x2 s3 d4 p8 G C => dyF_o (by omega) (by omega) (by omega) (by omega) (by omega) (by omega)
  have hgr : ∀ (x1 x2 : Int32) (s3 d4 p8 : Nat → Int32) (C : Nat → Nat → Int32) (v7 : Int32), ¬ 0 ≤ v7 → (20 ≤ nI y → dy2 t (dyF t E x1 x2 s3 d4 p8 (E 15 0) C) 15 0 0 = 20) ∧ (¬ 20 ≤ nI y → dy2 t (dyF t E x1 x2 s3 d4 p8 (E 15 0) C) 15 0 0 = nI y + 1) := by
    intro x1 x2 s3 d4 p8 C v7 _
    rw [dy2_o (by omega), dyF_15]
    show (20 ≤ nI y → g1 (E 15 0 0) = 20) ∧ (¬ 20 ≤ nI y → g1 (E 15 0 0) = nI y + 1)
    rw [ey]
    exact g1_eq y hy
  have z22 : ∀ (F : Mem) (x : Int32) (k : Nat), zst (dy2 t F) 22 0 3 x 22 0 k = if k = 3 then x else dy2 t F 22 0 k := by
    intro F x k
    rw [zst_ap]
    by_cases c : k = 3 <;> simp [c]
  have cst : ∀ (F : Mem) (Q : Nat → Int32), costF (dy2 t F) np (t + 1) Q = costF F np (t + 1) Q := fun F Q => costF_of (by rw [dy2_o (by omega)]) (fun f _ _ _ _ _ => by rw [dy2_o (by omega)])
  have no4 : v4 = 1 → ¬ v4 = 0 := fun q w => by rw [q] at w; exact absurd w z10
  refine s_shoot h (fun _ e v hv => ?_) (fun _ a ha e hal v hv => ?_) (fun _ a ha e hal hff v hv => ?_) (fun _ a ha e hal d ed hd v hv => ?_) (fun q => by omega)
  · -- no scene
    have e4 : v4 = 0 := by
      rcases hc with ⟨w, -⟩ | ⟨-, b, hb, w, -⟩
      · exact w
      · rw [e] at w
        exact absurd w.symm (nI_neg1 (by omega))
    refine row _ v (-1) hv (f22 _ _ _ _ _ _ _) _ (fun w hw => ⟨fun _ => ?_, fun c => absurd e4 c⟩)
    rw [e4]
    refine L_ends_126 hw (by rw [dy2_22, if_pos rfl]) (by rw [h3, e]) (hgr _ _ _ _ _ _ _) ?_
    refine L_ends_173 hw (by omega) ?_ (by rw [dy2_22, if_pos rfl]) ?_ (Or.inl rfl) hp
    · rw [cst, dy2_o (by omega), dy2_o (by omega), dyF_8, cost_next h ht (fun d _ _ => rfl), dyF_01, dy2_22, if_neg (by omega), f22, a3, h2, cost_A h ht e]
    · rw [dy2_o (by omega), dyF_01]
      exact dy3_LI rfl hl (z22 _ _) (fun f hf => by rw [zst_o hf, dy2_o hf]) (fun k _ q => q) (fun b hb q => by obtain ⟨d, d1, d2⟩ := a7 b hb q; exact ⟨d, by omega, d2⟩)
  · -- a scene is shot
    have e4 : v4 = 0 := by
      rcases hc with ⟨w, -⟩ | ⟨-, b, hb, w, w2⟩
      · exact w
      · rw [e] at w
        have := (nI_eq (by omega) (by omega)).mp w
        subst this
        exact absurd hal w2
    refine row _ v (nI a) hv (f22 _ _ _ _ _ _ _) _ (fun w hw => ⟨fun _ => ?_, fun c => absurd e4 c⟩)
    rw [e4]
    have e34 := hpl.2.2.2.1 t a ht ha e
    refine L_ends_126 hw (by rw [dy2_22, if_pos rfl]) (by rw [h3, e]) (fun q => absurd (nI_le (a := 0) (Nat.zero_le a) (by omega)) q) ?_
    refine L_ends_173 hw (by omega) ?_ (by rw [dy2_22, if_pos rfl]) ?_ (Or.inr ⟨a, ha, rfl, ?_, ?_⟩) hp
    · rw [cst, dy2_o (by omega), dy2_o (by omega), dyF_8, cost_next h ht (fun d h1 _ => by unfold upd; rw [if_neg (by omega)]), dyF_01, dy2_22, if_neg (by omega), f22, a3, h2, cost_B h ht ha e hal, Int32.add_assoc]
    · rw [dy2_o (by omega), dyF_01]
      refine dy3_LI rfl hl (z22 _ _) (fun f hf => by rw [zst_o hf, dy2_o hf]) (fun k _ q => ?_) (fun b hb q => ?_)
      · unfold upd at q
        by_cases w : k = a
        · rw [w, e34.1]; decide
        · rw [if_neg w] at q
          exact q
      · by_cases w : b = a
        · exact ⟨t, by omega, by rw [w]; exact e34.2⟩
        · unfold upd at q
          rw [if_neg w] at q
          obtain ⟨d, d1, d2⟩ := a7 b hb q
          exact ⟨d, by omega, d2⟩
    · rw [dy2_o (by omega), dyF_3]
      unfold upd
      rw [if_pos rfl]
    · rw [dy2_o (by omega), dyF_4]
      exact e34.2
  · -- refused, and no day is free
    have e4 : v4 = 1 := by
      rcases hc with ⟨-, w⟩ | ⟨w, -⟩
      · rcases w with w | ⟨b, hb, w, w2⟩
        · rw [e] at w
          exact absurd w (nI_neg1 (by omega))
        · rw [e] at w
          have := (nI_eq (by omega) (by omega)).mp w
          subst this
          exact absurd w2 hal
      · exact w
    refine row _ v (-1) hv (f22 _ _ _ _ _ _ _) _ (fun w hw => ⟨fun c => absurd c (no4 e4), fun _ => ?_⟩)
    rw [e4, h5, hff]
    refine L_ends_126 hw (by rw [dy2_22, if_pos rfl]) rfl (hgr _ _ _ _ _ _ _) ?_
    refine L_ends_173r (a := a) hw ?_ ?_ ha (by rw [h3, e]) (Nat.le_refl 30) (fun _ => ?_) (fun q => by omega) hp
    · rw [dy2_22, if_neg (by omega), f22, a3, dy2_o (by omega), dyF_01]
    · refine dy3_LI rfl hl (fun k => ?_) (fun f hf => dy2_o hf) (fun k _ q => ?_) (fun b hb q => ?_)
      · by_cases c : k = 3
        · rw [if_pos c, dy2_22, c, if_neg (by omega), f22, a3]
        · rw [if_neg c]
      · unfold upd at q
        by_cases w : k = a
        · rw [if_pos w] at q
          exact absurd rfl q
        · rw [if_neg w] at q
          exact q
      · unfold upd at q
        by_cases w : b = a
        · rw [if_pos w] at q
          exact absurd q (by decide)
        · rw [if_neg w] at q
          obtain ⟨d, d1, d2⟩ := a7 b hb q
          exact ⟨d, by omega, d2⟩
    · rw [dy2_o (by omega), dyF_3]
      unfold upd
      rw [if_pos rfl]
  · -- refused, and put off
    have e4 : v4 = 1 := by
      rcases hc with ⟨-, w⟩ | ⟨w, -⟩
      · rcases w with w | ⟨b, hb, w, w2⟩
        · rw [e] at w
          exact absurd w (nI_neg1 (by omega))
        · rw [e] at w
          have := (nI_eq (by omega) (by omega)).mp w
          subst this
          exact absurd w2 hal
      · exact w
    have e34 := hpl.2.2.2.1 t a ht ha e
    refine row _ v (-1) hv (f22 _ _ _ _ _ _ _) _ (fun w hw => ⟨fun c => absurd c (no4 e4), fun _ => ?_⟩)
    rw [e4, h5, ← ed]
    refine L_ends_126 hw (by rw [dy2_22, if_pos rfl]) rfl (hgr _ _ _ _ _ _ _) ?_
    refine L_ends_173r (a := a) hw ?_ ?_ ha (by rw [h3, e]) (by omega) (fun q => by omega) (fun _ => ⟨?_, ?_, ?_⟩) hp
    · rw [dy2_22, if_neg (by omega), f22, a3, dy2_o (by omega), dyF_01]
    · refine dy3_LI rfl hl (fun k => ?_) (fun f hf => dy2_o hf) (fun k _ q => q) (fun b hb q => ?_)
      · by_cases c : k = 3
        · rw [if_pos c, dy2_22, c, if_neg (by omega), f22, a3]
        · rw [if_neg c]
      · obtain ⟨d2, d1, d3⟩ := a7 b hb q
        refine ⟨d2, by omega, ?_⟩
        unfold upd
        rw [if_neg (fun w => by rw [w, e34.1] at q; exact absurd q (by decide))]
        exact d3
    · rw [dy2_o (by omega), dyF_3]
      exact e34.1
    · rw [dy2_o (by omega), dyF_4]
      unfold upd
      rw [if_pos rfl]
    · rw [dy2_o (by omega), dyF_8]
      unfold upd
      rw [if_pos rfl]
theorem L_ends {post : Int32 → Mem → Prop} (h : Jv n np t E μ) (hl : LI n np t E) (hp : ∀ t' E' v, Jv n np t' E' v → LI n np t' E' → post 1 v) : w_L_ends n np post μ := by
  have hn := h.n10
  have ht := h.t30
  have hpl := h.pl
  obtain ⟨a0, a1, a2, a3, -⟩ := id hl
  unfold w_L_ends
  simp only [tc2]
  rw [h.r22, a2]
  refine ⟨fun c => ?_, fun c => ?_⟩
  · have ht30 : t < 30 := by
      rcases Nat.lt_or_ge t 30 with w | w
      · exact w
      · exact absurd (show nI t = 30 by rw [show t = 30 by omega]; rfl) c
    have free : ∀ (v3 v4 : Int32) (u : Mem), Jv n np t E u → v3 = E 8 0 t → ((v4 = 0 ∧ (E 8 0 t = -1 ∨ ∃ a, a < n ∧ E 8 0 t = nI a ∧ al E np a t)) ∨ (v4 = 1 ∧ ∃ a, a < n ∧ E 8 0 t = nI a ∧ ¬ al E np a t)) → b_L_ends_63 n np post (costF E np t (E 8 0)) v3 v4 u := by
      intro v3 v4 u hu h3 hc
      unfold b_L_ends_63
      simp only [tc2]
      rw [hu.r22, a2, nI_s1]
      obtain ⟨FD, eFD⟩ : ∃ z, z = ffd (E 8 0) (29 - t) (t + 1) := ⟨_, rfl⟩
      have loop : ∀ m d : Nat, d + m = 30 → t + 1 ≤ d → FD = ffd (E 8 0) m d → l_L_ends_72 n np post (m + 1) (costF E np t (E 8 0)) v3 v4 (nI d) u := by
        intro m
        induction m with
        | zero =>
          intro d hd _ hf
          have e : d = 30 := by omega
          subst e
          show lb_L_ends_72 n np post _ _ _ _ _ _
          unfold lb_L_ends_72
          exact ⟨fun _ => L_ends_94 hu hl ht30 rfl h3 (by rw [← eFD, hf]; rfl) hc (hp (t + 1)), fun c => absurd (by decide) c⟩
        | succ m ih =>
          intro d hd htd hf
          show lb_L_ends_72 n np post (l_L_ends_72 n np post (m + 1)) _ _ _ _ _
          unfold lb_L_ends_72
          rw [nI_s1]
          unfold ffd at hf
          refine ⟨fun c => absurd ((le30 (k := d) (by omega)).mp c) (by omega), fun _ => a_sceneOn hu (by omega) rfl ⟨fun c => ?_, fun c => ?_⟩⟩
          · rcases hpl.2.1 d (by omega) with e | ⟨b, hb, e⟩
            · rw [if_pos e] at hf
              exact L_ends_94 hu hl ht30 rfl h3 (by rw [← eFD, hf]) hc (hp (t + 1))
            · rw [e] at c
              exact absurd c (pos (by omega))
          · rw [if_neg (fun q => c (by rw [q]; exact neg1))] at hf
            exact ih (d + 1) (by omega) (by omega) hf
      exact ⟨29 - t + 1, by omega, loop (29 - t) (t + 1) (by omega) (Nat.le_refl _) eFD⟩
    refine s_cost h (fun u hu => ?_)
    rw [hu.r22, a2]
    refine a_sceneOn hu ht30 rfl ⟨fun c2 => ?_, fun c2 => ?_⟩
    · unfold b_L_ends_62
      refine free _ _ u hu rfl (Or.inl ⟨rfl, Or.inl ?_⟩)
      rcases hpl.2.1 t ht30 with e | ⟨b, hb, e⟩
      · exact e
      · rw [e] at c2
        exact absurd c2 (pos (by omega))
    · rcases hpl.2.1 t ht30 with e | ⟨b, hb, e⟩
      · rw [e] at c2
        exact absurd neg1 c2
      · rw [hu.r22, a2]
        exact a_isAllowed hu hb ht30 e rfl (fun q => ⟨fun _ => free _ _ u hu rfl (Or.inl ⟨rfl, Or.inr ⟨b, hb, e, q⟩⟩), fun c3 => absurd c3 z10⟩) (fun q => ⟨fun c3 => absurd rfl c3, fun _ => free _ _ u hu rfl (Or.inr ⟨rfl, b, hb, e, q⟩)⟩)
  · have e : t = 30 := (nI_eq (a := t) (b := 30) (by omega) (by omega)).mp c
    subst e
    exact s_shoot h (fun q => by omega) (fun q => by omega) (fun q => by omega) (fun q => by omega) (fun _ => ⟨fun c => absurd rfl c, fun _ => s_cost h (fun u hu => ⟨fun c => absurd rfl c, fun _ => hp 30 E u hu hl⟩)⟩)
end ENDS2
