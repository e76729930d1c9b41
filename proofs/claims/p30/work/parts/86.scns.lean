/-! scenes -/
section SCNS
variable {n np t : Nat} {E μ : Mem}
theorem LI_gen {n' t' : Nat} {F : Mem} (hl : LI n np t E) (hn : n' = n) (h0 : F 22 0 0 = nI n) (h1 : F 22 0 1 = nI np) (h2 : F 22 0 2 = nI t') (h3 : F 22 0 3 = F 0 0 1) (h23 : F 23 0 = E 23 0) (h24 : F 24 0 = E 24 0) (h13 : F 13 0 = E 13 0) (h6 : F 6 0 = E 6 0) (h7 : F 7 0 = E 7 0) (hs : ∀ k, k < n → ¬ F 3 0 k = 2 → ¬ E 3 0 k = 2) (hd : ∀ a, a < n → F 3 0 a = 1 → ∃ d, d < t' ∧ F 4 0 a = nI d) : LI n np t' F := by
  obtain ⟨a0, a1, a2, a3, a4, a5, a6, a7⟩ := hl
  refine ⟨h0, h1, h2, h3, fun a p ha hp => ?_, fun k hk => by rw [h24, h13]; exact a5 k hk, ⟨fun a p ha hp q => ?_, fun a b p hab hb hp q1 q2 q3 q4 => ?_⟩, hd⟩
  · rw [h23]
    unfold uvl
    rw [h6, h7]
    exact a4 a p ha hp
  · rw [h6] at q ⊢
    rw [h7]
    exact a6.1 a p ha hp q
  · rw [h6] at q3 q4 ⊢
    rw [h7]
    exact a6.2 a b p hab hb hp (hs a (by omega) q1) (hs b hb q2) q3 q4
theorem L_scenes_163 {post : Int32 → Nat → Nat → Mem → Prop} {a4 a5 : Int32} (h : Jv n np t E μ) (hp : post 1 n np μ) : b_L_scenes_163 n np post a4 a5 μ := by
  unfold b_L_scenes_163
  have b1 : ¬ scArg 4 0 := fun q => q.2.1 (by decide)
  have b2 : ¬ scArg 0 10 := fun q => q.2.2.2 (by decide)
  refine s_scene h (fun q => absurd q b1) (fun q => absurd q b1) (fun _ => ?_)
  unfold b_L_scenes_169
  refine ⟨fun c => absurd rfl c, fun _ => s_scene h (fun q => absurd q b2) (fun q => absurd q b2) (fun _ => ?_)⟩
  unfold b_L_scenes_181
  exact ⟨fun c => absurd rfl c, fun _ => hp⟩
/-- a new scene, or none: due is what is due -/
theorem L_scenes_128 {post : Int32 → Nat → Nat → Mem → Prop} {a4 a5 v5 due s1 s2 : Int32} {D : Nat} (h : Jv n np t E μ) (hl : LI n np t E) (hD : D = max t (lpd (E 8 0) 30)) (h5 : v5 = nI D - 1) (hs1 : ∃ k, k < 4 ∧ s1 = nI k) (hs2 : ∃ k, k < 10 ∧ s2 = nI k) (hp : ∀ n' E' v, Jv n' np t E' v → LI n' np t E' → post 1 n' np v) {μ6 : Mem}
    (hc : (due = nI n ∧ n < 10 ∧ D < 30 ∧ μ6 = zst μ 22 0 0 (nI (n + 1))) ∨ (due = -1000003 ∧ (¬ n < 10 ∨ ¬ D < 30) ∧ μ6 = zst μ 22 0 0 (nI n))) : b_L_scenes_128 n np post a4 a5 v5 due s1 s2 μ6 := by
  obtain ⟨k1, hk1, e1⟩ := hs1
  obtain ⟨k2, hk2, e2⟩ := hs2
  obtain ⟨a0, a1, a2, a3, au, av, af, ash⟩ := id hl
  have hA : scArg s1 s2 := by
    rw [e1, e2]
    exact ⟨pos (by omega), nI_nlt (a := 3) (by omega) (by omega), pos (by omega), nI_nlt (a := 9) (by omega) (by omega)⟩
  unfold b_L_scenes_128
  rcases hc with ⟨ed, c1, c2, em⟩ | ⟨ed, c1, em⟩
  · have h6 : Jv n np t (zst E 22 0 0 (nI (n + 1))) μ6 := by rw [em]; exact h.row ⟨by omega, by omega⟩ _
    have zo : ∀ f, f ≠ 22 → zst E 22 0 0 (nI (n + 1)) f = E f := fun f hf => zst_o hf
    have z22 : ∀ k, zst E 22 0 0 (nI (n + 1)) 22 0 k = if k = 0 then nI (n + 1) else E 22 0 k := fun k => by
      rw [zst_ap]
      by_cases c : k = 0 <;> simp [c]
    refine s_scene h6 (fun _ _ D2 hD2 _ F v hF fo f0 f3 f4 f6 f7 => ?_) (fun _ q => ?_) (fun q => absurd hA q)
    · rw [zo 8 (by omega), ← hD] at hD2
      subst hD2
      have hlF : LI (n + 1) np t F := by
        refine ⟨?_, ?_, ?_, ?_, fun a p ha hp5 => ?_, fun k hk => ?_, ⟨fun a p ha hp5 q => ?_, fun a b p hab hb hp5 q1 q2 q3 q4 => ?_⟩, fun a ha q => ?_⟩
        · rw [fo 22 (by omega), z22, if_pos rfl]
        · rw [fo 22 (by omega), z22, if_neg (by omega)]; exact a1
        · rw [fo 22 (by omega), z22, if_neg (by omega)]; exact a2
        · rw [fo 22 (by omega), z22, if_neg (by omega), f0 1 (by omega), zo 0 (by omega)]; exact a3
        · rw [fo 23 (by omega), zo 23 (by omega), au a p ha hp5]
          by_cases c : a = n
          · have uF : uvl F (5 * a + p) = 0 := by
              unfold uvl
              rw [f6, if_pos (show 5 * n ≤ 5 * a + p ∧ 5 * a + p < 5 * n + 5 by omega), if_pos rfl]
            rw [if_neg (show ¬ a < n by omega), if_pos (show a < n + 1 by omega), uF]
          · have uF : uvl F (5 * a + p) = uvl E (5 * a + p) := by
              unfold uvl
              rw [f6, if_neg (show ¬ (5 * n ≤ 5 * a + p ∧ 5 * a + p < 5 * n + 5) by omega), f7, zo 6 (by omega), zo 7 (by omega)]
            rw [uF]
            by_cases c2 : a < n
            · rw [if_pos c2, if_pos (show a < n + 1 by omega)]
            · rw [if_neg c2, if_neg (show ¬ a < n + 1 by omega)]
        · rw [fo 24 (by omega), zo 24 (by omega), fo 13 (by omega), zo 13 (by omega)]; exact av k hk
        · rw [f6, zo 6 (by omega)] at q ⊢
          rw [f7, zo 7 (by omega)]
          by_cases c : 5 * n ≤ 5 * a + p ∧ 5 * a + p < 5 * n + 5
          · rw [if_pos c] at q
            exact absurd rfl q
          · rw [if_neg c] at q ⊢
            exact af.1 a p (by omega) hp5 q
        · rw [f6, zo 6 (by omega)] at q3 q4 ⊢
          rw [f7, zo 7 (by omega)]
          rw [f3, zo 3 (by omega)] at q1 q2
          by_cases c : b = n
          · rw [if_pos (show 5 * n ≤ 5 * b + p ∧ 5 * b + p < 5 * n + 5 by omega)] at q4
            exact absurd rfl q4
          · rw [if_neg (show ¬ (5 * n ≤ 5 * b + p ∧ 5 * b + p < 5 * n + 5) by omega)] at q4 ⊢
            rw [if_neg (show ¬ (5 * n ≤ 5 * a + p ∧ 5 * a + p < 5 * n + 5) by omega)] at q3
            rw [if_neg (by omega)] at q1 q2
            exact af.2 a b p hab (by omega) hp5 q1 q2 q3 q4
        · rw [f3, zo 3 (by omega)] at q
          rw [f4, zo 4 (by omega)]
          by_cases c : a = n
          · rw [if_pos c] at q
            exact absurd q (by decide)
          · rw [if_neg c] at q ⊢
            exact ash a (by omega) q
      unfold b_L_scenes_131
      rw [ed]
      refine ⟨fun c => absurd rfl c, fun _ => ⟨fun c => absurd c (pos (by omega)), fun _ => a_dayOf hF (by omega) rfl ⟨fun c => absurd ?_ c, fun _ => a_stateOf hF (by omega) rfl ⟨fun c => absurd ?_ c, fun _ => L_scenes_163 hF (hp _ F v hF hlF)⟩⟩⟩⟩
      · rw [f3, if_pos rfl, if_neg (by decide), f4, if_pos rfl, h5, Int32.sub_add_cancel]
      · rw [f3, if_pos rfl]
    · rw [zo 8 (by omega), ← hD] at q
      rcases q with q | q
      · exact absurd c1 q
      · exact absurd c2 q
  · have h6 : Jv n np t (zst E 22 0 0 (nI n)) μ6 := by rw [em]; exact h.row ⟨by omega, by omega⟩ _
    have zo : ∀ f, f ≠ 22 → zst E 22 0 0 (nI n) f = E f := fun f hf => zst_o hf
    have z22 : ∀ k, zst E 22 0 0 (nI n) 22 0 k = E 22 0 k := fun k => by
      rw [zst_ap]
      by_cases c : k = 0
      · rw [if_pos ⟨rfl, rfl, c⟩, c, a0]
      · rw [if_neg (fun q => c q.2.2)]
    have hl6 : LI n np t (zst E 22 0 0 (nI n)) := LI_mv hl (by rw [zo 0 (by omega)]) (by rw [zo 3 (by omega)]) (fun _ _ _ => by rw [zo 4 (by omega)]) (by rw [zo 6 (by omega)]) (by rw [zo 7 (by omega)]) (by rw [zo 13 (by omega)]) (fun k _ => z22 k) (by rw [zo 23 (by omega)]) (by rw [zo 24 (by omega)])
    refine s_scene h6 (fun _ w1 D2 hD2 w2 => ?_) (fun _ _ => ?_) (fun q => absurd hA q)
    · rw [zo 8 (by omega), ← hD] at hD2
      rcases c1 with c1 | c1
      · exact absurd w1 c1
      · omega
    · unfold b_L_scenes_131
      rw [ed]
      exact ⟨fun c => absurd rfl c, fun _ => ⟨fun _ => L_scenes_163 h6 (hp _ _ _ h6 hl6), fun c => absurd (by decide) c⟩⟩
theorem L_scenes_15 {post : Int32 → Nat → Nat → Mem → Prop} {a4 a5 : Int32} (h : Jv n np t E μ) (hl : LI n np t E) (hp : ∀ n' E' v, Jv n' np t E' v → LI n' np t E' → post 1 n' np v) : b_L_scenes_15 n np post a4 a5 μ := by
  have hn := h.n10
  have ht := h.t30
  have hpl := h.pl
  obtain ⟨a0, a1, a2, a3, -⟩ := id hl
  unfold b_L_scenes_15
  simp only [tc2]
  rw [h.r22, a2]
  obtain ⟨D, hD⟩ : ∃ D, D = max t (lpd (E 8 0) 30) := ⟨_, rfl⟩
  have hlp := lpd_le (E 8 0) 30
  have loop : ∀ m d : Nat, d + m = 30 → l_L_scenes_25 n np post a4 a5 (m + 1) (if lpd (E 8 0) d = 0 then nI t - 1 else nI (lpd (E 8 0) d - 1)) (nI d) μ := by
    intro m
    induction m with
    | zero =>
      intro d hd
      have e : d = 30 := by omega
      subst e
      have e5 : (if lpd (E 8 0) 30 = 0 then nI t - 1 else nI (lpd (E 8 0) 30 - 1)) = nI D - 1 := by
        by_cases c : lpd (E 8 0) 30 = 0
        · rw [if_pos c, hD, c, Nat.max_zero]
        · rw [if_neg c]
          have h1 : t ≤ lpd (E 8 0) 30 - 1 := by
            rcases Nat.lt_or_ge (lpd (E 8 0) 30 - 1) t with w | w
            · exact absurd (hpl.2.2.1 _ w) (lpd_on c)
            · exact w
          have h2 : D = (lpd (E 8 0) 30 - 1) + 1 := by omega
          rw [h2, nI_pred]
      rw [e5]
      show lb_L_scenes_25 n np post _ _ _ _ _ _
      unfold lb_L_scenes_25
      simp only [tc0]
      rw [h.r22, a0]
      -- the row is written, set and flames are drawn
      have draw : ∀ due : Int32, ((due = nI n ∧ n < 10 ∧ D < 30) ∨ (due = -1000003 ∧ (¬ n < 10 ∨ ¬ D < 30))) → b_L_scenes_79 n np post a4 a5 (nI D - 1) due μ := by
        intro due hdue
        unfold b_L_scenes_79 b_L_scenes_95
        simp only [tc0]
        rw [h.r22, a0]
        have in0 : vp_in (0 : Int32) 5 := vin (k := 0) (by omega) (by omega)
        have go : ∀ μ6 : Mem, ((due = nI n ∧ n < 10 ∧ D < 30 ∧ μ6 = zst μ 22 0 0 (nI (n + 1))) ∨ (due = -1000003 ∧ (¬ n < 10 ∨ ¬ D < 30) ∧ μ6 = zst μ 22 0 0 (nI n))) → w_L_low n np (fun (r8 : Int32) (μ7 : Mem) => (w_L_low n np (fun (r10 : Int32) (μ9 : Mem) => ((¬ r10 = 0 → b_L_scenes_128 n np post a4 a5 (nI D - 1) due r8 (0 : Int32) μ9) ∧ (r10 = 0 → (w_L_low n np (fun (r29 : Int32) (μ28 : Mem) => b_L_scenes_128 n np post a4 a5 (nI D - 1) due r8 r29 μ28) (a5 >>> (4 &&& 31)) (10 : Int32) μ9)))) (a5 >>> (2 &&& 31)) (3 : Int32) μ7)) a5 (4 : Int32) μ6 := fun μ6 hm => s_low (m := 4) rfl (by omega) (by omega) (fun k1 hk1 => s_low (m := 3) rfl (by omega) (by omega) (fun k2 hk2 => ⟨fun _ => L_scenes_128 h hl hD rfl ⟨k1, hk1, rfl⟩ ⟨0, by omega, rfl⟩ hp hm, fun _ => s_low (m := 10) rfl (by omega) (by omega) (fun k3 hk3 => L_scenes_128 h hl hD rfl ⟨k1, hk1, rfl⟩ ⟨k3, hk3, rfl⟩ hp hm)⟩))
        rcases hdue with ⟨e, c1, c2⟩ | ⟨e, c1⟩
        · refine ⟨fun _ => ⟨in0, fun μ6 em => go μ6 (Or.inl ⟨e, c1, c2, ?_⟩)⟩, fun c => absurd ?_ c⟩
          · rw [em, nI_s1]
          · rw [e]
            exact nI_le (a := 0) (Nat.zero_le n) (by omega)
        · refine ⟨fun c => absurd c ?_, fun _ => ⟨in0, fun μ6 em => go μ6 (Or.inr ⟨e, c1, ?_⟩)⟩⟩
          · rw [e]
            decide
          · rw [em, Int32.add_zero]
      refine ⟨fun _ => ⟨fun c => ?_, fun c => ⟨fun c2 => ?_, fun c2 => ?_⟩⟩, fun c => absurd (by decide) c⟩
      · have e : n = 10 := (nI_eq (a := n) (b := 10) (by omega) (by omega)).mp c
        unfold b_L_scenes_71
        exact draw _ (Or.inr ⟨rfl, Or.inl (by omega)⟩)
      · have hn10 : n < 10 := by
          rcases Nat.lt_or_ge n 10 with w | w
          · exact w
          · exact absurd (show nI n = 10 by rw [show n = 10 by omega]; rfl) c
        refine draw _ (Or.inl ⟨rfl, hn10, ?_⟩)
        rcases Nat.lt_or_ge D 30 with w | w
        · exact w
        · exact absurd (show nI D - 1 = 29 by rw [show D = 29 + 1 by omega, nI_pred]; rfl) c2
      · unfold b_L_scenes_71
        refine draw _ (Or.inr ⟨rfl, Or.inr ?_⟩)
        intro w
        cases D with
        | zero => exact absurd c2 (by decide)
        | succ k =>
          rw [nI_pred] at c2
          have := (nI_eq (a := k) (b := 29) (by omega) (by omega)).mp c2
          omega
    | succ m ih =>
      intro d hd
      show lb_L_scenes_25 n np post (l_L_scenes_25 n np post a4 a5 (m + 1)) _ _ _ _ _
      unfold lb_L_scenes_25 b_L_scenes_48
      rw [nI_s1]
      have ih3 := ih (d + 1) (by omega)
      refine ⟨fun c => absurd ((le30 (k := d) (by omega)).mp c) (by omega), fun _ => a_sceneOn h (by omega) rfl ⟨fun c => ?_, fun c => ?_⟩⟩
      · rcases hpl.2.1 d (by omega) with e | ⟨b, hb, e⟩
        · have : lpd (E 8 0) (d + 1) = lpd (E 8 0) d := by
            conv => lhs; unfold lpd
            rw [if_pos e]
          rw [this] at ih3
          exact ih3
        · rw [e] at c
          exact absurd c (pos (by omega))
      · have hne : ¬ E 8 0 d = -1 := fun q => c (by rw [q]; exact neg1)
        have : lpd (E 8 0) (d + 1) = d + 1 := by
          conv => lhs; unfold lpd
          rw [if_neg hne]
        rw [this, if_neg (by omega), show d + 1 - 1 = d by omega] at ih3
        exact ih3
  exact ⟨31, by omega, loop 30 0 rfl⟩
end SCNS
