/-! A DAY ENDS -/
/-- the ghost behind a day -/
def dyF (t : Nat) (E : Mem) (x1 x2 : Int32) (s3 d4 p8 G : Nat → Int32) (C : Nat → Nat → Int32) : Mem := fun f i k =>
  if f = 0 then (if k = 0 then nI (t + 1) else if k = 1 then x1 else if k = 2 then x2 else if k = 25 then 0 else E 0 i k)
  else if f = 3 then s3 k else if f = 4 then d4 k else if f = 8 then p8 k else if f = 15 then g1 (G k) else if f = 16 then C (k / 4) (k % 4) else E f i k
section DYF
variable {t : Nat} {E : Mem} {x1 x2 : Int32} {s3 d4 p8 G : Nat → Int32} {C : Nat → Nat → Int32}
theorem dyF_o {f : Nat} (h0 : f ≠ 0) (h3 : f ≠ 3) (h4 : f ≠ 4) (h8 : f ≠ 8) (h15 : f ≠ 15) (h16 : f ≠ 16) : dyF t E x1 x2 s3 d4 p8 G C f = E f := by
  funext i k
  unfold dyF
  rw [if_neg h0, if_neg h3, if_neg h4, if_neg h8, if_neg h15, if_neg h16]
theorem dyF_00 : dyF t E x1 x2 s3 d4 p8 G C 0 0 0 = nI (t + 1) := rfl
theorem dyF_01 : dyF t E x1 x2 s3 d4 p8 G C 0 0 1 = x1 := rfl
theorem dyF_02 : dyF t E x1 x2 s3 d4 p8 G C 0 0 2 = x2 := rfl
theorem dyF_3 : dyF t E x1 x2 s3 d4 p8 G C 3 0 = s3 := rfl
theorem dyF_4 : dyF t E x1 x2 s3 d4 p8 G C 4 0 = d4 := rfl
theorem dyF_8 : dyF t E x1 x2 s3 d4 p8 G C 8 0 = p8 := rfl
theorem dyF_15 : dyF t E x1 x2 s3 d4 p8 G C 15 0 = gw G := rfl
theorem dyF_16 (p s : Nat) (hs : s < 4) : dyF t E x1 x2 s3 d4 p8 G C 16 0 (4 * p + s) = C p s := by
  show C ((4 * p + s) / 4) ((4 * p + s) % 4) = C p s
  rw [show (4 * p + s) / 4 = p by omega, show (4 * p + s) % 4 = s by omega]
theorem dyF_R : dayR t E (dyF t E x1 x2 s3 d4 p8 G C) G C := by
  refine ⟨rfl, fun k h0 h1 h2 h25 => ?_, rfl, fun f hf => by rw [dyF_o (by omega) (by omega) (by omega) (by omega) (by omega) (by omega)], fun f hf => dyF_o (by omega) (by omega) (by omega) (by omega) (by omega) (by omega), fun k _ => rfl, fun p s _ hs => dyF_16 p s hs⟩
  show (if k = 0 then _ else if k = 1 then _ else if k = 2 then _ else if k = 25 then _ else _) = _
  rw [if_neg h0, if_neg h1, if_neg h2, if_neg h25]
end DYF
def stk (E : Mem) : Nat → Nat → Int32 := fun p s => E 16 0 (4 * p + s)
theorem s_shoot {n np t : Nat} {E μ : Mem} {P : Int32 → Mem → Prop} (h : Jv n np t E μ)
    (hA : t < 30 → E 8 0 t = -1 → ∀ v, Jv n np (t + 1) (dyF t E (E 0 0 1) (E 0 0 2) (E 3 0) (E 4 0) (E 8 0) (E 15 0) (stk E)) v → P (-1) v)
    (hB : t < 30 → ∀ a, a < n → E 8 0 t = nI a → al E np a t → ∀ v, Jv n np (t + 1) (dyF t E (E 0 0 1 + svS E a (E 0 0 2) (E 15 0) (stk E)) (E 1 0 a) (upd (E 3 0) a 1) (E 4 0) (upd (E 8 0) t (-1)) (gAs (bds E a) (E 15 0) 5) (cP E a 5 (stk E))) v → P (nI a) v)
    (hC2 : t < 30 → ∀ a, a < n → E 8 0 t = nI a → ¬ al E np a t → ffd (E 8 0) (29 - t) (t + 1) = 30 → ∀ v, Jv n np (t + 1) (dyF t E (E 0 0 1) (E 0 0 2) (upd (E 3 0) a 2) (E 4 0) (upd (E 8 0) t (-1)) (E 15 0) (stk E)) v → P (-1) v)
    (hC0 : t < 30 → ∀ a, a < n → E 8 0 t = nI a → ¬ al E np a t → ∀ d, d = ffd (E 8 0) (29 - t) (t + 1) → d < 30 → ∀ v, Jv n np (t + 1) (dyF t E (E 0 0 1) (E 0 0 2) (E 3 0) (upd (E 4 0) a (nI d)) (upd (upd (E 8 0) t (-1)) d (nI a)) (E 15 0) (stk E)) v → P (-1) v)
    (hX : t = 30 → P (-1000003) μ) : w_L_shoot n np P μ := by
  unfold w_L_shoot
  have hn := h.n10
  have hpl := h.pl
  have he := h.env
  have ht := h.t30
  have r1 := h.rs
  have hsc := h.sc
  have hst := h.st
  obtain ⟨-, -, ⟨m7, m8, m9, m10⟩, -⟩ := id he
  rcases Nat.lt_or_ge t 30 with ht30 | ht30
  · have e8 : μ 8 = E 8 := h.2.2 8 (by omega)
    have hks : eq45 (fun p => μ 43 p) (stk E) := hst.2.1
    have hsk : sok (stk E) (20 + t) := h.sk
    have e1 : μ 1 0 = E 1 0 := by rw [h.2.2 1 (by omega)]
    have e5 : μ 5 0 = E 5 0 := by rw [h.2.2 5 (by omega)]
    have e6 : μ 6 0 = E 6 0 := by rw [h.2.2 6 (by omega)]
    have e7 : μ 7 0 = E 7 0 := by rw [h.2.2 7 (by omega)]
    have u8 : ∀ u F : Mem, True → ∀ k, upd (E 8 0) t (-1) k = if k = t then -1 else E 8 0 k := fun _ _ _ k => rfl
    -- the world behind, made
    have fin : ∀ (r : Int32) (u F : Mem), (∀ f, f ≠ 30 → f ≠ 32 → f ≠ 40 → f ≠ 42 → f ≠ 43 → f ≠ 70 → u f = μ f) → (∀ f, 17 ≤ f → f ≤ 29 → F f = E f) → env n np (t + 1) u F → planI n t u F → F 8 0 t = -1 → (∀ v, Jv n np (t + 1) F v → P r v) → ∃ v, gs u v ∧ P r v := fun r u F uo fo hE hP h8 hp => ⟨_, pu_gs u F, hp _ (Jv_mk hE (planI_next hP h8 hn) (fun f h1 h2 => by rw [uo f (by omega) (by omega) (by omega) (by omega) (by omega) (by omega), h.2.2 f h2, fo f h1 h2]))⟩
    have dhi : ∀ (x1 x2 : Int32) (s3 d4 p8 G : Nat → Int32) (C : Nat → Nat → Int32) (f : Nat), 17 ≤ f → f ≤ 29 → dyF t E x1 x2 s3 d4 p8 G C f = E f := fun x1 x2 s3 d4 p8 G C f h1 _ => dyF_o (by omega) (by omega) (by omega) (by omega) (by omega) (by omega)
    refine X4_shoot3 h.1 h.2.1 ht30 (fun e u hc h10 h40 h70 h32 => ?_) (fun a ha e hA1 u hc h10 h40 h70 h32 => ?_) (fun a ha e hA1 hff u hc h10 h40 h70 h32 => ?_) (fun a ha e hA1 d ed hd u hc h10 h40 h70 h32 => ?_)
    · rw [e8] at e
      have hE : env n np (t + 1) u (dyF t E (E 0 0 1) (E 0 0 2) (E 3 0) (E 4 0) (E 8 0) (E 15 0) (stk E)) := env_day ht30 h.1 hc dyF_R r1 (by rw [h10, dyF_01]; exact m10) (by rw [h40, dyF_02]; exact hst.2.2) (fun j i _ => by rw [h70]) hst.1 h.g hks (sok_mono hsk (by omega)) (scOK_mv2 hsc h70 rfl (fun _ _ _ => rfl) (by rw [dyF_o (by omega) (by omega) (by omega) (by omega) (by omega) (by omega)]) (by rw [dyF_o (by omega) (by omega) (by omega) (by omega) (by omega) (by omega)]))
      refine fin _ u _ hc.1 (dhi _ _ _ _ _ _ _) hE (planI_of hpl ?_ rfl rfl rfl) (by rw [dyF_8]; exact e) (hA ht30 e)
      funext k
      rw [h32]
      by_cases c : k = t
      · rw [if_pos c, c, hpl.1 t ht30, e]
      · rw [if_neg c]
    · rw [e8] at e
      have hA2 := (Jv_al h a t).mp hA1
      have hua := h.use a ha
      obtain ⟨s1, s2, s3⟩ := svS_of (μ := E) (u := μ) e1 e5 e6 e7 a (μ 40 0 2) (μ 42 0) (fun p => μ 43 p)
      rw [s2, s3] at hc
      rw [s1] at h10
      rw [e1] at h40
      have hsv : svS E a (μ 40 0 2) (μ 42 0) (fun p => μ 43 p) = svS E a (E 0 0 2) (E 15 0) (stk E) := by
        rw [hst.2.2]
        exact svS_congr hua hst.1 hks
      have e4 := (hpl.2.2.2.1 t a ht30 ha e).2
      have hsk2 : sok (cP E a 5 (stk E)) (20 + (t + 1)) := by
        have hM : 20 + t < 1000 := by omega
        exact sok_cP (M := 20 + t) hua hsk hM
      have hE : env n np (t + 1) u (dyF t E (E 0 0 1 + svS E a (E 0 0 2) (E 15 0) (stk E)) (E 1 0 a) (upd (E 3 0) a 1) (E 4 0) (upd (E 8 0) t (-1)) (gAs (bds E a) (E 15 0) 5) (cP E a 5 (stk E))) := env_day ht30 h.1 hc dyF_R r1 (by rw [h10, dyF_01, hsv, m10]) (by rw [h40, dyF_02]) (fun j i hi => by rw [h70, if_neg (by omega), if_neg (by omega)]) (gAs_congr hst.1) (gOK_gAs h.g) (cP_congr hua hks) hsk2 (scOK_set (a := a) (s := 1) (d := nI t) hsc (Or.inl rfl) (fun j i => by rw [h70]; simp) (fun k => rfl) rfl (fun _ => e4) (by rw [dyF_o (by omega) (by omega) (by omega) (by omega) (by omega) (by omega)]) (by rw [dyF_o (by omega) (by omega) (by omega) (by omega) (by omega) (by omega)]))
      exact fin _ u _ hc.1 (dhi _ _ _ _ _ _ _) hE (planI_drop hn ht30 ha (v := 1) (by decide) e hpl h32 (fun k => rfl) (fun k => rfl) (fun k _ => rfl)) (by rw [dyF_8]; exact if_pos rfl) (hB ht30 a ha e hA2)
    · rw [e8] at e hff
      have hA2 : ¬ al E np a t := fun q => hA1 ((Jv_al h a t).mpr q)
      have hE : env n np (t + 1) u (dyF t E (E 0 0 1) (E 0 0 2) (upd (E 3 0) a 2) (E 4 0) (upd (E 8 0) t (-1)) (E 15 0) (stk E)) := env_day ht30 h.1 hc dyF_R r1 (by rw [h10, dyF_01]; exact m10) (by rw [h40, dyF_02]; exact hst.2.2) (fun j i hi => by rw [h70, if_neg (by omega)]) hst.1 h.g hks (sok_mono hsk (by omega)) (scOK_set (a := a) (s := 2) (d := 0) hsc (Or.inr rfl) (fun j i => by rw [h70, if_neg (show ¬ (j = a ∧ i = 7 ∧ (2 : Int32) = 1) from fun q => absurd q.2.2 (by decide))]) (fun k => rfl) rfl (fun q => absurd q (by decide)) (by rw [dyF_o (by omega) (by omega) (by omega) (by omega) (by omega) (by omega)]) (by rw [dyF_o (by omega) (by omega) (by omega) (by omega) (by omega) (by omega)]))
      exact fin _ u _ hc.1 (dhi _ _ _ _ _ _ _) hE (planI_drop hn ht30 ha (v := 2) (by decide) e hpl h32 (fun k => rfl) (fun k => rfl) (fun k _ => rfl)) (by rw [dyF_8]; exact if_pos rfl) (hC2 ht30 a ha e hA2 hff)
    · rw [e8] at e ed
      have hA2 : ¬ al E np a t := fun q => hA1 ((Jv_al h a t).mpr q)
      have hok := ffd_ok (E 8 0) (29 - t) (t + 1)
      rw [← ed] at hok
      have hfree : E 8 0 d = -1 := hok.2.2 (by omega)
      have hE : env n np (t + 1) u (dyF t E (E 0 0 1) (E 0 0 2) (E 3 0) (upd (E 4 0) a (nI d)) (upd (upd (E 8 0) t (-1)) d (nI a)) (E 15 0) (stk E)) := by
        refine env_day ht30 h.1 hc dyF_R r1 (by rw [h10, dyF_01]; exact m10) (by rw [h40, dyF_02]; exact hst.2.2) (fun j i hi => by rw [h70]) hst.1 h.g hks (sok_mono hsk (by omega)) (scOK_mv2 hsc h70 rfl (fun b hb q3 => ?_) (by rw [dyF_o (by omega) (by omega) (by omega) (by omega) (by omega) (by omega)]) (by rw [dyF_o (by omega) (by omega) (by omega) (by omega) (by omega) (by omega)]))
        show (if b = a then nI d else E 4 0 b) = E 4 0 b
        by_cases c : b = a
        · have := (hpl.2.2.2.1 t a ht30 ha e).1
          rw [c, this] at q3
          exact absurd q3 (by decide)
        · rw [if_neg c]
      refine fin _ u _ hc.1 (dhi _ _ _ _ _ _ _) hE (planI_put hn ht30 (by omega) hd ha e hfree hpl h32 (fun k => rfl) rfl (fun b _ => rfl)) ?_ (hC0 ht30 a ha e hA2 d ed hd)
      rw [dyF_8]
      show (if t = d then nI a else if t = t then -1 else E 8 0 t) = -1
      rw [if_neg (by omega), if_pos rfl]
  · have e30 : t = 30 := by omega
    have hX1 := hX e30
    subst e30
    unfold w_X4_shoot
    rw [m9]
    exact ⟨fun c => absurd c (by decide), fun _ => ⟨rfl, hX1⟩⟩
