/-! THE WORLD AT THE LAW'S BEGIN -/
theorem z_eqq {D : va_G} {cA : ClassId} {a N : Nat} {H : Heap} {f g : Nat → Option Nat} (h : ∀ k, k < N → f k = g k) (hh : va_at D vwCl (a, .inl (cA, N, .inr (.inr (.inr (.inr g))))) H) : va_at D vwCl (a, .inl (cA, N, .inr (.inr (.inr (.inr f))))) H := by
  show H[a]? = some (vp_cell _ _)
  rw [zcell_q _ _ _ _ h]
  exact hh
def ad0 (h4 p1 p2 p3 p4 p5 p6 p7 p8 p9 p10 p11 p12 p13 p14 p15 p16 p17 p18 p19 p20 p21 p22 p23 qg qu qv : Nat) : Nat → Nat → Nat := fun f i => if f = 22 then (qg) else if f = 23 then (qu) else if f = 24 then (qv) else if f = 30 then (h4) else if f = 31 then (p1) else if f = 32 then (p2) else if f = 33 then (p3) else if f = 34 then (p4) else if f = 40 then (if i = 0 then p5 else p13) else if f = 41 then (if i = 0 then p6 else p14) else if f = 42 then (if i = 0 then p12 else p20) else if f = 43 then (if i = 0 then p7 else if i = 1 then p8 else if i = 2 then p9 else if i = 3 then p10 else if i = 4 then p11 else if i = 5 then p15 else if i = 6 then p16 else if i = 7 then p17 else if i = 8 then p18 else p19) else if f = 60 then (p21) else if f = 61 then (p22) else if f = 62 then (p23) else 0
def VXL (ca : Nat → ClassId) (h4 p1 p2 p3 p4 p5 p6 p7 p8 p9 p10 p11 p12 p13 p14 p15 p16 p17 p18 p19 p20 p21 p22 p23 qg qu qv : Nat) (f0 f1 : Nat → Option Nat) : va_W := ((VX4 ca h4 p1 p2 p3 p4 p5 p6 p7 p8 p9 p10 p11 p12 p13 p14 p15 p16 p17 p18 p19 p20 p21 p22 p23 f0 f1 ++ [(qg, .inl (ca 0, 5, .inl (fun _ => 0)))]) ++ [(qu, .inl (ca 0, 50, .inl (fun _ => 0)))]) ++ [(qv, .inl (ca 0, 20, .inl (fun _ => 0)))]
def zL : List (Nat × Nat) := [(30, 0), (31, 0), (32, 0), (33, 0), (34, 0), (40, 0), (41, 0), (43, 0), (43, 1), (43, 2), (43, 3), (43, 4), (42, 0), (40, 1), (41, 1), (43, 5), (43, 6), (43, 7), (43, 8), (43, 9), (42, 1), (60, 0), (61, 0), (62, 0), (22, 0), (23, 0), (24, 0)]
set_option maxRecDepth 100000 in
set_option maxHeartbeats 8000000 in
theorem zF_world {ca : Nat → ClassId} {h4 p1 p2 p3 p4 p5 p6 p7 p8 p9 p10 p11 p12 p13 p14 p15 p16 p17 p18 p19 p20 p21 p22 p23 qg qu qv : Nat} {f0 f1 : Nat → Option Nat} (e0 : f0 0 = some p7) (e1 : f0 1 = some p8) (e2 : f0 2 = some p9) (e3 : f0 3 = some p10) (e4 : f0 4 = some p11) (e5 : f1 0 = some p15) (e6 : f1 1 = some p16) (e7 : f1 2 = some p17) (e8 : f1 3 = some p18) (e9 : f1 4 = some p19) : ∀ (f i : Nat) (e : va_E), zF (ad0 h4 p1 p2 p3 p4 p5 p6 p7 p8 p9 p10 p11 p12 p13 p14 p15 p16 p17 p18 p19 p20 p21 p22 p23 qg qu qv) ca 0 0 f i (mu0 f i) = some e → ∃ (k : Nat) (e2 : va_E), zL[k]? = some (f, i) ∧ (VXL ca h4 p1 p2 p3 p4 p5 p6 p7 p8 p9 p10 p11 p12 p13 p14 p15 p16 p17 p18 p19 p20 p21 p22 p23 qg qu qv f0 f1)[k]? = some (ad0 h4 p1 p2 p3 p4 p5 p6 p7 p8 p9 p10 p11 p12 p13 p14 p15 p16 p17 p18 p19 p20 p21 p22 p23 qg qu qv f i, e2) ∧ ∀ (D : va_G) (a : Nat) (H : Heap), va_at D vwCl (a, e2) H → va_at D vwCl (a, e) H := by
  intro f i e he
  by_cases h20 : f ≤ 20
  · exact absurd he (by simp [zF, h20])
  by_cases c22 : f = 22
  · subst c22
    by_cases hi : i = 0
    · subst hi
      exact ⟨24, _, rfl, rfl, by cases he; exact fun _ _ _ h => h⟩
    · exact absurd he (by simp [zF, hi])
  by_cases c23 : f = 23
  · subst c23
    by_cases hi : i = 0
    · subst hi
      exact ⟨25, _, rfl, rfl, by cases he; exact fun _ _ _ h => h⟩
    · exact absurd he (by simp [zF, hi])
  by_cases c24 : f = 24
  · subst c24
    by_cases hi : i = 0
    · subst hi
      exact ⟨26, _, rfl, rfl, by cases he; exact fun _ _ _ h => h⟩
    · exact absurd he (by simp [zF, hi])
  by_cases c30 : f = 30
  · subst c30
    by_cases hi : i = 0
    · subst hi
      exact ⟨0, _, rfl, rfl, by cases he; exact fun _ _ _ h => h⟩
    · exact absurd he (by simp [zF, hi])
  by_cases c31 : f = 31
  · subst c31
    by_cases hi : i = 0
    · subst hi
      exact ⟨1, _, rfl, rfl, by cases he; exact fun _ _ _ h => h⟩
    · exact absurd he (by simp [zF, hi])
  by_cases c32 : f = 32
  · subst c32
    by_cases hi : i = 0
    · subst hi
      exact ⟨2, _, rfl, rfl, by cases he; exact fun _ _ _ h => h⟩
    · exact absurd he (by simp [zF, hi])
  by_cases c33 : f = 33
  · subst c33
    by_cases hi : i = 0
    · subst hi
      exact ⟨3, _, rfl, rfl, by cases he; exact fun _ _ _ h => h⟩
    · exact absurd he (by simp [zF, hi])
  by_cases c34 : f = 34
  · subst c34
    by_cases hi : i = 0
    · subst hi
      exact ⟨4, _, rfl, rfl, by cases he; exact fun _ _ _ h => h⟩
    · exact absurd he (by simp [zF, hi])
  by_cases c40 : f = 40
  · subst c40
    by_cases hi : i < 2
    · rcases (show i = 0 ∨ i = 1 by omega) with rfl | rfl
      · exact ⟨5, _, rfl, rfl, by cases he; exact fun _ _ _ h => h⟩
      · exact ⟨13, _, rfl, rfl, by cases he; exact fun _ _ _ h => h⟩
    · exact absurd he (by simp [zF, hi])
  by_cases c41 : f = 41
  · subst c41
    by_cases hi : i < 2
    · rcases (show i = 0 ∨ i = 1 by omega) with rfl | rfl
      · refine ⟨6, _, rfl, rfl, ?_⟩
        cases he
        intro D a H h
        refine z_eqq (fun j hj => ?_) h
        rcases (show j = 0 ∨ j = 1 ∨ j = 2 ∨ j = 3 ∨ j = 4 by omega) with rfl | rfl | rfl | rfl | rfl
        · exact e0.symm
        · exact e1.symm
        · exact e2.symm
        · exact e3.symm
        · exact e4.symm
      · refine ⟨14, _, rfl, rfl, ?_⟩
        cases he
        intro D a H h
        refine z_eqq (fun j hj => ?_) h
        rcases (show j = 0 ∨ j = 1 ∨ j = 2 ∨ j = 3 ∨ j = 4 by omega) with rfl | rfl | rfl | rfl | rfl
        · exact e5.symm
        · exact e6.symm
        · exact e7.symm
        · exact e8.symm
        · exact e9.symm
    · exact absurd he (by simp [zF, hi])
  by_cases c42 : f = 42
  · subst c42
    by_cases hi : i < 2
    · rcases (show i = 0 ∨ i = 1 by omega) with rfl | rfl
      · exact ⟨12, _, rfl, rfl, by cases he; exact fun _ _ _ h => h⟩
      · exact ⟨20, _, rfl, rfl, by cases he; exact fun _ _ _ h => h⟩
    · exact absurd he (by simp [zF, hi])
  by_cases c43 : f = 43
  · subst c43
    by_cases hi : i < 10
    · rcases (show i = 0 ∨ i = 1 ∨ i = 2 ∨ i = 3 ∨ i = 4 ∨ i = 5 ∨ i = 6 ∨ i = 7 ∨ i = 8 ∨ i = 9 by omega) with rfl | rfl | rfl | rfl | rfl | rfl | rfl | rfl | rfl | rfl
      · exact ⟨7, _, rfl, rfl, by cases he; exact fun _ _ _ h => h⟩
      · exact ⟨8, _, rfl, rfl, by cases he; exact fun _ _ _ h => h⟩
      · exact ⟨9, _, rfl, rfl, by cases he; exact fun _ _ _ h => h⟩
      · exact ⟨10, _, rfl, rfl, by cases he; exact fun _ _ _ h => h⟩
      · exact ⟨11, _, rfl, rfl, by cases he; exact fun _ _ _ h => h⟩
      · exact ⟨15, _, rfl, rfl, by cases he; exact fun _ _ _ h => h⟩
      · exact ⟨16, _, rfl, rfl, by cases he; exact fun _ _ _ h => h⟩
      · exact ⟨17, _, rfl, rfl, by cases he; exact fun _ _ _ h => h⟩
      · exact ⟨18, _, rfl, rfl, by cases he; exact fun _ _ _ h => h⟩
      · exact ⟨19, _, rfl, rfl, by cases he; exact fun _ _ _ h => h⟩
    · exact absurd he (by simp [zF, hi])
  by_cases c60 : f = 60
  · subst c60
    by_cases hi : i = 0
    · subst hi
      exact ⟨21, _, rfl, rfl, by cases he; exact fun _ _ _ h => h⟩
    · exact absurd he (by simp [zF, hi])
  by_cases c61 : f = 61
  · subst c61
    by_cases hi : i = 0
    · subst hi
      exact ⟨22, _, rfl, rfl, by cases he; exact fun _ _ _ h => h⟩
    · exact absurd he (by simp [zF, hi])
  by_cases c62 : f = 62
  · subst c62
    by_cases hi : i = 0
    · subst hi
      exact ⟨23, _, rfl, rfl, by cases he; exact fun _ _ _ h => h⟩
    · exact absurd he (by simp [zF, hi])
  exact absurd he (by simp [zF, h20, c22, c23, c24, c30, c31, c32, c33, c34, c40, c41, c42, c43, c60, c61, c62])
theorem zWd {D : va_G} {ca : Nat → ClassId} {base : Nat} {H : Heap} {h4 p1 p2 p3 p4 p5 p6 p7 p8 p9 p10 p11 p12 p13 p14 p15 p16 p17 p18 p19 p20 p21 p22 p23 qg qu qv : Nat} {f0 f1 : Nat → Option Nat} (e0 : f0 0 = some p7) (e1 : f0 1 = some p8) (e2 : f0 2 = some p9) (e3 : f0 3 = some p10) (e4 : f0 4 = some p11) (e5 : f1 0 = some p15) (e6 : f1 1 = some p16) (e7 : f1 2 = some p17) (e8 : f1 3 = some p18) (e9 : f1 4 = some p19) (hP : va_P D vwCl (VXL ca h4 p1 p2 p3 p4 p5 p6 p7 p8 p9 p10 p11 p12 p13 p14 p15 p16 p17 p18 p19 p20 p21 p22 p23 qg qu qv f0 f1) H) (hD : va_D (zB base) (VXL ca h4 p1 p2 p3 p4 p5 p6 p7 p8 p9 p10 p11 p12 p13 p14 p15 p16 p17 p18 p19 p20 p21 p22 p23 qg qu qv f0 f1)) : Wd D ca base (ad0 h4 p1 p2 p3 p4 p5 p6 p7 p8 p9 p10 p11 p12 p13 p14 p15 p16 p17 p18 p19 p20 p21 p22 p23 qg qu qv) 0 0 mu0 H := by
  have key := zF_world (ca := ca) (h4 := h4) (p1 := p1) (p2 := p2) (p3 := p3) (p4 := p4) (p5 := p5) (p6 := p6) (p7 := p7) (p8 := p8) (p9 := p9) (p10 := p10) (p11 := p11) (p12 := p12) (p13 := p13) (p14 := p14) (p15 := p15) (p16 := p16) (p17 := p17) (p18 := p18) (p19 := p19) (p20 := p20) (p21 := p21) (p22 := p22) (p23 := p23) (qg := qg) (qu := qu) (qv := qv) (f0 := f0) (f1 := f1) e0 e1 e2 e3 e4 e5 e6 e7 e8 e9
  refine ⟨fun f i e he => ?_, fun f i f' i' e e' he he' hq => ?_, fun f i e he => ?_⟩
  · obtain ⟨k, e2, -, h2, h3⟩ := key f i e he
    exact h3 _ _ _ (hP k _ h2)
  · obtain ⟨k, e2, h1, h2, -⟩ := key f i e he
    obtain ⟨k', e2', h1', h2', -⟩ := key f' i' e' he'
    have := hD.1 k k' _ _ h2 h2' hq
    subst this
    rw [h1] at h1'
    cases h1'
    exact ⟨rfl, rfl⟩
  · obtain ⟨k, e2, -, h2, -⟩ := key f i e he
    exact hD.2 k _ h2
