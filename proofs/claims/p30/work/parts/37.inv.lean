/-! THE CLASS (in μ) AND THE REFERENCE (in E) GO TOGETHER -/
def scOK (n : Nat) (μ E : Mem) : Prop := ∀ a, a < n → μ 70 a 0 = nI a ∧ μ 70 a 6 = E 3 0 a ∧ (E 3 0 a = 0 ∨ E 3 0 a = 1 ∨ E 3 0 a = 2) ∧ (E 3 0 a = 1 → μ 70 a 7 = E 4 0 a) ∧ useOK E a
/-- a permit that was not given yet is not revoked -/
def revOK (np : Nat) (E : Mem) : Prop := ∀ k, np ≤ k → k < 20 → E 13 0 k = 0
def env (n np t : Nat) (μ E : Mem) : Prop :=
  (n ≤ 10 ∧ np ≤ 20 ∧ t ≤ 30) ∧ (E 0 0 0 = nI t ∧ E 0 0 3 = nI n ∧ E 0 0 12 = nI np) ∧ (μ 30 0 7 = nI n ∧ μ 30 0 8 = nI np ∧ μ 30 0 9 = nI t ∧ μ 30 0 10 = E 0 0 1) ∧
  alRel n np μ E ∧ stRel μ E ∧ gOK (E 15 0) ∧ sok (fun p s => E 16 0 (4 * p + s)) (20 + t) ∧ scOK n μ E ∧ (∀ k, k < 10 → μ 31 0 k = if k < n then nI k else -1) ∧ zval n 10 (μ 62 0) ∧ revOK np E
def planI (n t : Nat) (μ E : Mem) : Prop := (∀ d, d < 30 → μ 32 0 d = E 8 0 d) ∧ plOK n (E 8 0) ∧ (∀ d, d < t → E 8 0 d = -1) ∧ (∀ d a, d < 30 → a < n → E 8 0 d = nI a → E 3 0 a = 0 ∧ E 4 0 a = nI d) ∧ ∀ a, a < n → E 3 0 a = 0 → ∃ d, t ≤ d ∧ d < 30 ∧ E 8 0 d = nI a
def Inv (n np : Nat) (μ : Mem) : Prop := ∃ t, env n np t μ μ ∧ planI n t μ μ
/-- u is μ but for what does not count: what was thrown, the working memories, the law's row -/
def same (μ u : Mem) : Prop := (∀ k, k ≠ 25 → u 0 0 k = μ 0 0 k) ∧ (∀ f, 1 ≤ f → f ≤ 16 → u f 0 = μ f 0) ∧ (∀ f, (f = 30 ∨ f = 31 ∨ f = 32 ∨ f = 33 ∨ f = 34 ∨ f = 62 ∨ f = 70 ∨ f = 71 ∨ f = 72 ∨ f = 73 ∨ f = 80) → u f = μ f) ∧ u 42 0 = μ 42 0 ∧ (∀ j, j < 5 → u 43 j = μ 43 j) ∧ u 40 0 2 = μ 40 0 2
theorem same.rf (μ : Mem) : same μ μ := ⟨fun _ _ => rfl, fun _ _ _ => rfl, fun _ _ => rfl, rfl, fun _ _ => rfl, rfl⟩
theorem same.trans {μ u w : Mem} (h1 : same μ u) (h2 : same u w) : same μ w := ⟨fun k hk => (h2.1 k hk).trans (h1.1 k hk), fun f a b => (h2.2.1 f a b).trans (h1.2.1 f a b), fun f hf => (h2.2.2.1 f hf).trans (h1.2.2.1 f hf), h2.2.2.2.1.trans h1.2.2.2.1, fun j hj => (h2.2.2.2.2.1 j hj).trans (h1.2.2.2.2.1 j hj), h2.2.2.2.2.2.trans h1.2.2.2.2.2⟩
theorem zst_o {μ : Mem} {f i k : Nat} {v : Int32} {f' : Nat} (h : f' ≠ f) : zst μ f i k v f' = μ f' := by
  funext i' k'
  rw [zst_ap, if_neg (fun q => h q.1)]
theorem zst_oi {μ : Mem} {f i k : Nat} {v : Int32} {f' i' : Nat} (h : i' ≠ i) : zst μ f i k v f' i' = μ f' i' := by
  funext k'
  rw [zst_ap, if_neg (fun q => h q.2.1)]
theorem same_25 (μ : Mem) (v : Int32) : same μ (zst μ 0 0 25 v) := by
  refine ⟨fun k hk => ?_, fun f a b => ?_, fun f hf => ?_, ?_, fun j hj => ?_, ?_⟩
  · rw [zst_ap, if_neg (fun q => hk q.2.2)]
  · rw [zst_o (by omega)]
  · rw [zst_o (by omega)]
  · rw [zst_o (by omega)]
  · rw [zst_o (by omega)]
  · rw [zst_o (by omega)]
theorem same_21 (μ : Mem) (k : Nat) (v : Int32) : same μ (zst μ 21 0 k v) := by
  refine ⟨fun k hk => ?_, fun f a b => ?_, fun f hf => ?_, ?_, fun j hj => ?_, ?_⟩ <;> rw [zst_o (by omega)]
theorem same_wrk (μ : Mem) (g h : Nat → Int32) : same μ (wrk μ g h) := by
  refine ⟨fun k hk => ?_, fun f a b => ?_, fun f hf => ?_, ?_, fun j hj => ?_, ?_⟩
  · rw [wrk_o μ g h 0 (by omega) (by omega)]
  · rw [wrk_o μ g h 0 (by omega) (by omega)]
  · funext i; rw [wrk_o μ g h i (by omega) (by omega)]
  · rw [wrk_o μ g h 0 (by omega) (by omega)]
  · rw [wrk_o μ g h j (by omega) (by omega)]
  · rw [wrk_o μ g h 0 (by omega) (by omega)]
theorem same_tri (μ : Mem) (g : Nat → Int32) (c : Nat → Nat → Int32) (x : Int32) : same μ (tri 1 μ g c x) := by
  refine ⟨fun k hk => ?_, fun f a b => ?_, fun f hf => ?_, tri_st.1, tri_st.2.1, tri_st.2.2⟩
  · rw [tri_o 0 (by omega) (by omega) (by omega)]
  · rw [tri_o 0 (by omega) (by omega) (by omega)]
  · funext i; rw [tri_o i (by omega) (by omega) (by omega)]
theorem useOK_of {μ u : Mem} {a : Nat} (h6 : u 6 0 = μ 6 0) (h7 : u 7 0 = μ 7 0) (h : useOK μ a) : useOK u a := by
  unfold useOK
  rw [h6, h7]
  exact h
theorem env_same {n np t : Nat} {μ u : Mem} (h : env n np t μ μ) (hs : same μ u) : env n np t u u := by
  obtain ⟨s0, sf, sg, s42, s43, s40⟩ := hs
  obtain ⟨b, ⟨e0, e3, e12⟩, ⟨m7, m8, m9, m10⟩, hal, ⟨st1, st2, st3⟩, hg, hsk, hsc, htold, hz⟩ := h
  refine ⟨b, ⟨by rw [s0 0 (by omega)]; exact e0, by rw [s0 3 (by omega)]; exact e3, by rw [s0 12 (by omega)]; exact e12⟩, ?_, ?_, ⟨?_, ?_, ?_⟩, ?_, ?_, ?_, ?_, ?_⟩
  · rw [sg 30 (by omega), s0 1 (by omega)]
    exact ⟨m7, m8, m9, m10⟩
  · obtain ⟨h1, h2, h3, h4⟩ := hal
    refine ⟨fun a ha => ?_, fun k hk => ?_, fun k hk => ?_, fun k d hk hd => ?_⟩
    · unfold scRel
      rw [sg 70 (by omega), sg 71 (by omega), sg 72 (by omega), sg 73 (by omega), sf 1 (by omega) (by omega), sf 2 (by omega) (by omega), sf 5 (by omega) (by omega), sf 6 (by omega) (by omega), sf 7 (by omega) (by omega)]
      exact h1 a ha
    · rw [sg 33 (by omega)]; exact h2 k hk
    · unfold pmRel
      rw [sg 80 (by omega), sf 9 (by omega) (by omega), sf 10 (by omega) (by omega), sf 11 (by omega) (by omega), sf 12 (by omega) (by omega), sf 13 (by omega) (by omega)]
      exact h3 k hk
    · rw [sg 34 (by omega), sf 14 (by omega) (by omega)]; exact h4 k d hk hd
  · rw [s42, sf 15 (by omega) (by omega)]; exact st1
  · intro p s hp hs
    show u 43 p s = u 16 0 (4 * p + s)
    rw [s43 p hp, sf 16 (by omega) (by omega)]
    exact st2 p s hp hs
  · rw [s40, s0 2 (by omega)]; exact st3
  · rw [sf 15 (by omega) (by omega)]; exact hg
  · rw [sf 16 (by omega) (by omega)]; exact hsk
  · intro a ha
    obtain ⟨q1, q2, q3, q4, q5⟩ := hsc a ha
    rw [sg 70 (by omega), sf 3 (by omega) (by omega), sf 4 (by omega) (by omega)]
    exact ⟨q1, q2, q3, q4, useOK_of (sf 6 (by omega) (by omega)) (sf 7 (by omega) (by omega)) q5⟩
  · rw [sg 31 (by omega)]; exact htold
  · rw [sg 62 (by omega)]
    refine ⟨hz.1, ?_⟩
    unfold revOK
    rw [sf 13 (by omega) (by omega)]
    exact hz.2
theorem planI_same {n t : Nat} {μ u : Mem} (h : planI n t μ μ) (hs : same μ u) : planI n t u u := by
  obtain ⟨s0, sf, sg, s42, s43, s40⟩ := hs
  unfold planI
  rw [sg 32 (by omega), sf 8 (by omega) (by omega), sf 3 (by omega) (by omega), sf 4 (by omega) (by omega)]
  exact h
theorem Inv_same {n np : Nat} {μ u : Mem} (h : Inv n np μ) (hs : same μ u) : Inv n np u := by
  obtain ⟨t, h1, h2⟩ := h
  exact ⟨t, env_same h1 hs, planI_same h2 hs⟩
/-! arguments -/
theorem lt_lit {k : Nat} (m : Nat) {M : Int32} (hM : M = nI m) (hm : m < 1000) {x : Int32} (hx : x = nI k) (hk : k < 2 ^ 31) : x < M ↔ k < m := by
  subst hM
  subst hx
  exact nI_ltI hk (by omega)
/-- a number is a place below N, or not -/
theorem arg_or (x : Int32) (N : Nat) : (∃ k, k < N ∧ x = nI k) ∨ ¬ ∃ k, k < N ∧ x = nI k := Classical.em _
theorem arg_not {x : Int32} {N : Nat} {M : Int32} (hM : M = nI N) (hN : N < 1000) (h : ¬ ∃ k, k < N ∧ x = nI k) : ¬ x < 0 → ¬ x < M := by
  intro h0 h1
  obtain ⟨k, hk, e⟩ := nI_of h0
  exact h ⟨k, (lt_lit N hM hN e hk).mp h1, e⟩
theorem X4_need {n np : Nat} {post : Mem → Prop} {xpost : String → Mem → Prop} {x : Int32} {μ : Mem} {E : String} {N : Nat} {M : Int32} (hM : M = nI N) (hN : N < 1000) (h1 : (∃ k, k < N ∧ x = nI k) → post μ) (h0 : (¬ ∃ k, k < N ∧ x = nI k) → xpost E μ) : ((x < 0 → xpost E μ) ∧ (¬ x < 0 → ((x < M → post μ) ∧ (¬ x < M → xpost E μ)))) := by
  rcases arg_or x N with h | h
  · obtain ⟨k, hk, e⟩ := id h
    refine ⟨fun c => absurd c (by rw [e]; exact pos (by omega)), fun _ => ⟨fun _ => h1 h, fun c => absurd ?_ c⟩⟩
    exact (lt_lit N hM hN e (by omega)).mpr hk
  · exact ⟨fun _ => h0 h, fun c => ⟨fun c2 => absurd c2 (arg_not hM hN h c), fun _ => h0 h⟩⟩
theorem X4_requireActor {n np : Nat} {post : Mem → Prop} {xpost : String → Mem → Prop} {x : Int32} {μ : Mem} (h1 : (∃ k, k < 5 ∧ x = nI k) → post μ) (h0 : (¬ ∃ k, k < 5 ∧ x = nI k) → xpost "java/lang/IndexOutOfBoundsException" μ) : w_X4_requireActor n np post xpost x μ := X4_need (n := n) (np := np) (N := 5) (M := 5) rfl (by decide) h1 h0
theorem X4_requireProp {n np : Nat} {post : Mem → Prop} {xpost : String → Mem → Prop} {x : Int32} {μ : Mem} (h1 : (∃ k, k < 5 ∧ x = nI k) → post μ) (h0 : (¬ ∃ k, k < 5 ∧ x = nI k) → xpost "java/lang/IndexOutOfBoundsException" μ) : w_X4_requireProp n np post xpost x μ := X4_need (n := n) (np := np) (N := 5) (M := 5) rfl (by decide) h1 h0
theorem X4_requireDay {n np : Nat} {post : Mem → Prop} {xpost : String → Mem → Prop} {x : Int32} {μ : Mem} (h1 : (∃ k, k < 30 ∧ x = nI k) → post μ) (h0 : (¬ ∃ k, k < 30 ∧ x = nI k) → xpost "java/lang/IllegalArgumentException" μ) : w_X4_requireDay n np post xpost x μ := X4_need (n := n) (np := np) (N := 30) (M := 30) rfl (by decide) h1 h0
/-- a row of references that knows N places -/
theorem X4_num {post : Int32 → Mem → Prop} {xpost : String → Mem → Prop} {x : Int32} {μ : Mem} {N K f : Nat} {M : Int32} {E : String} (hM : M = nI K) (hK : K < 1000) (hN : N ≤ K) (hf : ∀ k, k < K → μ f 0 k = if k < N then nI k else -1) (h1 : ∀ k, k < N → x = nI k → post (nI k) μ) (h0 : (¬ ∃ k, k < N ∧ x = nI k) → xpost E μ) : ((x < 0 → xpost E μ) ∧ (¬ x < 0 → ((M ≤ x → xpost E μ) ∧ (¬ M ≤ x → (vp_in x K ∧ ((¬ (μ f 0 x.toNatClampNeg) < 0 → post (μ f 0 x.toNatClampNeg) μ) ∧ ((μ f 0 x.toNatClampNeg) < 0 → xpost E μ))))))) := by
  have neg : x < 0 → ¬ ∃ k, k < N ∧ x = nI k := by
    rintro c ⟨k, hk, e⟩
    rw [e] at c
    exact pos (by omega) c
  refine ⟨fun c => h0 (neg c), fun c => ?_⟩
  obtain ⟨k, hk, e⟩ := nI_of c
  subst hM
  subst e
  refine ⟨fun c2 => h0 ?_, fun c2 => ?_⟩
  · rintro ⟨j, hj, e⟩
    have e2 := (nI_eq hk (by omega)).mp e
    have := (nI_leI (by omega) hk).mp c2
    omega
  · have hkK : k < K := by
      rcases Nat.lt_or_ge k K with q | q
      · exact q
      · exact absurd ((nI_leI (by omega) hk).mpr q) c2
    rw [cl (by omega), hf k hkK]
    refine ⟨vin hkK (by omega), fun c3 => ?_, fun c3 => ?_⟩
    · by_cases hkN : k < N
      · rw [if_pos hkN]
        exact h1 k hkN rfl
      · rw [if_neg hkN] at c3
        exact absurd neg1 c3
    · refine h0 ?_
      rintro ⟨j, hj, e⟩
      have e2 := (nI_eq hk (by omega)).mp e
      subst e2
      rw [if_pos hj] at c3
      exact pos (by omega) c3
theorem X4_sceneNumbered {n np : Nat} {post : Int32 → Mem → Prop} {xpost : String → Mem → Prop} {x : Int32} {μ : Mem} (hn : n ≤ 10) (hf : ∀ k, k < 10 → μ 31 0 k = if k < n then nI k else -1) (h1 : ∀ k, k < n → x = nI k → post (nI k) μ) (h0 : (¬ ∃ k, k < n ∧ x = nI k) → xpost "java/lang/IndexOutOfBoundsException" μ) : w_X4_sceneNumbered n np post xpost x μ := X4_num (K := 10) (M := 10) rfl (by decide) hn hf h1 h0
theorem X4_permitNumbered {n np : Nat} {post : Int32 → Mem → Prop} {xpost : String → Mem → Prop} {x : Int32} {μ : Mem} (hn : np ≤ 20) (hf : ∀ k, k < 20 → μ 33 0 k = if k < np then nI k else -1) (h1 : ∀ k, k < np → x = nI k → post (nI k) μ) (h0 : (¬ ∃ k, k < np ∧ x = nI k) → xpost "java/lang/IndexOutOfBoundsException" μ) : w_X4_permitNumbered n np post xpost x μ := X4_num (K := 20) (M := 20) rfl (by decide) hn hf h1 h0
/-! .. of the reference -/
theorem nI_m1 {n : Nat} (hn : n ≤ 1000) : (nI n - 1).toInt = (n : Int) - 1 := by
  have h1 : (nI n).toInt = (n : Int) := nI_toInt (n := n) (by omega)
  have h5 : (1 : Int32).toInt = 1 := rfl
  rw [Int32.toInt_sub, h1, h5]
  exact Int.bmod_eq_of_le (by omega) (by omega)
