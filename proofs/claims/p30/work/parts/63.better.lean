/-! BETTER -/
noncomputable def bs2 (E : Mem) (np t : Nat) (P : Nat → Int32) (i : Nat) : Nat → Nat → Int32 × Option (Nat × Nat) → Int32 × Option (Nat × Nat)
  | 0, _, a => a
  | m + 1, k, a => pit (P i = P k ∨ a.1 ≤ costF E np t (pswap P i k)) (bs2 E np t P i m (k + 1) a) (bs2 E np t P i m (k + 1) (costF E np t (pswap P i k), some (i, k)))
noncomputable def bs1 (E : Mem) (np t : Nat) (P : Nat → Int32) : Nat → Nat → Int32 × Option (Nat × Nat) → Int32 × Option (Nat × Nat)
  | 0, _, a => a
  | m + 1, i, a => bs1 E np t P m (i + 1) (bs2 E np t P i m (i + 1) a)
/-- what the search holds: the plan's own cost, or a swap that costs less -/
def bOK (E : Mem) (np t : Nat) (P : Nat → Int32) (a : Int32 × Option (Nat × Nat)) : Prop := (a.2 = none ∧ a.1 = costF E np t P) ∨ ∃ i j, a.2 = some (i, j) ∧ (t ≤ i ∧ i < 30) ∧ (t ≤ j ∧ j < 30) ∧ a.1 = costF E np t (pswap P i j) ∧ ¬ costF E np t P ≤ a.1
theorem bOK_2 {E : Mem} {np t : Nat} {P : Nat → Int32} {i : Nat} (hi : t ≤ i ∧ i < 30) : ∀ (m k : Nat), k + m = 30 → t ≤ k → ∀ a, bOK E np t P a → bOK E np t P (bs2 E np t P i m k a) := by
  intro m
  induction m with
  | zero => intro k _ _ a h; exact h
  | succ m ih =>
    intro k hk htk a h
    unfold bs2
    by_cases c : P i = P k ∨ a.1 ≤ costF E np t (pswap P i k)
    · rw [pit_pos c]
      exact ih (k + 1) (by omega) (by omega) a h
    · rw [pit_neg c]
      refine ih (k + 1) (by omega) (by omega) _ (Or.inr ⟨i, k, rfl, hi, ⟨htk, by omega⟩, rfl, fun q => c (Or.inr ?_)⟩)
      show a.1 ≤ costF E np t (pswap P i k)
      have q' : costF E np t P ≤ costF E np t (pswap P i k) := q
      rcases h with ⟨-, e⟩ | ⟨x, y, -, -, -, -, e⟩
      · rw [e]; exact q'
      · rw [Int32.le_iff_toInt_le] at e q' ⊢
        omega
theorem bOK_1 {E : Mem} {np t : Nat} {P : Nat → Int32} : ∀ (m i : Nat), i + m = 30 → t ≤ i → ∀ a, bOK E np t P a → bOK E np t P (bs1 E np t P m i a) := by
  intro m
  induction m with
  | zero => intro i _ _ a h; exact h
  | succ m ih =>
    intro i hi hti a h
    unfold bs1
    exact ih (i + 1) (by omega) (by omega) _ (bOK_2 ⟨hti, by omega⟩ m (i + 1) (by omega) (by omega) a h)
noncomputable def bsr (E : Mem) (np t : Nat) (P : Nat → Int32) : Int32 × Option (Nat × Nat) := bs1 E np t P (30 - t) t (costF E np t P, none)
theorem bsr_ok {E : Mem} {np t : Nat} {P : Nat → Int32} (ht : t ≤ 30) : bOK E np t P (bsr E np t P) := bOK_1 (30 - t) t (by omega) (Nat.le_refl t) _ (Or.inl ⟨rfl, rfl⟩)
def o1 : Option (Nat × Nat) → Int32
  | none => -1
  | some (i, _) => nI i
def o2 : Option (Nat × Nat) → Int32
  | none => -1
  | some (_, j) => nI j
def oc : Option (Nat × Nat) → Int32
  | none => -1
  | some (i, j) => 30 * nI i + nI j
theorem X4_makeBestSwap {n np t : Nat} {E : Mem} {P : Nat → Int32} {post : Int32 → Mem → Prop} {u0 : Mem} (h0 : CP n np t E u0 P) (hN : (bsr E np t P).2 = none → ∀ u', CP n np t E u' P → post 0 u') (hS : ∀ i j, (bsr E np t P).2 = some (i, j) → ∀ u', CP n np t E u' (pswap P i j) → post 1 u') : w_X4_makeBestSwap n np post u0 := by
  have ht := h0.2.1.1.2.2
  have inner : ∀ (k15 : Int32 → Int32 → Int32 → Int32 → Mem → Prop) (i : Nat), i < 30 → ∀ m k : Nat, k + m = 30 → i < k → ∀ (a : Int32 × Option (Nat × Nat)) (u : Mem), CP n np t E u P → (∀ u', CP n np t E u' P → k15 (bs2 E np t P i m k a).1 (o1 (bs2 E np t P i m k a).2) (o2 (bs2 E np t P i m k a).2) (nI (i + 1)) u') → l_X4_makeBestSwap_28 n np post k15 (m + 1) a.1 (o1 a.2) (o2 a.2) (nI i) (nI k) u := by
    intro k15 i hi m
    induction m with
    | zero =>
      intro k hk hik a u h hpost
      have e : k = 30 := by omega
      subst e
      show lb_X4_makeBestSwap_28 n np post _ _ _ _ _ _ _ _
      unfold lb_X4_makeBestSwap_28
      rw [nI_s1]
      exact ⟨fun _ => hpost u h, fun c => absurd (by decide) c⟩
    | succ m ih =>
      intro k hk hik a u h hpost
      show lb_X4_makeBestSwap_28 n np post k15 (l_X4_makeBestSwap_28 n np post k15 (m + 1)) _ _ _ _ _ _
      unfold lb_X4_makeBestSwap_28 b_X4_makeBestSwap_58 b_X4_makeBestSwap_83
      rw [nI_s1, nI_s1, cl (by omega), cl (by omega), h.2.2.1 i hi, h.2.2.1 k (by omega)]
      unfold bs2 at hpost
      have try1 : ¬ P i = P k → w_X4_costAfterSwap n np (fun (r11 : Int32) (μ10 : Mem) => ((a.1 ≤ r11 → l_X4_makeBestSwap_28 n np post k15 (m + 1) a.1 (o1 a.2) (o2 a.2) (nI i) (nI (k + 1)) μ10) ∧ (¬ a.1 ≤ r11 → l_X4_makeBestSwap_28 n np post k15 (m + 1) r11 (nI i) (nI k) (nI i) (nI (k + 1)) μ10))) (nI i) (nI k) u := by
        intro hne
        refine h.costAfter hi (by omega) (fun u1 h1 => ⟨fun c => ?_, fun c => ?_⟩)
        · rw [pit_pos (Or.inr c)] at hpost
          exact ih (k + 1) (by omega) (by omega) a u1 h1 hpost
        · rw [pit_neg (fun w => w.elim hne c)] at hpost
          exact ih (k + 1) (by omega) (by omega) (costF E np t (pswap P i k), some (i, k)) u1 h1 hpost
      have mn : ∀ d, d < 30 → P d < 0 → P d = -1 := by
        intro d hd c
        rcases h.2.2.2.1 d hd with e | ⟨b, hb, e⟩
        · exact e
        · rw [e] at c
          exact absurd c (pos (by have := h.2.1.1.1; omega))
      have nm : ∀ d, P d = -1 → P d < 0 := fun d e => by rw [e]; exact neg1
      refine ⟨fun c => absurd ((le30 (k := k) (by omega)).mp c) (by omega), fun _ => ⟨vin hi (by omega), fun c => try1 (fun q => ?_), fun c => ⟨vin (by omega) (by omega), fun c2 => try1 (fun q => ?_), fun c2 => ?_⟩⟩⟩
      · rcases h.2.2.2.2 i k hi (by omega) q with w | w
        · omega
        · exact c (nm i w)
      · rw [mn i hi c] at q
        exact c2 (nm k q.symm)
      · rw [pit_pos (Or.inl ((mn i hi c).trans (mn k (by omega) c2).symm))] at hpost
        exact ih (k + 1) (by omega) (by omega) a u h hpost
  have outer : ∀ m i : Nat, i + m = 30 → t ≤ i → ∀ (a : Int32 × Option (Nat × Nat)) (u : Mem), CP n np t E u P → bOK E np t P (bs1 E np t P m i a) → ((bs1 E np t P m i a).2 = none → ∀ u', CP n np t E u' P → post 0 u') → (∀ x y, (bs1 E np t P m i a).2 = some (x, y) → ∀ u', CP n np t E u' (pswap P x y) → post 1 u') → l_X4_makeBestSwap_15 n np post (m + 1) a.1 (o1 a.2) (o2 a.2) (nI i) u := by
    intro m
    induction m with
    | zero =>
      intro i hi hti a u h hok hN hS
      have e : i = 30 := by omega
      subst e
      show lb_X4_makeBestSwap_15 n np post _ _ _ _ _ _
      unfold lb_X4_makeBestSwap_15
      refine ⟨fun _ => ?_, fun c => absurd (by decide) c⟩
      unfold bs1 at hok hN hS
      rcases hok with ⟨e, -⟩ | ⟨x, y, e, hx, hy, -, -⟩
      · rw [e]
        unfold w_X4_swapDays w_X4_exchange
        exact ⟨fun _ => ⟨fun _ => hN e u h, fun c => absurd rfl c⟩, fun c => absurd neg1 c⟩
      · rw [e]
        exact h.swaps hx.2 hy.2 (fun u' h' _ => ⟨fun c => absurd c (nI_neg1 (by omega)), fun _ => hS x y e u' h'⟩)
    | succ m ih =>
      intro i hi hti a u h hok hN hS
      show lb_X4_makeBestSwap_15 n np post (l_X4_makeBestSwap_15 n np post (m + 1)) _ _ _ _ _
      unfold lb_X4_makeBestSwap_15
      rw [nI_s1]
      unfold bs1 at hok hN hS
      refine ⟨fun c => absurd ((le30 (k := i) (by omega)).mp c) (by omega), fun _ => ⟨m + 1, inner _ i (by omega) m (i + 1) (by omega) (by omega) a u h (fun u' h' => ih (i + 1) (by omega) (by omega) _ u' h' hok hN hS)⟩⟩
  unfold w_X4_makeBestSwap
  refine h0.costs (fun u1 h1 _ => ?_)
  rw [h1.2.1.2.2.1.2.2.1]
  exact ⟨30 - t + 1, outer (30 - t) t (by omega) (Nat.le_refl t) (costF E np t P, none) u1 h1 (bsr_ok ht) hN hS⟩
noncomputable def bet (E : Mem) (np t : Nat) : Nat → Nat → (Nat → Int32) → Nat × (Nat → Int32)
  | 0, v, P => (v, P)
  | N + 1, v, P => match (bsr E np t P).2 with
    | none => (v, P)
    | some (i, j) => bet E np t N (v + 1) (pswap P i j)
theorem bet_none {E : Mem} {np t : Nat} {P : Nat → Int32} (N v : Nat) (h : (bsr E np t P).2 = none) : bet E np t N v P = (v, P) := by
  cases N with
  | zero => rfl
  | succ N =>
    unfold bet
    rw [h]
theorem bet_some {E : Mem} {np t : Nat} {P : Nat → Int32} {i j : Nat} (N v : Nat) (h : (bsr E np t P).2 = some (i, j)) : bet E np t (N + 1) v P = bet E np t N (v + 1) (pswap P i j) := by
  conv => lhs; unfold bet
  rw [h]
/-- a swap that is made costs less: N swaps at most -/
theorem bsr_less {E : Mem} {n np t : Nat} {P : Nat → Int32} {i j N : Nat} (hn : n ≤ 10) (ht : t ≤ 30) (hP : plJ n P) (hu : ∀ a, a < n → useOK E a) (hN : ∃ c, c ≤ N ∧ costF E np t P = nI c) (h : (bsr E np t P).2 = some (i, j)) : ∃ M, N = M + 1 ∧ (∃ c, c ≤ M ∧ costF E np t (pswap P i j) = nI c) ∧ (t ≤ i ∧ i < 30) ∧ (t ≤ j ∧ j < 30) := by
  rcases bsr_ok (E := E) (np := np) (P := P) ht with ⟨e, -⟩ | ⟨x, y, e, hx, hy, e1, e2⟩
  · rw [e] at h
    cases h
  · rw [e] at h
    cases h
    obtain ⟨c, hc, ec⟩ := hN
    obtain ⟨c', hc', ec'⟩ := isN_cost (E := E) (np := np) (t := t) hn (plJ_swap hP hx.2 hy.2).1 hu
    obtain ⟨c2, hc2, ec2⟩ := isN_cost (E := E) (np := np) (t := t) hn hP.1 hu
    have hcc : c ≤ 2400 ∨ ¬ c ≤ 2400 := Classical.em _
    rw [e1, ec2, ec', nI_leI (by omega) (by omega)] at e2
    rw [ec'] at e1
    have hc3 : c2 ≤ N := by
      rcases Nat.lt_or_ge c (2 ^ 31) with q | q
      · have : c2 = c := (nI_eq (by omega) q).mp (ec2.symm.trans ec)
        omega
      · omega
    refine ⟨N - 1, by omega, ⟨c', by omega, ec'⟩, hx, hy⟩
theorem X4_better {n np t : Nat} {E : Mem} {post : Int32 → Mem → Prop} (hu : ∀ a, a < n → useOK E a) : ∀ (N v : Nat) (P : Nat → Int32) (u : Mem), v + N < 1000000 → (∃ c, c ≤ N ∧ costF E np t P = nI c) → CP n np t E u P → (∀ u', CP n np t E u' (bet E np t N v P).2 → post (nI (bet E np t N v P).1) u') → l_X4_better_2 n np post (N + 1) (nI v) u := by
  intro N
  induction N with
  | zero =>
    intro v P u hv hc h hp
    show lb_X4_better_2 n np post _ _ _
    unfold lb_X4_better_2
    refine ⟨fun c => absurd ((nI_leI (a := 1000000) (by omega) (by omega)).mp c) (by omega), fun _ => X4_makeBestSwap h (fun e u' h' => ⟨fun _ => hp u' h', fun c => absurd rfl c⟩) (fun i j e u' h' => ?_)⟩
    obtain ⟨M, hM, -⟩ := bsr_less h.2.1.1.1 h.2.1.1.2.2 h.2.2.2 hu hc e
    omega
  | succ N ih =>
    intro v P u hv hc h hp
    show lb_X4_better_2 n np post (l_X4_better_2 n np post (N + 1)) _ _
    unfold lb_X4_better_2
    rw [nI_s1]
    refine ⟨fun c => absurd ((nI_leI (a := 1000000) (by omega) (by omega)).mp c) (by omega), fun _ => X4_makeBestSwap h (fun e u' h' => ⟨fun _ => ?_, fun c => absurd rfl c⟩) (fun i j e u' h' => ⟨fun c => absurd c z10, fun _ => ?_⟩)⟩
    · rw [bet_none _ _ e] at hp
      exact hp u' h'
    · rw [bet_some _ _ e] at hp
      obtain ⟨M, hM, hc', -, -⟩ := bsr_less h.2.1.1.1 h.2.1.1.2.2 h.2.2.2 hu hc e
      have eM : N = M := by omega
      subst eM
      exact ih (v + 1) _ u' (by omega) hc' h' hp
