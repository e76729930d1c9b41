/-! A DAY IS SHOT: both sides' ways -/
theorem ffd_congr {P Q : Nat → Int32} : ∀ m d : Nat, (∀ k, d ≤ k → k < d + m → P k = Q k) → ffd P m d = ffd Q m d := by
  intro m
  induction m with
  | zero => intro d _; rfl
  | succ m ih =>
    intro d h
    unfold ffd
    rw [h d (Nat.le_refl d) (by omega), ih (d + 1) (fun k a b => h k (by omega) (by omega))]
/-- what the class's day leaves, whatever it was -/
def dayC (t : Nat) (μ u : Mem) (X : Nat → Int32) (C : Nat → Nat → Int32) : Prop :=
  (∀ f, f ≠ 30 → f ≠ 32 → f ≠ 40 → f ≠ 42 → f ≠ 43 → f ≠ 70 → u f = μ f) ∧ u 30 0 7 = μ 30 0 7 ∧ u 30 0 8 = μ 30 0 8 ∧ u 30 0 9 = nI (t + 1) ∧ (∀ k, k < 5 → u 42 0 k = zmin 20 (X k + nI 1)) ∧ eq45 (fun p => u 43 p) C
theorem X4_dayEnds {n np t : Nat} {post : Int32 → Mem → Prop} {xpost : String → Mem → Prop} {r : Int32} {μ : Mem} (m9 : μ 30 0 9 = nI t) (hp : ∀ u : Mem, (∀ f, f ≠ 30 → f ≠ 40 → f ≠ 42 → f ≠ 43 → u f = μ f) → (∀ k, k ≠ 9 → u 30 0 k = μ 30 0 k) → u 30 0 9 = nI (t + 1) → (∀ k, k < 5 → u 42 0 k = zmin 20 (μ 42 0 k + nI 1)) → (∀ p, p < 5 → u 43 p = μ 43 p) → u 40 0 2 = μ 40 0 2 → post r u) : b_X4_shoot_104 n np post xpost r μ := by
  have key : w_X3_growBeards n np (fun (μ6 : Mem) => (∀ μ8 : Mem, μ8 = zst μ6 30 0 9 ((μ6 30 0 9) + 1) → post r μ8)) 0 (nI 1) (tri 0 μ (μ 42 0) (fun p => μ 43 (5 * 0 + p)) (μ 40 0 2)) := by
    refine X3_growBeards (by omega) (fun u eu => ?_)
    rw [tri_o 0 (f := 30) (by omega) (by omega) (by omega), m9, nI_s1] at eu
    refine hp u (fun f h1 h2 h3 h4 => ?_) (fun k hk => ?_) ?_ (fun k hk => ?_) (fun p hp5 => ?_) ?_
    · rw [eu, zst_o h1]
      funext i
      exact tri_o i h2 h3 h4
    · rw [eu, zst_ap, if_neg (fun q => hk q.2.2), tri_o 0 (by omega) (by omega) (by omega)]
    · rw [eu, zst_ap, if_pos ⟨rfl, rfl, rfl⟩]
    · rw [eu, zst_o (by omega), tri_g]
      unfold gmn
      rw [if_pos hk]
    · rw [eu, zst_o (by omega)]
      funext k
      have := tri_c (b := 0) (μ := μ) (g := gmn 1 (μ 42 0) 5) (c := fun p => μ 43 (5 * 0 + p)) (x := μ 40 0 2) hp5 k
      rw [show 5 * 0 + p = p by omega] at this
      exact this
    · rw [eu, zst_o (by omega), tri_x]
  rw [tri_id] at key
  exact key
theorem X4_shoot3 {n np t : Nat} {post : Int32 → Mem → Prop} {xpost : String → Mem → Prop} {μ : Mem} (he : env n np t μ μ) (hpl : planI n t μ μ) (ht30 : t < 30)
    (hA : μ 8 0 t = -1 → ∀ u, dayC t μ u (μ 42 0) (fun p => μ 43 p) → u 30 0 10 = μ 30 0 10 → u 40 0 2 = μ 40 0 2 → u 70 = μ 70 → (∀ k, u 32 0 k = if k = t then -1 else μ 32 0 k) → post (-1) u)
    (hB : ∀ a, a < n → μ 8 0 t = nI a → al μ np a t → ∀ u, dayC t μ u (gAs (bds μ a) (μ 42 0) 5) (cP μ a 5 (fun p => μ 43 p)) → u 30 0 10 = μ 30 0 10 + svS μ a (μ 40 0 2) (μ 42 0) (fun p => μ 43 p) → u 40 0 2 = μ 1 0 a → (∀ j i, u 70 j i = if j = a ∧ i = 6 then 1 else if j = a ∧ i = 7 then nI t else μ 70 j i) → (∀ k, u 32 0 k = if k = t then -1 else μ 32 0 k) → post (nI a) u)
    (hC2 : ∀ a, a < n → μ 8 0 t = nI a → ¬ al μ np a t → ffd (μ 8 0) (29 - t) (t + 1) = 30 → ∀ u, dayC t μ u (μ 42 0) (fun p => μ 43 p) → u 30 0 10 = μ 30 0 10 → u 40 0 2 = μ 40 0 2 → (∀ j i, u 70 j i = if j = a ∧ i = 6 then 2 else μ 70 j i) → (∀ k, u 32 0 k = if k = t then -1 else μ 32 0 k) → post (-1) u)
    (hC0 : ∀ a, a < n → μ 8 0 t = nI a → ¬ al μ np a t → ∀ d, d = ffd (μ 8 0) (29 - t) (t + 1) → d < 30 → ∀ u, dayC t μ u (μ 42 0) (fun p => μ 43 p) → u 30 0 10 = μ 30 0 10 → u 40 0 2 = μ 40 0 2 → u 70 = μ 70 → (∀ k, u 32 0 k = if k = d then nI a else if k = t then -1 else μ 32 0 k) → post (-1) u) : w_X4_shoot n np post xpost μ := by
  obtain ⟨⟨hn, hnp, ht⟩, ⟨e0, e3, e12⟩, ⟨m7, m8, m9, m10⟩, hal, hst, hg, hsk, hsc, htold, hz⟩ := id he
  have m1 : ∀ μ3 : Mem, μ3 = zst μ 32 0 t (-1) → (∀ f, f ≠ 32 → μ3 f = μ f) ∧ ∀ k, μ3 32 0 k = if k = t then -1 else μ 32 0 k := by
    intro μ3 e3
    refine ⟨fun f hf => by rw [e3, zst_o hf], fun k => ?_⟩
    rw [e3, zst_ap]
    by_cases h : k = t <;> simp [h]
  -- the day's end, from a memory that differs from μ in what the day did
  have fin : ∀ (r : Int32) (u1 : Mem), (∀ f, f ≠ 30 → f ≠ 32 → f ≠ 40 → f ≠ 42 → f ≠ 43 → f ≠ 70 → u1 f = μ f) → (∀ k, k ≠ 10 → u1 30 0 k = μ 30 0 k) → (∀ u, dayC t μ u (u1 42 0) (fun p => u1 43 p) → u 30 0 10 = u1 30 0 10 → u 40 0 2 = u1 40 0 2 → u 70 = u1 70 → u 32 = u1 32 → post r u) → b_X4_shoot_104 n np post xpost r u1 := by
    intro r u1 ho h30 hpost
    refine X4_dayEnds (t := t) (by rw [h30 9 (by omega)]; exact m9) (fun u q1 q2 q3 q4 q5 q6 => hpost u ⟨fun f a1 a2 a3 a4 a5 a6 => (q1 f a1 a3 a4 a5).trans (ho f a1 a2 a3 a4 a5 a6), (q2 7 (by omega)).trans (h30 7 (by omega)), (q2 8 (by omega)).trans (h30 8 (by omega)), q3, q4, fun p s hp _ => by
      show u 43 p s = u1 43 p s
      rw [q5 p hp]⟩ (q2 10 (by omega)) q6 (q1 70 (by omega) (by omega) (by omega) (by omega)) (q1 32 (by omega) (by omega) (by omega) (by omega)))
  unfold w_X4_shoot
  rw [m9, cl (by omega), hpl.1 t ht30]
  refine ⟨fun _ => ⟨vin ht30 (by omega), fun μ3 e3' => ?_⟩, fun c => absurd ((lt_lit 30 rfl (by omega) rfl (by omega)).mpr ht30) c⟩
  obtain ⟨o3, p3⟩ := m1 μ3 e3'
  have o9 : μ3 30 0 9 = nI t := by rw [o3 30 (by omega)]; exact m9
  rcases hpl.2.1 t ht30 with e | ⟨a, ha, e⟩
  · rw [e]
    refine ⟨fun _ => ⟨fun _ => fin _ μ3 (fun f _ h _ _ _ _ => o3 f h) (fun k _ => by rw [o3 30 (by omega)]) (fun u hd h10 h40 h70 h32 => ?_), fun c => absurd neg1 c⟩, fun c => absurd neg1 c⟩
    rw [o3 42 (by omega), o3 43 (by omega)] at hd
    exact hA e u hd (by rw [h10, o3 30 (by omega)]) (by rw [h40, o3 40 (by omega)]) (by rw [h70, o3 70 (by omega)]) (fun k => by rw [h32, p3])
  · rw [e, cl (by omega), o9]
    refine ⟨fun c => absurd c (pos (by omega)), fun _ => X4_allows (E := μ) ha ht30 hnp (alRel_of (fun f hf => o3 f (by omega)) hal) (fun hal1 => ⟨fun c => absurd c z10, fun _ => ?_⟩) (fun hal0 => ⟨fun _ => ?_, fun c => absurd rfl c⟩)⟩
    · have hnn : ∀ p, p < 5 → nng ((fun p => μ3 43 (5 * 0 + p)) p) := fun p hp => by
        have := sokr_nng (sok_eq45 hst.2.1 hsk p hp) (by omega)
        rw [o3 43 (by omega)]
        show nng (μ 43 (5 * 0 + p))
        rw [show 5 * 0 + p = p by omega]
        exact this
      have key := X3_film (n := n) (np := np) (post := fun (r15 : Int32) (μ14 : Mem) => (∀ μ16 : Mem, μ16 = zst μ14 30 0 10 ((μ3 30 0 10) + r15) → (a < n ∧ ∀ μ18 : Mem, μ18 = zst μ16 70 a 6 1 → (∀ μ19 : Mem, μ19 = zst μ18 70 a 7 (μ18 30 0 9) → b_X4_shoot_104 n np post xpost (μ19 70 a 0) μ19)))) (b := 0) (x := μ3 40 0 2) (μ := μ3) (E := μ) (g := μ3 42 0) (c := fun p => μ3 43 (5 * 0 + p)) (by omega) ha ((alRel_of (fun f hf => o3 f (by omega)) hal).1 a ha) (hsc a ha).2.2.2.2 hnn
      rw [tri_id] at key
      refine key (fun u4 eu4 => ⟨ha, fun u5 eu5 u6 eu6 => ?_⟩)
      clear key
      have ec : (fun p => μ3 43 (5 * 0 + p)) = fun p => μ 43 p := by
        funext p
        rw [o3 43 (by omega), show 5 * 0 + p = p by omega]
      rw [ec, o3 40 (by omega), o3 42 (by omega), o3 30 (by omega)] at eu4
      have t30 : ∀ f, f ≠ 40 → f ≠ 42 → f ≠ 43 → tri 0 μ3 (gAs (bds μ a) (μ 42 0) 5) (cP μ a 5 (fun p => μ 43 p)) (μ 1 0 a) f = μ3 f := by
        intro f h1 h2 h3
        funext i
        exact tri_o i h1 h2 h3
      have v30 : ∀ k, k ≠ 10 → u5 30 0 k = μ 30 0 k := by
        intro k hk
        rw [eu5, zst_o (by omega), eu4, zst_ap, if_neg (fun q => hk q.2.2), t30 30 (by omega) (by omega) (by omega), o3 30 (by omega)]
      have w70 : ∀ j i, u6 70 j i = if j = a ∧ i = 6 then 1 else if j = a ∧ i = 7 then nI t else μ 70 j i := by
        intro j i
        rw [eu6, zst_ap, v30 9 (by omega), m9, eu5, zst_ap, eu4, zst_o (f' := 70) (by omega), t30 70 (by omega) (by omega) (by omega), o3 70 (by omega)]
        by_cases h1 : j = a ∧ i = 7
        · rw [if_pos ⟨rfl, h1⟩, if_neg (by omega), if_pos h1]
        · rw [if_neg (fun q => h1 q.2)]
          by_cases h2 : j = a ∧ i = 6
          · rw [if_pos ⟨rfl, h2⟩, if_pos h2]
          · rw [if_neg (fun q => h2 q.2), if_neg h2, if_neg h1]
      have e7 : u6 70 a 0 = nI a := by
        rw [w70, if_neg (by omega), if_neg (by omega)]
        exact (hsc a ha).1
      rw [e7]
      refine fin _ u6 (fun f h1 h2 h3 h4 h5 h6 => ?_) (fun k hk => ?_) (fun u hd h10 h40 h70 h32 => ?_)
      · rw [eu6, zst_o h6, eu5, zst_o h6, eu4, zst_o h1, t30 f h3 h4 h5, o3 f h2]
      · rw [eu6, zst_o (by omega)]
        exact v30 k hk
      · have x42 : u6 42 0 = gAs (bds μ a) (μ 42 0) 5 := by
          funext k
          rw [eu6, zst_o (by omega), eu5, zst_o (by omega), eu4, zst_o (by omega), tri_g]
        have x43 : eq45 (fun p => u6 43 p) (cP μ a 5 (fun p => μ 43 p)) := by
          intro p s hp hs
          show u6 43 p s = _
          rw [eu6, zst_o (by omega), eu5, zst_o (by omega), eu4, zst_o (by omega)]
          have := tri_c (b := 0) (μ := μ3) (g := gAs (bds μ a) (μ 42 0) 5) (c := cP μ a 5 (fun p => μ 43 p)) (x := μ 1 0 a) hp s
          rw [show 5 * 0 + p = p by omega] at this
          exact this
        have x40 : u6 40 0 2 = μ 1 0 a := by
          rw [eu6, zst_o (by omega), eu5, zst_o (by omega), eu4, zst_o (by omega), tri_x]
        have x10 : u6 30 0 10 = μ 30 0 10 + svS μ a (μ 40 0 2) (μ 42 0) (fun p => μ 43 p) := by
          rw [eu6, zst_o (by omega), eu5, zst_o (by omega), eu4, zst_ap, if_pos ⟨rfl, rfl, rfl⟩]
        obtain ⟨d1, d2, d3, d4, d5, d6⟩ := hd
        rw [x42] at d5
        refine hB a ha e hal1 u ⟨d1, d2, d3, d4, d5, fun p s hp hs => (d6 p s hp hs).trans (x43 p s hp hs)⟩ (h10.trans x10) (h40.trans x40) (fun j i => by rw [h70, w70]) (fun k => ?_)
        rw [h32, eu6, zst_o (by omega), eu5, zst_o (by omega), eu4, zst_o (by omega), t30 32 (by omega) (by omega) (by omega), p3]
    · have hff : ffd (μ3 32 0) (29 - t) (t + 1) = ffd (μ 8 0) (29 - t) (t + 1) := ffd_congr _ _ (fun k a b => by rw [p3, if_neg (by omega), hpl.1 k (by omega)])
      refine ⟨fun c => absurd c (pos (by omega)), fun _ => X4_putOff hn ha ht30 o9 (fun d hd => ?_) (fun hc u1 eu1 => ?_) (fun d ed hd u1 eu1 => ?_)⟩
      · rw [p3]
        by_cases h : d = t
        · rw [if_pos h]; exact Or.inl rfl
        · rw [if_neg h]; exact planI_cls hpl d hd
      · rw [hff] at hc
        refine fin _ u1 (fun f _ h2 _ _ _ h6 => by rw [eu1, zst_o h6, o3 f h2]) (fun k _ => by rw [eu1, zst_o (by omega), o3 30 (by omega)]) (fun u hd h10 h40 h70 h32 => ?_)
        rw [show u1 42 0 = μ 42 0 by rw [eu1, zst_o (by omega), o3 42 (by omega)], show u1 43 = μ 43 by rw [eu1, zst_o (by omega), o3 43 (by omega)]] at hd
        refine hC2 a ha e hal0 hc u hd (by rw [h10, eu1, zst_o (by omega), o3 30 (by omega)]) (by rw [h40, eu1, zst_o (by omega), o3 40 (by omega)]) (fun j i => ?_) (fun k => by rw [h32, eu1, zst_o (by omega), p3])
        rw [h70, eu1, zst_ap, o3 70 (by omega)]
        by_cases h : j = a ∧ i = 6
        · rw [if_pos ⟨rfl, h⟩, if_pos h]
        · rw [if_neg (fun q => h q.2), if_neg h]
      · rw [hff] at ed
        refine fin _ u1 (fun f _ h2 _ _ _ h6 => by rw [eu1, zst_o h2, o3 f h2]) (fun k _ => by rw [eu1, zst_o (by omega), o3 30 (by omega)]) (fun u hd1 h10 h40 h70 h32 => ?_)
        rw [show u1 42 0 = μ 42 0 by rw [eu1, zst_o (by omega), o3 42 (by omega)], show u1 43 = μ 43 by rw [eu1, zst_o (by omega), o3 43 (by omega)]] at hd1
        refine hC0 a ha e hal0 d ed hd u hd1 (by rw [h10, eu1, zst_o (by omega), o3 30 (by omega)]) (by rw [h40, eu1, zst_o (by omega), o3 40 (by omega)]) (by rw [h70, eu1, zst_o (by omega), o3 70 (by omega)]) (fun k => ?_)
        rw [h32, eu1, zst_ap, p3]
        by_cases h : k = d <;> simp [h]
/-- what the reference's day leaves, whatever it was -/
def dayR (t : Nat) (w v : Mem) (G : Nat → Int32) (C : Nat → Nat → Int32) : Prop :=
  v 0 0 0 = nI (t + 1) ∧ (∀ k, k ≠ 0 → k ≠ 1 → k ≠ 2 → k ≠ 25 → v 0 0 k = w 0 0 k) ∧ v 0 0 25 = 0 ∧ (∀ f, (f = 1 ∨ f = 2 ∨ f = 5 ∨ f = 6 ∨ f = 7 ∨ (9 ≤ f ∧ f ≤ 14)) → v f 0 = w f 0) ∧ (∀ f, 19 ≤ f → v f = w f) ∧ (∀ k, k < 5 → v 15 0 k = g1 (G k)) ∧ eq45 (fun p s => v 16 0 (4 * p + s)) C
