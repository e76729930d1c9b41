/-! A DAY IS SHOT: both sides' ways -/
theorem ffd_congr {P Q : Nat → Int32} : ∀ m d : Nat, (∀ k, d ≤ k → k < d + m → P k = Q k) → ffd P m d = ffd Q m d := by
  intro m
  induction m with
  | zero => intro d _; rfl
  | succ m ih =>
    intro d h
    unfold ffd
    rw [h d (Nat.le_refl d) (by omega), ih (d + 1) (fun k a b => h k (by omega) (by omega))]
/-- what the class's day leaves, whatever it was -/
def dayC (t : Nat) (μ u : Mem) (X : Nat → Int32) (C : Nat → Nat → Int32) : Prop :=
  (∀ f, f ≠ 30 → f ≠ 32 → f ≠ 40 → f ≠ 42 → f ≠ 43 → f ≠ 70 → u f = μ f) ∧ u 30 0 7 = μ 30 0 7 ∧ u 30 0 8 = μ 30 0 8 ∧ u 30 0 9 = nI (t + 1) ∧ (∀ k, k < 5 → u 42 0 k = zmin 20 (X k + nI 1)) ∧ eq45 (fun p => u 43 p) C
theorem X4_dayEnds {n np t : Nat} {post : Int32 → Mem → Prop} {xpost : String → Mem → Prop} {r : Int32} {μ : Mem} (m9 : μ 30 0 9 = nI t) (hp : ∀ u : Mem, (∀ f, f ≠ 30 → f ≠ 40 → f ≠ 42 → f ≠ 43 → u f = μ f) → (∀ k, k ≠ 9 → u 30 0 k = μ 30 0 k) → u 30 0 9 = nI (t + 1) → (∀ k, k < 5 → u 42 0 k = zmin 20 (μ 42 0 k + nI 1)) → (∀ p, p < 5 → u 43 p = μ 43 p) → u 40 0 2 = μ 40 0 2 → post r u) : b_X4_shoot_104 n np post xpost r μ := by
  have key : w_X3_growBeards n np (fun (μ6 : Mem) => (∀ μ8 : Mem, μ8 = zst μ6 30 0 9 ((μ6 30 0 9) + 1) → post r μ8)) 0 (nI 1) (tri 0 μ (μ 42 0) (fun p => μ 43 (5 * 0 + p)) (μ 40 0 2)) := by
    refine X3_growBeards (by omega) (fun u eu => ?_)
    rw [tri_o 0 (f := 30) (by omega) (by omega) (by omega), m9, nI_s1] at eu
    refine hp u (fun f h1 h2 h3 h4 => ?_) (fun k hk => ?_) ?_ (fun k hk => ?_) (fun p hp5 => ?_) ?_
    · rw [eu, zst_o h1]
      funext i
      exact tri_o i h2 h3 h4
    · rw [eu, zst_ap, if_neg (fun q => hk q.2.2), tri_o 0 (by omega) (by omega) (by omega)]
    · rw [eu, zst_ap, if_pos ⟨rfl, rfl, rfl⟩]
    · rw [eu, zst_o (by omega), tri_g]
      unfold gmn
      rw [if_pos hk]
    · rw [eu, zst_o (by omega)]
      funext k
      have := tri_c (b := 0) (μ := μ) (g := gmn 1 (μ 42 0) 5) (c := fun p => μ 43 (5 * 0 + p)) (x := μ 40 0 2) hp5 k
      rw [show 5 * 0 + p = p by omega] at this
      exact this
    · rw [eu, zst_o (by omega), tri_x]
  rw [tri_id] at key
  exact key
theorem X4_shoot3 {n np t : Nat} {post : Int32 → Mem → Prop} {xpost : String → Mem → Prop} {μ : Mem} (he : env n np t μ μ) (hpl : planI n t μ μ) (ht30 : t < 30)
    (hA : μ 8 0 t = -1 → ∀ u, dayC t μ u (μ 42 0) (fun p => μ 43 p) → u 30 0 10 = μ 30 0 10 → u 40 0 2 = μ 40 0 2 → u 70 = μ 70 → (∀ k, u 32 0 k = if k = t then -1 else μ 32 0 k) → post (-1) u)
    (hB : ∀ a, a < n → μ 8 0 t = nI a → al μ np a t → ∀ u, dayC t μ u (gAs (bds μ a) (μ 42 0) 5) (cP μ a 5 (fun p => μ 43 p)) → u 30 0 10 = μ 30 0 10 + svS μ a (μ 40 0 2) (μ 42 0) (fun p => μ 43 p) → u 40 0 2 = μ 1 0 a → (∀ j i, u 70 j i = if j = a ∧ i = 6 then 1 else if j = a ∧ i = 7 then nI t else μ 70 j i) → (∀ k, u 32 0 k = if k = t then -1 else μ 32 0 k) → post (nI a) u)
    (hC2 : ∀ a, a < n → μ 8 0 t = nI a → ¬ al μ np a t → ffd (μ 8 0) (29 - t) (t + 1) = 30 → ∀ u, dayC t μ u (μ 42 0) (fun p => μ 43 p) → u 30 0 10 = μ 30 0 10 → u 40 0 2 = μ 40 0 2 → (∀ j i, u 70 j i = if j = a ∧ i = 6 then 2 else μ 70 j i) → (∀ k, u 32 0 k = if k = t then -1 else μ 32 0 k) → post (-1) u)
    (hC0 : ∀ a, a < n → μ 8 0 t = nI a → ¬ al μ np a t → ∀ d, d = ffd (μ 8 0) (29 - t) (t + 1) → d < 30 → ∀ u, dayC t μ u (μ 42 0) (fun p => μ 43 p) → u 30 0 10 = μ 30 0 10 → u 40 0 2 = μ 40 0 2 → u 70 = μ 70 → (∀ k, u 32 0 k = if k = d then nI a else if k = t then -1 else μ 32 0 k) → post (-1) u) : w_X4_shoot n np post xpost μ := by
  obtain ⟨⟨hn, hnp, ht⟩, ⟨e0, e3, e12⟩, ⟨m7, m8, m9, m10⟩, hal, hst, hg, hsk, hsc, htold, hz⟩ := id he
  have m1 : ∀ μ3 : Mem, μ3 = zst μ 32 0 t (-1) → (∀ f, f ≠ 32 → μ3 f = μ f) ∧ ∀ k, μ3 32 0 k = if k = t then -1 else μ 32 0 k := by
    intro μ3 e3
    refine ⟨fun f hf => by rw [e3, zst_o hf], fun k => ?_⟩
    rw [e3, zst_ap]
    by_cases h : k = t <;> simp [h]
  -- the day's end, from a memory that differs from μ in what the day did
  have fin : ∀ (r : Int32) (u1 : Mem), (∀ f, f ≠ 30 → f ≠ 32 → f ≠ 40 → f ≠ 42 → f ≠ 43 → f ≠ 70 → u1 f = μ f) → (∀ k, k ≠ 10 → u1 30 0 k = μ 30 0 k) → (∀ u, dayC t μ u (u1 42 0) (fun p => u1 43 p) → u 30 0 10 = u1 30 0 10 → u 40 0 2 = u1 40 0 2 → u 70 = u1 70 → u 32 = u1 32 → post r u) → b_X4_shoot_104 n np post xpost r u1 := by
    intro r u1 ho h30 hpost
    refine X4_dayEnds (t := t) (by rw [h30 9 (by omega)]; exact m9) (fun u q1 q2 q3 q4 q5 q6 => hpost u ⟨fun f a1 a2 a3 a4 a5 a6 => (q1 f a1 a3 a4 a5).trans (ho f a1 a2 a3 a4 a5 a6), (q2 7 (by omega)).trans (h30 7 (by omega)), (q2 8 (by omega)).trans (h30 8 (by omega)), q3, q4, fun p s hp _ => by
      show u 43 p s = u1 43 p s
      rw [q5 p hp]⟩ (q2 10 (by omega)) q6 (q1 70 (by omega) (by omega) (by omega) (by omega)) (q1 32 (by omega) (by omega) (by omega) (by omega)))
  unfold w_X4_shoot
  rw [m9, cl (by omega), hpl.1 t ht30]
  refine ⟨fun _ => ⟨vin ht30 (by omega), fun μ3 e3' => ?_⟩, fun c => absurd ((lt_lit 30 rfl (by omega) rfl (by omega)).mpr ht30) c⟩
  obtain ⟨o3, p3⟩ := m1 μ3 e3'
  have o9 : μ3 30 0 9 = nI t := by rw [o3 30 (by omega)]; exact m9
  rcases hpl.2.1 t ht30 with e | ⟨a, ha, e⟩
  · rw [e]
    refine ⟨fun _ => ⟨fun _ => fin _ μ3 (fun f _ h _ _ _ _ => o3 f h) (fun k _ => by rw [o3 30 (by omega)]) (fun u hd h10 h40 h70 h32 => ?_), fun c => absurd neg1 c⟩, fun c => absurd neg1 c⟩
    rw [o3 42 (by omega), o3 43 (by omega)] at hd
    exact hA e u hd (by rw [h10, o3 30 (by omega)]) (by rw [h40, o3 40 (by omega)]) (by rw [h70, o3 70 (by omega)]) (fun k => by rw [h32, p3])
  · rw [e, cl (by omega), o9]
    refine ⟨fun c => absurd c (pos (by omega)), fun _ => X4_allows (E := μ) ha ht30 hnp (alRel_of (fun f hf => o3 f (by omega)) hal) (fun hal1 => ⟨fun c => absurd c z10, fun _ => ?_⟩) (fun hal0 => ⟨fun _ => ?_, fun c => absurd rfl c⟩)⟩
    · have hnn : ∀ p, p < 5 → nng ((fun p => μ3 43 (5 * 0 + p)) p) := fun p hp => by
        have := sokr_nng (sok_eq45 hst.2.1 hsk p hp) (by omega)
        rw [o3 43 (by omega)]
        show nng (μ 43 (5 * 0 + p))
        rw [show 5 * 0 + p = p by omega]
        exact this
      have key := X3_film (n := n) (np := np) (post := fun (r15 : Int32) (μ14 : Mem) => (∀ μ16 : Mem, μ16 = zst μ14 30 0 10 ((μ3 30 0 10) + r15) → (a < n ∧ ∀ μ18 : Mem, μ18 = zst μ16 70 a 6 1 → (∀ μ19 : Mem, μ19 = zst μ18 70 a 7 (μ18 30 0 9) → b_X4_shoot_104 n np post xpost (μ19 70 a 0) μ19)))) (b := 0) (x := μ3 40 0 2) (μ := μ3) (E := μ) (g := μ3 42 0) (c := fun p => μ3 43 (5 * 0 + p)) (by omega) ha ((alRel_of (fun f hf => o3 f (by omega)) hal).1 a ha) (hsc a ha).2.2.2.2 hnn
      rw [tri_id] at key
      refine key (fun u4 eu4 => ⟨ha, fun u5 eu5 u6 eu6 => ?_⟩)
      clear key
      have ec : (fun p => μ3 43 (5 * 0 + p)) = fun p => μ 43 p := by
        funext p
        rw [o3 43 (by omega), show 5 * 0 + p = p by omega]
      rw [ec, o3 40 (by omega), o3 42 (by omega), o3 30 (by omega)] at eu4
      have t30 : ∀ f, f ≠ 40 → f ≠ 42 → f ≠ 43 → tri 0 μ3 (gAs (bds μ a) (μ 42 0) 5) (cP μ a 5 (fun p => μ 43 p)) (μ 1 0 a) f = μ3 f := by
        intro f h1 h2 h3
        funext i
        exact tri_o i h1 h2 h3
      have v30 : ∀ k, k ≠ 10 → u5 30 0 k = μ 30 0 k := by
        intro k hk
        rw [eu5, zst_o (by omega), eu4, zst_ap, if_neg (fun q => hk q.2.2), t30 30 (by omega) (by omega) (by omega), o3 30 (by omega)]
      have w70 : ∀ j i, u6 70 j i = if j = a ∧ i = 6 then 1 else if j = a ∧ i = 7 then nI t else μ 70 j i := by
        intro j i
        rw [eu6, zst_ap, v30 9 (by omega), m9, eu5, zst_ap, eu4, zst_o (f' := 70) (by omega), t30 70 (by omega) (by omega) (by omega), o3 70 (by omega)]
        by_cases h1 : j = a ∧ i = 7
        · rw [if_pos ⟨rfl, h1⟩, if_neg (by omega), if_pos h1]
        · rw [if_neg (fun q => h1 q.2)]
          by_cases h2 : j = a ∧ i = 6
          · rw [if_pos ⟨rfl, h2⟩, if_pos h2]
          · rw [if_neg (fun q => h2 q.2), if_neg h2, if_neg h1]
      have e7 : u6 70 a 0 = nI a := by
        rw [w70, if_neg (by omega), if_neg (by omega)]
        exact (hsc a ha).1
      rw [e7]
      refine fin _ u6 (fun f h1 h2 h3 h4 h5 h6 => ?_) (fun k hk => ?_) (fun u hd h10 h40 h70 h32 => ?_)
      · rw [eu6, zst_o h6, eu5, zst_o h6, eu4, zst_o h1, t30 f h3 h4 h5, o3 f h2]
      · rw [eu6, zst_o (by omega)]
        exact v30 k hk
      · have x42 : u6 42 0 = gAs (bds μ a) (μ 42 0) 5 := by
          funext k
          rw [eu6, zst_o (by omega), eu5, zst_o (by omega), eu4, zst_o (by omega), tri_g]
        have x43 : eq45 (fun p => u6 43 p) (cP μ a 5 (fun p => μ 43 p)) := by
          intro p s hp hs
          show u6 43 p s = _
          rw [eu6, zst_o (by omega), eu5, zst_o (by omega), eu4, zst_o (by omega)]
          have := tri_c (b := 0) (μ := μ3) (g := gAs (bds μ a) (μ 42 0) 5) (c := cP μ a 5 (fun p => μ 43 p)) (x := μ 1 0 a) hp s
          rw [show 5 * 0 + p = p by omega] at this
          exact this
        have x40 : u6 40 0 2 = μ 1 0 a := by
          rw [eu6, zst_o (by omega), eu5, zst_o (by omega), eu4, zst_o (by omega), tri_x]
        have x10 : u6 30 0 10 = μ 30 0 10 + svS μ a (μ 40 0 2) (μ 42 0) (fun p => μ 43 p) := by
          rw [eu6, zst_o (by omega), eu5, zst_o (by omega), eu4, zst_ap, if_pos ⟨rfl, rfl, rfl⟩]
        obtain ⟨d1, d2, d3, d4, d5, d6⟩ := hd
        rw [x42] at d5
        refine hB a ha e hal1 u ⟨d1, d2, d3, d4, d5, fun p s hp hs => (d6 p s hp hs).trans (x43 p s hp hs)⟩ (h10.trans x10) (h40.trans x40) (fun j i => by rw [h70, w70]) (fun k => ?_)
        rw [h32, eu6, zst_o (by omega), eu5, zst_o (by omega), eu4, zst_o (by omega), t30 32 (by omega) (by omega) (by omega), p3]
    · have hff : ffd (μ3 32 0) (29 - t) (t + 1) = ffd (μ 8 0) (29 - t) (t + 1) := ffd_congr _ _ (fun k a b => by rw [p3, if_neg (by omega), hpl.1 k (by omega)])
      refine ⟨fun c => absurd c (pos (by omega)), fun _ => X4_putOff hn ha ht30 o9 (fun d hd => ?_) (fun hc u1 eu1 => ?_) (fun d ed hd u1 eu1 => ?_)⟩
      · rw [p3]
        by_cases h : d = t
        · rw [if_pos h]; exact Or.inl rfl
        · rw [if_neg h]; exact planI_cls hpl d hd
      · rw [hff] at hc
        refine fin _ u1 (fun f _ h2 _ _ _ h6 => by rw [eu1, zst_o h6, o3 f h2]) (fun k _ => by rw [eu1, zst_o (by omega), o3 30 (by omega)]) (fun u hd h10 h40 h70 h32 => ?_)
        rw [show u1 42 0 = μ 42 0 by rw [eu1, zst_o (by omega), o3 42 (by omega)], show u1 43 = μ 43 by rw [eu1, zst_o (by omega), o3 43 (by omega)]] at hd
        refine hC2 a ha e hal0 hc u hd (by rw [h10, eu1, zst_o (by omega), o3 30 (by omega)]) (by rw [h40, eu1, zst_o (by omega), o3 40 (by omega)]) (fun j i => ?_) (fun k => by rw [h32, eu1, zst_o (by omega), p3])
        rw [h70, eu1, zst_ap, o3 70 (by omega)]
        by_cases h : j = a ∧ i = 6
        · rw [if_pos ⟨rfl, h⟩, if_pos h]
        · rw [if_neg (fun q => h q.2), if_neg h]
      · rw [hff] at ed
        refine fin _ u1 (fun f _ h2 _ _ _ h6 => by rw [eu1, zst_o h2, o3 f h2]) (fun k _ => by rw [eu1, zst_o (by omega), o3 30 (by omega)]) (fun u hd1 h10 h40 h70 h32 => ?_)
        rw [show u1 42 0 = μ 42 0 by rw [eu1, zst_o (by omega), o3 42 (by omega)], show u1 43 = μ 43 by rw [eu1, zst_o (by omega), o3 43 (by omega)]] at hd1
        refine hC0 a ha e hal0 d ed hd u hd1 (by rw [h10, eu1, zst_o (by omega), o3 30 (by omega)]) (by rw [h40, eu1, zst_o (by omega), o3 40 (by omega)]) (by rw [h70, eu1, zst_o (by omega), o3 70 (by omega)]) (fun k => ?_)
        rw [h32, eu1, zst_ap, p3]
        by_cases h : k = d <;> simp [h]
/-- what the reference's day leaves, whatever it was -/
def dayR (t : Nat) (w v : Mem) (G : Nat → Int32) (C : Nat → Nat → Int32) : Prop :=
  v 0 0 0 = nI (t + 1) ∧ (∀ k, k ≠ 0 → k ≠ 1 → k ≠ 2 → k ≠ 25 → v 0 0 k = w 0 0 k) ∧ v 0 0 25 = 0 ∧ (∀ f, (f = 1 ∨ f = 2 ∨ f = 5 ∨ f = 6 ∨ f = 7 ∨ (9 ≤ f ∧ f ≤ 14)) → v f 0 = w f 0) ∧ (∀ f, 19 ≤ f → v f = w f) ∧ (∀ k, k < 5 → v 15 0 k = g1 (G k)) ∧ eq45 (fun p s => v 16 0 (4 * p + s)) C
theorem X5_dayEnds {post : Int32 → Mem → Prop} {t : Nat} {r : Int32} {μ : Mem} {g h : Nat → Int32} (e0 : μ 0 0 0 = nI t) (hp : ∀ v : Mem, (∀ f, f ≠ 0 → f ≠ 15 → f ≠ 16 → f ≠ 17 → f ≠ 18 → v f = μ f) → (∀ k, k ≠ 0 → v 0 0 k = μ 0 0 k) → v 0 0 0 = nI (t + 1) → (∀ k, k < 5 → v 15 0 k = g1 (g k)) → (∀ k, k < 20 → v 16 0 k = h k) → post r v) : b_X5_shoot_125 post r (wrk μ g h) := by
  unfold b_X5_shoot_125
  refine X5_grows (X5_keeps (fun u uo u15 u16 v ev => ?_))
  have w0 : wrk μ (gwj g 5) h 0 = μ 0 := by
    funext i
    exact wrk_o μ _ _ i (by omega) (by omega)
  rw [uo 0 (by omega) (by omega), w0, e0, nI_s1] at ev
  refine hp v (fun f h1 h2 h3 h4 h5 => ?_) (fun k hk => ?_) ?_ (fun k hk => ?_) (fun k hk => ?_)
  · rw [ev, zst_o h1, uo f h2 h3]
    funext i
    exact wrk_o μ _ _ i h4 h5
  · rw [ev, zst_ap, if_neg (fun q => hk q.2.2), uo 0 (by omega) (by omega), w0]
  · rw [ev, zst_ap, if_pos ⟨rfl, rfl, rfl⟩]
  · rw [ev, zst_o (by omega), u15 k hk, wrk_g]
    unfold gwj
    rw [if_pos hk]
  · rw [ev, zst_o (by omega), u16 k hk, wrk_h]
theorem X5_shoot3 {n np t : Nat} {post : Int32 → Mem → Prop} {w : Mem} (hn : n ≤ 10) (hnp : np ≤ 20) (ht30 : t < 30) (e0 : w 0 0 0 = nI t) (e12 : w 0 0 12 = nI np) (hP : plOK n (w 8 0)) (hu : ∀ a, a < n → useOK w a)
    (hA : w 8 0 t = -1 → ∀ v, dayR t w v (w 15 0) (fun p s => w 16 0 (4 * p + s)) → v 0 0 1 = w 0 0 1 → v 0 0 2 = w 0 0 2 → v 3 0 = w 3 0 → v 4 0 = w 4 0 → (∀ k, v 8 0 k = if k = t then -1 else w 8 0 k) → post (-1) v)
    (hB : ∀ a, a < n → w 8 0 t = nI a → al w np a t → ∀ v, dayR t w v (gAs (bds w a) (w 15 0) 5) (cP w a 5 (fun p s => w 16 0 (4 * p + s))) → v 0 0 1 = w 0 0 1 + svS w a (w 0 0 2) (w 15 0) (fun p s => w 16 0 (4 * p + s)) → v 0 0 2 = w 1 0 a → (∀ k, v 3 0 k = if k = a then 1 else w 3 0 k) → v 4 0 = w 4 0 → (∀ k, v 8 0 k = if k = t then -1 else w 8 0 k) → post (nI a) v)
    (hC2 : ∀ a, a < n → w 8 0 t = nI a → ¬ al w np a t → ffd (w 8 0) (29 - t) (t + 1) = 30 → ∀ v, dayR t w v (w 15 0) (fun p s => w 16 0 (4 * p + s)) → v 0 0 1 = w 0 0 1 → v 0 0 2 = w 0 0 2 → (∀ k, v 3 0 k = if k = a then 2 else w 3 0 k) → v 4 0 = w 4 0 → (∀ k, v 8 0 k = if k = t then -1 else w 8 0 k) → post (-1) v)
    (hC0 : ∀ a, a < n → w 8 0 t = nI a → ¬ al w np a t → ∀ d, d = ffd (w 8 0) (29 - t) (t + 1) → d < 30 → ∀ v, dayR t w v (w 15 0) (fun p s => w 16 0 (4 * p + s)) → v 0 0 1 = w 0 0 1 → v 0 0 2 = w 0 0 2 → v 3 0 = w 3 0 → (∀ b, b < n → v 4 0 b = if b = a then nI d else w 4 0 b) → (∀ k, v 8 0 k = if k = d then nI a else if k = t then -1 else w 8 0 k) → post (-1) v) : w_X5_shoot post w := by
  -- the day's end, from the working rows g h over a memory m2
  have fin : ∀ (r : Int32) (m2 : Mem) (g h G : Nat → Int32) (C : Nat → Nat → Int32), eq5 g G → rel45 h C → m2 0 0 0 = nI t → (∀ k, k ≠ 0 → k ≠ 1 → k ≠ 2 → k ≠ 25 → m2 0 0 k = w 0 0 k) → m2 0 0 25 = 0 → (∀ f, (f = 1 ∨ f = 2 ∨ f = 5 ∨ f = 6 ∨ f = 7 ∨ (9 ≤ f ∧ f ≤ 14)) → m2 f 0 = w f 0) → (∀ f, 19 ≤ f → m2 f = w f) → (∀ v, dayR t w v G C → v 0 0 1 = m2 0 0 1 → v 0 0 2 = m2 0 0 2 → v 3 0 = m2 3 0 → v 4 0 = m2 4 0 → v 8 0 = m2 8 0 → post r v) → b_X5_shoot_125 post r (wrk m2 g h) := by
    intro r m2 g h G C hG hC q0 q1 q2 q3 q4 hpost
    refine X5_dayEnds q0 (fun v v1 v2 v3 v4 v5 => ?_)
    refine hpost v ⟨v3, fun k a b c d => (v2 k a).trans (q1 k a b c d), (v2 25 (by omega)).trans q2, fun f hf => ?_, fun f hf => ?_, fun k hk => ?_, fun p s hp hs => ?_⟩ (v2 1 (by omega)) (v2 2 (by omega)) ?_ ?_ ?_
    · rw [v1 f (by omega) (by omega) (by omega) (by omega) (by omega)]; exact q3 f hf
    · rw [v1 f (by omega) (by omega) (by omega) (by omega) (by omega)]; exact q4 f hf
    · rw [v4 k hk, hG k hk]
    · exact (v5 (4 * p + s) (by omega)).trans (hC p s hp hs)
    · rw [v1 3 (by omega) (by omega) (by omega) (by omega) (by omega)]
    · rw [v1 4 (by omega) (by omega) (by omega) (by omega) (by omega)]
    · rw [v1 8 (by omega) (by omega) (by omega) (by omega) (by omega)]
  unfold w_X5_shoot
  rw [e0]
  refine ⟨fun c => absurd ((le30 (k := t) (by omega)).mp c) (by omega), fun _ => X5_goes0 rfl rfl rfl ⟨fun _ => ?_, fun c => absurd c z10⟩⟩
  generalize hw1 : zst w 0 0 25 0 = w1
  have r1 : rsame w w1 := by rw [← hw1]; exact (same_25 w 0).r
  have o1 : ∀ f, f ≠ 0 → w1 f = w f := fun f hf => by rw [← hw1, zst_o hf]
  have z25 : w1 0 0 25 = 0 := by rw [← hw1, at_25]
  have f0 : w1 0 0 0 = nI t := (r1.1 0 (by omega)).trans e0
  rw [f0, cl (by omega), o1 8 (by omega)]
  -- the plan's day is emptied, the trial laid
  have mid : ∀ (r : Int32) (x : Int32), (∀ (m8 : Mem) (g h : Nat → Int32), m8 = zst w1 8 0 t (-1) → (∀ f, f ≠ 8 → m8 f = w1 f) → (∀ k, m8 8 0 k = if k = t then -1 else w 8 0 k) → eq5 g (w 15 0) → rel45 h (fun p s => w 16 0 (4 * p + s)) → (r = -1 → (x = -1 → b_X5_shoot_125 post r (wrk m8 g h)) ∧ (¬ x = -1 → w_X5_putsOff (fun u => b_X5_shoot_125 post r u) x (wrk m8 g h))) ∧ (¬ r = -1 → w_X5_serves (fun (r21 : Int32) (μ20 : Mem) => (∀ μ22 : Mem, μ22 = zst μ20 0 0 1 (((wrk m8 g h) 0 0 1) + r21) → (vp_in x 10 ∧ (∀ μ24 : Mem, μ24 = zst μ22 0 0 2 (μ22 1 0 x.toNatClampNeg) → (∀ μ25 : Mem, μ25 = zst μ24 3 0 x.toNatClampNeg 1 → b_X5_shoot_125 post r μ25))))) x ((wrk m8 g h) 0 0 2) (wrk m8 g h))) → b_X5_shoot_57 post x r w1 := by
    intro r x h
    unfold b_X5_shoot_57
    rw [f0, cl (by omega)]
    refine ⟨vin ht30 (by omega), fun m8 e8 => X5_lays (fun g hh q1 q2 _ => ?_)⟩
    have o8 : ∀ f, f ≠ 8 → m8 f = w1 f := fun f hf => by rw [e8, zst_o hf]
    rw [o8 15 (by omega), o1 15 (by omega)] at q1
    rw [o8 16 (by omega), o1 16 (by omega)] at q2
    refine h m8 g hh e8 o8 (fun k => ?_) q1 q2
    rw [e8, zst_ap, o1 8 (by omega)]
    by_cases hk : k = t <;> simp [hk]
  have base : ∀ m8 : Mem, (∀ f, f ≠ 8 → m8 f = w1 f) → m8 0 0 0 = nI t ∧ (∀ k, k ≠ 25 → m8 0 0 k = w 0 0 k) ∧ m8 0 0 25 = 0 ∧ (∀ f, 1 ≤ f → f ≠ 8 → m8 f = w f) := by
    intro m8 o8
    refine ⟨by rw [o8 0 (by omega)]; exact f0, fun k hk => by rw [o8 0 (by omega)]; exact r1.1 k hk, by rw [o8 0 (by omega)]; exact z25, fun f a b => by rw [o8 f b, o1 f (by omega)]⟩
  refine ⟨vin ht30 (by omega), ?_⟩
  rcases hP t ht30 with e | ⟨a, ha, e⟩
  · rw [e]
    refine ⟨fun _ => mid (-1) (-1) (fun m8 g h e8 o8 p8 hg hh => ⟨fun _ => ⟨fun _ => ?_, fun c => absurd rfl c⟩, fun c => absurd rfl c⟩), fun c => absurd rfl c⟩
    obtain ⟨b0, b1, b2, b3⟩ := base m8 o8
    refine fin (-1) m8 g h (w 15 0) _ hg hh b0 (fun k _ _ _ h => b1 k h) b2 (fun f hf => by rw [b3 f (by omega) (by omega)]) (fun f hf => b3 f (by omega) (by omega)) (fun v hd v1 v2 v3 v4 v8 => ?_)
    exact hA e v hd (v1.trans (b1 1 (by omega))) (v2.trans (b1 2 (by omega))) (by rw [v3, b3 3 (by omega) (by omega)]) (by rw [v4, b3 4 (by omega) (by omega)]) (fun k => by rw [v8, p8])
  · have ne1 : ¬ nI a = -1 := nI_neg1 (by omega)
    have alw : al w1 np a t ↔ al w np a t := al_of (fun f hf => by rw [o1 f (by omega)])
    rw [e]
    refine ⟨fun c => absurd c ne1, fun _ => X5_allows (np := np) (by omega) ht30 hnp ((r1.1 12 (by omega)).trans e12) (fun ha1 => ⟨fun c => absurd c z10, fun _ => ?_⟩) (fun ha0 => ⟨fun _ => ?_, fun c => absurd rfl c⟩)⟩
    · refine mid (nI a) (nI a) (fun m8 g h e8 o8 p8 hg hh => ⟨fun c => absurd c ne1, fun _ => ?_⟩)
      obtain ⟨b0, b1, b2, b3⟩ := base m8 o8
      have hum : useOK m8 a := useOK_of (by rw [b3 6 (by omega) (by omega)]) (by rw [b3 7 (by omega) (by omega)]) (hu a ha)
      obtain ⟨s1, s2, s3⟩ := svS_of (μ := w) (u := m8) (by rw [b3 1 (by omega) (by omega)]) (by rw [b3 5 (by omega) (by omega)]) (by rw [b3 6 (by omega) (by omega)]) (by rw [b3 7 (by omega) (by omega)]) a (w 0 0 2) g (fun p s => w 16 0 (4 * p + s))
      refine X5_serves (c := fun p s => w 16 0 (4 * p + s)) (by omega) hh hum (fun h' hr' u1 eu1 => ⟨vin (by omega) (by omega), fun u2 eu2 u3 eu3 => ?_⟩)
      rw [wrk_o m8 g h 0 (f := 0) (by omega) (by omega), b1 2 (by omega), b1 1 (by omega), s1] at eu1
      rw [s2] at eu1
      rw [s3] at hr'
      have hs : svS w a (w 0 0 2) g (fun p s => w 16 0 (4 * p + s)) = svS w a (w 0 0 2) (w 15 0) (fun p s => w 16 0 (4 * p + s)) := svS_congr (hu a ha) hg (fun _ _ _ _ => rfl)
      rw [hs] at eu1
      rw [cl (by omega)] at eu2 eu3
      generalize hG : gAs (bds w a) g 5 = g' at eu1
      have hg' : eq5 g' (gAs (bds w a) (w 15 0) 5) := by rw [← hG]; exact gAs_congr hg
      generalize hS : svS w a (w 0 0 2) (w 15 0) (fun p s => w 16 0 (4 * p + s)) = S at eu1
      have x1 : u1 1 0 a = w 1 0 a := by rw [eu1, zst_o (by omega), wrk_o m8 _ _ 0 (by omega) (by omega), b3 1 (by omega) (by omega)]
      rw [x1] at eu2
      -- the writes, below the working rows
      have ew : u3 = wrk (zst (zst (zst m8 0 0 1 (w 0 0 1 + S)) 0 0 2 (w 1 0 a)) 3 0 a 1) g' h' := by
        rw [eu3, eu2, eu1]
        funext f i k
        simp only [zst_ap]
        unfold wrk
        simp only [zst_ap]
        by_cases q17 : f = 17 ∧ i = 0
        · obtain ⟨rfl, rfl⟩ := q17
          simp
        · by_cases q18 : f = 18 ∧ i = 0
          · obtain ⟨rfl, rfl⟩ := q18
            simp
          · simp [q17, q18]
      rw [ew]
      refine fin (nI a) _ g' h' (gAs (bds w a) (w 15 0) 5) _ hg' hr' (by rw [zst_o (by omega), zst_ap, if_neg (by omega), zst_ap, if_neg (by omega)]; exact b0) (fun k _ h1 h2 h25 => by rw [zst_o (by omega), zst_ap, if_neg (by omega), zst_ap, if_neg (by omega)]; exact b1 k h25) (by rw [zst_o (by omega), zst_ap, if_neg (by omega), zst_ap, if_neg (by omega)]; exact b2) (fun f hf => by rw [zst_o (by omega), zst_o (by omega), zst_o (by omega), b3 f (by omega) (by omega)]) (fun f hf => by rw [zst_o (by omega), zst_o (by omega), zst_o (by omega)]; exact b3 f (by omega) (by omega)) (fun v hd v1 v2 v3 v4 v8 => ?_)
      refine hB a ha e (alw.mp ha1) v hd ?_ ?_ (fun k => ?_) ?_ (fun k => ?_)
      · rw [v1, zst_o (by omega), zst_ap, if_neg (by omega), zst_ap, if_pos ⟨rfl, rfl, rfl⟩, hS]
      · rw [v2, zst_o (by omega), zst_ap, if_pos ⟨rfl, rfl, rfl⟩]
      · rw [v3, zst_ap, zst_o (f' := 3) (by omega), zst_o (f' := 3) (by omega), b3 3 (by omega) (by omega)]
        by_cases hk : k = a <;> simp [hk]
      · rw [v4, zst_o (by omega), zst_o (by omega), zst_o (by omega), b3 4 (by omega) (by omega)]
      · rw [v8, zst_o (by omega), zst_o (by omega), zst_o (by omega), p8]
    · have ha0' : ¬ al w np a t := fun q => ha0 (alw.mpr q)
      refine mid (-1) (nI a) (fun m8 g h e8 o8 p8 hg hh => ⟨fun _ => ⟨fun c => absurd c ne1, fun _ => ?_⟩, fun c => absurd rfl c⟩)
      obtain ⟨b0, b1, b2, b3⟩ := base m8 o8
      have w8 : wrk m8 g h 8 0 = m8 8 0 := wrk_o m8 g h 0 (by omega) (by omega)
      have hff : ffd (m8 8 0) (29 - t) (t + 1) = ffd (w 8 0) (29 - t) (t + 1) := ffd_congr _ _ (fun k a b => by rw [p8, if_neg (by omega)])
      refine X5_putsOff (t := t) (by omega) ht30 (by rw [wrk_o m8 g h 0 (by omega) (by omega)]; exact b0) (fun hc u eu => ?_) (fun d ed hd => ?_)
      · rw [w8, hff] at hc
        have ew : u = wrk (zst m8 3 0 a 2) g h := by
          rw [eu]
          funext f i k
          rw [zst_ap]
          unfold wrk
          by_cases q17 : f = 17 ∧ i = 0
          · obtain ⟨rfl, rfl⟩ := q17
            simp
          · by_cases q18 : f = 18 ∧ i = 0
            · obtain ⟨rfl, rfl⟩ := q18
              simp
            · simp [q17, q18, zst_ap]
        rw [ew]
        refine fin (-1) _ g h (w 15 0) _ hg hh (by rw [zst_o (by omega)]; exact b0) (fun k _ _ _ h25 => by rw [zst_o (by omega)]; exact b1 k h25) (by rw [zst_o (by omega)]; exact b2) (fun f hf => by rw [zst_o (by omega), b3 f (by omega) (by omega)]) (fun f hf => by rw [zst_o (by omega)]; exact b3 f (by omega) (by omega)) (fun v hd v1 v2 v3 v4 v8 => ?_)
        refine hC2 a ha e ha0' hc v hd (by rw [v1, zst_o (by omega)]; exact b1 1 (by omega)) (by rw [v2, zst_o (by omega)]; exact b1 2 (by omega)) (fun k => ?_) (by rw [v4, zst_o (by omega), b3 4 (by omega) (by omega)]) (fun k => by rw [v8, zst_o (by omega), p8])
        rw [v3, zst_ap, b3 3 (by omega) (by omega)]
        by_cases hk : k = a <;> simp [hk]
      · rw [w8, hff] at ed
        refine X5_plans hn hd (Or.inr ⟨a, ha, rfl⟩) (fun u uo u8 u4 => ?_)
        have uw : u = wrk u g h := by
          have h17 : u 17 = wrk m8 g h 17 := uo 17 (by omega) (by omega)
          have h18 : u 18 = wrk m8 g h 18 := uo 18 (by omega) (by omega)
          funext f i k
          unfold wrk
          by_cases q17 : f = 17 ∧ i = 0
          · obtain ⟨rfl, rfl⟩ := q17
            rw [if_pos ⟨rfl, rfl⟩, h17, wrk_g]
          · rw [if_neg q17]
            by_cases q18 : f = 18 ∧ i = 0
            · obtain ⟨rfl, rfl⟩ := q18
              rw [if_pos ⟨rfl, rfl⟩, h18, wrk_h]
            · rw [if_neg q18]
        have uo2 : ∀ f, f ≠ 8 → f ≠ 4 → f ≠ 17 → f ≠ 18 → u f = m8 f := by
          intro f h1 h2 h3 h4
          rw [uo f h1 h2]
          funext i
          exact wrk_o m8 g h i h3 h4
        rw [uw]
        refine fin (-1) u g h (w 15 0) _ hg hh (by rw [uo2 0 (by omega) (by omega) (by omega) (by omega)]; exact b0) (fun k _ _ _ h25 => by rw [uo2 0 (by omega) (by omega) (by omega) (by omega)]; exact b1 k h25) (by rw [uo2 0 (by omega) (by omega) (by omega) (by omega)]; exact b2) (fun f hf => by rw [uo2 f (by omega) (by omega) (by omega) (by omega), b3 f (by omega) (by omega)]) (fun f hf => by rw [uo2 f (by omega) (by omega) (by omega) (by omega)]; exact b3 f (by omega) (by omega)) (fun v hd1 v1 v2 v3 v4 v8 => ?_)
        refine hC0 a ha e ha0' d ed hd v hd1 (by rw [v1, uo2 0 (by omega) (by omega) (by omega) (by omega)]; exact b1 1 (by omega)) (by rw [v2, uo2 0 (by omega) (by omega) (by omega) (by omega)]; exact b1 2 (by omega)) (by rw [v3, uo2 3 (by omega) (by omega) (by omega) (by omega), b3 3 (by omega) (by omega)]) (fun b hb => ?_) (fun k => ?_)
        · rw [v4, u4 b hb, wrk_o m8 g h 0 (by omega) (by omega), b3 4 (by omega) (by omega)]
          by_cases hk : b = a
          · rw [if_pos hk, if_pos (by rw [hk])]
          · rw [if_neg hk, if_neg (fun q => hk ((nI_eq (by omega) (by omega)).mp q))]
        · rw [v8, u8, w8]
          unfold upd
          by_cases hk : k = d
          · rw [if_pos hk, if_pos hk]
          · rw [if_neg hk, if_neg hk, p8]
