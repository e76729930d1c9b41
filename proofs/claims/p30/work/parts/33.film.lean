/-! ONE SCENE -/
def bds (E : Mem) (a : Nat) : Nat → Int32 := fun k => E 5 0 (5 * a + k)
def useOK (E : Mem) (a : Nat) : Prop := ∀ p, p < 5 → E 6 0 (5 * a + p) = -1 ∨ ∃ q t, q < 4 ∧ t < 4 ∧ E 6 0 (5 * a + p) = nI q ∧ E 7 0 (5 * a + p) = nI t
def pV (E : Mem) (a p : Nat) (r : Nat → Int32) : Int32 := if E 6 0 (5 * a + p) = -1 then 0 else svV r (E 6 0 (5 * a + p)).toNatClampNeg
def pR (E : Mem) (a p : Nat) (r : Nat → Int32) : Nat → Int32 := if E 6 0 (5 * a + p) = -1 then r else svR r (E 6 0 (5 * a + p)).toNatClampNeg (E 7 0 (5 * a + p)).toNatClampNeg
def cP (E : Mem) (a j : Nat) (c : Nat → Nat → Int32) : Nat → Nat → Int32 := fun p => if p < j then pR E a p (c p) else c p
def sP (E : Mem) (a : Nat) (c : Nat → Nat → Int32) : Nat → Int32 → Int32
  | 0, s => s
  | j + 1, s => sP E a c j s + pV E a j (c j)
def sv0 (E : Mem) (a : Nat) (before : Int32) : Int32 := if before = -1 then 0 else if before = E 1 0 a then 0 else 2
def svS (E : Mem) (a : Nat) (before : Int32) (g : Nat → Int32) (c : Nat → Nat → Int32) : Int32 := sP E a c 5 (sA (bds E a) g 5 (sv0 E a before))
theorem cP_0 (E : Mem) (a : Nat) (c : Nat → Nat → Int32) : cP E a 0 c = c := by funext p; simp [cP]
theorem cP_s (E : Mem) (a j : Nat) (c : Nat → Nat → Int32) : upc (cP E a j c) j (pR E a j (c j)) = cP E a (j + 1) c := by
  funext p
  unfold upc cP
  by_cases h : p = j
  · subst h
    simp
  · rw [if_neg h]
    by_cases h2 : p < j
    · rw [if_pos h2, if_pos (by omega)]
    · rw [if_neg h2, if_neg (by omega)]
theorem cP_at (E : Mem) (a j : Nat) (c : Nat → Nat → Int32) : cP E a j c j = c j := by simp [cP]
theorem nI_neg1 {q : Nat} (h : q < 1000) : ¬ nI q = -1 := fun e => pos h (by rw [e]; exact neg1)
/-- a scene of the class (in μ) is the reference's (in E) -/
def scRel (μ E : Mem) (a : Nat) : Prop := μ 70 a 1 = E 1 0 a ∧ μ 70 a 2 = E 2 0 a ∧ (∀ k, k < 5 → μ 71 a k = E 5 0 (5 * a + k)) ∧ (∀ k, k < 5 → μ 72 a k = E 6 0 (5 * a + k)) ∧ ∀ k, k < 5 → ¬ E 6 0 (5 * a + k) = -1 → μ 73 a k = E 7 0 (5 * a + k)
theorem X3_film {n np : Nat} {post : Int32 → Mem → Prop} {a b : Nat} {x : Int32} {μ E : Mem} {g : Nat → Int32} {c : Nat → Nat → Int32} (hb : b < 2) (ha : a < n) (hs : scRel μ E a) (hu : useOK E a) (hn : ∀ p, p < 5 → nng (c p)) (hp : post (svS E a x g c) (tri b μ (gAs (bds E a) g 5) (cP E a 5 c) (E 1 0 a))) : w_X3_film n np post b a (tri b μ g c x) := by
  obtain ⟨s1, s2, s3, s4, s5⟩ := hs
  have l2 : ∀ m j : Nat, j + m = 5 → l_X3_film_62 n np post b a (m + 1) (sP E a c j (sA (bds E a) g 5 (sv0 E a x))) (nI j) (tri b μ (gAs (bds E a) g 5) (cP E a j c) (E 1 0 a)) := by
    intro m
    induction m with
    | zero =>
      intro j hj
      show lb_X3_film_62 n np post _ _ _ _ _ _
      unfold lb_X3_film_62
      have e : j = 5 := by omega
      subst e
      exact ⟨fun _ => hp, fun c => absurd (by decide) c⟩
    | succ m ih =>
      intro j hj
      show lb_X3_film_62 n np post (l_X3_film_62 n np post b a (m + 1)) _ _ _ _ _
      unfold lb_X3_film_62 b_X3_film_97
      refine ⟨fun c1 => absurd ((le5 (k := j) (by omega)).mp c1) (by omega), fun _ => ?_⟩
      have hj5 : j < 5 := by omega
      rw [cl (by omega), tri_o a (f := 72) (by decide) (by decide) (by decide), tri_o a (f := 73) (by decide) (by decide) (by decide), s4 j hj5, nI_s1]
      have ihj := ih (j + 1) (by omega)
      refine ⟨ha, vin hj5 (by omega), fun c1 => ?_, fun c1 => ⟨hb, ?_⟩⟩
      · have e1 : pV E a j (c j) = 0 := if_pos c1
        have e2 : pR E a j (c j) = c j := if_pos c1
        have e3 : sP E a c (j + 1) (sA (bds E a) g 5 (sv0 E a x)) = sP E a c j (sA (bds E a) g 5 (sv0 E a x)) := by
          show sP E a c j _ + pV E a j (c j) = _
          rw [e1, Int32.add_zero]
        have e4 : cP E a (j + 1) c = cP E a j c := by
          rw [← cP_s, e2]
          funext p
          unfold upc
          by_cases hpj : p = j
          · rw [if_pos hpj, hpj, cP_at]
          · rw [if_neg hpj]
        rw [e3, e4] at ihj
        exact ihj
      · rw [s5 j hj5 c1]
        rcases hu j hj5 with h0 | ⟨q, t, hq, ht, h0, h1⟩
        · exact absurd h0 c1
        · have e1 : pV E a j (c j) = svV (c j) q := by
            unfold pV
            rw [if_neg c1, h0, cl (by omega)]
          have e2 : pR E a j (c j) = svR (c j) q t := by
            unfold pR
            rw [if_neg c1, h0, h1, cl (by omega), cl (by omega)]
          have e3 : sP E a c (j + 1) (sA (bds E a) g 5 (sv0 E a x)) = sP E a c j (sA (bds E a) g 5 (sv0 E a x)) + svV (c j) q := by
            show sP E a c j _ + pV E a j (c j) = _
            rw [e1]
          rw [h0, h1]
          refine X3_serve hb hj5 hq ht (by rw [cP_at]; exact hn j hj5) ?_
          rw [cP_at, ← e2, cP_s, ← e3]
          exact ihj
  have l1 : ∀ m j : Nat, j + m = 5 → l_X3_film_35 n np post b a (m + 1) (sA (bds E a) g j (sv0 E a x)) (nI j) (tri b μ (gAs (bds E a) g j) c (E 1 0 a)) := by
    intro m
    induction m with
    | zero =>
      intro j hj
      show lb_X3_film_35 n np post _ _ _ _ _ _
      unfold lb_X3_film_35
      have e : j = 5 := by omega
      subst e
      have := l2 5 0 rfl
      rw [cP_0] at this
      exact ⟨fun _ => ⟨6, this⟩, fun c => absurd (by decide) c⟩
    | succ m ih =>
      intro j hj
      show lb_X3_film_35 n np post (l_X3_film_35 n np post b a (m + 1)) _ _ _ _ _
      unfold lb_X3_film_35
      refine ⟨fun c1 => absurd ((le5 (k := j) (by omega)).mp c1) (by omega), fun _ => ?_⟩
      have hj5 : j < 5 := by omega
      rw [cl (by omega), tri_o a (f := 71) (by decide) (by decide) (by decide), s3 j hj5]
      refine ⟨ha, vin hj5 (by omega), hb, ?_⟩
      refine X3_dress hb hj5 ?_
      have := ih (j + 1) (by omega)
      rw [nI_s1, gAs_at]
      have e5 : upd (gAs (bds E a) g j) j (gA (E 5 0 (5 * a + j)) (g j)) = gAs (bds E a) g (j + 1) := gAs_s (bds E a) g j
      rw [e5]
      exact this
  have start : ∀ s0 : Int32, s0 = sv0 E a x → b_X3_film_24 n np post b a s0 (tri b μ g c x) := by
    intro s0 e
    subst e
    refine ⟨ha, hb, fun u e => ?_⟩
    subst e
    rw [tri_sx, tri_o a (f := 70) (by decide) (by decide) (by decide), s1]
    have := l1 5 0 rfl
    rw [gAs_0] at this
    exact ⟨6, this⟩
  unfold w_X3_film b_X3_film_19
  rw [tri_x, tri_o a (f := 70) (by decide) (by decide) (by decide), s1]
  refine ⟨hb, fun c1 => start 0 ?_, fun c1 => ⟨ha, fun c2 => start 2 ?_, fun c2 => start 0 ?_⟩⟩
  · unfold sv0
    rw [if_pos c1]
  · unfold sv0
    rw [if_neg c1, if_neg c2]
  · unfold sv0
    rw [if_neg c1, if_pos c2]

