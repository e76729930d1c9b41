/-! both sides' working memories -/
def wrk (μ : Mem) (g h : Nat → Int32) : Mem := fun f i k => if f = 17 ∧ i = 0 then g k else if f = 18 ∧ i = 0 then h k else μ f i k
theorem wrk_g (μ : Mem) (g h : Nat → Int32) (k : Nat) : wrk μ g h 17 0 k = g k := by simp [wrk]
theorem wrk_h (μ : Mem) (g h : Nat → Int32) (k : Nat) : wrk μ g h 18 0 k = h k := by simp [wrk]
theorem wrk_o (μ : Mem) (g h : Nat → Int32) {f : Nat} (i : Nat) (h1 : f ≠ 17) (h2 : f ≠ 18) : wrk μ g h f i = μ f i := by funext k; simp [wrk, h1, h2]
theorem wrk_id (μ : Mem) : wrk μ (μ 17 0) (μ 18 0) = μ := by
  funext f i k
  unfold wrk
  by_cases h : f = 17 ∧ i = 0
  · obtain ⟨rfl, rfl⟩ := h; simp
  · rw [if_neg h]
    by_cases h2 : f = 18 ∧ i = 0
    · obtain ⟨rfl, rfl⟩ := h2; simp
    · rw [if_neg h2]
theorem wrk_sg (μ : Mem) (g h : Nat → Int32) (k : Nat) (v : Int32) : zst (wrk μ g h) 17 0 k v = wrk μ (upd g k v) h := by
  funext f i j
  rw [zst_ap]
  unfold wrk upd
  by_cases h1 : f = 17 ∧ i = 0
  · obtain ⟨rfl, rfl⟩ := h1
    by_cases h2 : j = k <;> simp [h2]
  · rw [if_neg (fun q => h1 ⟨q.1, q.2.1⟩), if_neg h1, if_neg h1]
theorem wrk_sh (μ : Mem) (g h : Nat → Int32) (k : Nat) (v : Int32) : zst (wrk μ g h) 18 0 k v = wrk μ g (upd h k v) := by
  funext f i j
  rw [zst_ap]
  unfold wrk upd
  by_cases h1 : f = 18 ∧ i = 0
  · obtain ⟨rfl, rfl⟩ := h1
    by_cases h2 : j = k <;> simp [h2]
  · rw [if_neg (fun q => h1 ⟨q.1, q.2.1⟩)]
    simp [h1]
def tri (b : Nat) (μ : Mem) (g : Nat → Int32) (c : Nat → Nat → Int32) (x : Int32) : Mem := fun f i k => if f = 42 ∧ i = b then g k else if f = 43 ∧ 5 * b ≤ i ∧ i < 5 * b + 5 then c (i - 5 * b) k else if f = 40 ∧ i = b ∧ k = 2 then x else μ f i k
def upc (c : Nat → Nat → Int32) (p : Nat) (r : Nat → Int32) : Nat → Nat → Int32 := fun j => if j = p then r else c j
section TRI
variable {b : Nat} {μ : Mem} {g : Nat → Int32} {c : Nat → Nat → Int32} {x : Int32}
theorem tri_g (k : Nat) : tri b μ g c x 42 b k = g k := by simp [tri]
theorem tri_c {p : Nat} (hp : p < 5) (k : Nat) : tri b μ g c x 43 (5 * b + p) k = c p k := by
  have h1 : 5 * b ≤ 5 * b + p ∧ 5 * b + p < 5 * b + 5 := by omega
  have h2 : 5 * b + p - 5 * b = p := by omega
  simp [tri, h1, h2, hp]
theorem tri_x : tri b μ g c x 40 b 2 = x := by simp [tri]
theorem tri_o {f : Nat} (i : Nat) (h1 : f ≠ 40) (h2 : f ≠ 42) (h3 : f ≠ 43) : tri b μ g c x f i = μ f i := by funext k; simp [tri, h1, h2, h3]
theorem tri_sg (k : Nat) (v : Int32) : zst (tri b μ g c x) 42 b k v = tri b μ (upd g k v) c x := by
  funext f i j
  rw [zst_ap]
  unfold tri upd
  by_cases h1 : f = 42 ∧ i = b
  · obtain ⟨rfl, rfl⟩ := h1
    by_cases h2 : j = k <;> simp [h2]
  · rw [if_neg (fun q => h1 ⟨q.1, q.2.1⟩), if_neg h1, if_neg h1]
theorem tri_sx (v : Int32) : zst (tri b μ g c x) 40 b 2 v = tri b μ g c v := by
  funext f i j
  rw [zst_ap]
  unfold tri
  by_cases h1 : f = 40 ∧ i = b ∧ j = 2
  · obtain ⟨rfl, rfl, rfl⟩ := h1
    simp
  · rw [if_neg h1]
    simp [h1]
theorem tri_sc {p : Nat} (hp : p < 5) (k : Nat) (v : Int32) : zst (tri b μ g c x) 43 (5 * b + p) k v = tri b μ g (upc c p (upd (c p) k v)) x := by
  funext f i j
  rw [zst_ap]
  unfold tri upc
  by_cases h0 : f = 42 ∧ i = b
  · rw [if_neg (fun q => by omega), if_pos h0, if_pos h0]
  · rw [if_neg h0, if_neg h0]
    by_cases h1 : f = 43 ∧ 5 * b ≤ i ∧ i < 5 * b + 5
    · rw [if_pos h1, if_pos h1]
      by_cases h2 : i = 5 * b + p
      · subst h2
        have h3 : 5 * b + p - 5 * b = p := by omega
        rw [h3, if_pos rfl]
        unfold upd
        by_cases h4 : j = k
        · simp [h4, h1.1]
        · simp [h4]
      · rw [if_neg (fun q => h2 q.2.1), if_neg (by omega)]
    · rw [if_neg h1, if_neg h1, if_neg (fun q => h1 ⟨q.1, by omega⟩)]
theorem tri_id (b : Nat) (μ : Mem) : tri b μ (μ 42 b) (fun p => μ 43 (5 * b + p)) (μ 40 b 2) = μ := by
  funext f i j
  unfold tri
  by_cases h0 : f = 42 ∧ i = b
  · obtain ⟨rfl, rfl⟩ := h0; simp
  · rw [if_neg h0]
    by_cases h1 : f = 43 ∧ 5 * b ≤ i ∧ i < 5 * b + 5
    · rw [if_pos h1, h1.1]
      show μ 43 (5 * b + (i - 5 * b)) j = μ 43 i j
      rw [show 5 * b + (i - 5 * b) = i by omega]
    · rw [if_neg h1]
      by_cases h2 : f = 40 ∧ i = b ∧ j = 2
      · obtain ⟨rfl, rfl, rfl⟩ := h2; simp
      · rw [if_neg h2]
end TRI
/-! ACTORS, the reference -/
/-! ACTORS, the class -/
theorem X3_dress {n np : Nat} {post : Int32 → Mem → Prop} {b k : Nat} {need : Int32} {μ : Mem} {g : Nat → Int32} {c : Nat → Nat → Int32} {x : Int32} (hb : b < 2) (hk : k < 5) (hp : post (kA need (g k)) (tri b μ (upd g k (gA need (g k))) c x)) : w_X3_dress n np post b (nI k) need (tri b μ g c x) := by
  unfold w_X3_dress b_X3_dress_11
  rw [cl (by omega)]
  have hv : vp_in (nI k) 5 := vin hk (by omega)
  have hu : ∀ v : Int32, upd g k v k = v := fun v => by simp [upd]
  refine ⟨fun c1 => ⟨hb, hv, ?_⟩, fun c1 => ⟨hb, hv, fun u e => ?_⟩⟩
  · have e1 : gA need (g k) = g k := if_neg c1
    rw [tri_g]
    have e2 : upd g k (g k) = g := by
      funext j
      unfold upd
      by_cases h : j = k
      · rw [if_pos h, h]
      · rw [if_neg h]
    unfold kA at hp
    rw [e1, e2] at hp
    refine ⟨fun c2 => ?_, fun c2 => ?_⟩
    · rw [if_pos c2] at hp; exact hp
    · rw [if_neg c2] at hp; exact hp
  · subst e
    rw [tri_sg]
    have e1 : gA need (g k) = 0 := if_pos c1
    unfold kA at hp
    rw [e1] at hp
    rw [tri_g, hu]
    refine ⟨hb, hv, fun c2 => ?_, fun c2 => ?_⟩
    · rw [if_pos c2] at hp; exact hp
    · rw [if_neg c2] at hp; exact hp

