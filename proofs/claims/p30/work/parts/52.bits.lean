/-! BITS OF A DAY -/
theorem day_smod : ∀ d : Fin 30, ((nI d.val &&& 31).toBitVec.smod 32) = BitVec.ofNat 32 d.val := by decide +kernel
theorem bit_at {x : Int32} {d : Nat} (hd : d < 30) : ((x >>> (nI d &&& 31)) &&& 1) = if x.toBitVec.getLsbD d = true then 1 else 0 := by
  have hs := day_smod ⟨d, hd⟩
  have hs : ((nI d &&& 31).toBitVec.smod 32) = BitVec.ofNat 32 d := hs
  apply Int32.toBitVec_inj.mp
  rw [Int32.toBitVec_and, Int32.toBitVec_shiftRight, hs]
  have h1 : (1 : Int32).toBitVec = 1#32 := rfl
  rw [h1]
  have hm : (BitVec.ofNat 32 d).toNat = d := by
    rw [BitVec.toNat_ofNat]
    exact Nat.mod_eq_of_lt (by omega)
  apply BitVec.eq_of_getLsbD_eq
  intro i hi
  rw [BitVec.getLsbD_and, BitVec.sshiftRight', hm, BitVec.getLsbD_sshiftRight]
  by_cases h0 : i = 0
  · subst h0
    by_cases hb : x.toBitVec.getLsbD d = true
    · rw [if_pos hb]
      have : d < 32 := by omega
      simp [hb, this]
    · rw [if_neg hb]
      have : d < 32 := by omega
      have hb' : x.toBitVec.getLsbD d = false := Bool.eq_false_iff.mpr hb
      rw [BitVec.getLsbD_eq_getElem this] at hb'
      simp [hb', this]
  · have h2 : (1#32).getLsbD i = false := by
      rw [BitVec.getLsbD_one]
      simp [h0]
    rw [h2, Bool.and_false]
    by_cases hb : x.toBitVec.getLsbD d = true
    · rw [if_pos hb]
      exact h2.symm
    · rw [if_neg hb]
      simp
theorem bit_flip {x : Int32} {d k : Nat} (hd : d < 30) (hk : k < 30) : (x ^^^ ((1 : Int32) <<< (nI d &&& 31))).toBitVec.getLsbD k = (x.toBitVec.getLsbD k ^^ decide (k = d)) := by
  have hs := day_smod ⟨d, hd⟩
  have hs : ((nI d &&& 31).toBitVec.smod 32) = BitVec.ofNat 32 d := hs
  have hm : (BitVec.ofNat 32 d).toNat = d := by
    rw [BitVec.toNat_ofNat]
    exact Nat.mod_eq_of_lt (by omega)
  rw [Int32.toBitVec_xor, Int32.toBitVec_shiftLeft, hs, BitVec.getLsbD_xor, BitVec.shiftLeft_eq', hm, BitVec.getLsbD_shiftLeft]
  have h1 : (1 : Int32).toBitVec = 1#32 := rfl
  rw [h1, BitVec.getLsbD_one]
  congr 1
  by_cases h : k = d
  · subst h
    have : k < 32 := by omega
    simp [this]
  · by_cases h2 : k < d
    · simp [h, h2]
    · have h3 : ¬ k - d = 0 := by omega
      simp [h, h3]
theorem aw_flip {x : Int32} {d k : Nat} (hd : d < 30) (hk : k < 30) : (((x ^^^ ((1 : Int32) <<< (nI d &&& 31))) >>> (nI k &&& 31)) &&& 1) = if k = d then 1 - ((x >>> (nI k &&& 31)) &&& 1) else ((x >>> (nI k &&& 31)) &&& 1) := by
  rw [bit_at hk, bit_at hk, bit_flip hd hk]
  by_cases h : k = d
  · rw [if_pos h]
    by_cases hb : x.toBitVec.getLsbD k = true
    · rw [if_pos hb, hb]
      simp [h]
    · rw [if_neg hb, Bool.eq_false_iff.mpr hb]
      simp [h]
  · rw [if_neg h]
    simp [h]
theorem aw_01 {x : Int32} {k : Nat} (hk : k < 30) : ((x >>> (nI k &&& 31)) &&& 1) = 0 ∨ ((x >>> (nI k &&& 31)) &&& 1) = 1 := by
  rw [bit_at hk]
  by_cases hb : x.toBitVec.getLsbD k = true
  · rw [if_pos hb]; exact Or.inr rfl
  · rw [if_neg hb]; exact Or.inl rfl

