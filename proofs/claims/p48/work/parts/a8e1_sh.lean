/-! the two kinds of a sign -/
theorem zShK (s : Nat) (hs : s ≤ 24) (x : BitVec 32) : ((x >>> s) &&& 255#32).toInt = ((x >>> s) &&& 255#32).toNat ∧ ((x >>> s) &&& 255#32).toNat = x.toNat / 2 ^ s % 256 := by
  have h1 : ((x >>> s) &&& 255#32).toNat = x.toNat / 2 ^ s % 256 := by
    rw [BitVec.toNat_and, BitVec.toNat_ushiftRight, Nat.shiftRight_eq_div_pow]
    have := Nat.and_two_pow_sub_one_eq_mod (x.toNat / 2 ^ s) 8
    simpa using this
  refine ⟨?_, h1⟩
  rw [BitVec.toInt_eq_toNat_cond, if_pos (by omega)]
theorem zShSs (s : Nat) (x : BitVec 32) : (x.sshiftRight s).toInt = x.toInt / 2 ^ s := by
  rw [BitVec.toInt_sshiftRight, Int.shiftRight_eq_div_pow]
  rfl
theorem zShN (x : BitVec 32) : (x.toInt = x.toNat ∨ x.toInt = (x.toNat : Int) - 4294967296) ∧ x.toNat < 4294967296 := by
  refine ⟨?_, x.isLt⟩
  rw [BitVec.toInt_eq_toNat_cond]
  split
  · exact Or.inl rfl
  · exact Or.inr rfl
theorem zSh24 (v : Int) : zeAnd (zeUsr v 24) 255 = zeShr v 24 % 256 := by
  have key : ∀ x : BitVec 32, ((x >>> 24) &&& 255#32).toInt = (x.sshiftRight 24).toInt % 256 := fun x => by
    obtain ⟨h1, h2⟩ := zShK 24 (by decide) x
    rw [h1, zShSs, h2]
    obtain ⟨h3, h4⟩ := zShN x
    omega
  unfold zeAnd zeUsr
  rw [zeOfI]
  exact key (Int32.ofInt v).toBitVec
theorem zSh16 (v : Int) : zeAnd (zeUsr v 16) 255 = zeShr v 16 % 256 := by
  have key : ∀ x : BitVec 32, ((x >>> 16) &&& 255#32).toInt = (x.sshiftRight 16).toInt % 256 := fun x => by
    obtain ⟨h1, h2⟩ := zShK 16 (by decide) x
    rw [h1, zShSs, h2]
    obtain ⟨h3, h4⟩ := zShN x
    omega
  unfold zeAnd zeUsr
  rw [zeOfI]
  exact key (Int32.ofInt v).toBitVec
theorem zSh8 (v : Int) : zeAnd (zeUsr v 8) 255 = zeShr v 8 % 256 := by
  have key : ∀ x : BitVec 32, ((x >>> 8) &&& 255#32).toInt = (x.sshiftRight 8).toInt % 256 := fun x => by
    obtain ⟨h1, h2⟩ := zShK 8 (by decide) x
    rw [h1, zShSs, h2]
    obtain ⟨h3, h4⟩ := zShN x
    omega
  unfold zeAnd zeUsr
  rw [zeOfI]
  exact key (Int32.ofInt v).toBitVec
theorem zSh0 (v : Int) : zeAnd (zeUsr v 0) 255 = zeShr v 0 % 256 := by
  have key : ∀ x : BitVec 32, ((x >>> 0) &&& 255#32).toInt = (x.sshiftRight 0).toInt % 256 := fun x => by
    obtain ⟨h1, h2⟩ := zShK 0 (by decide) x
    rw [h1, zShSs, h2]
    obtain ⟨h3, h4⟩ := zShN x
    omega
  unfold zeAnd zeUsr
  rw [zeOfI]
  exact key (Int32.ofInt v).toBitVec
theorem zBcr (v j : Int) (h0 : 0 ≤ j) (h1 : j < 4) : zBc v j = zByR v (3 - j) % 256 := by
  have hj : j = 0 ∨ j = 1 ∨ j = 2 ∨ j = 3 := by omega
  unfold zBc zByR
  rcases hj with rfl | rfl | rfl | rfl
  · have e := zSh24 v
    simp only [show (24 : Int) - 8 * 0 = 24 from rfl, show (8 : Int) * (3 - 0) = 24 from rfl]
    rw [e]; omega
  · have e := zSh16 v
    simp only [show (24 : Int) - 8 * 1 = 16 from rfl, show (8 : Int) * (3 - 1) = 16 from rfl]
    rw [e]; omega
  · have e := zSh8 v
    simp only [show (24 : Int) - 8 * 2 = 8 from rfl, show (8 : Int) * (3 - 2) = 8 from rfl]
    rw [e]; omega
  · have e := zSh0 v
    simp only [show (24 : Int) - 8 * 3 = 0 from rfl, show (8 : Int) * (3 - 3) = 0 from rfl]
    rw [e]; omega
