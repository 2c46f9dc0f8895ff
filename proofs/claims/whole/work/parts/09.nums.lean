/-! Rows on machine numbers: remainders of any sign, shifts, bits. -/
/-- what a number leaves, never negative -/
def rd (p : Nat) (z : Int) : Nat := (z % (p : Int)).toNat
theorem rd_lt {p : Nat} (hp : 0 < p) (z : Int) : rd p z < p := by
  have h1 := Int.emod_nonneg z (show (p : Int) ≠ 0 by omega)
  have h2 := Int.emod_lt_of_pos z (show (0 : Int) < p by omega)
  unfold rd
  omega
theorem rd_nat (p n : Nat) : rd p (n : Int) = n % p := by
  unfold rd
  rw [← Int.natCast_emod, Int.toNat_natCast]
theorem rd_tm {p : Nat} (hp : 0 < p) (z : Int) : ((0 ≤ z ∨ z.tmod p = 0) → z.tmod p = (rd p z : Nat)) ∧ ((z < 0 ∧ z.tmod p ≠ 0) → z.tmod p + p = (rd p z : Nat)) := by
  have h1 := Int.emod_nonneg z (show (p : Int) ≠ 0 by omega)
  have h2 := Int.emod_lt_of_pos z (show (0 : Int) < p by omega)
  have h3 : ((rd p z : Nat) : Int) = z % p := by unfold rd; omega
  have h4 := Int.tmod_eq_emod (a := z) (b := (p : Int))
  have h5 : ((p : Int).natAbs : Int) = p := by omega
  rw [h3]
  by_cases hd : 0 ≤ z ∨ (p : Int) ∣ z
  · rw [if_pos hd] at h4
    refine ⟨fun _ => by omega, fun h => ?_⟩
    rcases hd with hd | hd
    · omega
    · rw [Int.dvd_iff_emod_eq_zero] at hd
      omega
  · rw [if_neg hd] at h4
    have hz : z % p ≠ 0 := fun q => hd (Or.inr (Int.dvd_iff_emod_eq_zero.mpr q))
    refine ⟨fun h => ?_, fun h => by omega⟩
    rcases h with h | h
    · exact absurd (Or.inl h) hd
    · omega
theorem tm_abs {p : Nat} (hp : 0 < p) (z : Int) : -(p : Int) < z.tmod p ∧ z.tmod p < p ∧ (0 ≤ z → 0 ≤ z.tmod p ∧ z.tmod p ≤ z) ∧ (z < 0 → z ≤ z.tmod p ∧ z.tmod p ≤ 0) := by
  have a1 : ∀ w : Int, 0 ≤ w → 0 ≤ w.tmod p ∧ w.tmod p ≤ w ∧ w.tmod p < p := fun w hw => by
    rw [Int.tmod_eq_emod_of_nonneg hw]
    refine ⟨Int.emod_nonneg w (by omega), ?_, Int.emod_lt_of_pos w (by omega)⟩
    obtain ⟨n, rfl⟩ := Int.eq_ofNat_of_zero_le hw
    rw [← Int.natCast_emod]
    exact Int.ofNat_le.mpr (Nat.mod_le n p)
  by_cases hz : 0 ≤ z
  · obtain ⟨h1, h2, h3⟩ := a1 z hz
    exact ⟨by omega, h3, fun _ => ⟨h1, h2⟩, fun h => by omega⟩
  · obtain ⟨h1, h2, h3⟩ := a1 (-z) (by omega)
    rw [Int.neg_tmod] at h1 h2 h3
    exact ⟨by omega, by omega, fun h => by omega, fun _ => ⟨by omega, by omega⟩⟩
theorem rem32 (x : Int32) {p : Nat} (h0 : 0 < p) (h : p < 2 ^ 31) : (x - x / nI p * nI p).toInt = x.toInt.tmod p := by
  have hne : nI p ≠ -1 := fun q => by
    have h1 := nI_toInt h
    rw [q] at h1
    have h2 : (-1 : Int32).toInt = -1 := by decide +kernel
    omega
  have hd := Int32.toInt_div_of_ne_right x (nI p) hne
  rw [nI_toInt h] at hd
  have hx1 := Int32.le_toInt x
  have hx2 := Int32.toInt_lt x
  obtain ⟨t1, t2, t3, t4⟩ := tm_abs h0 x.toInt
  have hm : x.toInt.tdiv p * p = x.toInt - x.toInt.tmod p := by
    rw [Int.tmod_def, Int.mul_comm]
    omega
  rw [Int32.toInt_sub, Int32.toInt_mul, hd, nI_toInt h, hm]
  rw [Int.bmod_eq_of_le (n := x.toInt - x.toInt.tmod p) (by omega) (by omega)]
  rw [show x.toInt - (x.toInt - x.toInt.tmod p) = x.toInt.tmod p by omega]
  exact Int.bmod_eq_of_le (by omega) (by omega)
theorem rem64 (x : Int64) {p : Nat} (h0 : 0 < p) (h : p < 2 ^ 31) : (x - x / lN p * lN p).toInt = x.toInt.tmod p := by
  have hne : lN p ≠ -1 := fun q => by
    have h1 := lN_toInt h
    rw [q] at h1
    have h2 : (-1 : Int64).toInt = -1 := by decide +kernel
    omega
  have hd := Int64.toInt_div_of_ne_right x (lN p) hne
  rw [lN_toInt h] at hd
  have hx1 := Int64.le_toInt x
  have hx2 := Int64.toInt_lt x
  obtain ⟨t1, t2, t3, t4⟩ := tm_abs h0 x.toInt
  have hm : x.toInt.tdiv p * p = x.toInt - x.toInt.tmod p := by
    rw [Int.tmod_def, Int.mul_comm]
    omega
  rw [Int64.toInt_sub, Int64.toInt_mul, hd, lN_toInt h, hm]
  rw [Int.bmod_eq_of_le (n := x.toInt - x.toInt.tmod p) (by omega) (by omega)]
  rw [show x.toInt - (x.toInt - x.toInt.tmod p) = x.toInt.tmod p by omega]
  exact Int.bmod_eq_of_le (by omega) (by omega)
theorem neg_xor (x : Int32) {p : Nat} (h : p < 2 ^ 31) : 0 ≤ (x ^^^ nI p) ↔ 0 ≤ x := by
  have h1 : ∀ y : Int32, 0 ≤ y ↔ y.toBitVec.msb = false := fun y => by
    rw [Int32.le_iff_toInt_le, BitVec.msb_eq_toInt]
    show 0 ≤ y.toBitVec.toInt ↔ _
    simp
  have h2 : (nI p).toBitVec.msb = false := (h1 _).mp (nI_pos' h)
  rw [h1, h1]
  show (x.toBitVec ^^^ (nI p).toBitVec).msb = false ↔ _
  rw [BitVec.msb_xor, h2, Bool.xor_false]
theorem i32_of {x : Int32} {n : Nat} (h : x.toInt = n) : x = nI n := by
  apply Int32.toInt_inj.mp
  have h2 := Int32.toInt_lt x
  rw [h, nI_toInt (by omega)]
theorem sh_s : ∀ k, k < 32 → ((nI k &&& 31).toBitVec.smod 32).toNat = k := by decide +kernel
theorem sh_l {n k : Nat} (hk : k < 32) (h : n * 2 ^ k < 2 ^ 32) : nI n <<< (nI k &&& 31) = nI (n * 2 ^ k) := pk_shlN _ k (sh_s k hk) h
theorem sh_r {n k : Nat} (hk : k < 32) (h : n < 2 ^ 31) : nI n >>> (nI k &&& 31) = nI (n / 2 ^ k) := pk_shrN h _ k (sh_s k hk)
theorem bt_or (a b : Nat) : nI a ||| nI b = nI (a ||| b) := by
  apply Int32.toBitVec_inj.1
  show BitVec.ofNat 32 a ||| BitVec.ofNat 32 b = BitVec.ofNat 32 (a ||| b)
  rw [BitVec.ofNat_or]
theorem bt_and (a b : Nat) : nI a &&& nI b = nI (a &&& b) := by
  apply Int32.toBitVec_inj.1
  show BitVec.ofNat 32 a &&& BitVec.ofNat 32 b = BitVec.ofNat 32 (a &&& b)
  rw [BitVec.ofNat_and]
theorem bt_xor (a b : Nat) : nI a ^^^ nI b = nI (a ^^^ b) := by
  apply Int32.toBitVec_inj.1
  show BitVec.ofNat 32 a ^^^ BitVec.ofNat 32 b = BitVec.ofNat 32 (a ^^^ b)
  rw [BitVec.ofNat_xor]
/-- an or of numbers whose bits are apart is a sum -/
theorem or_6 {a b : Nat} (h : b < 64) : (a * 64) ||| b = a * 64 + b := by
  have h1 := Nat.two_pow_add_eq_or_of_lt (i := 6) (b := b) (by omega) a
  rw [show (2 : Nat) ^ 6 = 64 from rfl, Nat.mul_comm] at h1
  exact h1.symm
theorem and_63 (a : Nat) : a &&& 63 = a % 64 := Nat.and_two_pow_sub_one_eq_mod a 6
theorem and_1 (a : Nat) : a &&& 1 = a % 2 := Nat.and_two_pow_sub_one_eq_mod a 1
