/-! Rows on long numbers. -/
def lcm3 (x y : Int64) : Int32 := if x > y then 1 else if x = y then 0 else -1
theorem lcm3_cases (x y : Int64) : (y < x ∧ lcm3 x y = 1) ∨ (x = y ∧ lcm3 x y = 0) ∨ (x < y ∧ lcm3 x y = -1) := by
  unfold lcm3
  by_cases h1 : x > y
  · rw [if_pos h1]; exact Or.inl ⟨h1, rfl⟩
  · rw [if_neg h1]
    by_cases h2 : x = y
    · rw [if_pos h2]; exact Or.inr (Or.inl ⟨h2, rfl⟩)
    · rw [if_neg h2]
      refine Or.inr (Or.inr ⟨?_, rfl⟩)
      rw [Int64.lt_iff_toInt_lt]
      have h3 : ¬ y.toInt < x.toInt := fun z => h1 (Int64.lt_iff_toInt_lt.mpr z)
      have h4 : ¬ x.toInt = y.toInt := fun z => h2 (Int64.toInt_inj.mp z)
      omega
theorem lcm3_ge {x y : Int64} : 0 ≤ lcm3 x y ↔ y.toInt ≤ x.toInt := by
  rcases lcm3_cases x y with ⟨h, e⟩ | ⟨h, e⟩ | ⟨h, e⟩
  · rw [e]; rw [Int64.lt_iff_toInt_lt] at h; exact ⟨fun _ => by omega, fun _ => by decide⟩
  · rw [e, h]; exact ⟨fun _ => by omega, fun _ => by decide⟩
  · rw [e]; rw [Int64.lt_iff_toInt_lt] at h; exact ⟨fun z => absurd z (by decide), fun _ => by omega⟩
theorem lcm3_le {x y : Int64} : lcm3 x y ≤ 0 ↔ x.toInt ≤ y.toInt := by
  rcases lcm3_cases x y with ⟨h, e⟩ | ⟨h, e⟩ | ⟨h, e⟩
  · rw [e]; rw [Int64.lt_iff_toInt_lt] at h; exact ⟨fun z => absurd z (by decide), fun _ => by omega⟩
  · rw [e, h]; exact ⟨fun _ => by omega, fun _ => by decide⟩
  · rw [e]; rw [Int64.lt_iff_toInt_lt] at h; exact ⟨fun _ => by omega, fun _ => by decide⟩
theorem lcm3_eq {x y : Int64} : lcm3 x y = 0 ↔ x = y := by
  rcases lcm3_cases x y with ⟨h, e⟩ | ⟨h, e⟩ | ⟨h, e⟩
  · rw [e]; rw [Int64.lt_iff_toInt_lt] at h; exact ⟨fun z => absurd z (by decide), fun z => by rw [z] at h; omega⟩
  · rw [e, h]; exact ⟨fun _ => rfl, fun _ => rfl⟩
  · rw [e]; rw [Int64.lt_iff_toInt_lt] at h; exact ⟨fun z => absurd z (by decide), fun z => by rw [z] at h; omega⟩
section LC
variable {p : Program} {l : Launch} {e : Env} {R : Room} {s : State} {m : MethodId} {args : Array Value} {below : List Frame} {meth : Method} {c : Code} {H : Heap} {locs : List Loc} {cells slots : Nat} {Q : State → Prop}
variable {cc : ByteArray} {pc : Nat} {ls : Array Slot} {rest : List Value}
theorem lv_lcmp (hexec : p.tables.exec = Jvm.exec) (hb : c.code = cc) {x y : Int64} (hdg : decode cc pc = .ok (.lcmp, 1))
    (k : W p l e R s m args below meth c H locs cells slots Q (F0 m (pc + 1) ls (.int (lcm3 x y) :: rest))) : W p l e R s m args below meth c H locs cells slots Q (F0 m pc ls (.long y :: .long x :: rest)) := by
  intro T hT X
  obtain ⟨t, a, b⟩ := k T hT X
  refine ⟨t, ?_, b⟩
  unfold lcm3 at a
  by_cases h1 : x > y
  · rw [if_pos h1] at a
    jvm_step X.here [X.here.top, hexec, hb, hdg, h1]
    exact a
  · rw [if_neg h1] at a
    by_cases h2 : x = y
    · rw [if_pos h2] at a
      jvm_step X.here [X.here.top, hexec, hb, hdg, h1, h2]
      exact a
    · rw [if_neg h2] at a
      jvm_step X.here [X.here.top, hexec, hb, hdg, h1, h2]
      exact a
end LC
theorem lN_big {n : Nat} (h : n < 2 ^ 63) : (lN n).toInt = (n : Int) := lg_ofNat_toInt h
theorem lN_rem {a p : Nat} (ha : a < 2 ^ 63) (h0 : 0 < p) (h : p < 2 ^ 31) : lN a - lN a / lN p * lN p = lN (a % p) := by
  apply Int64.toInt_inj.mp
  have h1 := Nat.mod_lt a h0
  rw [rem64 _ h0 h, lN_big ha, lN_big (by omega), Int.tmod_eq_emod_of_nonneg (by omega), Int.natCast_emod]
theorem lN_ne0 {n : Nat} (h0 : 0 < n) (h : n < 2 ^ 31) : ¬ lN n = 0 := fun z => by
  have h1 := lN_toInt h
  rw [z] at h1
  have h2 : (0 : Int64).toInt = 0 := by decide +kernel
  omega
theorem lN_subI {a b : Nat} (ha : a < 2 ^ 62) (hb : b < 2 ^ 62) : (lN a - lN b).toInt = (a : Int) - b := by
  rw [Int64.toInt_sub, lN_big (by omega), lN_big (by omega)]
  exact Int.bmod_eq_of_le (by omega) (by omega)
/-- taking a product away is adding the negative's product -/
theorem rd_sub {p c f x : Nat} (hf : f < p) : rd p ((c : Int) - (f * x : Nat)) = (c + ng p f * x) % p := by
  have h1 : ((c + ng p f * x : Nat) : Int) % p = ((c : Int) - (f * x : Nat)) % p := by
    unfold ng
    by_cases h0 : f = 0
    · rw [if_pos h0, h0, Nat.zero_mul, show ((c + 0 : Nat) : Int) = (c : Int) - ((0 : Nat) : Int) by omega]
    · rw [if_neg h0]
      have h2 : ((p - f) * x : Nat) + f * x = p * x := by rw [← Nat.add_mul, Nat.sub_add_cancel (by omega)]
      have h3 : ((c + (p - f) * x : Nat) : Int) = ((c : Int) - (f * x : Nat)) + (p : Int) * (x : Int) := by
        have h4 : (((p - f) * x : Nat) : Int) + (f * x : Nat) = (p : Int) * x := by
          rw [← Int.natCast_add, h2, Int.natCast_mul]
        rw [Int.natCast_add]
        omega
      rw [h3, Int.add_mul_emod_self_left]
  unfold rd
  rw [← h1, ← Int.natCast_emod, Int.toNat_natCast]
