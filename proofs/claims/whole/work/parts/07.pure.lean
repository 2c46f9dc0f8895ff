/-! Packed monomials, their ranks, and the list of a polynomial's terms: no machine here. -/
abbrev Pf : Type := Nat → Nat
def R2 (s : Nat) : Nat → Nat
  | 0 => 0
  | a + 1 => R2 s a + (s + 1 - a)
def T3 : Nat → Nat
  | 0 => 0
  | s + 1 => T3 s + R2 s (s + 1)
def mp (a b c : Nat) : Nat := ((a + b + c) * 64 + a) * 4096 + b * 64 + c
def xe (m v : Nat) : Nat := if v = 0 then m / 4096 % 64 else if v = 1 then m / 64 % 64 else m % 64
def xs (m : Nat) : Nat := m / 262144
def mv (m : Nat) : Prop := xe m 0 + xe m 1 + xe m 2 ≤ 36 ∧ m = mp (xe m 0) (xe m 1) (xe m 2)
def rk (m : Nat) : Nat := T3 (xs m) + R2 (xs m) (xe m 0) + xe m 1
theorem xe0 (m : Nat) : xe m 0 = m / 4096 % 64 := rfl
theorem xe1 (m : Nat) : xe m 1 = m / 64 % 64 := rfl
theorem xe2 (m : Nat) : xe m 2 = m % 64 := rfl
theorem mp_x0 {a b c : Nat} (h : a + b + c < 64) : xe (mp a b c) 0 = a := by
  have h1 : mp a b c / 4096 = (a + b + c) * 64 + a := by unfold mp; omega
  rw [xe0, h1]; omega
theorem mp_x1 {a b c : Nat} (h : a + b + c < 64) : xe (mp a b c) 1 = b := by
  have h1 : mp a b c / 64 = ((a + b + c) * 64 + a) * 64 + b := by unfold mp; omega
  rw [xe1, h1]; omega
theorem mp_x2 {a b c : Nat} (h : a + b + c < 64) : xe (mp a b c) 2 = c := by rw [xe2]; unfold mp; omega
theorem mp_xs {a b c : Nat} (h : a + b + c < 64) : xs (mp a b c) = a + b + c := by unfold xs mp; omega
theorem mv_mp {a b c : Nat} (h : a + b + c ≤ 36) : mv (mp a b c) := by
  have h' : a + b + c < 64 := by omega
  refine ⟨?_, ?_⟩
  · rw [mp_x0 h', mp_x1 h', mp_x2 h']; exact h
  · rw [mp_x0 h', mp_x1 h', mp_x2 h']
theorem mv_of {m : Nat} (h : mv m) : ∃ a b c : Nat, a + b + c ≤ 36 ∧ m = mp a b c := ⟨_, _, _, h.1, h.2⟩
theorem mv_xs {m : Nat} (h : mv m) : xs m = xe m 0 + xe m 1 + xe m 2 := by
  obtain ⟨a, b, c, h1, rfl⟩ := mv_of h
  rw [mp_x0 (by omega), mp_x1 (by omega), mp_x2 (by omega), mp_xs (by omega)]
theorem mv_lt {m : Nat} (h : mv m) : m < 2 ^ 24 := by
  obtain ⟨a, b, c, h1, rfl⟩ := mv_of h
  unfold mp
  omega
theorem mp_add (a b c a' b' c' : Nat) : mp a b c + mp a' b' c' = mp (a + a') (b + b') (c + c') := by unfold mp; omega
theorem mp_inj {a b c a' b' c' : Nat} (h : a + b + c < 64) (h' : a' + b' + c' < 64) (e : mp a b c = mp a' b' c') : a = a' ∧ b = b' ∧ c = c' := by
  refine ⟨?_, ?_, ?_⟩
  · rw [← mp_x0 h, e, mp_x0 h']
  · rw [← mp_x1 h, e, mp_x1 h']
  · rw [← mp_x2 h, e, mp_x2 h']
theorem R2_le {s a b : Nat} (h : a ≤ b) : R2 s a ≤ R2 s b := by
  induction b with
  | zero => rw [show a = 0 by omega]; exact Nat.le_refl _
  | succ n ih =>
    by_cases hn : a = n + 1
    · rw [hn]; exact Nat.le_refl _
    · have := ih (by omega)
      show R2 s a ≤ R2 s n + (s + 1 - n)
      omega
theorem R2_lt {s a b : Nat} (h : a < b) : R2 s a + (s + 1 - a) ≤ R2 s b := by
  have h1 : R2 s (a + 1) ≤ R2 s b := R2_le h
  exact h1
theorem T3_le {s t : Nat} (h : s ≤ t) : T3 s ≤ T3 t := by
  induction t with
  | zero => rw [show s = 0 by omega]; exact Nat.le_refl _
  | succ n ih =>
    by_cases hn : s = n + 1
    · rw [hn]; exact Nat.le_refl _
    · have := ih (by omega)
      show T3 s ≤ T3 n + R2 n (n + 1)
      omega
theorem T3_lt {s t : Nat} (h : s < t) : T3 s + R2 s (s + 1) ≤ T3 t := by
  have h1 : T3 (s + 1) ≤ T3 t := T3_le h
  exact h1
theorem T3_37 : T3 37 = 9139 := by decide +kernel
theorem rk_mp {a b c : Nat} (h : a + b + c < 64) : rk (mp a b c) = T3 (a + b + c) + R2 (a + b + c) a + b := by
  unfold rk
  rw [mp_xs h, mp_x0 h, mp_x1 h]
theorem rk_lt {m : Nat} (h : mv m) : rk m < 9139 := by
  obtain ⟨a, b, c, h1, rfl⟩ := mv_of h
  rw [rk_mp (by omega)]
  have h2 := R2_lt (s := a + b + c) (a := a) (b := a + b + c + 1) (by omega)
  have h3 := T3_lt (s := a + b + c) (t := 37) (by omega)
  rw [T3_37] at h3
  omega
theorem rk_mono {m n : Nat} (h : mv m) (h' : mv n) (hlt : m < n) : rk m < rk n := by
  obtain ⟨a, b, c, h1, rfl⟩ := mv_of h
  obtain ⟨a', b', c', h1', rfl⟩ := mv_of h'
  rw [rk_mp (by omega), rk_mp (by omega)]
  have h2 := R2_lt (s := a + b + c) (a := a) (b := a + b + c + 1) (by omega)
  by_cases hs : a + b + c < a' + b' + c'
  · have h3 := T3_lt hs
    omega
  · have hs' : a + b + c = a' + b' + c' := by
      unfold mp at hlt
      omega
    rw [← hs']
    by_cases ha : a < a'
    · have h4 := R2_lt (s := a + b + c) ha
      omega
    · have ha' : a = a' := by
        unfold mp at hlt
        omega
      subst ha'
      unfold mp at hlt
      omega
theorem rk_inj {m n : Nat} (h : mv m) (h' : mv n) (e : rk m = rk n) : m = n := by
  rcases Nat.lt_trichotomy m n with hl | hl | hl
  · have := rk_mono h h' hl; omega
  · exact hl
  · have := rk_mono h' h hl; omega
theorem R2_find {s : Nat} : ∀ (n r : Nat), r < R2 s n → ∃ a, a < n ∧ R2 s a ≤ r ∧ r < R2 s (a + 1)
  | 0, r, h => absurd h (Nat.not_lt_zero _)
  | n + 1, r, h => by
    by_cases hr : r < R2 s n
    · obtain ⟨a, h1, h2⟩ := R2_find n r hr
      exact ⟨a, by omega, h2⟩
    · exact ⟨n, by omega, by omega, h⟩
theorem T3_find : ∀ (n r : Nat), r < T3 n → ∃ s, s < n ∧ T3 s ≤ r ∧ r < T3 (s + 1)
  | 0, r, h => absurd h (Nat.not_lt_zero _)
  | n + 1, r, h => by
    by_cases hr : r < T3 n
    · obtain ⟨a, h1, h2⟩ := T3_find n r hr
      exact ⟨a, by omega, h2⟩
    · exact ⟨n, by omega, by omega, h⟩
theorem rk_surj {r : Nat} (h : r < 9139) : ∃ m, mv m ∧ rk m = r := by
  rw [← T3_37] at h
  obtain ⟨s, h1, h2, h3⟩ := T3_find 37 r h
  have h4 : r - T3 s < R2 s (s + 1) := by
    have : T3 (s + 1) = T3 s + R2 s (s + 1) := rfl
    omega
  obtain ⟨a, h5, h6, h7⟩ := R2_find (s + 1) (r - T3 s) h4
  have h8 : R2 s (a + 1) = R2 s a + (s + 1 - a) := rfl
  have hs : a + (r - T3 s - R2 s a) + (s - a - (r - T3 s - R2 s a)) = s := by omega
  refine ⟨mp a (r - T3 s - R2 s a) (s - a - (r - T3 s - R2 s a)), mv_mp (by omega), ?_⟩
  rw [rk_mp (by omega), hs]
  omega
noncomputable def ur (r : Nat) : Nat := if h : r < 9139 then (rk_surj h).choose else 0
theorem ur_mv {r : Nat} (h : r < 9139) : mv (ur r) := by
  unfold ur
  rw [dif_pos h]
  exact (rk_surj h).choose_spec.1
theorem rk_ur {r : Nat} (h : r < 9139) : rk (ur r) = r := by
  unfold ur
  rw [dif_pos h]
  exact (rk_surj h).choose_spec.2
theorem ur_rk {m : Nat} (h : mv m) : ur (rk m) = m := rk_inj (ur_mv (rk_lt h)) h (rk_ur (rk_lt h))
theorem ur_lt {i j : Nat} (h : i < j) (hj : j < 9139) : ur i < ur j := by
  have hi : i < 9139 := by omega
  rcases Nat.lt_trichotomy (ur i) (ur j) with hl | hl | hl
  · exact hl
  · have := rk_ur hi; have := rk_ur hj; rw [hl] at *; omega
  · have h1 := rk_mono (ur_mv hj) (ur_mv hi) hl
    rw [rk_ur hi, rk_ur hj] at h1
    omega
theorem ur_inj {i j : Nat} (hi : i < 9139) (hj : j < 9139) (e : ur i = ur j) : i = j := by
  rw [← rk_ur hi, ← rk_ur hj, e]
/-- the terms whose rank is below i, the highest first -/
noncomputable def td (g : Pf) : Nat → List (Nat × Nat)
  | 0 => []
  | i + 1 => if g (ur i) ≠ 0 then (ur i, g (ur i)) :: td g i else td g i
noncomputable abbrev tp (g : Pf) : List (Nat × Nat) := td g 9139
theorem td_pos {g : Pf} {i : Nat} (h : g (ur i) ≠ 0) : td g (i + 1) = (ur i, g (ur i)) :: td g i := by
  show (if g (ur i) ≠ 0 then _ else _) = _
  rw [if_pos h]
theorem td_zero {g : Pf} {i : Nat} (h : g (ur i) = 0) : td g (i + 1) = td g i := by
  show (if g (ur i) ≠ 0 then _ else _) = _
  rw [if_neg (by rw [h]; exact fun z => z rfl)]
theorem td_len (g : Pf) : ∀ i, (td g i).length ≤ i
  | 0 => Nat.le_refl _
  | i + 1 => by
    have := td_len g i
    by_cases h : g (ur i) = 0
    · rw [td_zero h]; omega
    · rw [td_pos h, List.length_cons]; omega
theorem td_end {g : Pf} {e n : Nat} (he : e ≤ n) (h : ∀ r, e ≤ r → r < n → g (ur r) = 0) : td g n = td g e := by
  induction n with
  | zero => rw [show e = 0 by omega]
  | succ n ih =>
    by_cases hn : e = n + 1
    · rw [hn]
    · rw [td_zero (h n (by omega) (by omega))]
      exact ih (by omega) (fun r h1 h2 => h r h1 (by omega))
theorem td_congr {g g' : Pf} {n : Nat} (h : ∀ r, r < n → g (ur r) = g' (ur r)) : td g n = td g' n := by
  induction n with
  | zero => rfl
  | succ n ih =>
    have h1 := ih (fun r hr => h r (by omega))
    have h2 := h n (by omega)
    by_cases hz : g (ur n) = 0
    · rw [td_zero hz, td_zero (by rw [← h2]; exact hz), h1]
    · rw [td_pos hz, td_pos (by rw [← h2]; exact hz), h1, h2]
theorem td_mem {g : Pf} {n : Nat} {q : Nat × Nat} (h : q ∈ td g n) : ∃ r, r < n ∧ q.1 = ur r ∧ q.2 = g (ur r) ∧ g (ur r) ≠ 0 := by
  induction n with
  | zero => cases h
  | succ n ih =>
    by_cases hz : g (ur n) = 0
    · rw [td_zero hz] at h
      obtain ⟨r, h1, h2⟩ := ih h
      exact ⟨r, by omega, h2⟩
    · rw [td_pos hz] at h
      rcases List.mem_cons.mp h with rfl | h
      · exact ⟨n, by omega, rfl, rfl, hz⟩
      · obtain ⟨r, h1, h2⟩ := ih h
        exact ⟨r, by omega, h2⟩
theorem mem_td {g : Pf} {n r : Nat} (h : r < n) (hz : g (ur r) ≠ 0) : (ur r, g (ur r)) ∈ td g n := by
  induction n with
  | zero => omega
  | succ n ih =>
    by_cases hn : r = n
    · subst hn
      rw [td_pos hz]
      exact List.mem_cons_self
    · have h1 := ih (by omega)
      by_cases hy : g (ur n) = 0
      · rw [td_zero hy]; exact h1
      · rw [td_pos hy]; exact List.mem_cons_of_mem _ h1
/-- sums on a sheet: a multiple of a list of terms, the products of two lists -/
def addL (p f t : Nat) : List (Nat × Nat) → Pf → Pf
  | [], c => c
  | q :: qs, c => addL p f t qs (va_up c (q.1 + t) ((c (q.1 + t) + f * q.2) % p))
def mulL (p : Nat) (R : List (Nat × Nat)) : List (Nat × Nat) → Pf → Pf
  | [], c => c
  | q :: qs, c => mulL p R qs (addL p q.2 q.1 R c)
/-- a number and its prime -/
def pr (p : Nat) : Prop := 2 ≤ p ∧ ∀ d, 2 ≤ d → d * d ≤ p → p % d ≠ 0
theorem pr_dvd {p d : Nat} (hp : pr p) (h : d ∣ p) : d = 1 ∨ d = p := by
  obtain ⟨e, he⟩ := h
  obtain ⟨h2, hd⟩ := hp
  by_cases h1 : d = 1
  · exact Or.inl h1
  · refine Or.inr ?_
    by_cases h1' : e = 1
    · rw [he, h1', Nat.mul_one]
    · exfalso
      have hd0 : d ≠ 0 := fun z => by rw [z, Nat.zero_mul] at he; omega
      have he0 : e ≠ 0 := fun z => by rw [z, Nat.mul_zero] at he; omega
      rcases Nat.le_total d e with hle | hle
      · exact hd d (by omega) (by rw [he]; exact Nat.mul_le_mul_left d hle) (by rw [he]; exact Nat.mul_mod_right d e)
      · exact hd e (by omega) (by rw [he]; exact Nat.mul_le_mul_right e hle) (by rw [he]; exact Nat.mul_mod_left d e)
theorem pr_big : pr 46337 := by
  refine ⟨by decide, fun d h1 h2 => ?_⟩
  have h3 : d < 216 := by
    apply Classical.byContradiction
    intro h
    have := Nat.mul_le_mul (show 216 ≤ d by omega) (show 216 ≤ d by omega)
    omega
  have h4 : ∀ d, d < 216 → 2 ≤ d → 46337 % d ≠ 0 := by decide +kernel
  exact h4 d h3 h1
theorem pr_mul {p a b : Nat} (hp : pr p) (ha : a % p ≠ 0) (hb : b % p ≠ 0) : a * b % p ≠ 0 := by
  intro h
  have hdv : p ∣ a * b := Nat.dvd_of_mod_eq_zero h
  have hg : Nat.gcd p a = 1 := by
    rcases pr_dvd hp (Nat.gcd_dvd_left p a) with h1 | h1
    · exact h1
    · exact absurd (Nat.mod_eq_zero_of_dvd (h1 ▸ Nat.gcd_dvd_right p a)) ha
  have hc : Nat.Coprime p a := hg
  exact hb (Nat.mod_eq_zero_of_dvd (hc.dvd_of_dvd_mul_left hdv))
