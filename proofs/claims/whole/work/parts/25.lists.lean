/-! Derivatives and quotients as lists in order. -/
theorem cS_lt {p m : Nat} (hp : 0 < p) : ∀ {L : List (Nat × Nat)} {n : Nat}, bl n L → (∀ q ∈ L, q.2 < p) → cS 0 m L < p := by
  intro L
  induction L with
  | nil => intro n _ _; exact hp
  | cons q qs ih =>
    intro n hb hq
    obtain ⟨h1, h2, h3, h4⟩ := hb
    show (if q.1 + 0 = m then q.2 else 0) + cS 0 m qs < p
    by_cases he : q.1 + 0 = m
    · have hz : cS 0 m qs = 0 := cS_zero (fun q' hq' e => by
        have h5 := (bl_lt h4 q' hq').1
        rw [Nat.add_zero] at he e
        rw [e, ← he] at h5
        omega)
      rw [if_pos he, hz, Nat.add_zero]
      exact hq q List.mem_cons_self
    · rw [if_neg he, Nat.zero_add]
      exact ih h4 (fun q' hq' => hq q' (List.mem_cons_of_mem _ hq'))
/-- the polynomial of a list in order -/
def lsP (L : List (Nat × Nat)) : Pf := fun m => cS 0 m L
theorem tp_ls {L : List (Nat × Nat)} (h : bl 9139 L) : tp (lsP L) = L := td_of (Nat.le_refl _) h (fun r _ => rfl)
theorem rk_le {m n : Nat} (h : mv m) (h' : mv n) (hle : rk m ≤ rk n) : m ≤ n := by
  rcases Nat.lt_or_ge n m with hl | hl
  · have := rk_mono h' h hl; omega
  · exact hl
def der (p v : Nat) : List (Nat × Nat) → List (Nat × Nat)
  | [] => []
  | q :: qs => if xe q.1 v % p ≠ 0 then (q.1 - vv v, xe q.1 v % p * q.2 % p) :: der p v qs else der p v qs
theorem der_y {p v : Nat} {q : Nat × Nat} {qs : List (Nat × Nat)} (h : ¬ xe q.1 v % p = 0) : der p v (q :: qs) = (q.1 - vv v, xe q.1 v % p * q.2 % p) :: der p v qs := by
  show (if _ then _ else _) = _
  rw [if_pos h]
theorem der_n {p v : Nat} {q : Nat × Nat} {qs : List (Nat × Nat)} (h : xe q.1 v % p = 0) : der p v (q :: qs) = der p v qs := by
  show (if _ then _ else _) = _
  rw [if_neg (fun z => z h)]
theorem der_len {p v : Nat} : ∀ L : List (Nat × Nat), (der p v L).length ≤ L.length
  | [] => Nat.le_refl _
  | q :: qs => by
    have := der_len (p := p) (v := v) qs
    by_cases h : xe q.1 v % p = 0
    · rw [der_n h, List.length_cons]; omega
    · rw [der_y h, List.length_cons, List.length_cons]; omega
theorem sv_mv {k v : Nat} (hk : mv k) (hv : v < 3) (h : xe k v ≠ 0) : vv v ≤ k ∧ mv (k - vv v) := by
  obtain ⟨a, b, c, hs, rfl⟩ := mv_of hk
  have h' : a + b + c < 64 := by omega
  rcases (show v = 0 ∨ v = 1 ∨ v = 2 by omega) with rfl | rfl | rfl
  · rw [mp_x0 h'] at h
    have e : mp a b c - vv 0 = mp (a - 1) b c := by show mp a b c - (262144 + 4096) = _; unfold mp; omega
    exact ⟨by show 262144 + 4096 ≤ _; unfold mp; omega, by rw [e]; exact mv_mp (by omega)⟩
  · rw [mp_x1 h'] at h
    have e : mp a b c - vv 1 = mp a (b - 1) c := by show mp a b c - (262144 + 64) = _; unfold mp; omega
    exact ⟨by show 262144 + 64 ≤ _; unfold mp; omega, by rw [e]; exact mv_mp (by omega)⟩
  · rw [mp_x2 h'] at h
    have e : mp a b c - vv 2 = mp a b (c - 1) := by show mp a b c - (262144 + 1) = _; unfold mp; omega
    exact ⟨by show 262144 + 1 ≤ _; unfold mp; omega, by rw [e]; exact mv_mp (by omega)⟩
theorem der_mem {p v : Nat} : ∀ {L : List (Nat × Nat)} {z : Nat × Nat}, z ∈ der p v L → ∃ q ∈ L, xe q.1 v % p ≠ 0 ∧ z = (q.1 - vv v, xe q.1 v % p * q.2 % p) := by
  intro L
  induction L with
  | nil => intro z h; cases h
  | cons q qs ih =>
    intro z h
    by_cases hz : xe q.1 v % p = 0
    · rw [der_n hz] at h
      obtain ⟨q', h1, h2⟩ := ih h
      exact ⟨q', List.mem_cons_of_mem _ h1, h2⟩
    · rw [der_y hz] at h
      rcases List.mem_cons.mp h with rfl | h
      · exact ⟨q, List.mem_cons_self, hz, rfl⟩
      · obtain ⟨q', h1, h2⟩ := ih h
        exact ⟨q', List.mem_cons_of_mem _ h1, h2⟩
theorem der_bl {p v : Nat} (hp : pr p) (hv : v < 3) : ∀ {L : List (Nat × Nat)} {n : Nat}, bl n L → n ≤ 9139 → (∀ q ∈ L, q.2 < p) → bl n (der p v L) := by
  intro L
  induction L with
  | nil => intro n _ _ _; exact trivial
  | cons q qs ih =>
    intro n hb hn hq
    obtain ⟨h1, h2, h3, h4⟩ := hb
    have h5 := ih h4 (by omega) (fun q' hq' => hq q' (List.mem_cons_of_mem _ hq'))
    have up : ∀ {a b : Nat} {L : List (Nat × Nat)}, bl a L → a ≤ b → bl b L := by
      intro a b L h hk
      cases L with
      | nil => trivial
      | cons q qs => exact ⟨h.1, by have := h.2.1; omega, h.2.2⟩
    by_cases hz : xe q.1 v % p = 0
    · rw [der_n hz]
      exact up h5 (by omega)
    · rw [der_y hz]
      have hx : xe q.1 v ≠ 0 := fun z => hz (by rw [z, Nat.zero_mod])
      obtain ⟨s1, s2⟩ := sv_mv h1 hv hx
      have hp2 := hp.1
      have hvv : 0 < vv v := Nat.lt_of_lt_of_le (show 0 < 262144 by omega) (Nat.le_add_right _ _)
      have hlt := rk_mono s2 h1 (show q.1 - vv v < q.1 by omega)
      refine ⟨s2, by show rk (q.1 - vv v) < n; omega, pr_mul hp (by rw [Nat.mod_mod]; exact hz) (by rw [Nat.mod_eq_of_lt (hq q List.mem_cons_self)]; exact h3), ?_⟩
      show bl (rk (q.1 - vv v)) (der p v qs)
      -- what comes behind lies lower by the same step
      cases hd : der p v qs with
      | nil => exact trivial
      | cons z zs =>
        rw [hd] at h5
        have hzm : z ∈ der p v qs := by rw [hd]; exact List.mem_cons_self
        obtain ⟨q', hq', hne, rfl⟩ := der_mem hzm
        have hq1 := bl_lt h4 q' hq'
        have hx' : xe q'.1 v ≠ 0 := fun z => hne (by rw [z, Nat.zero_mod])
        obtain ⟨t1, t2⟩ := sv_mv hq1.2.1 hv hx'
        have hlt2 : q'.1 < q.1 := by
          rcases Nat.lt_or_ge q'.1 q.1 with h | h
          · exact h
          · rcases Nat.lt_or_ge q.1 q'.1 with h6 | h6
            · have := rk_mono h1 hq1.2.1 h6; omega
            · have : q.1 = q'.1 := by omega
              have h7 := hq1.1
              rw [this] at h7
              omega
        exact ⟨t2, rk_mono t2 s2 (by show q'.1 - vv v < q.1 - vv v; omega), h5.2.2⟩
theorem der_lt {p v : Nat} (hp : 0 < p) {L : List (Nat × Nat)} : ∀ q ∈ der p v L, q.2 < p := by
  intro z hz
  obtain ⟨q, -, -, rfl⟩ := der_mem hz
  exact Nat.mod_lt _ hp
/-- the quotient's list is in order, its numbers are no zeros -/
theorem dvQ_bl {p hi iv : Nat} {B : List (Nat × Nat)} (hp : pr p) (hhi : mv hi) (hiv : iv % p ≠ 0) : ∀ {n : Nat} {c : Pf}, n ≤ 9139 → (∀ m, c m < p) → bl 9139 (dvQ p hi iv B n c) ∧ (∀ q ∈ dvQ p hi iv B n c, q.2 < p ∧ ∃ r, r < n ∧ mlt (ur r) hi ∧ q.1 = ur r - hi) := by
  have hp0 : 0 < p := by have := hp.1; omega
  intro n
  induction n with
  | zero => intro c _ _; exact ⟨trivial, fun q hq => by cases hq⟩
  | succ n ih =>
    intro c hn hc
    by_cases h : c (ur n) ≠ 0 ∧ mlt (ur n) hi
    · rw [dvQ_y h]
      obtain ⟨i1, i2⟩ := ih (c := addL p (ng p (c (ur n) * iv % p)) (ur n - hi) B c) (by omega) (addL_lt hp0 hc)
      obtain ⟨m1, m2, m3⟩ := mlt_mp (ur_mv (by omega)) hhi h.2
      refine ⟨⟨m3, rk_lt m3, pr_mul hp (by rw [Nat.mod_eq_of_lt (hc _)]; exact h.1) hiv, ?_⟩, fun q hq => ?_⟩
      · cases hd : dvQ p hi iv B n (addL p (ng p (c (ur n) * iv % p)) (ur n - hi) B c) with
        | nil => exact trivial
        | cons z zs =>
          rw [hd] at i1 i2
          obtain ⟨_, r, hr, hm, he⟩ := i2 z List.mem_cons_self
          obtain ⟨n1, n2, n3⟩ := mlt_mp (ur_mv (by omega)) hhi hm
          have hlt := ur_lt hr (by omega)
          refine ⟨i1.1, ?_, i1.2.2⟩
          have hz1 : mv z.1 := i1.1
          exact rk_mono hz1 m3 (by show z.1 < ur n - hi; rw [he]; omega)
      · rcases List.mem_cons.mp hq with rfl | hq
        · exact ⟨Nat.mod_lt _ hp0, n, by omega, h.2, rfl⟩
        · obtain ⟨j1, r, j2, j3⟩ := i2 q hq
          exact ⟨j1, r, by omega, j3⟩
    · rw [dvQ_n h]
      obtain ⟨i1, i2⟩ := ih (c := c) (by omega) hc
      exact ⟨i1, fun q hq => by obtain ⟨j1, r, j2, j3⟩ := i2 q hq; exact ⟨j1, r, by omega, j3⟩⟩
theorem dvC_lt {p hi iv : Nat} {B : List (Nat × Nat)} (hp : 0 < p) : ∀ {n : Nat} {c : Pf}, (∀ m, c m < p) → ∀ m, dvC p hi iv B n c m < p := by
  intro n
  induction n with
  | zero => intro c hc; exact hc
  | succ n ih =>
    intro c hc
    by_cases h : c (ur n) ≠ 0 ∧ mlt (ur n) hi
    · rw [dvC_y h]; exact ih (addL_lt hp hc)
    · rw [dvC_n h]; exact ih hc
theorem pr_pow {p x : Nat} (hp : pr p) (hx : x % p ≠ 0) : ∀ n, x ^ n % p ≠ 0
  | 0 => by have := hp.1; rw [Nat.pow_zero, Nat.mod_eq_of_lt (by omega)]; omega
  | n + 1 => by rw [Nat.pow_succ]; exact pr_mul hp (pr_pow hp hx n) hx
/-- the head of a polynomial's list is its highest term -/
theorem hd_max {g : Pf} {q0 : Nat × Nat} (h : (tp g)[0]? = some q0) : ∀ q ∈ tp g, q.1 ≤ q0.1 ∧ xe q.1 0 + xe q.1 1 + xe q.1 2 ≤ xe q0.1 0 + xe q0.1 1 + xe q0.1 2 := by
  have hb := bl_td (g := g) (n := 9139) (Nat.le_refl _)
  have hq0 := List.mem_of_getElem? h
  intro q hq
  have hle : q.1 ≤ q0.1 := by
    cases hl : tp g with
    | nil => rw [hl] at hq; cases hq
    | cons a L =>
      rw [hl] at h hq
      have hb2 : bl 9139 (a :: L) := by rw [← hl]; exact hb
      cases h
      rcases List.mem_cons.mp hq with rfl | hq
      · exact Nat.le_refl _
      · have h5 := bl_lt hb2.2.2.2 q hq
        exact rk_le h5.2.1 hb2.1 (by omega)
  refine ⟨hle, ?_⟩
  have m1 := (tp_mem hq).1
  have m2 := (tp_mem hq0).1
  rw [← mv_xs m1, ← mv_xs m2]
  exact Nat.div_le_div_right hle
theorem dv_mv {g : Pf} {q0 : Nat × Nat} (h : (tp g)[0]? = some q0) : ∀ n, n < 9139 → mlt (ur n) q0.1 → ∀ q ∈ tp g, mv (q.1 + (ur n - q0.1)) := by
  intro n hn hm q hq
  have hu := ur_mv hn
  have h0 := (tp_mem (List.mem_of_getElem? h)).1
  obtain ⟨m1, m2, m3⟩ := mlt_mp hu h0 hm
  obtain ⟨k1, k2⟩ := hd_max h q hq
  have hs := hu.1
  have e0 : xe (ur n - q0.1) 0 = xe (ur n) 0 - xe q0.1 0 := by rw [m2]; exact mp_x0 (by omega)
  have e1 : xe (ur n - q0.1) 1 = xe (ur n) 1 - xe q0.1 1 := by rw [m2]; exact mp_x1 (by omega)
  have e2 : xe (ur n - q0.1) 2 = xe (ur n) 2 - xe q0.1 2 := by rw [m2]; exact mp_x2 (by omega)
  obtain ⟨l0, l1, l2⟩ := hm
  exact (xe_add (tp_mem hq).1 m3 (by rw [e0, e1, e2]; omega)).1
theorem rd_nI {p e : Nat} (h : e < 2 ^ 31) : rd p (nI e).toInt = e % p := by rw [nI_toInt h, rd_nat]
