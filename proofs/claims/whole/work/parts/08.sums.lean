/-! What the sums on a sheet come to. -/
/-- the coefficients of a list that fall on m, when t is added to each monomial -/
def cS (t m : Nat) : List (Nat × Nat) → Nat
  | [] => 0
  | q :: qs => (if q.1 + t = m then q.2 else 0) + cS t m qs
theorem addL_cons {p f t : Nat} {q : Nat × Nat} {qs : List (Nat × Nat)} {c : Pf} : addL p f t (q :: qs) c = addL p f t qs (va_up c (q.1 + t) ((c (q.1 + t) + f * q.2) % p)) := rfl
theorem mulL_cons {p : Nat} {R : List (Nat × Nat)} {q : Nat × Nat} {qs : List (Nat × Nat)} {c : Pf} : mulL p R (q :: qs) c = mulL p R qs (addL p q.2 q.1 R c) := rfl
theorem addL_lt {p f t : Nat} (hp : 0 < p) : ∀ {qs : List (Nat × Nat)} {c : Pf}, (∀ m, c m < p) → ∀ m, addL p f t qs c m < p := by
  intro qs
  induction qs with
  | nil => intro c hc; exact hc
  | cons q qs ih =>
    intro c hc
    rw [addL_cons]
    refine ih (fun m => ?_)
    by_cases hm : m = q.1 + t
    · subst hm
      rw [va_up_self]
      exact Nat.mod_lt _ hp
    · rw [va_up_ne _ _ hm]
      exact hc m
theorem addL_val {p f t m : Nat} : ∀ {qs : List (Nat × Nat)} {c : Pf}, c m < p → addL p f t qs c m = (c m + f * cS t m qs) % p := by
  intro qs
  induction qs with
  | nil =>
    intro c hc
    show c m = (c m + f * 0) % p
    rw [Nat.mul_zero, Nat.add_zero, Nat.mod_eq_of_lt hc]
  | cons q qs ih =>
    intro c hc
    rw [addL_cons]
    have hp : 0 < p := by omega
    show _ = (c m + f * ((if q.1 + t = m then q.2 else 0) + cS t m qs)) % p
    by_cases hm : q.1 + t = m
    · rw [ih (by rw [hm, va_up_self]; exact Nat.mod_lt _ hp), hm, va_up_self, if_pos rfl, Nat.mod_add_mod, Nat.mul_add, Nat.add_assoc]
    · rw [ih (by rw [va_up_ne _ _ (fun e => hm e.symm)]; exact hc), va_up_ne _ _ (fun e => hm e.symm), if_neg hm, Nat.zero_add]
theorem cS_zero {t m : Nat} : ∀ {qs : List (Nat × Nat)}, (∀ q ∈ qs, q.1 + t ≠ m) → cS t m qs = 0 := by
  intro qs
  induction qs with
  | nil => intro _; rfl
  | cons q qs ih =>
    intro h
    show (if q.1 + t = m then q.2 else 0) + cS t m qs = 0
    rw [if_neg (h q List.mem_cons_self), ih (fun q' hq => h q' (List.mem_cons_of_mem _ hq))]
/-- in a polynomial's list each monomial stands once -/
theorem cS_td {g : Pf} {t r : Nat} (hr : r < 9139) : ∀ {n : Nat}, n ≤ 9139 → cS t (ur r + t) (td g n) = if r < n then g (ur r) else 0 := by
  intro n
  induction n with
  | zero => intro _; rfl
  | succ n ih =>
    intro hn
    have h1 := ih (by omega)
    by_cases hz : g (ur n) = 0
    · rw [td_zero hz, h1]
      by_cases hrn : r < n
      · rw [if_pos hrn, if_pos (by omega)]
      · by_cases hrn2 : r = n
        · subst hrn2
          rw [if_neg hrn, if_pos (by omega), hz]
        · rw [if_neg hrn, if_neg (by omega)]
    · rw [td_pos hz]
      show (if ur n + t = ur r + t then g (ur n) else 0) + cS t (ur r + t) (td g n) = _
      rw [h1]
      by_cases hrn : r = n
      · subst hrn
        rw [if_pos rfl, if_neg (Nat.lt_irrefl _), if_pos (by omega), Nat.add_zero]
      · have hne : ¬ ur n + t = ur r + t := fun z => hrn (ur_inj hr (by omega) (by omega))
        rw [if_neg hne, Nat.zero_add]
        by_cases hl : r < n
        · rw [if_pos hl, if_pos (by omega)]
        · rw [if_neg hl, if_neg (by omega)]
theorem addL_tp {p f t r : Nat} {g c : Pf} (hr : r < 9139) (hc : c (ur r + t) < p) : addL p f t (tp g) c (ur r + t) = (c (ur r + t) + f * g (ur r)) % p := by
  rw [addL_val hc, cS_td hr (Nat.le_refl _), if_pos hr]
def mS (m : Nat) (R : List (Nat × Nat)) : List (Nat × Nat) → Nat
  | [] => 0
  | q :: qs => q.2 * cS q.1 m R + mS m R qs
theorem mulL_lt {p : Nat} (hp : 0 < p) {R : List (Nat × Nat)} : ∀ {qs : List (Nat × Nat)} {c : Pf}, (∀ m, c m < p) → ∀ m, mulL p R qs c m < p := by
  intro qs
  induction qs with
  | nil => intro c hc; exact hc
  | cons q qs ih => intro c hc; rw [mulL_cons]; exact ih (addL_lt hp hc)
theorem mulL_val {p m : Nat} {R : List (Nat × Nat)} : ∀ {qs : List (Nat × Nat)} {c : Pf}, c m < p → mulL p R qs c m = (c m + mS m R qs) % p := by
  intro qs
  induction qs with
  | nil =>
    intro c hc
    show c m = (c m + 0) % p
    rw [Nat.add_zero, Nat.mod_eq_of_lt hc]
  | cons q qs ih =>
    intro c hc
    rw [mulL_cons]
    have hp : 0 < p := by omega
    have h1 := addL_val (f := q.2) (t := q.1) (qs := R) hc
    rw [ih (by rw [h1]; exact Nat.mod_lt _ hp), h1, Nat.mod_add_mod, Nat.add_assoc]
    rfl
theorem mS_zero {m : Nat} {R : List (Nat × Nat)} : ∀ {qs : List (Nat × Nat)}, (∀ q ∈ qs, ∀ q' ∈ R, q'.1 + q.1 ≠ m) → mS m R qs = 0 := by
  intro qs
  induction qs with
  | nil => intro _; rfl
  | cons q qs ih =>
    intro h
    show q.2 * cS q.1 m R + mS m R qs = 0
    rw [cS_zero (h q List.mem_cons_self), ih (fun q' hq => h q' (List.mem_cons_of_mem _ hq)), Nat.mul_zero]
/-- a product's monomials are sums of its factors' -/
theorem mulL_supp {p m : Nat} (hp : 0 < p) {R qs : List (Nat × Nat)} (h : mulL p R qs (fun _ => 0) m ≠ 0) : ∃ q ∈ qs, ∃ q' ∈ R, q'.1 + q.1 = m := by
  apply Classical.byContradiction
  intro hn
  apply h
  rw [mulL_val (show (fun _ => 0 : Pf) m < p from hp), mS_zero (fun q hq q' hq' e => hn ⟨q, hq, q', hq', e⟩)]
  show (0 + 0) % p = 0
  exact Nat.zero_mod p
/-- a list of terms in order, all ranks below n -/
def bl : Nat → List (Nat × Nat) → Prop
  | _, [] => True
  | n, q :: qs => mv q.1 ∧ rk q.1 < n ∧ q.2 ≠ 0 ∧ bl (rk q.1) qs
theorem bl_lt {n : Nat} {L : List (Nat × Nat)} (h : bl n L) : ∀ q ∈ L, rk q.1 < n ∧ mv q.1 ∧ q.2 ≠ 0 := by
  induction L generalizing n with
  | nil => intro q hq; cases hq
  | cons a L ih =>
    intro q hq
    obtain ⟨h1, h2, h3, h4⟩ := h
    rcases List.mem_cons.mp hq with rfl | hq
    · exact ⟨h2, h1, h3⟩
    · obtain ⟨i1, i2⟩ := ih h4 q hq
      exact ⟨by omega, i2⟩
theorem bl_snoc {n m x : Nat} {L : List (Nat × Nat)} (h : bl n L) (hm : mv m) (hn : rk m < n) (hx : x ≠ 0) (hl : ∀ q ∈ L, rk m < rk q.1) : bl n (L ++ [(m, x)]) := by
  induction L generalizing n with
  | nil => exact ⟨hm, hn, hx, trivial⟩
  | cons a L ih =>
    obtain ⟨h1, h2, h3, h4⟩ := h
    exact ⟨h1, h2, h3, ih h4 (hl a List.mem_cons_self) (fun q hq => hl q (List.mem_cons_of_mem _ hq))⟩
theorem td_of {g : Pf} : ∀ {n : Nat} {L : List (Nat × Nat)}, n ≤ 9139 → bl n L → (∀ r, r < n → g (ur r) = cS 0 (ur r) L) → td g n = L := by
  intro n
  induction n with
  | zero =>
    intro L _ hb _
    cases L with
    | nil => rfl
    | cons q qs => exact absurd hb.2.1 (Nat.not_lt_zero _)
  | succ n ih =>
    intro L hn hb hg
    cases L with
    | nil =>
      rw [td_zero (hg n (by omega))]
      exact ih (by omega) trivial (fun r hr => hg r (by omega))
    | cons q qs =>
      obtain ⟨h1, h2, h3, h4⟩ := hb
      have hq : ur (rk q.1) = q.1 := ur_rk h1
      by_cases hr : rk q.1 = n
      · have hz : cS 0 (ur n) qs = 0 := cS_zero (fun q' hq' e => by
          have h5 := (bl_lt h4 q' hq').1
          rw [Nat.add_zero] at e
          rw [e, rk_ur (by omega)] at h5
          omega)
        have hv : g (ur n) = q.2 := by
          rw [hg n (by omega)]
          show (if q.1 + 0 = ur n then q.2 else 0) + cS 0 (ur n) qs = q.2
          rw [hz, if_pos (by rw [← hr, hq, Nat.add_zero]), Nat.add_zero]
        rw [td_pos (by rw [hv]; exact h3), hv, ih (by omega) (hr ▸ h4) (fun r hlt => by
          rw [hg r (by omega)]
          show (if q.1 + 0 = ur r then q.2 else 0) + cS 0 (ur r) qs = _
          rw [if_neg (fun e => by
            rw [Nat.add_zero] at e
            have h6 : rk q.1 = r := by rw [e, rk_ur (by omega)]
            omega), Nat.zero_add])]
        rw [← hr, hq]
      · have hz : g (ur n) = 0 := by
          rw [hg n (by omega)]
          refine cS_zero (fun q' hq' e => ?_)
          have h5 : rk q'.1 ≤ rk q.1 := by
            rcases List.mem_cons.mp hq' with rfl | hq'
            · exact Nat.le_refl _
            · exact Nat.le_of_lt (bl_lt h4 q' hq').1
          rw [Nat.add_zero] at e
          rw [e, rk_ur (by omega)] at h5
          omega
        rw [td_zero hz]
        exact ih (by omega) ⟨h1, by omega, h3, h4⟩ (fun r hlt => hg r (by omega))
theorem bl_td {g : Pf} : ∀ {n : Nat}, n ≤ 9139 → bl n (td g n) := by
  have up : ∀ {n k : Nat} {L : List (Nat × Nat)}, bl n L → n ≤ k → bl k L := by
    intro n k L h hk
    cases L with
    | nil => trivial
    | cons q qs => exact ⟨h.1, by have := h.2.1; omega, h.2.2⟩
  intro n
  induction n with
  | zero => intro _; trivial
  | succ n ih =>
    intro hn
    by_cases hz : g (ur n) = 0
    · rw [td_zero hz]
      exact up (ih (by omega)) (by omega)
    · rw [td_pos hz]
      refine ⟨ur_mv (by omega), by rw [rk_ur (by omega)]; omega, hz, ?_⟩
      rw [rk_ur (by omega)]
      exact ih (by omega)
