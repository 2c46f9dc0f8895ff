/-! Degrees of products; the powers of a polynomial. -/
theorem dgl_ge {v : Nat} : ∀ {L : List (Nat × Nat)} {g : Nat}, g ≤ dgl v L g ∧ ∀ q ∈ L, xe q.1 v ≤ dgl v L g := by
  intro L
  induction L with
  | nil => intro g; exact ⟨Nat.le_refl _, fun q hq => by cases hq⟩
  | cons a L ih =>
    intro g
    obtain ⟨h1, h2⟩ := ih (g := max g (xe a.1 v))
    refine ⟨Nat.le_trans (Nat.le_max_left _ _) h1, fun q hq => ?_⟩
    rcases List.mem_cons.mp hq with rfl | hq
    · exact Nat.le_trans (Nat.le_max_right _ _) h1
    · exact h2 q hq
theorem dgl_le {v b : Nat} : ∀ {L : List (Nat × Nat)} {g : Nat}, g ≤ b → (∀ q ∈ L, xe q.1 v ≤ b) → dgl v L g ≤ b := by
  intro L
  induction L with
  | nil => intro g h _; exact h
  | cons a L ih =>
    intro g h hq
    exact ih (Nat.max_le.mpr ⟨h, hq a List.mem_cons_self⟩) (fun q hq9 => hq q (List.mem_cons_of_mem _ hq9))
theorem xe_add {k q : Nat} (hk : mv k) (hq : mv q) (h : xe k 0 + xe q 0 + (xe k 1 + xe q 1) + (xe k 2 + xe q 2) ≤ 36) : mv (k + q) ∧ ∀ v, v < 3 → xe (k + q) v = xe k v + xe q v := by
  have h1 := hk.2
  have h2 := hq.2
  have h3 : k + q = mp (xe k 0 + xe q 0) (xe k 1 + xe q 1) (xe k 2 + xe q 2) := by
    rw [← mp_add, ← h1, ← h2]
  have h4 : xe k 0 + xe q 0 + (xe k 1 + xe q 1) + (xe k 2 + xe q 2) < 64 := by omega
  rw [h3]
  refine ⟨mv_mp (by omega), fun v hv => ?_⟩
  refine co3 (P := fun v => xe (mp (xe k 0 + xe q 0) (xe k 1 + xe q 1) (xe k 2 + xe q 2)) v = xe k v + xe q v) ?_ ?_ ?_ hv
  · exact mp_x0 h4
  · exact mp_x1 h4
  · exact mp_x2 h4
theorem mul_mv {L R : List (Nat × Nat)} (h : ∀ u, u < 3 → dgl u L 0 + dgl u R 0 ≤ 12) (hL : ∀ q ∈ L, mv q.1) (hR : ∀ q ∈ R, mv q.1) : ∀ q ∈ L, ∀ q2 ∈ R, mv (q2.1 + q.1) ∧ ∀ v, v < 3 → xe (q2.1 + q.1) v = xe q2.1 v + xe q.1 v := by
  intro q hq q2 hq2
  have a := fun u => (dgl_ge (v := u) (L := L) (g := 0)).2 q hq
  have b := fun u => (dgl_ge (v := u) (L := R) (g := 0)).2 q2 hq2
  refine xe_add (hR q2 hq2) (hL q hq) ?_
  have h0 := h 0 (by omega)
  have h1 := h 1 (by omega)
  have h2 := h 2 (by omega)
  have a0 := a 0
  have a1 := a 1
  have a2 := a 2
  have b0 := b 0
  have b1 := b 1
  have b2 := b 2
  omega
noncomputable def mulP (p : Nat) (a b : Pf) : Pf := mulL p (tp b) (tp a) (fun _ => 0)
theorem mulP_lt {p : Nat} (hp : 0 < p) (a b : Pf) : ∀ m, mulP p a b m < p := mulL_lt hp (fun _ => hp)
theorem mulP_deg {p : Nat} (hp : 0 < p) {a b : Pf} (h : ∀ u, u < 3 → dgl u (tp a) 0 + dgl u (tp b) 0 ≤ 12) {v : Nat} (hv : v < 3) : dgl v (tp (mulP p a b)) 0 ≤ dgl v (tp a) 0 + dgl v (tp b) 0 := by
  refine dgl_le (Nat.zero_le _) (fun q hq => ?_)
  obtain ⟨h1, h2, h3⟩ := tp_mem hq
  rw [h2] at h3
  obtain ⟨x, hx, y, hy, he⟩ := mulL_supp hp h3
  obtain ⟨m1, m2⟩ := mul_mv h (fun q hq => (tp_mem hq).1) (fun q hq => (tp_mem hq).1) x hx y hy
  rw [← he, m2 v hv]
  have e1 := (dgl_ge (v := v) (L := tp a) (g := 0)).2 x hx
  have e2 := (dgl_ge (v := v) (L := tp b) (g := 0)).2 y hy
  omega
noncomputable def pwP (p : Nat) (b : Pf) : Nat → Pf
  | 0 => cst 1
  | n + 1 => mulP p (pwP p b n) b
theorem pwP_lt {p : Nat} (hp : 2 ≤ p) (b : Pf) : ∀ n m, pwP p b n m < p
  | 0, m => cst_lt hp m
  | n + 1, m => mulP_lt (by omega) _ _ m
theorem pwP_deg {p : Nat} (hp : 2 ≤ p) {b : Pf} {n : Nat} (h : ∀ u, u < 3 → n * dgl u (tp b) 0 ≤ 12) : ∀ {i : Nat}, i ≤ n → ∀ u, u < 3 → dgl u (tp (pwP p b i)) 0 ≤ i * dgl u (tp b) 0 := by
  intro i
  induction i with
  | zero =>
    intro _ u hu
    refine dgl_le (Nat.zero_le _) (fun q hq => ?_)
    rw [show pwP p b 0 = cst 1 from rfl, tp_cst, if_neg (by omega)] at hq
    rw [List.mem_singleton] at hq
    rw [hq]
    refine co3 (P := fun u => xe 0 u ≤ 0 * dgl u (tp b) 0) ?_ ?_ ?_ hu <;> (rw [Nat.zero_mul]; decide)
  | succ i ih =>
    intro hi u hu
    have hs : ∀ u, u < 3 → dgl u (tp (pwP p b i)) 0 + dgl u (tp b) 0 ≤ 12 := fun u hu => by
      have h1 := ih (by omega) u hu
      have h2 := h u hu
      have h3 : (i + 1) * dgl u (tp b) 0 ≤ n * dgl u (tp b) 0 := Nat.mul_le_mul_right _ hi
      rw [Nat.add_mul, Nat.one_mul] at h3
      omega
    have h4 := mulP_deg (p := p) (by omega) hs hu
    have h5 := ih (by omega) u hu
    show dgl u (tp (mulP p (pwP p b i) b)) 0 ≤ _
    rw [Nat.add_mul, Nat.one_mul]
    omega
/-- the spare one's room behind n products -/
noncomputable def cpw (p : Nat) (b : Pf) (cp : Nat) : Nat → Nat
  | 0 => cp
  | n + 1 => gcn (cpw p b cp n) 0 (td (pwP p b (n + 1)) 9139).length
theorem cpw_ge (p : Nat) (b : Pf) (cp : Nat) : ∀ n, cp ≤ cpw p b cp n
  | 0 => Nat.le_refl _
  | n + 1 => Nat.le_trans (cpw_ge p b cp n) (gcn_ge _ _ _)
theorem cpw_mono (p : Nat) (b : Pf) (cp : Nat) {i : Nat} : ∀ {n : Nat}, i ≤ n → cpw p b cp i ≤ cpw p b cp n := by
  intro n
  induction n with
  | zero => intro h; rw [show i = 0 by omega]; exact Nat.le_refl _
  | succ n ih =>
    intro h
    by_cases hn : i = n + 1
    · rw [hn]; exact Nat.le_refl _
    · exact Nat.le_trans (ih (by omega)) (gcn_ge _ _ _)
theorem cpw_le (p : Nat) (b : Pf) {cp : Nat} (h : cp ≤ 18278) : ∀ n, cpw p b cp n ≤ 18278
  | 0 => h
  | n + 1 => by
    have h1 := td_len (pwP p b (n + 1)) 9139
    exact gcn_le _ _ _ _ (cpw_le p b h n) (by omega)
