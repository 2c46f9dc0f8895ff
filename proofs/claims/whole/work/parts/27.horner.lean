/-! Horner's steps, and the room of a row that holds one polynomial after another. -/
noncomputable def cpF (F : Nat → Pf) (cp : Nat) : Nat → Nat
  | 0 => cp
  | n + 1 => gcn (cpF F cp n) 0 (td (F (n + 1)) 9139).length
theorem cpF_ge (F : Nat → Pf) (cp : Nat) : ∀ n, cp ≤ cpF F cp n
  | 0 => Nat.le_refl _
  | n + 1 => Nat.le_trans (cpF_ge F cp n) (gcn_ge _ _ _)
theorem cpF_mono (F : Nat → Pf) (cp : Nat) {i : Nat} : ∀ {n : Nat}, i ≤ n → cpF F cp i ≤ cpF F cp n := by
  intro n
  induction n with
  | zero => intro h; rw [show i = 0 by omega]; exact Nat.le_refl _
  | succ n ih =>
    intro h
    by_cases hn : i = n + 1
    · rw [hn]; exact Nat.le_refl _
    · exact Nat.le_trans (ih (by omega)) (gcn_ge _ _ _)
theorem cpF_le (F : Nat → Pf) {cp : Nat} (h : cp ≤ 18278) : ∀ n, cpF F cp n ≤ 18278
  | 0 => h
  | n + 1 => by
    have h1 := td_len (F (n + 1)) 9139
    exact gcn_le _ _ _ _ (cpF_le F h n) (by omega)
theorem addC_lt {p v ex : Nat} (hp : 0 < p) : ∀ {L : List (Nat × Nat)} {c : Pf}, (∀ m, c m < p) → ∀ m, addC p v ex L c m < p := by
  intro L
  induction L with
  | nil => intro c h; exact h
  | cons q L ih =>
    intro c h
    refine ih (c := if xe q.1 v = ex then va_up c (wo q.1 v) ((c (wo q.1 v) + 1 * q.2) % p) else c) ?_
    split
    · exact up_lt h (Nat.mod_lt _ hp)
    · exact h
theorem addC_supp {p v ex m : Nat} : ∀ {L : List (Nat × Nat)} {c : Pf}, addC p v ex L c m ≠ 0 → c m ≠ 0 ∨ ∃ q ∈ L, wo q.1 v = m := by
  intro L
  induction L with
  | nil => intro c h; exact Or.inl h
  | cons q L ih =>
    intro c h
    rcases ih (c := if xe q.1 v = ex then va_up c (wo q.1 v) ((c (wo q.1 v) + 1 * q.2) % p) else c) h with h1 | ⟨q2, h2, h3⟩
    · by_cases hm : wo q.1 v = m
      · exact Or.inr ⟨q, List.mem_cons_self, hm⟩
      · refine Or.inl ?_
        split at h1
        · rw [va_up_ne _ _ (fun z => hm z.symm)] at h1; exact h1
        · exact h1
    · exact Or.inr ⟨q2, List.mem_cons_of_mem _ h2, h3⟩
theorem xe_wo {k u v : Nat} (hk : mv k) (hv : v < 3) (hu : u < 3) : xe (wo k v) u = if u = v then 0 else xe k u := by
  obtain ⟨a, b, c, h, rfl⟩ := mv_of hk
  obtain ⟨h0, h1, h2⟩ := wo_mp h
  have e0 := mp_x0 (show a + b + c < 64 by omega)
  have e1 := mp_x1 (show a + b + c < 64 by omega)
  have e2 := mp_x2 (show a + b + c < 64 by omega)
  refine co3 (P := fun v => xe (wo (mp a b c) v) u = if u = v then 0 else xe (mp a b c) u) ?_ ?_ ?_ hv
  · rw [h0]
    refine co3 (P := fun u => xe (mp 0 b c) u = if u = 0 then 0 else xe (mp a b c) u) ?_ ?_ ?_ hu
    · rw [mp_x0 (by omega)]; rfl
    · rw [mp_x1 (by omega), if_neg (by decide), e1]
    · rw [mp_x2 (by omega), if_neg (by decide), e2]
  · rw [h1]
    refine co3 (P := fun u => xe (mp a 0 c) u = if u = 1 then 0 else xe (mp a b c) u) ?_ ?_ ?_ hu
    · rw [mp_x0 (by omega), if_neg (by decide), e0]
    · rw [mp_x1 (by omega)]; rfl
    · rw [mp_x2 (by omega), if_neg (by decide), e2]
  · rw [h2]
    refine co3 (P := fun u => xe (mp a b 0) u = if u = 2 then 0 else xe (mp a b c) u) ?_ ?_ ?_ hu
    · rw [mp_x0 (by omega), if_neg (by decide), e0]
    · rw [mp_x1 (by omega), if_neg (by decide), e1]
    · rw [mp_x2 (by omega)]; rfl
theorem td_nil (n : Nat) : td (fun _ => 0) n = [] := by
  induction n with
  | zero => rfl
  | succ n ih => rw [td_zero rfl]; exact ih
noncomputable def hrP (p v od : Nat) (a b : Pf) : Nat → Pf
  | 0 => fun _ => 0
  | k + 1 => addC p v (od - k) (tp a) (mulP p (hrP p v od a b k) b)
theorem hrP_lt {p v od : Nat} (hp : 0 < p) (a b : Pf) : ∀ k m, hrP p v od a b k m < p
  | 0, _ => hp
  | _ + 1, m => addC_lt hp (mulP_lt hp _ _) m
/-- the degree that a step leaves in u -/
noncomputable abbrev hrD (v : Nat) (a b : Pf) (k u : Nat) : Nat := (if u = v then 0 else dgl u (tp a) 0) + k * dgl u (tp b) 0
theorem hr_step {p v : Nat} (hp : 0 < p) (hv : v < 3) {a b g : Pf} {ex k : Nat} (hg : ∀ u, u < 3 → dgl u (tp g) 0 + dgl u (tp b) 0 ≤ hrD v a b k u) (h12 : ∀ u, u < 3 → dgl u (tp g) 0 + dgl u (tp b) 0 ≤ 12) {u : Nat} (hu : u < 3) : dgl u (tp (addC p v ex (tp a) (mulP p g b))) 0 ≤ hrD v a b k u := by
  refine dgl_le (Nat.zero_le _) (fun q hq => ?_)
  obtain ⟨m1, m2, m3⟩ := tp_mem hq
  rw [m2] at m3
  rcases addC_supp m3 with h1 | ⟨q2, h2, h3⟩
  · obtain ⟨x, hx, y, hy, he⟩ := mulL_supp hp h1
    obtain ⟨n1, n2⟩ := mul_mv h12 (fun q hq => (tp_mem hq).1) (fun q hq => (tp_mem hq).1) x hx y hy
    rw [← he, n2 u hu]
    have e1 := (dgl_ge (v := u) (L := tp g) (g := 0)).2 x hx
    have e2 := (dgl_ge (v := u) (L := tp b) (g := 0)).2 y hy
    have e3 := hg u hu
    omega
  · rw [← h3, xe_wo (tp_mem h2).1 hv hu]
    have e1 := (dgl_ge (v := u) (L := tp a) (g := 0)).2 q2 h2
    show _ ≤ (if u = v then 0 else dgl u (tp a) 0) + _
    split
    · omega
    · omega
theorem hrP_deg {p v od : Nat} (hp : 0 < p) (hv : v < 3) {a b : Pf} (h : ∀ u, u < 3 → hrD v a b od u ≤ 12) : ∀ {k : Nat}, k ≤ od → ∀ u, u < 3 → dgl u (tp (hrP p v od a b (k + 1))) 0 ≤ hrD v a b k u := by
  intro k
  induction k with
  | zero =>
    intro _ u hu
    refine dgl_le (Nat.zero_le _) (fun q hq => ?_)
    obtain ⟨m1, m2, m3⟩ := tp_mem hq
    rw [m2] at m3
    rcases addC_supp m3 with h1 | ⟨q2, h2, h3⟩
    · obtain ⟨x, hx, _⟩ := mulL_supp hp h1
      rw [show tp (hrP p v od a b 0) = [] from td_nil _] at hx
      cases hx
    · rw [← h3, xe_wo (tp_mem h2).1 hv hu]
      have e1 := (dgl_ge (v := u) (L := tp a) (g := 0)).2 q2 h2
      show _ ≤ (if u = v then 0 else dgl u (tp a) 0) + _
      split
      · omega
      · omega
  | succ k ih =>
    intro hk u hu
    have h1 : ∀ u, u < 3 → dgl u (tp (hrP p v od a b (k + 1))) 0 + dgl u (tp b) 0 ≤ hrD v a b (k + 1) u := fun u hu => by
      have h2 := ih (by omega) u hu
      have h3 : hrD v a b k u + dgl u (tp b) 0 = hrD v a b (k + 1) u := by show _ + _ + _ = _ + _; rw [Nat.add_mul, Nat.one_mul, Nat.add_assoc]
      omega
    have h4 : ∀ u, u < 3 → hrD v a b (k + 1) u ≤ 12 := fun u hu => by
      have h5 := h u hu
      have h6 : (k + 1) * dgl u (tp b) 0 ≤ od * dgl u (tp b) 0 := Nat.mul_le_mul_right _ hk
      have h7 : hrD v a b (k + 1) u ≤ hrD v a b od u := Nat.add_le_add_left h6 _
      omega
    exact hr_step hp hv h1 (fun u hu => Nat.le_trans (h1 u hu) (h4 u hu)) hu
/-- before each product: the degrees' sum -/
theorem hrP_ok {p v od : Nat} (hp : 0 < p) (hv : v < 3) {a b : Pf} (h : ∀ u, u < 3 → hrD v a b od u ≤ 12) {k : Nat} (hk : k ≤ od) : ∀ q ∈ tp (hrP p v od a b k), ∀ q2 ∈ tp b, mv (q2.1 + q.1) := by
  cases k with
  | zero => intro q hq; rw [show tp (hrP p v od a b 0) = [] from td_nil _] at hq; cases hq
  | succ k =>
    intro q hq q2 hq2
    refine (mul_mv (fun u hu => ?_) (fun q hq => (tp_mem hq).1) (fun q hq => (tp_mem hq).1) q hq q2 hq2).1
    have h2 := hrP_deg hp hv h (k := k) (by omega) u hu
    have h3 : hrD v a b k u + dgl u (tp b) 0 = hrD v a b (k + 1) u := by show _ + _ + _ = _ + _; rw [Nat.add_mul, Nat.one_mul, Nat.add_assoc]
    have h5 := h u hu
    have h6 : (k + 1) * dgl u (tp b) 0 ≤ od * dgl u (tp b) 0 := Nat.mul_le_mul_right _ hk
    have h7 : hrD v a b (k + 1) u ≤ hrD v a b od u := Nat.add_le_add_left h6 _
    omega
