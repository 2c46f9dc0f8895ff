/-! Lists of single terms; updates that change nothing. -/
theorem up_id {α : Type} (f : Nat → α) (i : Nat) : va_up f i (f i) = f := by
  funext z
  by_cases h : z = i
  · subst h; rw [va_up_self]
  · rw [va_up_ne _ _ h]
theorem tp_zero {g : Pf} (h : ∀ r, r < 9139 → g (ur r) = 0) : tp g = [] := by
  have := td_end (g := g) (e := 0) (n := 9139) (by omega) (fun r _ hr => h r hr)
  exact this
theorem tp_single {k x : Nat} (hk : mv k) (hx : x ≠ 0) : tp (fun m => if m = k then x else 0) = [(k, x)] := by
  refine td_of (Nat.le_refl _) ⟨hk, rk_lt hk, hx, trivial⟩ (fun r hr => ?_)
  show (if ur r = k then x else 0) = (if k + 0 = ur r then x else 0) + 0
  by_cases h : ur r = k
  · rw [if_pos h, if_pos (by omega), Nat.add_zero]
  · rw [if_neg h, if_neg (by omega)]
theorem mv_0 : mv 0 := mv_mp (a := 0) (b := 0) (c := 0) (by omega)
theorem vv_mv {v : Nat} (hv : v < 3) : mv (vv v) := by
  refine co3 (P := fun v => mv (vv v)) ?_ ?_ ?_ hv
  · exact mv_mp (a := 1) (b := 0) (c := 0) (by omega)
  · exact mv_mp (a := 0) (b := 1) (c := 0) (by omega)
  · exact mv_mp (a := 0) (b := 0) (c := 1) (by omega)
/-- a number as a polynomial -/
def cst (x : Nat) : Pf := fun m => if m = 0 then x else 0
def vrb (v : Nat) : Pf := fun m => if m = vv v then 1 else 0
theorem tp_cst (x : Nat) : tp (cst x) = if x = 0 then [] else [(0, x)] := by
  by_cases h : x = 0
  · rw [if_pos h]
    refine tp_zero (fun r _ => ?_)
    show (if ur r = 0 then x else 0) = 0
    rw [h]
    split <;> rfl
  · rw [if_neg h]
    exact tp_single mv_0 h
theorem cst_lt {x p : Nat} (h : x < p) : ∀ m, cst x m < p := by
  intro m
  unfold cst
  split <;> omega
/-- a polynomial's terms are good ones -/
theorem tp_mem {g : Pf} {q : Nat × Nat} (h : q ∈ tp g) : mv q.1 ∧ q.2 = g q.1 ∧ q.2 ≠ 0 := by
  obtain ⟨r, h1, h2, h3, h4⟩ := td_mem h
  rw [h2]
  exact ⟨ur_mv h1, h3, by rw [h3]; exact h4⟩
/-- the sum that add makes -/
noncomputable def addP (p : Nat) (a b : Pf) (f : Nat) : Pf := addL p f 0 (tp b) (addL p 1 0 (tp a) (fun _ => 0))
theorem addP_lt {p : Nat} (hp : 0 < p) (a b : Pf) (f : Nat) : ∀ m, addP p a b f m < p := addL_lt hp (addL_lt hp (fun _ => hp))
theorem addP_val {p f r : Nat} {a b : Pf} (ha : ∀ m, a m < p) (hr : r < 9139) : addP p a b f (ur r) = (a (ur r) + f * b (ur r)) % p := by
  have hp : 0 < p := Nat.lt_of_le_of_lt (Nat.zero_le _) (ha 0)
  have h1 := addL_tp (p := p) (f := 1) (t := 0) (g := a) (c := fun _ => 0) hr hp
  rw [Nat.add_zero] at h1
  have h1' : addL p 1 0 (tp a) (fun _ => 0) (ur r) = a (ur r) := by
    rw [h1]
    show (0 + 1 * a (ur r)) % p = _
    rw [Nat.zero_add, Nat.one_mul, Nat.mod_eq_of_lt (ha _)]
  have h2 := addL_tp (p := p) (f := f) (t := 0) (g := b) (c := addL p 1 0 (tp a) (fun _ => 0)) hr (addL_lt hp (fun _ => hp) _)
  rw [Nat.add_zero] at h2
  show addL p f 0 (tp b) _ (ur r) = _
  rw [h2, h1']
