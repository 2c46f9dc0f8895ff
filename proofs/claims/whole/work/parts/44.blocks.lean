/-! The reference's minors: blocks of 169 numbers, a place for each two exponents. -/
noncomputable def u13 (v t : Nat) : Nat := if v = 0 then mp 0 (t / 13) (t % 13) else if v = 1 then mp (t / 13) 0 (t % 13) else mp (t / 13) (t % 13) 0
theorem mp_mv {a b c : Nat} (h : a + b + c ≤ 36) : mv (mp a b c) := by
  refine ⟨?_, ?_⟩
  · rw [mp_x0 (by omega), mp_x1 (by omega), mp_x2 (by omega)]; exact h
  · rw [mp_x0 (by omega), mp_x1 (by omega), mp_x2 (by omega)]
theorem u13_bx {v t : Nat} (hv : v < 3) (ht : t < 169) : bx v (u13 v t) ∧ k13 v (u13 v t) = t := by
  have hv3 : v = 0 ∨ v = 1 ∨ v = 2 := by omega
  have h1 : t / 13 ≤ 12 := by omega
  have h2 : t % 13 ≤ 12 := by omega
  have h3 : 13 * (t / 13) + t % 13 = t := Nat.div_add_mod t 13
  generalize t / 13 = x at *
  generalize t % 13 = y at *
  rcases hv3 with rfl | rfl | rfl
  · have e : u13 0 t = mp 0 (t / 13) (t % 13) := rfl
    have ex : t / 13 = x := by omega
    have ey : t % 13 = y := by omega
    rw [e, ex, ey]
    have e0 : xe (mp 0 x y) 0 = 0 := mp_x0 (by omega)
    have e1 : xe (mp 0 x y) 1 = x := mp_x1 (by omega)
    have e2 : xe (mp 0 x y) 2 = y := mp_x2 (by omega)
    refine ⟨⟨mp_mv (by omega), e0, fun u hu => co3 (P := fun u => xe (mp 0 x y) u ≤ 12) (by show xe _ 0 ≤ 12; omega) (by show xe _ 1 ≤ 12; omega) (by show xe _ 2 ≤ 12; omega) hu⟩, ?_⟩
    show 13 * xe (mp 0 x y) 1 + xe (mp 0 x y) 2 = t
    omega
  · have e : u13 1 t = mp (t / 13) 0 (t % 13) := rfl
    have ex : t / 13 = x := by omega
    have ey : t % 13 = y := by omega
    rw [e, ex, ey]
    have e0 : xe (mp x 0 y) 0 = x := mp_x0 (by omega)
    have e1 : xe (mp x 0 y) 1 = 0 := mp_x1 (by omega)
    have e2 : xe (mp x 0 y) 2 = y := mp_x2 (by omega)
    refine ⟨⟨mp_mv (by omega), e1, fun u hu => co3 (P := fun u => xe (mp x 0 y) u ≤ 12) (by show xe _ 0 ≤ 12; omega) (by show xe _ 1 ≤ 12; omega) (by show xe _ 2 ≤ 12; omega) hu⟩, ?_⟩
    show 13 * xe (mp x 0 y) 0 + xe (mp x 0 y) 2 = t
    omega
  · have e : u13 2 t = mp (t / 13) (t % 13) 0 := rfl
    have ex : t / 13 = x := by omega
    have ey : t % 13 = y := by omega
    rw [e, ex, ey]
    have e0 : xe (mp x y 0) 0 = x := mp_x0 (by omega)
    have e1 : xe (mp x y 0) 1 = y := mp_x1 (by omega)
    have e2 : xe (mp x y 0) 2 = 0 := mp_x2 (by omega)
    refine ⟨⟨mp_mv (by omega), e2, fun u hu => co3 (P := fun u => xe (mp x y 0) u ≤ 12) (by show xe _ 0 ≤ 12; omega) (by show xe _ 1 ≤ 12; omega) (by show xe _ 2 ≤ 12; omega) hu⟩, ?_⟩
    show 13 * xe (mp x y 0) 0 + xe (mp x y 0) 1 = t
    omega
theorem u13_k13 {v k : Nat} (hv : v < 3) (h : bx v k) : u13 v (k13 v k) = k := by
  obtain ⟨h1, h2⟩ := u13_bx hv (k13_lt hv h)
  exact k13_inj hv h1 h h2
theorem k13_wo {v q : Nat} (hv : v < 3) (hq : mv q) : k13 v (wo q v) = k13 v q := by
  have e : ∀ u, u < 3 → u ≠ v → xe (wo q v) u = xe q u := fun u hu huv => by rw [xe_wo hq hv hu, if_neg huv]
  unfold k13
  rw [e (if v = 0 then 1 else 0) (by split <;> omega) (by split <;> omega), e (if v = 2 then 1 else 2) (by split <;> omega) (by split <;> omega)]
theorem k13_add {v k q : Nat} (hv : v < 3) (hk : bx v k) (hq : mv q) (h : ∀ u, u < 3 → u ≠ v → xe k u + xe q u ≤ 12) : bx v (k + wo q v) ∧ k13 v (k + wo q v) = k13 v k + k13 v q := by
  have h1 : ∀ u, u < 3 → xe k u + xe (wo q v) u ≤ 12 := fun u hu => by
    rw [xe_wo hq hv hu]
    by_cases huv : u = v
    · rw [if_pos huv]; have := hk.2.2 u hu; omega
    · rw [if_neg huv]; exact h u hu huv
  obtain ⟨e1, e2⟩ := add_mv hk.1 (wo_mv hq hv) h1
  refine ⟨⟨e1, ?_, fun u hu => by rw [e2 u hu]; exact h1 u hu⟩, ?_⟩
  · rw [e2 v hv, hk.2.1, xe_wo hq hv hv, if_pos rfl]
  · have a := e2 (if v = 0 then 1 else 0) (by split <;> omega)
    have b := e2 (if v = 2 then 1 else 2) (by split <;> omega)
    rw [← k13_wo hv hq]
    unfold k13
    rw [a, b]
    omega
/-- a term times a minor, by places -/
theorem cv_eq {v t q : Nat} {g : Pf} {f : Nat → Nat} (hv : v < 3) (ht : t < 169) (hq : mv q) (hg : ∀ x ∈ tp g, bx v x.1) (hf : ∀ j, j < 169 → f j = g (u13 v j)) (hs : ∀ x ∈ tp g, ∀ u, u < 3 → u ≠ v → xe x.1 u + xe q u ≤ 12) : cS (wo q v) (u13 v t) (tp g) = if k13 v q ≤ t then f (t - k13 v q) else 0 := by
  obtain ⟨b1, b2⟩ := u13_bx hv ht
  by_cases hz : ∃ x ∈ tp g, x.1 + wo q v = u13 v t
  · obtain ⟨x, hx, he⟩ := hz
    obtain ⟨m1, m2, m3⟩ := tp_mem hx
    have e1 := (k13_add hv (hg x hx) hq (hs x hx)).2
    rw [he, b2] at e1
    have e2 := cS_td (g := g) (t := wo q v) (r := rk x.1) (rk_lt m1) (n := 9139) (Nat.le_refl _)
    rw [ur_rk m1, if_pos (rk_lt m1), he] at e2
    have hk := k13_lt hv (hg x hx)
    rw [if_pos (by omega), hf _ (by omega), show t - k13 v q = k13 v x.1 by omega, u13_k13 hv (hg x hx)]
    exact e2
  · rw [cS_zero (fun x hx he => hz ⟨x, hx, he⟩)]
    by_cases hk : k13 v q ≤ t
    · rw [if_pos hk, hf _ (by omega)]
      apply Classical.byContradiction
      intro hn
      obtain ⟨c1, c2⟩ := u13_bx (t := t - k13 v q) hv (by omega)
      have h1 := mem_td (g := g) (n := 9139) (r := rk (u13 v (t - k13 v q))) (rk_lt c1.1) (by rw [ur_rk c1.1]; exact fun z => hn z.symm)
      rw [ur_rk c1.1] at h1
      obtain ⟨d1, d2⟩ := k13_add hv c1 hq (hs _ h1)
      have d2 : k13 v (u13 v (t - k13 v q) + wo q v) = k13 v (u13 v (t - k13 v q)) + k13 v q := d2
      have d1 : bx v (u13 v (t - k13 v q) + wo q v) := d1
      rw [c2] at d2
      have d3 : k13 v (u13 v (t - k13 v q) + wo q v) = k13 v (u13 v t) := by rw [b2, d2]; omega
      exact hz ⟨_, h1, k13_inj hv d1 b1 d3⟩
    · rw [if_neg hk]
noncomputable def exS (p v lc c : Nat) (G : Nat → Pf) (m : Nat) : List (Nat × Nat) → Nat
  | [] => 0
  | q :: qs => (if c / 2 ^ (lc - xe q.1 v) % 2 = 1 then sgn p (c / 2 ^ (lc - xe q.1 v)) q.2 * cS (wo q.1 v) m (tp (G (c - 2 ^ (lc - xe q.1 v)))) else 0) + exS p v lc c G m qs
theorem exL_val {p v lc c m : Nat} {G : Nat → Pf} (hp : 0 < p) : ∀ {L : List (Nat × Nat)} {s : Pf}, s m < p → exL p v lc c G L s m = (s m + exS p v lc c G m L) % p := by
  intro L
  induction L with
  | nil => intro s h; exact (Nat.mod_eq_of_lt h).symm
  | cons q L ih =>
    intro s h
    by_cases hb : c / 2 ^ (lc - xe q.1 v) % 2 = 1
    · have h1 := addL_val (p := p) (f := sgn p (c / 2 ^ (lc - xe q.1 v)) q.2) (t := wo q.1 v) (qs := tp (G (c - 2 ^ (lc - xe q.1 v)))) h
      rw [exL_y hb, ih (by rw [h1]; exact Nat.mod_lt _ hp), h1]
      show _ = (s m + ((if _ then _ else 0) + exS p v lc c G m L)) % p
      rw [if_pos hb, Nat.mod_add_mod, Nat.add_assoc]
    · rw [exL_n hb, ih h]
      show _ = (s m + ((if _ then _ else 0) + exS p v lc c G m L)) % p
      rw [if_neg hb, Nat.zero_add]
/-- sums -/
theorem sm_add {f g : Nat → Nat} : ∀ n, sm (fun i => f i + g i) n = sm f n + sm g n
  | 0 => rfl
  | n + 1 => by
    show sm (fun i => f i + g i) n + (f n + g n) = sm f n + f n + (sm g n + g n)
    rw [sm_add n]; omega
theorem sm_eq {f g : Nat → Nat} : ∀ {n : Nat}, (∀ i, i < n → f i = g i) → sm f n = sm g n
  | 0, _ => rfl
  | n + 1, h => by
    show sm f n + f n = sm g n + g n
    rw [sm_eq (n := n) (fun i hi => h i (by omega)), h n (by omega)]
theorem sm_0 : ∀ {f : Nat → Nat} {n : Nat}, (∀ i, i < n → f i = 0) → sm f n = 0
  | _, 0, _ => rfl
  | f, n + 1, h => by
    show sm f n + f n = 0
    rw [sm_0 (fun i hi => h i (by omega)), h n (by omega)]
theorem sm_one {W : Nat → Nat} {k x : Nat} : ∀ {n : Nat}, k < n → sm (fun i => W i * (if k = i then x else 0)) n = W k * x
  | 0, h => absurd h (by omega)
  | n + 1, h => by
    show sm (fun i => W i * (if k = i then x else 0)) n + W n * (if k = n then x else 0) = W k * x
    by_cases hk : k = n
    · subst hk
      rw [if_pos rfl, sm_0 (fun i hi => by rw [if_neg (by omega), Nat.mul_zero]), Nat.zero_add]
    · rw [if_neg hk, Nat.mul_zero, Nat.add_zero]
      exact sm_one (by omega)
theorem sm_mod {p : Nat} {f g : Nat → Nat} : ∀ {n : Nat}, (∀ i, i < n → f i % p = g i % p) → sm f n % p = sm g n % p
  | 0, _ => rfl
  | n + 1, h => by
    show (sm f n + f n) % p = (sm g n + g n) % p
    rw [Nat.add_mod, sm_mod (n := n) (fun i hi => h i (by omega)), h n (by omega), ← Nat.add_mod]
theorem sm_blk {F : Nat → Nat} {b : Nat} : ∀ n k, sm F (b * n + k) = sm (fun j => sm (fun i => F (b * j + i)) b) n + sm (fun i => F (b * n + i)) k := by
  intro n
  induction n with
  | zero =>
    intro k
    show sm F (b * 0 + k) = 0 + _
    rw [Nat.mul_zero, Nat.zero_add, Nat.zero_add]
    exact sm_eq (fun i _ => by rw [Nat.zero_add])
  | succ n ih =>
    intro k
    induction k with
    | zero =>
      have h := ih b
      rw [show b * (n + 1) + 0 = b * n + b by rw [Nat.mul_succ]; rfl, h]
      rfl
    | succ k ik =>
      show sm F (b * (n + 1) + k) + F (b * (n + 1) + k) = _ + (sm (fun i => F (b * (n + 1) + i)) k + F (b * (n + 1) + k))
      rw [ik, Nat.add_assoc]
/-- what stands at a place of a row -/
def eL (key : Nat → Nat) (k : Nat) : List (Nat × Nat) → Nat
  | [] => 0
  | q :: qs => (if key q.1 = k then q.2 else 0) + eL key k qs
def lS (W key : Nat → Nat) : List (Nat × Nat) → Nat
  | [] => 0
  | q :: qs => W (key q.1) * q.2 + lS W key qs
theorem eL_sum {W key : Nat → Nat} {n : Nat} : ∀ {L : List (Nat × Nat)}, (∀ q ∈ L, key q.1 < n) → lS W key L = sm (fun k => W k * eL key k L) n := by
  intro L
  induction L with
  | nil => intro _; exact (sm_0 (fun i _ => Nat.mul_zero _)).symm
  | cons q L ih =>
    intro h
    show W (key q.1) * q.2 + lS W key L = _
    rw [ih (fun x hx => h x (List.mem_cons_of_mem _ hx)), ← sm_one (W := W) (x := q.2) (h q List.mem_cons_self), ← sm_add]
    exact sm_eq (fun i _ => (Nat.mul_add _ _ _).symm)
theorem eL_miss {key : Nat → Nat} {k : Nat} : ∀ {L : List (Nat × Nat)}, (∀ q ∈ L, key q.1 ≠ k) → eL key k L = 0 := by
  intro L
  induction L with
  | nil => intro _; rfl
  | cons q L ih =>
    intro h
    show (if key q.1 = k then q.2 else 0) + eL key k L = 0
    rw [if_neg (h q List.mem_cons_self), ih (fun x hx => h x (List.mem_cons_of_mem _ hx))]
theorem eL_hit {key : Nat → Nat} {q : Nat × Nat} : ∀ {L : List (Nat × Nat)} {n : Nat}, bl n L → (∀ x ∈ L, key x.1 = key q.1 → x.1 = q.1) → q ∈ L → eL key (key q.1) L = q.2 := by
  intro L
  induction L with
  | nil => intro _ _ _ h; cases h
  | cons y L ih =>
    intro n hb hi hq
    obtain ⟨b1, b2, b3, b4⟩ := hb
    have hlt := bl_lt b4
    show (if key y.1 = key q.1 then y.2 else 0) + eL key (key q.1) L = q.2
    rcases List.mem_cons.mp hq with rfl | hq
    · rw [if_pos rfl, eL_miss (fun x hx e => by
        have e1 := hi x (List.mem_cons_of_mem _ hx) e
        have e2 := (hlt x hx).1
        rw [e1] at e2
        exact absurd e2 (Nat.lt_irrefl _)), Nat.add_zero]
    · rw [if_neg (fun e => by
        have e1 := hi y List.mem_cons_self e
        have e2 := (hlt q hq).1
        rw [e1] at e2
        exact absurd e2 (Nat.lt_irrefl _)), Nat.zero_add]
      exact ih b4 (fun x hx => hi x (List.mem_cons_of_mem _ hx)) hq
/-- the reference's entry -/
def etL (v e at' : Nat) : List (Nat × Nat) → (Nat → Nat) → Nat → Nat
  | [], g => g
  | q :: qs, g => etL v e at' qs (if xe q.1 v = e then va_up g (169 * at' + k13 v q.1) q.2 else g)
theorem etL_y {v e t : Nat} {q : Nat × Nat} {qs : List (Nat × Nat)} {g : Nat → Nat} (h : xe q.1 v = e) : etL v e t (q :: qs) g = etL v e t qs (va_up g (169 * t + k13 v q.1) q.2) := by
  show etL v e t qs (if _ then _ else _) = _
  rw [if_pos h]
theorem etL_n {v e t : Nat} {q : Nat × Nat} {qs : List (Nat × Nat)} {g : Nat → Nat} (h : ¬ xe q.1 v = e) : etL v e t (q :: qs) g = etL v e t qs g := by
  show etL v e t qs (if _ then _ else _) = _
  rw [if_neg h]
theorem etL_at {v e t x : Nat} : ∀ {L : List (Nat × Nat)} {g : Nat → Nat}, (∃ q ∈ L, xe q.1 v = e ∧ 169 * t + k13 v q.1 = x ∧ etL v e t L g x = q.2) ∨ ((∀ q ∈ L, ¬ (xe q.1 v = e ∧ 169 * t + k13 v q.1 = x)) ∧ etL v e t L g x = g x) := by
  intro L
  induction L with
  | nil => intro g; exact Or.inr ⟨(fun q h => by cases h), rfl⟩
  | cons q L ih =>
    intro g
    by_cases h : xe q.1 v = e
    · rw [etL_y h]
      rcases ih (g := va_up g (169 * t + k13 v q.1) q.2) with ⟨y, h1, h2, h3, h4⟩ | ⟨h1, h2⟩
      · exact Or.inl ⟨y, List.mem_cons_of_mem _ h1, h2, h3, h4⟩
      · by_cases hx : 169 * t + k13 v q.1 = x
        · exact Or.inl ⟨q, List.mem_cons_self, h, hx, by rw [h2, hx, va_up_self]⟩
        · refine Or.inr ⟨fun y hy => ?_, by rw [h2, va_up_ne _ _ (fun z => hx z.symm)]⟩
          rcases List.mem_cons.mp hy with rfl | hy
          · exact fun z => hx z.2
          · exact h1 y hy
    · rw [etL_n h]
      rcases ih (g := g) with ⟨y, h1, h2, h3, h4⟩ | ⟨h1, h2⟩
      · exact Or.inl ⟨y, List.mem_cons_of_mem _ h1, h2, h3, h4⟩
      · refine Or.inr ⟨fun y hy => ?_, h2⟩
        rcases List.mem_cons.mp hy with rfl | hy
        · exact fun z => h z.1
        · exact h1 y hy
