/-! Minors: one set of columns after another, each expanded along its last row. -/
theorem bt_facts : ∀ c, c < 256 → ∀ k, k < 8 → c / 2 ^ k % 2 = 1 → c ^^^ (1 * 2 ^ k) = c - 2 ^ k ∧ 2 ^ k ≤ c ∧ pcn (c - 2 ^ k) + 1 = pcn c ∧ 1 ≤ pcn (c / 2 ^ k) := by decide +kernel
theorem pcn_le : ∀ s, s < 9 → ∀ c, c < 2 ^ s → pcn c ≤ s := by decide +kernel
theorem pcn_pos : ∀ c, c < 256 → 1 ≤ c → 1 ≤ pcn c := by decide +kernel
theorem pcn_9 (c : Nat) : pcn c ≤ 9 := by unfold pcn; omega
theorem p2_le {s : Nat} (h : s ≤ 8) : 1 ≤ 2 ^ s ∧ 2 ^ s ≤ 256 := ⟨Nat.one_le_two_pow, Nat.pow_le_pow_right (by omega) h⟩
def sgn (p z x : Nat) : Nat := if (pcn z - 1) % 2 = 0 then x else ng p x
theorem sgn_lt {p z x : Nat} (h : x < p) : sgn p z x < p := by
  unfold sgn
  split
  · exact h
  · exact ng_lt (by omega)
noncomputable def exL (p v lc c : Nat) (G : Nat → Pf) : List (Nat × Nat) → Pf → Pf
  | [], s => s
  | q :: qs, s => exL p v lc c G qs (if c / 2 ^ (lc - xe q.1 v) % 2 = 1 then addL p (sgn p (c / 2 ^ (lc - xe q.1 v)) q.2) (wo q.1 v) (tp (G (c - 2 ^ (lc - xe q.1 v)))) s else s)
section EX
variable {p v lc c : Nat} {G : Nat → Pf} {q : Nat × Nat} {qs : List (Nat × Nat)} {s : Pf}
theorem exL_y (h : c / 2 ^ (lc - xe q.1 v) % 2 = 1) : exL p v lc c G (q :: qs) s = exL p v lc c G qs (addL p (sgn p (c / 2 ^ (lc - xe q.1 v)) q.2) (wo q.1 v) (tp (G (c - 2 ^ (lc - xe q.1 v)))) s) := by
  show exL p v lc c G qs (if _ then _ else _) = _
  rw [if_pos h]
theorem exL_n (h : ¬ c / 2 ^ (lc - xe q.1 v) % 2 = 1) : exL p v lc c G (q :: qs) s = exL p v lc c G qs s := by
  show exL p v lc c G qs (if _ then _ else _) = _
  rw [if_neg h]
theorem exL_lt (hp : 0 < p) : ∀ {L : List (Nat × Nat)} {s : Pf}, (∀ m, s m < p) → ∀ m, exL p v lc c G L s m < p := by
  intro L
  induction L with
  | nil => intro s h; exact h
  | cons q L ih =>
    intro s h
    by_cases hb : c / 2 ^ (lc - xe q.1 v) % 2 = 1
    · rw [exL_y hb]; exact ih (addL_lt hp h)
    · rw [exL_n hb]; exact ih h
theorem addL_supp {p f t m : Nat} : ∀ {L : List (Nat × Nat)} {s : Pf}, addL p f t L s m ≠ 0 → s m ≠ 0 ∨ ∃ q ∈ L, q.1 + t = m := by
  intro L
  induction L with
  | nil => intro s h; exact Or.inl h
  | cons q L ih =>
    intro s h
    rw [addL_cons] at h
    rcases ih h with h1 | ⟨q2, h2, h3⟩
    · by_cases hm : q.1 + t = m
      · exact Or.inr ⟨q, List.mem_cons_self, hm⟩
      · rw [va_up_ne _ _ (fun z => hm z.symm)] at h1
        exact Or.inl h1
    · exact Or.inr ⟨q2, List.mem_cons_of_mem _ h2, h3⟩
theorem exL_supp {m : Nat} : ∀ {L : List (Nat × Nat)} {s : Pf}, exL p v lc c G L s m ≠ 0 → s m ≠ 0 ∨ ∃ q ∈ L, c / 2 ^ (lc - xe q.1 v) % 2 = 1 ∧ ∃ q2 ∈ tp (G (c - 2 ^ (lc - xe q.1 v))), q2.1 + wo q.1 v = m := by
  intro L
  induction L with
  | nil => intro s h; exact Or.inl h
  | cons q L ih =>
    intro s h
    by_cases hb : c / 2 ^ (lc - xe q.1 v) % 2 = 1
    · rw [exL_y hb] at h
      rcases ih h with h1 | ⟨q2, h2, h3⟩
      · rcases addL_supp h1 with h4 | h4
        · exact Or.inl h4
        · exact Or.inr ⟨q, List.mem_cons_self, hb, h4⟩
      · exact Or.inr ⟨q2, List.mem_cons_of_mem _ h2, h3⟩
    · rw [exL_n hb] at h
      rcases ih h with h1 | ⟨q2, h2, h3⟩
      · exact Or.inl h1
      · exact Or.inr ⟨q2, List.mem_cons_of_mem _ h2, h3⟩
end EX
noncomputable def exR (p v m n : Nat) (a b : Pf) (c : Nat) (G : Nat → Pf) : Pf := if pcn c - 1 < n then exL p v (pcn c - 1 + m) c G (tp a) (fun _ => 0) else exL p v (pcn c - 1) c G (tp b) (fun _ => 0)
noncomputable def mnT (p v m n : Nat) (a b : Pf) : Nat → Nat → Pf
  | 0 => fun _ => cst 1
  | k + 1 => va_up (mnT p v m n a b k) (k + 1) (exR p v m n a b (k + 1) (mnT p v m n a b k))
/-- the degree in u of a minor of k rows -/
def mdg (v n : Nat) (da db : Nat → Nat) : Nat → Nat → Nat
  | 0, _ => 0
  | k + 1, u => mdg v n da db k u + (if u = v then 0 else if k < n then da u else db u)
theorem mdg_v {v n : Nat} {da db : Nat → Nat} : ∀ k, mdg v n da db k v = 0
  | 0 => rfl
  | k + 1 => by show mdg v n da db k v + _ = 0; rw [mdg_v k, if_pos rfl]
theorem mdg_eq {v n u : Nat} {da db : Nat → Nat} (hu : u ≠ v) : ∀ k, mdg v n da db k u = (if k < n then k else n) * da u + (k - n) * db u
  | 0 => by
    show 0 = _
    by_cases h : 0 < n
    · rw [if_pos h, Nat.zero_mul, Nat.zero_sub, Nat.zero_mul]
    · rw [if_neg h, show n = 0 by omega, Nat.zero_mul, Nat.zero_sub, Nat.zero_mul]
  | k + 1 => by
    show mdg v n da db k u + _ = _
    rw [mdg_eq hu k, if_neg hu]
    by_cases h : k < n
    · rw [if_pos h, if_pos h]
      by_cases h2 : k + 1 < n
      · rw [if_pos h2, show k - n = 0 by omega, show k + 1 - n = 0 by omega, Nat.add_mul, Nat.one_mul]
        omega
      · rw [if_neg h2, show n = k + 1 by omega, show k - (k + 1) = 0 by omega, Nat.sub_self, Nat.add_mul, Nat.one_mul]
        omega
    · rw [if_neg h, if_neg h, if_neg (by omega), show k + 1 - n = k - n + 1 by omega, Nat.add_mul (k - n), Nat.one_mul]
      omega
theorem mdg_le {v m n : Nat} {da db : Nat → Nat} (h : ∀ u, u < 3 → u ≠ v → n * da u + m * db u ≤ 12) {k u : Nat} (hk : k ≤ m + n) (hu : u < 3) : mdg v n da db k u ≤ 12 := by
  by_cases hv : u = v
  · subst hv; rw [mdg_v]; omega
  · rw [mdg_eq hv]
    have h1 := h u hu hv
    have h2 : (if k < n then k else n) * da u ≤ n * da u := Nat.mul_le_mul_right _ (by split <;> omega)
    have h3 : (k - n) * db u ≤ m * db u := Nat.mul_le_mul_right _ (by omega)
    omega
theorem add_mv {k t : Nat} (hk : mv k) (ht : mv t) (h : ∀ u, u < 3 → xe k u + xe t u ≤ 12) : mv (k + t) ∧ ∀ u, u < 3 → xe (k + t) u = xe k u + xe t u := by
  refine xe_add hk ht ?_
  have h0 := h 0 (by omega)
  have h1 := h 1 (by omega)
  have h2 := h 2 (by omega)
  omega
/-- a term of the row times a term of the minor beside it -/
theorem ex_mv {v n r : Nat} {da db : Nat → Nat} (hv : v < 3) (h12 : ∀ u, u < 3 → mdg v n da db (r + 1) u ≤ 12) {k t : Nat} (hk : mv k) (hkd : ∀ u, u < 3 → xe k u ≤ mdg v n da db r u) (ht : mv t) (htd : ∀ u, u < 3 → u ≠ v → xe t u ≤ if r < n then da u else db u) : mv (k + wo t v) ∧ ∀ u, u < 3 → xe (k + wo t v) u ≤ mdg v n da db (r + 1) u := by
  have h1 : ∀ u, u < 3 → xe k u + xe (wo t v) u ≤ mdg v n da db (r + 1) u := fun u hu => by
    show _ ≤ mdg v n da db r u + (if u = v then 0 else if r < n then da u else db u)
    rw [xe_wo ht hv hu]
    have h2 := hkd u hu
    by_cases huv : u = v
    · rw [if_pos huv, if_pos huv]; omega
    · rw [if_neg huv, if_neg huv]
      have h3 := htd u hu huv
      omega
  obtain ⟨e1, e2⟩ := add_mv hk (wo_mv ht hv) (fun u hu => Nat.le_trans (h1 u hu) (h12 u hu))
  exact ⟨e1, fun u hu => by rw [e2 u hu]; exact h1 u hu⟩
noncomputable abbrev dgf (a : Pf) (u : Nat) : Nat := dgl u (tp a) 0
/-- the column where a term of the row stands -/
theorem ex_col {v m n c : Nat} {a b : Pf} (hm : m = dgf a v) (hn : n = dgf b v) (hmn : m + n ≤ 8) (hc1 : 1 ≤ c) (hc : c < 2 ^ (m + n)) : (pcn c - 1 < n → ∀ q ∈ tp a, xe q.1 v ≤ pcn c - 1 + m ∧ pcn c - 1 + m - xe q.1 v < 8) ∧ (¬ pcn c - 1 < n → ∀ q ∈ tp b, xe q.1 v ≤ pcn c - 1 ∧ pcn c - 1 - xe q.1 v < 8) := by
  have h1 := pcn_le (m + n) (by omega) c hc
  have h2 := pcn_pos c (by have := (p2_le hmn).2; omega) hc1
  refine ⟨fun h q hq => ?_, fun h q hq => ?_⟩
  · have e := (dgl_ge (v := v) (L := tp a) (g := 0)).2 q hq
    have e2 : xe q.1 v ≤ m := by rw [hm]; exact e
    omega
  · have e := (dgl_ge (v := v) (L := tp b) (g := 0)).2 q hq
    have e2 : xe q.1 v ≤ n := by rw [hn]; exact e
    omega
theorem exR_ok {p v m n c : Nat} {a b : Pf} {G : Nat → Pf} (hp : 0 < p) (hv : v < 3) (hm : m = dgf a v) (hn : n = dgf b v) (hmn : m + n ≤ 8) (hd : ∀ u, u < 3 → u ≠ v → n * dgf a u + m * dgf b u ≤ 12) (hc1 : 1 ≤ c) (hc : c < 2 ^ (m + n)) (hG : ∀ c', c' < c → ∀ q ∈ tp (G c'), ∀ u, u < 3 → xe q.1 u ≤ mdg v n (dgf a) (dgf b) (pcn c') u) : ∀ q ∈ tp (exR p v m n a b c G), ∀ u, u < 3 → xe q.1 u ≤ mdg v n (dgf a) (dgf b) (pcn c) u := by
  intro q hq
  obtain ⟨m1, m2, m3⟩ := tp_mem hq
  rw [m2] at m3
  obtain ⟨k1, k2⟩ := ex_col hm hn hmn hc1 hc
  have hc8 : c < 256 := by have := (p2_le hmn).2; omega
  have hpp := pcn_pos c hc8 hc1
  have hpl := pcn_le (m + n) (by omega) c hc
  have main : ∀ (L : Pf) (lc : Nat), (∀ q ∈ tp L, xe q.1 v ≤ lc ∧ lc - xe q.1 v < 8) → (∀ q ∈ tp L, ∀ u, u < 3 → u ≠ v → xe q.1 u ≤ if pcn c - 1 < n then dgf a u else dgf b u) → exL p v lc c G (tp L) (fun _ => 0) q.1 ≠ 0 → ∀ u, u < 3 → xe q.1 u ≤ mdg v n (dgf a) (dgf b) (pcn c) u := by
    intro L lc h1 h2 h3
    rcases exL_supp h3 with h4 | ⟨t, ht, hb, k, hk, he⟩
    · exact absurd rfl h4
    · obtain ⟨-, b2, b3, -⟩ := bt_facts c hc8 _ (h1 t ht).2 hb
      have hpow : 1 ≤ 2 ^ (lc - xe t.1 v) := Nat.one_le_two_pow
      have h5 := hG _ (by omega : c - 2 ^ (lc - xe t.1 v) < c) k hk
      have hr : pcn (c - 2 ^ (lc - xe t.1 v)) = pcn c - 1 := by omega
      rw [hr] at h5
      have h6 := (ex_mv (r := pcn c - 1) hv (fun u hu => mdg_le hd (by omega) hu) (tp_mem hk).1 h5 (tp_mem ht).1 (h2 t ht)).2
      rw [show pcn c - 1 + 1 = pcn c by omega] at h6
      rw [← he]
      exact h6
  unfold exR at m3
  by_cases hr : pcn c - 1 < n
  · rw [if_pos hr] at m3
    exact main a _ (k1 hr) (fun t ht u hu _ => by rw [if_pos hr]; exact (dgl_ge (v := u) (L := tp a) (g := 0)).2 t ht) m3
  · rw [if_neg hr] at m3
    exact main b _ (k2 hr) (fun t ht u hu _ => by rw [if_neg hr]; exact (dgl_ge (v := u) (L := tp b) (g := 0)).2 t ht) m3
theorem exR_lt {p v m n c : Nat} {a b : Pf} {G : Nat → Pf} (hp : 0 < p) : ∀ x, exR p v m n a b c G x < p := by
  unfold exR
  split
  · exact exL_lt hp (fun _ => hp)
  · exact exL_lt hp (fun _ => hp)
theorem mnT_ok {p v m n : Nat} {a b : Pf} (hp : 2 ≤ p) (hv : v < 3) (hm : m = dgf a v) (hn : n = dgf b v) (hmn : m + n ≤ 8) (hd : ∀ u, u < 3 → u ≠ v → n * dgf a u + m * dgf b u ≤ 12) : ∀ k, k < 2 ^ (m + n) → ∀ c, c ≤ k → (∀ x, mnT p v m n a b k c x < p) ∧ ∀ q ∈ tp (mnT p v m n a b k c), ∀ u, u < 3 → xe q.1 u ≤ mdg v n (dgf a) (dgf b) (pcn c) u := by
  intro k
  induction k with
  | zero =>
    intro _ c hc
    refine ⟨cst_lt hp, fun q hq u hu => ?_⟩
    rw [show mnT p v m n a b 0 c = cst 1 from rfl, tp_cst, if_neg (by omega), List.mem_singleton] at hq
    rw [hq]
    refine co3 (P := fun u => xe 0 u ≤ mdg v n (dgf a) (dgf b) (pcn c) u) (Nat.zero_le _) (Nat.zero_le _) (Nat.zero_le _) hu
  | succ k ih =>
    intro hk c hc
    have ih := ih (by omega)
    by_cases h : c = k + 1
    · subst h
      rw [show mnT p v m n a b (k + 1) (k + 1) = exR p v m n a b (k + 1) (mnT p v m n a b k) from va_up_self _ _ _]
      exact ⟨exR_lt (by omega), exR_ok (by omega) hv hm hn hmn hd (by omega) hk (fun c' hc' => (ih c' (by omega)).2)⟩
    · rw [show mnT p v m n a b (k + 1) c = mnT p v m n a b k c from va_up_ne _ _ h]
      exact ih c (by omega)
/-- few terms: no more than thirteen times thirteen -/
theorem nd_le : ∀ (n : Nat) (L : List Nat), L.Nodup → (∀ x ∈ L, x < n) → L.length ≤ n := by
  intro n
  induction n with
  | zero =>
    intro L _ h
    cases L with
    | nil => exact Nat.le_refl _
    | cons x L => exact absurd (h x List.mem_cons_self) (Nat.not_lt_zero _)
  | succ n ih =>
    intro L hn h
    by_cases hm : n ∈ L
    · have h1 := ih (L.erase n) (hn.erase n) (fun x hx => by
        have h2 := (hn.mem_erase_iff).mp hx
        have h3 := h x h2.2
        have h4 := h2.1
        omega)
      rw [List.length_erase_of_mem hm] at h1
      omega
    · have h1 := ih L hn (fun x hx => by
        have h3 := h x hx
        have h4 : x ≠ n := fun z => hm (z ▸ hx)
        omega)
      omega
def k13 (v k : Nat) : Nat := 13 * xe k (if v = 0 then 1 else 0) + xe k (if v = 2 then 1 else 2)
abbrev bx (v k : Nat) : Prop := mv k ∧ xe k v = 0 ∧ ∀ u, u < 3 → xe k u ≤ 12
theorem k13_lt {v k : Nat} (hv : v < 3) (h : bx v k) : k13 v k < 169 := by
  unfold k13
  have h1 := h.2.2 (if v = 0 then 1 else 0) (by split <;> omega)
  have h2 := h.2.2 (if v = 2 then 1 else 2) (by split <;> omega)
  omega
theorem k13_inj {v k k' : Nat} (hv : v < 3) (h : bx v k) (h' : bx v k') (e : k13 v k = k13 v k') : k = k' := by
  obtain ⟨m1, z1, b1⟩ := h
  obtain ⟨m2, z2, b2⟩ := h'
  have r0 := b1 0 (by omega)
  have r1 := b1 1 (by omega)
  have r2 := b1 2 (by omega)
  have s0 := b2 0 (by omega)
  have s1 := b2 1 (by omega)
  have s2 := b2 2 (by omega)
  have e3 : xe k 0 = xe k' 0 ∧ xe k 1 = xe k' 1 ∧ xe k 2 = xe k' 2 := by
    have hv3 : v = 0 ∨ v = 1 ∨ v = 2 := by omega
    rcases hv3 with rfl | rfl | rfl
    · have e : 13 * xe k 1 + xe k 2 = 13 * xe k' 1 + xe k' 2 := e
      omega
    · have e : 13 * xe k 0 + xe k 2 = 13 * xe k' 0 + xe k' 2 := e
      omega
    · have e : 13 * xe k 0 + xe k 1 = 13 * xe k' 0 + xe k' 1 := e
      omega
  rw [m1.2, m2.2, e3.1, e3.2.1, e3.2.2]
theorem bl_nd {v : Nat} (hv : v < 3) : ∀ {L : List (Nat × Nat)} {n : Nat}, bl n L → (∀ q ∈ L, bx v q.1) → (L.map (fun q => k13 v q.1)).Nodup := by
  intro L
  induction L with
  | nil => intro n _ _; exact List.nodup_nil
  | cons q L ih =>
    intro n hb hx
    have hb2 : bl (rk q.1) L := by
      unfold bl at hb
      exact hb.2.2.2
    rw [List.map_cons, List.nodup_cons]
    refine ⟨fun hm => ?_, ih hb2 (fun z hz => hx z (List.mem_cons_of_mem _ hz))⟩
    obtain ⟨z, hz, he⟩ := List.mem_map.mp hm
    have h1 := k13_inj hv (hx z (List.mem_cons_of_mem _ hz)) (hx q List.mem_cons_self) he
    have h2 := (bl_lt hb2 z hz).1
    rw [h1] at h2
    omega
theorem len169 {v : Nat} (hv : v < 3) {g : Pf} (h : ∀ q ∈ tp g, bx v q.1) : (tp g).length ≤ 169 := by
  have h1 := nd_le 169 _ (bl_nd hv (bl_td (g := g) (n := 9139) (Nat.le_refl _)) h) (fun x hx => by
    obtain ⟨q, hq, rfl⟩ := List.mem_map.mp hx
    exact k13_lt hv (h q hq))
  rw [List.length_map] at h1
  exact h1
theorem mnT_bx {p v m n : Nat} {a b : Pf} (hp : 2 ≤ p) (hv : v < 3) (hm : m = dgf a v) (hn : n = dgf b v) (hmn : m + n ≤ 8) (hd : ∀ u, u < 3 → u ≠ v → n * dgf a u + m * dgf b u ≤ 12) {k c : Nat} (hk : k < 2 ^ (m + n)) (hc : c ≤ k) : ∀ q ∈ tp (mnT p v m n a b k c), bx v q.1 := by
  intro q hq
  have h1 := (mnT_ok hp hv hm hn hmn hd k hk c hc).2 q hq
  have h2 := h1 v hv
  rw [mdg_v] at h2
  have h3 := pcn_le (m + n) (by omega) c (by omega)
  exact ⟨(tp_mem hq).1, by omega, fun u hu => Nat.le_trans (h1 u hu) (mdg_le hd (by omega) hu)⟩
/-- the minors' rooms behind k sets -/
noncomputable def cpM (T : Nat → Pf) (cap : Nat → Nat) : Nat → Nat → Nat
  | 0 => cap
  | k + 1 => va_up (cpM T cap k) (30 + (k + 1)) (gcn (cap (30 + (k + 1))) 0 (tp (T (k + 1))).length)
theorem cpM_hi {T : Nat → Pf} {cap : Nat → Nat} {i : Nat} : ∀ {k : Nat}, 30 + (k + 1) ≤ i → cpM T cap k i = cap i := by
  intro k
  induction k with
  | zero => intro _; rfl
  | succ k ih => intro h; rw [show cpM T cap (k + 1) i = cpM T cap k i from va_up_ne _ _ (by omega)]; exact ih (by omega)
theorem cpM_lo {T : Nat → Pf} {cap : Nat → Nat} {i : Nat} (hi : i ≤ 30) : ∀ {k : Nat}, cpM T cap k i = cap i := by
  intro k
  induction k with
  | zero => rfl
  | succ k ih => rw [show cpM T cap (k + 1) i = cpM T cap k i from va_up_ne _ _ (by omega)]; exact ih
theorem cpM_sm {T : Nat → Pf} {cap : Nat → Nat} {k : Nat} (hk : k < 255) : sm (cpM T cap (k + 1)) 300 + cap (30 + (k + 1)) = sm (cpM T cap k) 300 + gcn (cap (30 + (k + 1))) 0 (tp (T (k + 1))).length := by
  have h := (sm_up (f := cpM T cap k) (i := 30 + (k + 1)) (v := gcn (cap (30 + (k + 1))) 0 (tp (T (k + 1))).length) (n := 300)).2 (by omega)
  rw [cpM_hi (Nat.le_refl _)] at h
  exact h
theorem cpM_sm_mono {T : Nat → Pf} {cap : Nat → Nat} {i : Nat} : ∀ {n : Nat}, n ≤ 255 → i ≤ n → sm (cpM T cap i) 300 ≤ sm (cpM T cap n) 300 := by
  intro n
  induction n with
  | zero => intro _ h; rw [show i = 0 by omega]; exact Nat.le_refl _
  | succ n ih =>
    intro hn h
    by_cases hi : i = n + 1
    · rw [hi]; exact Nat.le_refl _
    · have h1 := ih (by omega) (by omega)
      have h2 := cpM_sm (T := T) (cap := cap) (k := n) (by omega)
      have h3 := gcn_ge (tp (T (n + 1))).length (cap (30 + (n + 1))) 0
      omega
