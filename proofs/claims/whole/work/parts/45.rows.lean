/-! The reference's determinant, row by row, against the class's minors. -/
noncomputable def rL (n : Nat) (a b : Pf) (r : Nat) : Pf := if r < n then a else b
def lcR (m n r : Nat) : Nat := if r < n then r + m else r
def dR (m n r : Nat) : Nat := if r < n then m else n
theorem exR_eq {p v m n c : Nat} {a b : Pf} {G : Nat → Pf} : exR p v m n a b c G = exL p v (lcR m n (pcn c - 1)) c G (tp (rL n a b (pcn c - 1))) (fun _ => 0) := by
  unfold exR lcR rL
  by_cases h : pcn c - 1 < n
  · rw [if_pos h, if_pos h, if_pos h]
  · rw [if_neg h, if_neg h, if_neg h]
theorem mnT_st {p v m n : Nat} {a b : Pf} {c : Nat} : ∀ {k : Nat}, c ≤ k → mnT p v m n a b k c = mnT p v m n a b c c := by
  intro k
  induction k with
  | zero => intro h; rw [show c = 0 by omega]
  | succ k ih =>
    intro h
    by_cases hc : c = k + 1
    · rw [hc]
    · rw [show mnT p v m n a b (k + 1) c = mnT p v m n a b k c from va_up_ne _ _ hc]
      exact ih (by omega)
/-- two polynomials whose resultant is made -/
def rw3 (p v m n : Nat) (a b : Pf) : Prop := 2 ≤ p ∧ (∀ x, a x < p) ∧ (∀ x, b x < p) ∧ v < 3 ∧ m = dgf a v ∧ n = dgf b v ∧ m + n ≤ 8 ∧ ∀ u, u < 3 → u ≠ v → n * dgf a u + m * dgf b u ≤ 12
section RW
variable {p v m n : Nat} {a b : Pf}
theorem rw3.hp (h : rw3 p v m n a b) : 2 ≤ p := h.1
theorem rw3.ha (h : rw3 p v m n a b) : ∀ x, a x < p := h.2.1
theorem rw3.hb (h : rw3 p v m n a b) : ∀ x, b x < p := h.2.2.1
theorem rw3.hv (h : rw3 p v m n a b) : v < 3 := h.2.2.2.1
theorem rw3.hm (h : rw3 p v m n a b) : m = dgf a v := h.2.2.2.2.1
theorem rw3.hn (h : rw3 p v m n a b) : n = dgf b v := h.2.2.2.2.2.1
theorem rw3.h8 (h : rw3 p v m n a b) : m + n ≤ 8 := h.2.2.2.2.2.2.1
theorem rw3.hd (h : rw3 p v m n a b) : ∀ u, u < 3 → u ≠ v → n * dgf a u + m * dgf b u ≤ 12 := h.2.2.2.2.2.2.2
theorem lcR_eq {i : Nat} : lcR m n i = (if i < n then i else i - n) + dR m n i := by
  unfold lcR dR
  by_cases h : i < n
  · rw [if_pos h, if_pos h, if_pos h]
  · rw [if_neg h, if_neg h, if_neg h]; omega
/-- a term of a row: its column, and that its other exponents are few -/
theorem rw3.tm (h : rw3 p v m n a b) {r : Nat} (hr : r < m + n) {q : Nat × Nat} (hq : q ∈ tp (rL n a b r)) : mv q.1 ∧ q.2 < p ∧ xe q.1 v ≤ dR m n r ∧ lcR m n r - xe q.1 v < m + n ∧ bx v (wo q.1 v) ∧ (∀ u, u < 3 → xe q.1 u ≤ if r < n then dgf a u else dgf b u) := by
  obtain ⟨t1, t2, t3⟩ := tp_mem hq
  have hv := h.hv
  have key : q.2 < p ∧ xe q.1 v ≤ dR m n r ∧ (∀ u, u < 3 → xe q.1 u ≤ if r < n then dgf a u else dgf b u) ∧ ∀ u, u < 3 → u ≠ v → xe q.1 u ≤ 12 := by
    unfold rL at hq t2
    by_cases hn : r < n
    · rw [if_pos hn] at hq t2
      have h1 : ∀ u, u < 3 → xe q.1 u ≤ dgf a u := fun u hu => (dgl_ge (v := u) (L := tp a) (g := 0)).2 q hq
      refine ⟨by rw [t2]; exact h.ha _, by unfold dR; rw [if_pos hn, h.hm]; exact h1 v hv, fun u hu => by rw [if_pos hn]; exact h1 u hu, fun u hu huv => ?_⟩
      have h2 := h.hd u hu huv
      have h3 : 1 * dgf a u ≤ n * dgf a u := Nat.mul_le_mul_right _ (by omega)
      have h4 := h1 u hu
      omega
    · rw [if_neg hn] at hq t2
      have h1 : ∀ u, u < 3 → xe q.1 u ≤ dgf b u := fun u hu => (dgl_ge (v := u) (L := tp b) (g := 0)).2 q hq
      refine ⟨by rw [t2]; exact h.hb _, by unfold dR; rw [if_neg hn, h.hn]; exact h1 v hv, fun u hu => by rw [if_neg hn]; exact h1 u hu, fun u hu huv => ?_⟩
      have h2 := h.hd u hu huv
      have h3 : 1 * dgf b u ≤ m * dgf b u := Nat.mul_le_mul_right _ (by omega)
      have h4 := h1 u hu
      omega
  obtain ⟨k1, k2, k3, k4⟩ := key
  refine ⟨t1, k1, k2, ?_, ⟨wo_mv t1 hv, by rw [xe_wo t1 hv hv, if_pos rfl], fun u hu => ?_⟩, k3⟩
  · have h1 : lcR m n r < m + n ∨ (lcR m n r = r + m ∧ r < n) := by
      unfold lcR
      by_cases hn : r < n
      · rw [if_pos hn]; exact Or.inr ⟨rfl, hn⟩
      · rw [if_neg hn]; exact Or.inl hr
    omega
  · rw [xe_wo t1 hv hu]
    by_cases huv : u = v
    · rw [if_pos huv]; omega
    · rw [if_neg huv]; exact k4 u hu huv
theorem dR_le {r : Nat} : dR m n r ≤ lcR m n r := by
  rw [lcR_eq]; omega
def keyR (v m n r q : Nat) : Nat := 169 * (lcR m n r - xe q v) + k13 v q
theorem rw3.kl (h : rw3 p v m n a b) {r : Nat} (hr : r < m + n) {q : Nat × Nat} (hq : q ∈ tp (rL n a b r)) : k13 v q.1 < 169 := by
  have h1 := h.tm hr hq
  rw [← k13_wo h.hv h1.1]
  exact k13_lt h.hv h1.2.2.2.2.1
theorem rw3.inj (h : rw3 p v m n a b) {r : Nat} (hr : r < m + n) {q q2 : Nat × Nat} (hq : q ∈ tp (rL n a b r)) (hq2 : q2 ∈ tp (rL n a b r)) (h1 : lcR m n r - xe q.1 v = lcR m n r - xe q2.1 v) (h2 : k13 v q.1 = k13 v q2.1) : q.1 = q2.1 ∧ q.2 = q2.2 := by
  have a1 := h.tm hr hq
  have a2 := h.tm hr hq2
  have hd := dR_le (m := m) (n := n) (r := r)
  have e1 : xe q.1 v = xe q2.1 v := by omega
  rw [← k13_wo h.hv a1.1, ← k13_wo h.hv a2.1] at h2
  have e2 := wo_inj a1.1 a2.1 h.hv e1 (k13_inj h.hv a1.2.2.2.2.1 a2.2.2.2.2.1 h2)
  exact ⟨e2, by rw [(tp_mem hq).2.1, (tp_mem hq2).2.1, e2]⟩
theorem mixr {s r c i d : Nat} (h : s * r + c = s * i + d) (hc : c < s) (hd : d < s) : r = i ∧ c = d := by
  have e1 : (s * r + c) / s = r := by rw [Nat.mul_add_div (by omega), Nat.div_eq_of_lt hc, Nat.add_zero]
  have e2 : (s * i + d) / s = i := by rw [Nat.mul_add_div (by omega), Nat.div_eq_of_lt hd, Nat.add_zero]
  have e3 : r = i := by rw [← e1, h, e2]
  subst e3
  exact ⟨rfl, by omega⟩
/-- the entries: rows before i, and of row i the columns before j -/
def en (v m n : Nat) (a b : Pf) (g : Nat → Nat) (i j : Nat) : Prop :=
  (∀ r, r < m + n → ∀ q ∈ tp (rL n a b r), (r < i ∨ r = i ∧ dR m n r - xe q.1 v < j) → g (169 * ((m + n) * r + (lcR m n r - xe q.1 v)) + k13 v q.1) = q.2) ∧
  (∀ x, x < 169 * ((m + n) * (m + n)) → (∀ r, r < m + n → ∀ q ∈ tp (rL n a b r), (r < i ∨ r = i ∧ dR m n r - xe q.1 v < j) → x ≠ 169 * ((m + n) * r + (lcR m n r - xe q.1 v)) + k13 v q.1) → g x = 0)
theorem en_0 {g : Nat → Nat} (h : ∀ x, x < 169 * ((m + n) * (m + n)) → g x = 0) : en v m n a b g 0 0 :=
  ⟨fun r _ q _ z => by omega, fun x hx _ => h x hx⟩
theorem en_row (h : rw3 p v m n a b) {g : Nat → Nat} {i : Nat} (he : en v m n a b g i (dR m n i + 1)) : en v m n a b g (i + 1) 0 := by
  have key : ∀ r, ∀ q : Nat × Nat, (r < i + 1 ∨ r = i + 1 ∧ dR m n r - xe q.1 v < 0) ↔ (r < i ∨ r = i ∧ dR m n r - xe q.1 v < dR m n i + 1) := fun r q => by
    constructor
    · intro z
      by_cases hr : r = i
      · subst hr; exact Or.inr ⟨rfl, by omega⟩
      · exact Or.inl (by omega)
    · intro z; exact Or.inl (by omega)
  exact ⟨fun r hr q hq z => he.1 r hr q hq ((key r q).mp z), fun x hx hz => he.2 x hx (fun r hr q hq z => hz r hr q hq ((key r q).mpr z))⟩
theorem en_step (h : rw3 p v m n a b) {g : Nat → Nat} {i j : Nat} (hi : i < m + n) (hj : j ≤ dR m n i) (he : en v m n a b g i j) : en v m n a b (etL v (dR m n i - j) ((m + n) * i + (if i < n then i else i - n) + j) (tp (rL n a b i)) g) i (j + 1) := by
  have hlc := lcR_eq (m := m) (n := n) (i := i)
  generalize hb : (if i < n then i else i - n) = bs at *
  have hat : ∀ q ∈ tp (rL n a b i), xe q.1 v = dR m n i - j → (m + n) * i + bs + j = (m + n) * i + (lcR m n i - xe q.1 v) := fun q hq z => by
    rw [hlc]; omega
  refine ⟨fun r hr q hq z => ?_, fun x hx hz => ?_⟩
  · rcases etL_at (v := v) (e := dR m n i - j) (t := (m + n) * i + bs + j) (x := 169 * ((m + n) * r + (lcR m n r - xe q.1 v)) + k13 v q.1) (L := tp (rL n a b i)) (g := g) with ⟨q2, h1, h2, h3, h4⟩ | ⟨h1, h2⟩
    · rw [h4]
      rw [hat q2 h1 h2] at h3
      have k1 := h.kl hr hq
      have k2 := h.kl hi h1
      have c1 := (h.tm hr hq).2.2.2.1
      have c2 := (h.tm hi h1).2.2.2.1
      have e1 : (m + n) * i + (lcR m n i - xe q2.1 v) = (m + n) * r + (lcR m n r - xe q.1 v) := by omega
      obtain ⟨e2, e3⟩ := mixr e1 c2 c1
      subst e2
      exact (h.inj hi h1 hq e3 (by omega)).2
    · rw [h2]
      refine he.1 r hr q hq ?_
      rcases z with z | ⟨z1, z2⟩
      · exact Or.inl z
      · subst z1
        refine Or.inr ⟨rfl, ?_⟩
        apply Classical.byContradiction
        intro hn
        have a1 := (h.tm hr hq).2.2.1
        have e1 : xe q.1 v = dR m n r - j := by omega
        exact h1 q hq ⟨e1, by rw [hat q hq e1]⟩
  · rcases etL_at (v := v) (e := dR m n i - j) (t := (m + n) * i + bs + j) (x := x) (L := tp (rL n a b i)) (g := g) with ⟨q2, h1, h2, h3, h4⟩ | ⟨h1, h2⟩
    · have a1 := (h.tm hi h1).2.2.1
      exact absurd (by rw [← hat q2 h1 h2]; exact h3.symm) (hz i hi q2 h1 (Or.inr ⟨rfl, by omega⟩))
    · rw [h2]
      refine he.2 x hx (fun r hr q hq z => hz r hr q hq ?_)
      rcases z with z | ⟨z1, z2⟩
      · exact Or.inl z
      · exact Or.inr ⟨z1, by omega⟩
theorem en_eL (h : rw3 p v m n a b) {g : Nat → Nat} (he : en v m n a b g (m + n) 0) {r k : Nat} (hr : r < m + n) (hk : k < 169 * (m + n)) : g (169 * ((m + n) * r) + k) = eL (keyR v m n r) k (tp (rL n a b r)) := by
  by_cases hz : ∃ q ∈ tp (rL n a b r), keyR v m n r q.1 = k
  · obtain ⟨q, hq, e⟩ := hz
    have h1 := he.1 r hr q hq (Or.inl hr)
    have h2 := eL_hit (key := keyR v m n r) (bl_td (g := rL n a b r) (n := 9139) (Nat.le_refl _)) (fun x hx e2 => by
      unfold keyR at e2
      have k1 := h.kl hr hx
      have k2 := h.kl hr hq
      exact (h.inj hr hx hq (by omega) (by omega)).1) hq
    rw [e] at h2
    have h2 : eL (keyR v m n r) k (tp (rL n a b r)) = q.2 := h2
    rw [h2, ← h1]
    unfold keyR at e
    congr 1
    omega
  · rw [eL_miss (fun q hq e => hz ⟨q, hq, e⟩)]
    refine he.2 _ ?_ (fun r2 hr2 q hq _ e => ?_)
    · have h1 : (m + n) * r + (m + n) ≤ (m + n) * (m + n) := by
        rw [← Nat.mul_succ]; exact Nat.mul_le_mul_left _ hr
      omega
    · have k1 := h.kl hr2 hq
      have c1 := (h.tm hr2 hq).2.2.2.1
      have hd : k / 169 < m + n := by omega
      have e1 : (m + n) * r + k / 169 = (m + n) * r2 + (lcR m n r2 - xe q.1 v) := by omega
      obtain ⟨e2, e3⟩ := mixr e1 hd c1
      subst e2
      exact hz ⟨q, hq, by unfold keyR; omega⟩
theorem en_lt (h : rw3 p v m n a b) {g : Nat → Nat} (he : en v m n a b g (m + n) 0) : ∀ x, x < 169 * ((m + n) * (m + n)) → g x < p := by
  intro x hx
  apply Classical.byContradiction
  intro hn
  have hp := h.hp
  have h0 := he.2 x hx (fun r hr q hq _ e => by
    have h1 := he.1 r hr q hq (Or.inl hr)
    rw [← e] at h1
    have h2 := (h.tm hr hq).2.1
    omega)
  omega
/-- one product of a row's place and a minor, by places -/
def crS (e f : Nat → Nat) (t n : Nat) : Nat := sm (fun i => e i * (if i ≤ t then f (t - i) else 0)) n
def dtS (p c : Nat) (E : Nat → Nat) (f : Nat → Nat → Nat) (t : Nat) : Nat → Nat := sm (fun j => if c / 2 ^ j % 2 = 1 then crS (fun i => fz p (pcn (c / 2 ^ (j + 1)) % 2) (E (169 * j + i))) (f (c - 2 ^ j)) t 169 else 0)
theorem bt_sgn : ∀ c, c < 256 → ∀ k, k < 8 → c / 2 ^ k % 2 = 1 → pcn (c / 2 ^ k) = pcn (c / 2 ^ (k + 1)) + 1 := by decide +kernel
theorem fz_sgn {c k x : Nat} (hc : c < 256) (hk : k < 8) (hb : c / 2 ^ k % 2 = 1) : fz p (pcn (c / 2 ^ (k + 1)) % 2) x = sgn p (c / 2 ^ k) x := by
  unfold fz sgn
  rw [bt_sgn c hc k hk hb, Nat.add_sub_cancel]
def sgf (p z : Nat) : Nat := if (pcn z - 1) % 2 = 0 then 1 else p - 1
theorem ng_mul {x : Nat} (hx : x < p) : ng p x = (p - 1) * x % p := by
  unfold ng
  by_cases h : x = 0
  · rw [if_pos h, h, Nat.mul_zero, Nat.zero_mod]
  · rw [if_neg h]
    have e : (p - 1) * x = p * (x - 1) + (p - x) := by
      obtain ⟨y, rfl⟩ : ∃ y, x = y + 1 := ⟨x - 1, by omega⟩
      obtain ⟨z, rfl⟩ : ∃ z, p = z + 1 := ⟨p - 1, by omega⟩
      rw [Nat.add_sub_cancel, Nat.add_sub_cancel, Nat.mul_add, Nat.mul_one, Nat.add_mul, Nat.one_mul]
      omega
    rw [e, Nat.mul_add_mod, Nat.mod_eq_of_lt (by omega)]
theorem sgf_mul {z x y : Nat} (hx : x < p) : sgn p z x * y % p = sgf p z * y * x % p := by
  unfold sgn sgf
  by_cases h : (pcn z - 1) % 2 = 0
  · rw [if_pos h, if_pos h, Nat.one_mul, Nat.mul_comm]
  · rw [if_neg h, if_neg h, ng_mul hx, Nat.mod_mul_mod, Nat.mul_assoc, Nat.mul_comm x y, Nat.mul_assoc]
theorem exS_lS {c lc t : Nat} {G : Nat → Pf} {f : Nat → Nat → Nat} (hv : v < 3) (ht : t < 169) : ∀ {L : List (Nat × Nat)}, (∀ q ∈ L, mv q.1 ∧ q.2 < p ∧ k13 v q.1 < 169 ∧ (c / 2 ^ (lc - xe q.1 v) % 2 = 1 → cS (wo q.1 v) (u13 v t) (tp (G (c - 2 ^ (lc - xe q.1 v)))) = if k13 v q.1 ≤ t then f (c - 2 ^ (lc - xe q.1 v)) (t - k13 v q.1) else 0)) → exS p v lc c G (u13 v t) L % p = lS (fun k => if c / 2 ^ (k / 169) % 2 = 1 then sgf p (c / 2 ^ (k / 169)) * (if k % 169 ≤ t then f (c - 2 ^ (k / 169)) (t - k % 169) else 0) else 0) (fun q => 169 * (lc - xe q v) + k13 v q) L % p := by
  intro L
  induction L with
  | nil => intro _; rfl
  | cons q L ih =>
    intro h
    obtain ⟨q1, q2, q3, q4⟩ := h q List.mem_cons_self
    have ih := ih (fun x hx => h x (List.mem_cons_of_mem _ hx))
    show ((if _ then _ else 0) + exS p v lc c G (u13 v t) L) % p = ((if c / 2 ^ ((169 * (lc - xe q.1 v) + k13 v q.1) / 169) % 2 = 1 then sgf p (c / 2 ^ ((169 * (lc - xe q.1 v) + k13 v q.1) / 169)) * (if (169 * (lc - xe q.1 v) + k13 v q.1) % 169 ≤ t then f (c - 2 ^ ((169 * (lc - xe q.1 v) + k13 v q.1) / 169)) (t - (169 * (lc - xe q.1 v) + k13 v q.1) % 169) else 0) else 0) * q.2 + lS _ _ L) % p
    rw [show (169 * (lc - xe q.1 v) + k13 v q.1) / 169 = lc - xe q.1 v by omega, show (169 * (lc - xe q.1 v) + k13 v q.1) % 169 = k13 v q.1 by omega]
    rw [Nat.add_mod, ih, ← Nat.add_mod]
    by_cases hb : c / 2 ^ (lc - xe q.1 v) % 2 = 1
    · rw [if_pos hb, if_pos hb, q4 hb]
      conv => lhs; rw [Nat.add_mod, sgf_mul q2, ← Nat.add_mod]
    · rw [if_neg hb, if_neg hb, Nat.zero_mul]
/-- the rows' terms and the smaller minor's: few enough -/
theorem rw3.few (h : rw3 p v m n a b) {c j : Nat} (hc1 : 1 ≤ c) (hc : c < 2 ^ (m + n)) (hj : j < m + n) (hb : c / 2 ^ j % 2 = 1) : pcn c - 1 < m + n ∧ 2 ^ j ≤ c ∧ c - 2 ^ j < c ∧ (∀ x ∈ tp (mnT p v m n a b (c - 2 ^ j) (c - 2 ^ j)), bx v x.1) ∧ ∀ q ∈ tp (rL n a b (pcn c - 1)), ∀ x ∈ tp (mnT p v m n a b (c - 2 ^ j) (c - 2 ^ j)), ∀ u, u < 3 → u ≠ v → xe x.1 u + xe q.1 u ≤ 12 := by
  have h8 := h.h8
  have hc8 : c < 256 := by have := (p2_le h8).2; omega
  have hpl := pcn_le (m + n) (by omega) c hc
  have hpp := pcn_pos c hc8 hc1
  obtain ⟨-, b2, b3, -⟩ := bt_facts c hc8 j (by omega) hb
  have hpow : 1 ≤ 2 ^ j := Nat.one_le_two_pow
  refine ⟨by omega, b2, by omega, mnT_bx h.hp h.hv h.hm h.hn h8 h.hd (by omega) (Nat.le_refl _), fun q hq x hx u hu huv => ?_⟩
  have h1 := (mnT_ok h.hp h.hv h.hm h.hn h8 h.hd (c - 2 ^ j) (by omega) (c - 2 ^ j) (Nat.le_refl _)).2 x hx u hu
  have h2 := (h.tm (by omega) hq).2.2.2.2.2 u hu
  have h3 := mdg_le (m := m) h.hd (k := pcn c - 1 + 1) (by omega) hu
  have h3 : mdg v n (dgf a) (dgf b) (pcn c - 1) u + (if u = v then 0 else if pcn c - 1 < n then dgf a u else dgf b u) ≤ 12 := h3
  rw [if_neg huv] at h3
  rw [show pcn (c - 2 ^ j) = pcn c - 1 by omega] at h1
  omega
theorem dt_eq (h : rw3 p v m n a b) {g : Nat → Nat} (he : en v m n a b g (m + n) 0) {f : Nat → Nat → Nat} {c t : Nat} (hc1 : 1 ≤ c) (hc : c < 2 ^ (m + n)) (ht : t < 169) (hf : ∀ c', c' < c → ∀ j, j < 169 → f c' j = mnT p v m n a b c' c' (u13 v j)) : dtS p c (fun k => g (169 * ((m + n) * (pcn c - 1)) + k)) f t (m + n) % p = mnT p v m n a b c c (u13 v t) := by
  have h8 := h.h8
  have hp := h.hp
  have hv := h.hv
  have hc8 : c < 256 := by have := (p2_le h8).2; omega
  have hpl := pcn_le (m + n) (by omega) c hc
  have hpp := pcn_pos c hc8 hc1
  have hr : pcn c - 1 < m + n := by omega
  obtain ⟨k, rfl⟩ : ∃ k, c = k + 1 := ⟨c - 1, by omega⟩
  have e0 : mnT p v m n a b (k + 1) (k + 1) = exR p v m n a b (k + 1) (mnT p v m n a b k) := va_up_self _ _ _
  rw [e0, exR_eq, exL_val (by omega) (by show 0 < p; omega), Nat.zero_add]
  generalize hrr : pcn (k + 1) - 1 = r at *
  rw [exS_lS (f := f) hv ht (fun q hq => by
    have tm := h.tm hr hq
    refine ⟨tm.1, tm.2.1, h.kl hr hq, fun hb => ?_⟩
    obtain ⟨-, f2, f3, f4, f5⟩ := h.few hc1 hc tm.2.2.2.1 hb
    rw [hrr] at f5
    rw [mnT_st (by omega)]
    exact cv_eq hv ht tm.1 f4 (fun j hj => hf _ f3 j hj) (fun x hx u hu huv => f5 q hq x hx u hu huv))]
  have e1 := eL_sum (W := fun x => if (k + 1) / 2 ^ (x / 169) % 2 = 1 then sgf p ((k + 1) / 2 ^ (x / 169)) * (if x % 169 ≤ t then f (k + 1 - 2 ^ (x / 169)) (t - x % 169) else 0) else 0) (key := fun q => 169 * (lcR m n r - xe q v) + k13 v q) (n := 169 * (m + n)) (L := tp (rL n a b r)) (fun q hq => by
    have h1 := h.kl hr hq
    have h2 := (h.tm hr hq).2.2.2.1
    show 169 * (lcR m n r - xe q.1 v) + k13 v q.1 < _
    omega)
  rw [e1]
  have e2 := sm_blk (F := fun x => (if (k + 1) / 2 ^ (x / 169) % 2 = 1 then sgf p ((k + 1) / 2 ^ (x / 169)) * (if x % 169 ≤ t then f (k + 1 - 2 ^ (x / 169)) (t - x % 169) else 0) else 0) * eL (fun q => 169 * (lcR m n r - xe q v) + k13 v q) x (tp (rL n a b r))) (b := 169) (m + n) 0
  rw [Nat.add_zero] at e2
  refine Eq.trans ?_ (congrArg (fun x => x % p) e2.symm)
  show _ = (sm _ (m + n) + 0) % p
  rw [Nat.add_zero]
  unfold dtS
  refine sm_mod (fun j hj => ?_)
  show (if (k + 1) / 2 ^ j % 2 = 1 then _ else 0) % p = sm _ 169 % p
  by_cases hb : (k + 1) / 2 ^ j % 2 = 1
  · rw [if_pos hb]
    unfold crS
    refine sm_mod (fun i hi => ?_)
    show fz p (pcn ((k + 1) / 2 ^ (j + 1)) % 2) (g (169 * ((m + n) * r) + (169 * j + i))) * (if i ≤ t then f (k + 1 - 2 ^ j) (t - i) else 0) % p = (if (k + 1) / 2 ^ ((169 * j + i) / 169) % 2 = 1 then sgf p ((k + 1) / 2 ^ ((169 * j + i) / 169)) * (if (169 * j + i) % 169 ≤ t then f (k + 1 - 2 ^ ((169 * j + i) / 169)) (t - (169 * j + i) % 169) else 0) else 0) * eL (keyR v m n r) (169 * j + i) (tp (rL n a b r)) % p
    rw [show (169 * j + i) / 169 = j by omega, show (169 * j + i) % 169 = i by omega, if_pos hb, ← en_eL h he hr (by omega), fz_sgn hc8 (by omega) hb]
    refine sgf_mul (en_lt h he _ ?_)
    have h1 : (m + n) * r + (m + n) ≤ (m + n) * (m + n) := by
      rw [← Nat.mul_succ]; exact Nat.mul_le_mul_left _ hr
    omega
  · rw [if_neg hb, sm_0 (fun i hi => ?_)]
    show (if (k + 1) / 2 ^ ((169 * j + i) / 169) % 2 = 1 then _ else 0) * _ = 0
    rw [show (169 * j + i) / 169 = j by omega, if_neg hb, Nat.zero_mul]
/-- two places that hold something: their product's place lies in the block -/
theorem dt_in (h : rw3 p v m n a b) {g : Nat → Nat} (he : en v m n a b g (m + n) 0) {c j i t : Nat} (hc1 : 1 ≤ c) (hc : c < 2 ^ (m + n)) (hj : j < m + n) (hb : c / 2 ^ j % 2 = 1) (hi : i < 169) (ht : t < 169) (h1 : g (169 * ((m + n) * (pcn c - 1)) + (169 * j + i)) ≠ 0) (h2 : mnT p v m n a b (c - 2 ^ j) (c - 2 ^ j) (u13 v t) ≠ 0) : i + t < 169 := by
  obtain ⟨f1, f2, f3, f4, f5⟩ := h.few hc1 hc hj hb
  rw [en_eL h he f1 (by omega)] at h1
  have hz : ∃ q ∈ tp (rL n a b (pcn c - 1)), keyR v m n (pcn c - 1) q.1 = 169 * j + i := by
    apply Classical.byContradiction
    intro hn
    exact h1 (eL_miss (fun q hq e => hn ⟨q, hq, e⟩))
  obtain ⟨q, hq, e⟩ := hz
  have k1 := h.kl f1 hq
  unfold keyR at e
  obtain ⟨c1, c2⟩ := u13_bx (t := t) h.hv ht
  have m1 := mem_td (g := mnT p v m n a b (c - 2 ^ j) (c - 2 ^ j)) (n := 9139) (r := rk (u13 v t)) (rk_lt c1.1) (by rw [ur_rk c1.1]; exact h2)
  rw [ur_rk c1.1] at m1
  obtain ⟨d1, d2⟩ := k13_add h.hv c1 (h.tm f1 hq).1 (f5 q hq _ m1)
  have d3 := k13_lt h.hv d1
  rw [d2, c2] at d3
  omega
end RW
