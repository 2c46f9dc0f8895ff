/-! What both sides say of a register, where they say it in other words. -/
abbrev rr (c : Nat → Nat → Nat) (P : Nat → Pf) : Prop := ∀ r, r < 12 → ∀ k, k < 9139 → c 3 (9139 * r + k) = P r (pl k)
theorem rr_keep {c c' : Nat → Nat → Nat} {P : Nat → Pf} {r : Nat} {g : Nat → Nat} {h : Pf} (hP : rr c P) (hv : ∀ k, k < 9139 → c' 3 (9139 * r + k) = g k) (hn : ∀ i, (i < 9139 * r ∨ 9139 * r + 9139 ≤ i) → c' 3 i = c 3 i) (hg : rp g h) : rr c' (va_up P r h) := by
  intro i hi k hk
  by_cases hir : i = r
  · subst hir
    rw [va_up_self, hv k hk]
    exact hg k hk
  · rw [va_up_ne _ _ hir, hn _ (by omega)]
    exact hP i hi k hk
theorem addP_at {p f k : Nat} {a b : Pf} (ha : ∀ m, a m < p) (hk : k < 9139) : addP p a b f (pl k) = (a (pl k) + f * b (pl k)) % p := by
  have hp : 0 < p := Nat.lt_of_le_of_lt (Nat.zero_le _) (ha 0)
  have e1 := addL_tp (p := p) (f := 1) (t := 0) (r := 9138 - k) (g := a) (c := fun _ => 0) (by omega) hp
  have e2 := addL_tp (p := p) (f := f) (t := 0) (r := 9138 - k) (g := b) (c := addL p 1 0 (tp a) (fun _ => 0)) (by omega) (addL_lt hp (fun _ => hp) _)
  rw [Nat.add_zero] at e1 e2
  show addL p f 0 (tp b) (addL p 1 0 (tp a) (fun _ => 0)) (ur (9138 - k)) = (a (ur (9138 - k)) + f * b (ur (9138 - k))) % p
  rw [e2, e1, Nat.zero_add, Nat.one_mul, Nat.mod_eq_of_lt (ha _)]
theorem mul_s3 {L R : List (Nat × Nat)} (h : ∀ u, u < 3 → dgl u L 0 + dgl u R 0 ≤ 12) : ∀ q ∈ L, ∀ q2 ∈ R, s3 q2.1 + s3 q.1 ≤ 36 := by
  intro q hq q2 hq2
  have a0 := (dgl_ge (v := 0) (L := L) (g := 0)).2 q hq
  have a1 := (dgl_ge (v := 1) (L := L) (g := 0)).2 q hq
  have a2 := (dgl_ge (v := 2) (L := L) (g := 0)).2 q hq
  have b0 := (dgl_ge (v := 0) (L := R) (g := 0)).2 q2 hq2
  have b1 := (dgl_ge (v := 1) (L := R) (g := 0)).2 q2 hq2
  have b2 := (dgl_ge (v := 2) (L := R) (g := 0)).2 q2 hq2
  have h0 := h 0 (by omega)
  have h1 := h 1 (by omega)
  have h2 := h 2 (by omega)
  show xe q2.1 0 + xe q2.1 1 + xe q2.1 2 + (xe q.1 0 + xe q.1 1 + xe q.1 2) ≤ 36
  omega
/-- the reference's derivative -/
def drL (p v : Nat) : List (Nat × Nat) → Pf → Pf
  | [], s => s
  | q :: qs, s => drL p v qs (if xe q.1 v = 0 then s else va_up s (q.1 - vv v) (xe q.1 v * q.2 % p))
theorem drL_n {p v : Nat} {q : Nat × Nat} {qs : List (Nat × Nat)} {s : Pf} (h : xe q.1 v = 0) : drL p v (q :: qs) s = drL p v qs s := by
  show drL p v qs (if _ then _ else _) = _
  rw [if_pos h]
theorem drL_y {p v : Nat} {q : Nat × Nat} {qs : List (Nat × Nat)} {s : Pf} (h : ¬ xe q.1 v = 0) : drL p v (q :: qs) s = drL p v qs (va_up s (q.1 - vv v) (xe q.1 v * q.2 % p)) := by
  show drL p v qs (if _ then _ else _) = _
  rw [if_neg h]
theorem dr_miss {p v m : Nat} : ∀ {L : List (Nat × Nat)} {s : Pf}, (∀ q ∈ L, ¬ (xe q.1 v ≠ 0 ∧ q.1 - vv v = m)) → drL p v L s m = s m ∧ cS 0 m (der p v L) = 0 := by
  intro L
  induction L with
  | nil => intro s _; exact ⟨rfl, rfl⟩
  | cons q L ih =>
    intro s h
    have h1 := h q List.mem_cons_self
    have h2 : ∀ q2 ∈ L, ¬ (xe q2.1 v ≠ 0 ∧ q2.1 - vv v = m) := fun q2 hq2 => h q2 (List.mem_cons_of_mem _ hq2)
    by_cases hx : xe q.1 v = 0
    · rw [drL_n hx, der_n (by rw [hx, Nat.zero_mod])]
      exact ih h2
    · rw [drL_y hx]
      have e1 := (ih (s := va_up s (q.1 - vv v) (xe q.1 v * q.2 % p)) h2)
      refine ⟨e1.1.trans (va_up_ne _ _ (fun z => h1 ⟨hx, z.symm⟩)), ?_⟩
      by_cases hxp : xe q.1 v % p = 0
      · rw [der_n hxp]; exact e1.2
      · rw [der_y hxp]
        show (if q.1 - vv v + 0 = m then _ else 0) + cS 0 m (der p v L) = 0
        rw [Nat.add_zero, if_neg (fun z => h1 ⟨hx, z⟩), e1.2]
theorem dr_eq {p v m : Nat} (hv : v < 3) : ∀ {L : List (Nat × Nat)} {n : Nat} {s : Pf}, bl n L → s m = 0 → drL p v L s m = cS 0 m (der p v L) := by
  intro L
  induction L with
  | nil => intro n s _ hs; exact hs
  | cons q L ih =>
    intro n s hb hs
    obtain ⟨b1, b2, b3, b4⟩ := hb
    by_cases hx : xe q.1 v = 0
    · rw [drL_n hx, der_n (by rw [hx, Nat.zero_mod])]
      exact ih b4 hs
    · rw [drL_y hx]
      by_cases hm : q.1 - vv v = m
      · have hmiss : ∀ q2 ∈ L, ¬ (xe q2.1 v ≠ 0 ∧ q2.1 - vv v = m) := fun q2 hq2 z => by
          obtain ⟨l1, l2, l3⟩ := bl_lt b4 q2 hq2
          have e1 := (sv_mv l2 hv z.1).1
          have e2 := (sv_mv b1 hv hx).1
          have e3 := z.2
          have e4 : q2.1 = q.1 := by omega
          rw [e4] at l1
          omega
        obtain ⟨e1, e2⟩ := dr_miss (p := p) (s := va_up s (q.1 - vv v) (xe q.1 v * q.2 % p)) hmiss
        rw [e1, hm, va_up_self]
        by_cases hxp : xe q.1 v % p = 0
        · rw [der_n hxp, e2, ← Nat.mod_mul_mod, hxp, Nat.zero_mul, Nat.zero_mod]
        · rw [der_y hxp]
          show _ = (if q.1 - vv v + 0 = m then xe q.1 v % p * q.2 % p else 0) + cS 0 m (der p v L)
          rw [Nat.add_zero, if_pos hm, e2, Nat.add_zero, Nat.mod_mul_mod]
      · have e0 : va_up s (q.1 - vv v) (xe q.1 v * q.2 % p) m = 0 := by rw [va_up_ne _ _ (fun z => hm z.symm)]; exact hs
        rw [ih b4 e0]
        by_cases hxp : xe q.1 v % p = 0
        · rw [der_n hxp]
        · rw [der_y hxp]
          show _ = (if q.1 - vv v + 0 = m then xe q.1 v % p * q.2 % p else 0) + cS 0 m (der p v L)
          rw [Nat.add_zero, if_neg hm, Nat.zero_add]
theorem cS_app {t m : Nat} : ∀ {A B : List (Nat × Nat)}, cS t m (A ++ B) = cS t m A + cS t m B := by
  intro A
  induction A with
  | nil => intro B; exact (Nat.zero_add _).symm
  | cons q A ih =>
    intro B
    show (if q.1 + t = m then q.2 else 0) + cS t m (A ++ B) = (if q.1 + t = m then q.2 else 0) + cS t m A + cS t m B
    rw [ih, Nat.add_assoc]
theorem bl_app {q : Nat × Nat} {B : List (Nat × Nat)} : ∀ {A : List (Nat × Nat)} {n : Nat}, bl n (A ++ q :: B) → ∀ x ∈ A, rk q.1 < rk x.1 := by
  intro A
  induction A with
  | nil => intro n _ x hx; cases hx
  | cons a A ih =>
    intro n hb x hx
    obtain ⟨b1, b2, b3, b4⟩ := hb
    rcases List.mem_cons.mp hx with rfl | hx
    · exact (bl_lt b4 q (List.mem_append_right _ List.mem_cons_self)).1
    · exact ih b4 x hx
/-- one more term of a list whose terms are in order -/
theorem ls_up {n m f : Nat} {A B : List (Nat × Nat)} (hb : bl n (A ++ (m, f) :: B)) : va_up (lsP A) m f = lsP (A ++ [(m, f)]) := by
  have h1 := bl_app hb
  funext z
  show va_up (lsP A) m f z = cS 0 z (A ++ [(m, f)])
  rw [cS_app]
  show _ = cS 0 z A + ((if m + 0 = z then f else 0) + 0)
  by_cases hz : z = m
  · subst hz
    rw [va_up_self, Nat.add_zero, Nat.add_zero, if_pos rfl, cS_zero (fun q hq e => by have e2 : q.1 = z := e; have := h1 q hq; rw [e2] at this; exact absurd this (Nat.lt_irrefl _)), Nat.zero_add]
  · rw [va_up_ne _ _ hz, if_neg (fun e => hz e.symm)]
    rfl
theorem pw_eq {p x : Nat} (hp : 2 ≤ p) : ∀ k, pw p x k = x ^ k % p
  | 0 => by rw [Nat.pow_zero]; exact (Nat.mod_eq_of_lt hp).symm
  | k + 1 => by show pw p x k * x % p = _; rw [pw_eq hp k, Nat.mod_mul_mod, Nat.pow_succ]
/-- one term's part of a value -/
theorem vl_eq {p m z q : Nat} {ys : Nat → Nat} (hp : 2 ≤ p) : (z + q * ys 0 ^ xe m 0 % p * ys 1 ^ xe m 1 % p * ys 2 ^ xe m 2 % p) % p = (z + q * atF p (fun v k => pw p (ys v) k) m 3) % p := by
  have t1 : ∀ a b : Nat, a % p * (b % p) % p = a * b % p := fun a b => (Nat.mul_mod a b p).symm
  have e : atF p (fun v k => pw p (ys v) k) m 3 = ys 0 ^ xe m 0 * ys 1 ^ xe m 1 * ys 2 ^ xe m 2 % p := by
    show 1 * pw p (ys 0) (xe m 0) % p * pw p (ys 1) (xe m 1) % p * pw p (ys 2) (xe m 2) % p = _
    rw [pw_eq hp, pw_eq hp, pw_eq hp, Nat.one_mul, Nat.mod_mod]
    generalize ys 0 ^ xe m 0 = X0
    generalize ys 1 ^ xe m 1 = X1
    generalize ys 2 ^ xe m 2 = X2
    rw [t1 X0 X1, t1 (X0 * X1) X2]
  rw [e]
  generalize ys 0 ^ xe m 0 = X0
  generalize ys 1 ^ xe m 1 = X1
  generalize ys 2 ^ xe m 2 = X2
  have u1 : q * X0 % p * X1 % p = q * X0 * X1 % p := Nat.mod_mul_mod _ _ _
  have u2 : q * X0 * X1 % p * X2 % p = q * X0 * X1 * X2 % p := Nat.mod_mul_mod _ _ _
  have v1 : (z + q * (X0 * X1 * X2 % p)) % p = (z + q * (X0 * X1 * X2) % p) % p := by
    rw [← Nat.add_mod_mod z (q * (X0 * X1 * X2 % p)) p, Nat.mul_mod_mod]
  rw [u1, u2, v1, Nat.mul_assoc q X0 X1, Nat.mul_assoc q (X0 * X1) X2]
theorem tp_ext {a b : Pf} : tp a = tp b ↔ ∀ k, k < 9139 → a (pl k) = b (pl k) := by
  constructor
  · intro h k hk
    have key : ∀ {a b : Pf}, tp a = tp b → a (pl k) ≠ 0 → a (pl k) = b (pl k) := fun {a b} h ha => by
      have h1 : (pl k, a (pl k)) ∈ tp a := mem_td (r := 9138 - k) (by omega) ha
      rw [h] at h1
      exact (tp_mem h1).2.1
    by_cases ha : a (pl k) = 0
    · by_cases hb : b (pl k) = 0
      · rw [ha, hb]
      · exact (key h.symm hb).symm
    · exact key h ha
  · intro h
    refine td_congr (fun r hr => ?_)
    have := h (9138 - r) (by omega)
    unfold pl at this
    rw [show 9138 - (9138 - r) = r by omega] at this
    exact this
theorem cfo_miss {k : Nat} : ∀ {L : List (Nat × Nat)}, (∀ q ∈ L, q.1 ≠ k) → cfo k L = 0 := by
  intro L
  induction L with
  | nil => intro _; rfl
  | cons q L ih =>
    intro h
    show (if q.1 = k then q.2 else cfo k L) = 0
    rw [if_neg (h q List.mem_cons_self)]
    exact ih (fun q2 hq2 => h q2 (List.mem_cons_of_mem _ hq2))
theorem cfo_mem {k x : Nat} : ∀ {L : List (Nat × Nat)}, (∀ q ∈ L, q.1 = k → q.2 = x) → (k, x) ∈ L → cfo k L = x := by
  intro L
  induction L with
  | nil => intro _ h; cases h
  | cons q L ih =>
    intro h hm
    show (if q.1 = k then q.2 else cfo k L) = x
    by_cases hq : q.1 = k
    · rw [if_pos hq]; exact h q List.mem_cons_self hq
    · rw [if_neg hq]
      rcases List.mem_cons.mp hm with e | e
      · exact absurd (by rw [← e]) hq
      · exact ih (fun q2 hq2 => h q2 (List.mem_cons_of_mem _ hq2)) e
theorem cfo_tp {h : Pf} {m : Nat} (hm : mv m) : cfo m (tp h) = h m := by
  by_cases hz : h m = 0
  · rw [hz]
    refine cfo_miss (fun q hq e => ?_)
    obtain ⟨t1, t2, t3⟩ := tp_mem hq
    rw [t2, e] at t3
    exact t3 hz
  · refine cfo_mem (fun q hq e => by rw [(tp_mem hq).2.1, e]) ?_
    have h1 := mem_td (g := h) (n := 9139) (r := rk m) (rk_lt hm) (by rw [ur_rk hm]; exact hz)
    rw [ur_rk hm] at h1
    exact h1
def dif (a b : Nat) : Int32 := nI a - nI b
theorem dif_ge {a b : Nat} (h : b ≤ a) : dif a b = nI (a - b) := pk_sub h
theorem dif_lt {a b : Nat} (ha : a < 64) (hb : b < 64) : dif a b < 0 ↔ a < b := by
  constructor
  · intro h
    apply Classical.byContradiction
    intro hn
    rw [dif_ge (by omega)] at h
    exact nI_pos (by omega) h
  · intro h
    rw [Int32.lt_iff_toInt_lt]
    unfold dif
    rw [Int32.toInt_sub, nI_toInt (by omega), nI_toInt (by omega), Int.bmod_eq_of_le (by omega) (by omega)]
    have : (0 : Int32).toInt = 0 := by decide +kernel
    omega
