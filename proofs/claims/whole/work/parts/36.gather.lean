/-! What the reference gathers, and the class's sums: the same. -/
theorem dr_of {α : Type} {L L' : List α} {n : Nat} {q : α} (h : L.drop n = q :: L') : L[n]? = some q ∧ L.drop (n + 1) = L' := by
  constructor
  · have h1 : (L.drop n)[0]? = some q := by rw [h]; rfl
    rw [List.getElem?_drop, Nat.add_zero] at h1
    exact h1
  · have h1 : (L.drop n).drop 1 = L' := by rw [h]; rfl
    rw [List.drop_drop] at h1
    exact h1
abbrev s3 (m : Nat) : Nat := xe m 0 + xe m 1 + xe m 2
theorem mv_s3 {k q : Nat} (hk : mv k) (hq : mv q) (h : mv (k + q)) : s3 k + s3 q ≤ 36 := by
  have h1 : k + q = mp (xe k 0 + xe q 0) (xe k 1 + xe q 1) (xe k 2 + xe q 2) := by rw [← mp_add, ← hk.2, ← hq.2]
  obtain ⟨a, b, d, e1, e2⟩ := mv_of h
  rw [h1] at e2
  show xe k 0 + xe k 1 + xe k 2 + (xe q 0 + xe q 1 + xe q 2) ≤ 36
  clear hk hq h h1
  generalize xe k 0 = x0 at *
  generalize xe k 1 = x1 at *
  generalize xe k 2 = x2 at *
  generalize xe q 0 = y0 at *
  generalize xe q 1 = y1 at *
  generalize xe q 2 = y2 at *
  have h5 : mp a b d < 37 * 262144 := by unfold mp; omega
  have h6 : (x0 + y0 + (x1 + y1) + (x2 + y2)) * 262144 ≤ mp (x0 + y0) (x1 + y1) (x2 + y2) := by unfold mp; omega
  omega
theorem add_mp {k q : Nat} (hk : mv k) (hq : mv q) (h : s3 k + s3 q ≤ 36) : mv (k + q) ∧ mp (xe q 0 + xe k 0) (xe q 1 + xe k 1) (xe q 2 + xe k 2) = k + q := by
  refine ⟨(xe_add hk hq (by have : xe k 0 + xe k 1 + xe k 2 + (xe q 0 + xe q 1 + xe q 2) ≤ 36 := h; omega)).1, ?_⟩
  rw [← mp_add, ← hk.2, ← hq.2, Nat.add_comm]
def fz (p z x : Nat) : Nat := if z = 0 then x else ng p x
def gaL (p z : Nat) (R : List (Nat × Nat)) : List (Nat × Nat) → Pf → Pf
  | [], c => c
  | q :: qs, c => gaL p z R qs (addL p (fz p z q.2) q.1 R c)
theorem gaL_0 {p : Nat} {R : List (Nat × Nat)} : ∀ {L : List (Nat × Nat)} {c : Pf}, gaL p 0 R L c = mulL p R L c := by
  intro L
  induction L with
  | nil => intro c; rfl
  | cons q L ih =>
    intro c
    show gaL p 0 R L (addL p (fz p 0 q.2) q.1 R c) = mulL p R L (addL p q.2 q.1 R c)
    rw [ih]
    rfl
theorem rp_up {g : Nat → Nat} {h : Pf} {m v : Nat} (hg : rp g h) (hm : mv m) : rp (va_up g (9138 - rk m) v) (va_up h m v) := by
  intro k hk
  have h1 := rk_lt hm
  by_cases hkm : k = 9138 - rk m
  · subst hkm
    rw [va_up_self, pl_rk hm, va_up_self]
  · rw [va_up_ne _ _ hkm, va_up_ne _ _ (fun z => hkm (by rw [← z, rk_pl hk]; omega))]
    exact hg k hk
theorem rp_at {g : Nat → Nat} {h : Pf} {m : Nat} (hg : rp g h) (hm : mv m) : g (9138 - rk m) = h m := by
  have h1 := rk_lt hm
  rw [hg _ (by omega), pl_rk hm]
theorem wo_mp3 {k : Nat} (hk : mv k) : mp 0 (xe k 1) (xe k 2) = wo k 0 ∧ mp (xe k 0) 0 (xe k 2) = wo k 1 ∧ mp (xe k 0) (xe k 1) 0 = wo k 2 := by
  have h := wo_mp hk.1
  rw [← hk.2] at h
  exact ⟨h.1.symm, h.2.1.symm, h.2.2.symm⟩
theorem wo_inj {k k' v : Nat} (hk : mv k) (hk' : mv k') (hv : v < 3) (h1 : xe k v = xe k' v) (h2 : wo k v = wo k' v) : k = k' := by
  have h3 : ∀ u, u < 3 → xe k u = xe k' u := fun u hu => by
    by_cases huv : u = v
    · rw [huv]; exact h1
    · have e1 := xe_wo hk hv hu
      have e2 := xe_wo hk' hv hu
      rw [if_neg huv] at e1 e2
      rw [← e1, ← e2, h2]
  rw [hk.2, hk'.2, h3 0 (by omega), h3 1 (by omega), h3 2 (by omega)]
/-- what stands beside v to the power of e -/
def ptL (v e : Nat) : List (Nat × Nat) → Pf → Pf
  | [], s => s
  | q :: qs, s => ptL v e qs (if xe q.1 v = e then va_up s (wo q.1 v) q.2 else s)
theorem ptL_y {v e : Nat} {q : Nat × Nat} {qs : List (Nat × Nat)} {s : Pf} (h : xe q.1 v = e) : ptL v e (q :: qs) s = ptL v e qs (va_up s (wo q.1 v) q.2) := by
  show ptL v e qs (if _ then _ else _) = _
  rw [if_pos h]
theorem ptL_n {v e : Nat} {q : Nat × Nat} {qs : List (Nat × Nat)} {s : Pf} (h : ¬ xe q.1 v = e) : ptL v e (q :: qs) s = ptL v e qs s := by
  show ptL v e qs (if _ then _ else _) = _
  rw [if_neg h]
theorem pt_miss {v e m p : Nat} : ∀ {L : List (Nat × Nat)} {s c : Pf}, (∀ q ∈ L, ¬ (xe q.1 v = e ∧ wo q.1 v = m)) → ptL v e L s m = s m ∧ addC p v e L c m = c m := by
  intro L
  induction L with
  | nil => intro s c _; exact ⟨rfl, rfl⟩
  | cons q L ih =>
    intro s c h
    have h1 := h q List.mem_cons_self
    obtain ⟨e1, e2⟩ := ih (s := if xe q.1 v = e then va_up s (wo q.1 v) q.2 else s) (c := if xe q.1 v = e then va_up c (wo q.1 v) ((c (wo q.1 v) + 1 * q.2) % p) else c) (fun q2 hq2 => h q2 (List.mem_cons_of_mem _ hq2))
    refine ⟨e1.trans ?_, e2.trans ?_⟩
    · split
      · rename_i hx
        exact va_up_ne _ _ (fun z => h1 ⟨hx, z.symm⟩)
      · rfl
    · split
      · rename_i hx
        exact va_up_ne _ _ (fun z => h1 ⟨hx, z.symm⟩)
      · rfl
theorem addC_pt {p v e m : Nat} (hv : v < 3) : ∀ {L : List (Nat × Nat)} {n : Nat} {s c : Pf}, bl n L → c m < p → s m = 0 → addC p v e L c m = (c m + ptL v e L s m) % p := by
  intro L
  induction L with
  | nil => intro n s c _ hc hs; show c m = (c m + s m) % p; rw [hs, Nat.add_zero, Nat.mod_eq_of_lt hc]
  | cons q L ih =>
    intro n s c hb hc hs
    obtain ⟨b1, b2, b3, b4⟩ := hb
    by_cases hx : xe q.1 v = e
    · by_cases hw : wo q.1 v = m
      · have hmiss : ∀ q2 ∈ L, ¬ (xe q2.1 v = e ∧ wo q2.1 v = m) := fun q2 hq2 z => by
          obtain ⟨l1, l2, l3⟩ := bl_lt b4 q2 hq2
          have := wo_inj l2 b1 hv (by rw [z.1, hx]) (by rw [z.2, hw])
          rw [this] at l1
          omega
        rw [ptL_y hx]
        show addC p v e L (if xe q.1 v = e then va_up c (wo q.1 v) ((c (wo q.1 v) + 1 * q.2) % p) else c) m = _
        rw [if_pos hx, (pt_miss (p := p) (s := s) hmiss).2, (pt_miss (p := p) (c := c) hmiss).1, hw, va_up_self, va_up_self, Nat.one_mul]
      · rw [ptL_y hx]
        show addC p v e L (if xe q.1 v = e then va_up c (wo q.1 v) ((c (wo q.1 v) + 1 * q.2) % p) else c) m = _
        rw [if_pos hx]
        have e1 : va_up c (wo q.1 v) ((c (wo q.1 v) + 1 * q.2) % p) m = c m := va_up_ne _ _ (fun z => hw z.symm)
        have e2 : va_up s (wo q.1 v) q.2 m = 0 := by rw [va_up_ne _ _ (fun z => hw z.symm)]; exact hs
        have h9 := ih (s := va_up s (wo q.1 v) q.2) (c := va_up c (wo q.1 v) ((c (wo q.1 v) + 1 * q.2) % p)) b4 (by rw [e1]; exact hc) e2
        rw [e1] at h9
        exact h9
    · rw [ptL_n hx]
      show addC p v e L (if xe q.1 v = e then va_up c (wo q.1 v) ((c (wo q.1 v) + 1 * q.2) % p) else c) m = _
      rw [if_neg hx]
      exact ih b4 hc hs
