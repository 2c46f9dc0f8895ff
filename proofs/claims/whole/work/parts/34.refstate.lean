/-! The reference's state: E the addresses of its arrays, c what stands in them. -/
noncomputable def pl (k : Nat) : Nat := ur (9138 - k)
theorem pl_mv {k : Nat} (h : k < 9139) : mv (pl k) := ur_mv (by omega)
theorem rk_pl {k : Nat} (h : k < 9139) : rk (pl k) = 9138 - k := rk_ur (by omega)
theorem pl_rk {m : Nat} (h : mv m) : pl (9138 - rk m) = m := by
  have h1 := rk_lt h
  unfold pl
  rw [show 9138 - (9138 - rk m) = rk m by omega]
  exact ur_rk h
theorem pl_inj {i j : Nat} (hi : i < 9139) (hj : j < 9139) (e : pl i = pl j) : i = j := by
  have h1 := rk_pl hi
  have h2 := rk_pl hj
  rw [e, h2] at h1
  omega
/-- the next place holds the next term, or none -/
theorem td_pl (h : Pf) {k : Nat} (hk : k < 9139) : td h (9139 - k) = if h (pl k) ≠ 0 then (pl k, h (pl k)) :: td h (9139 - (k + 1)) else td h (9139 - (k + 1)) := by
  have e : 9139 - k = 9139 - (k + 1) + 1 := by omega
  have e2 : pl k = ur (9139 - (k + 1)) := by unfold pl; rw [show 9138 - k = 9139 - (k + 1) by omega]
  rw [e, e2]
  rfl
theorem td_pl_y {h : Pf} {k : Nat} (hk : k < 9139) (hz : ¬ h (pl k) = 0) : td h (9139 - k) = (pl k, h (pl k)) :: td h (9139 - (k + 1)) := by rw [td_pl h hk, if_pos hz]
theorem td_pl_n {h : Pf} {k : Nat} (hk : k < 9139) (hz : h (pl k) = 0) : td h (9139 - k) = td h (9139 - (k + 1)) := by rw [td_pl h hk, if_neg (fun z => z hz)]
/-- how long each array is -/
def ml (j : Nat) : Nat := if j = 3 then 109668 else if j ≤ 9 then 9139 else if j = 10 then 10816 else 43264
def mo (Y : Nat → ClassId) (M : Hm) (ma : Nat) (E : Nat → Nat) (p rf th : Nat) (c : Nat → Nat → Nat) : Prop :=
  M ma = some ((1000, 0), .inr (5, [.int (nI th), .int (nI p), .int (nI rf), .ref (E 1), .ref (E 2), .ref (E 3), .ref (E 4), .ref (E 5), .ref (E 6), .ref (E 7), .ref (E 8), .ref (E 9), .ref (E 10), .ref (E 11)])) ∧
  M (E 1) = some ((1000, 1), e_n Y 27417 (c 1)) ∧ M (E 2) = some ((1000, 2), e_n Y 50653 (c 2)) ∧ (∀ j, 3 ≤ j → j ≤ 11 → M (E j) = some ((1000, j), e_n Y (ml j) (c j))) ∧
  (∀ k, k < 9139 → ∀ v, v < 3 → c 1 (3 * k + v) = xe (pl k) v) ∧ (∀ a b d, a + b + d ≤ 36 → c 2 ((37 * a + b) * 37 + d) = 9138 - rk (mp a b d)) ∧ 2 ≤ p ∧ p ≤ 46337
section MO
variable {Y : Nat → ClassId} {M : Hm} {ma p rf th : Nat} {E : Nat → Nat} {c : Nat → Nat → Nat}
theorem mo.ob (h : mo Y M ma E p rf th c) : M ma = some ((1000, 0), .inr (5, [.int (nI th), .int (nI p), .int (nI rf), .ref (E 1), .ref (E 2), .ref (E 3), .ref (E 4), .ref (E 5), .ref (E 6), .ref (E 7), .ref (E 8), .ref (E 9), .ref (E 10), .ref (E 11)])) := h.1
theorem mo.a1 (h : mo Y M ma E p rf th c) : M (E 1) = some ((1000, 1), e_n Y 27417 (c 1)) := h.2.1
theorem mo.a2 (h : mo Y M ma E p rf th c) : M (E 2) = some ((1000, 2), e_n Y 50653 (c 2)) := h.2.2.1
theorem mo.ar (h : mo Y M ma E p rf th c) {j : Nat} (h1 : 3 ≤ j) (h2 : j ≤ 11) : M (E j) = some ((1000, j), e_n Y (ml j) (c j)) := h.2.2.2.1 j h1 h2
theorem mo.a3 (h : mo Y M ma E p rf th c) : M (E 3) = some ((1000, 3), e_n Y 109668 (c 3)) := h.ar (by omega) (by omega)
theorem ml_rw {j : Nat} (h1 : 4 ≤ j) (h2 : j ≤ 9) : ml j = 9139 := by unfold ml; rw [if_neg (by omega), if_pos h2]
theorem mo.rw (h : mo Y M ma E p rf th c) {j : Nat} (h1 : 4 ≤ j) (h2 : j ≤ 9) : M (E j) = some ((1000, j), e_n Y 9139 (c j)) := by
  have h3 := h.ar (j := j) (by omega) (by omega)
  rw [ml_rw h1 h2] at h3
  exact h3
theorem mo.a10 (h : mo Y M ma E p rf th c) : M (E 10) = some ((1000, 10), e_n Y 10816 (c 10)) := h.ar (by omega) (by omega)
theorem mo.a11 (h : mo Y M ma E p rf th c) : M (E 11) = some ((1000, 11), e_n Y 43264 (c 11)) := h.ar (by omega) (by omega)
theorem mo.ex (h : mo Y M ma E p rf th c) {k v : Nat} (hk : k < 9139) (hv : v < 3) : c 1 (3 * k + v) = xe (pl k) v := h.2.2.2.2.1 k hk v hv
theorem mo.pc (h : mo Y M ma E p rf th c) {a b d : Nat} (hs : a + b + d ≤ 36) : c 2 ((37 * a + b) * 37 + d) = 9138 - rk (mp a b d) := h.2.2.2.2.2.1 a b d hs
theorem mo.p2 (h : mo Y M ma E p rf th c) : 2 ≤ p ∧ p ≤ 46337 := h.2.2.2.2.2.2
theorem mo.off {M' : Hm} {S : Nat → Prop} (h : mo Y M ma E p rf th c) (ho : hp_off S M M') (hS : ¬ S 1000) : mo Y M' ma E p rf th c := by
  obtain ⟨h0, h1, h2, h3, h4⟩ := h
  exact ⟨ho.of h0 hS, ho.of h1 hS, ho.of h2 hS, fun j a b => ho.of (h3 j a b) hS, h4⟩
/-- one array gets other contents -/
theorem mo.st (h : mo Y M ma E p rf th c) {j : Nat} (h1 : 3 ≤ j) (h2 : j ≤ 11) (g : Nat → Nat) : mo Y (hp_up M (E j) ((1000, j), e_n Y (ml j) g)) ma E p rf th (va_up c j g) ∧ hp_off (fun i => i = 1000) M (hp_up M (E j) ((1000, j), e_n Y (ml j) g)) := by
  have hj := h.ar h1 h2
  obtain ⟨k0, k1, k2, k3, k4, k5, k6⟩ := h
  refine ⟨⟨hp_kt hj k0 (tg2 (by omega)), ?_, ?_, fun i a b => ?_, ?_, ?_, k6⟩, hp_off.up hj rfl⟩
  · rw [va_up_ne _ _ (by omega)]; exact hp_kt hj k1 (tg2 (by omega))
  · rw [va_up_ne _ _ (by omega)]; exact hp_kt hj k2 (tg2 (by omega))
  · by_cases hi : i = j
    · subst hi; rw [va_up_self]; exact hp_up_self _ _ _
    · rw [va_up_ne _ _ hi]; exact hp_kt hj (k3 i a b) (tg2 hi)
  · intro k hk v hv; rw [va_up_ne _ _ (by omega)]; exact k4 k hk v hv
  · intro a b d hs; rw [va_up_ne _ _ (by omega)]; exact k5 a b d hs
theorem mo.sr (h : mo Y M ma E p rf th c) {j : Nat} (h1 : 4 ≤ j) (h2 : j ≤ 9) (g : Nat → Nat) : mo Y (hp_up M (E j) ((1000, j), e_n Y 9139 g)) ma E p rf th (va_up c j g) ∧ hp_off (fun i => i = 1000) M (hp_up M (E j) ((1000, j), e_n Y 9139 g)) := by
  have h3 := h.st (j := j) (by omega) (by omega) g
  rw [ml_rw h1 h2] at h3
  exact h3
theorem mo.s3 (h : mo Y M ma E p rf th c) (g : Nat → Nat) : mo Y (hp_up M (E 3) ((1000, 3), e_n Y 109668 g)) ma E p rf th (va_up c 3 g) ∧ hp_off (fun i => i = 1000) M (hp_up M (E 3) ((1000, 3), e_n Y 109668 g)) := h.st (by omega) (by omega) g
theorem mo.s10 (h : mo Y M ma E p rf th c) (g : Nat → Nat) : mo Y (hp_up M (E 10) ((1000, 10), e_n Y 10816 g)) ma E p rf th (va_up c 10 g) ∧ hp_off (fun i => i = 1000) M (hp_up M (E 10) ((1000, 10), e_n Y 10816 g)) := h.st (by omega) (by omega) g
theorem mo.s11 (h : mo Y M ma E p rf th c) (g : Nat → Nat) : mo Y (hp_up M (E 11) ((1000, 11), e_n Y 43264 g)) ma E p rf th (va_up c 11 g) ∧ hp_off (fun i => i = 1000) M (hp_up M (E 11) ((1000, 11), e_n Y 43264 g)) := h.st (by omega) (by omega) g
/-- the object's numbers change -/
theorem mo.nw (h : mo Y M ma E p rf th c) (th' rf' : Nat) : mo Y (hp_up M ma ((1000, 0), .inr (5, [.int (nI th'), .int (nI p), .int (nI rf'), .ref (E 1), .ref (E 2), .ref (E 3), .ref (E 4), .ref (E 5), .ref (E 6), .ref (E 7), .ref (E 8), .ref (E 9), .ref (E 10), .ref (E 11)]))) ma E p rf' th' c ∧ hp_off (fun i => i = 1000) M (hp_up M ma ((1000, 0), .inr (5, [.int (nI th'), .int (nI p), .int (nI rf'), .ref (E 1), .ref (E 2), .ref (E 3), .ref (E 4), .ref (E 5), .ref (E 6), .ref (E 7), .ref (E 8), .ref (E 9), .ref (E 10), .ref (E 11)]))) := by
  obtain ⟨k0, k1, k2, k3, k4⟩ := h
  exact ⟨⟨hp_up_self _ _ _, hp_kt k0 k1 (tg2 (by omega)), hp_kt k0 k2 (tg2 (by omega)), fun i a b => hp_kt k0 (k3 i a b) (tg2 (by omega)), k4⟩, hp_off.up k0 rfl⟩
end MO
