/-! What each call does. -/
set_option maxHeartbeats 4000000 in
theorem u_constant (l : Launch) (D : va_G) (Y : Nat → ClassId) (lo : Nat) (hlt : l.stackTraces = false) {M : Hm} {xa p rf : Nat} {A cap si : Nat → Nat} {P : Nat → Pf} (hcs : cs Y M xa A p P cap si rf) (ma : Nat) (E : Nat → Nat) (x1 x2 : Int32) : unit l D Y lo y_H_constant b_H_constant 3 y_R_constant b_R_constant 3 none false [.int x1, .int x2] M xa p rf A cap si P ma E := by
  have hcs0 := hcs
  obtain ⟨-, -, -, ⟨-, hpr⟩, -, -, ⟨hs1, hs2⟩, -, -, -, hc1, hc2, hPp⟩ := hcs0
  by_cases h : inR x1
  · obtain ⟨r, hr, rfl⟩ := h
    exact un_good0 (v := 0) (fun h => by cases h) (by omega) (by omega) (c_H_constant l D Y lo hcs x2 hr) (fun M2 th c hm hrr => c_R_constant l D Y lo hm hrr hPp hr x2)
  · exact un_badI (RR := inR x1) h (by omega) (by omega) (by omega) (by omega) (x_H_constant l D Y lo hlt h) (fun M2 th c hm hrr => e_R_constant l D Y lo hm h)
set_option maxHeartbeats 4000000 in
theorem u_variable (l : Launch) (D : va_G) (Y : Nat → ClassId) (lo : Nat) (hlt : l.stackTraces = false) {M : Hm} {xa p rf : Nat} {A cap si : Nat → Nat} {P : Nat → Pf} (hcs : cs Y M xa A p P cap si rf) (ma : Nat) (E : Nat → Nat) (x1 x2 : Int32) : unit l D Y lo y_H_variable b_H_variable 3 y_R_variable b_R_variable 3 none true [.int x1, .int x2] M xa p rf A cap si P ma E := by
  have hcs0 := hcs
  obtain ⟨-, -, -, ⟨-, hpr⟩, -, -, ⟨hs1, hs2⟩, -, -, -, hc1, hc2, hPp⟩ := hcs0
  by_cases h : inR x1 ∧ inV x2
  · obtain ⟨⟨r, hr, rfl⟩, ⟨v, hv, rfl⟩⟩ := h
    exact un_good0 (v := 0) (fun h => by cases h) (by omega) (by omega) (c_H_variable l D Y lo hcs hr hv) (fun M2 th c hm hrr => c_R_variable l D Y lo hm hrr hPp hr hv)
  · exact un_badRR rfl (inR x1) (by omega) (by omega) (by omega) (by omega) (x_H_variable l D Y lo hlt h) (fun M2 th c hm hrr => e_R_variable l D Y lo hm h)
set_option maxHeartbeats 4000000 in
theorem u_add (l : Launch) (D : va_G) (Y : Nat → ClassId) (lo : Nat) (hlt : l.stackTraces = false) {M : Hm} {xa p rf : Nat} {A cap si : Nat → Nat} {P : Nat → Pf} (hcs : cs Y M xa A p P cap si rf) (ma : Nat) (E : Nat → Nat) (x1 x2 x3 x4 : Int32) : unit l D Y lo y_H_add b_H_add 5 y_R_add b_R_add 8 none false [.int x1, .int x2, .int x3, .int x4] M xa p rf A cap si P ma E := by
  have hcs0 := hcs
  obtain ⟨-, -, -, ⟨-, hpr⟩, -, -, ⟨hs1, hs2⟩, -, -, -, hc1, hc2, hPp⟩ := hcs0
  by_cases h : inR x1 ∧ inR x2 ∧ inR x3
  · obtain ⟨⟨r, hr, rfl⟩, ⟨a, ha, rfl⟩, ⟨b, hb, rfl⟩⟩ := h
    exact un_good (v := 0) (fun h => by cases h) (by omega) (by omega) (sm_one_up (hs1 r (by omega)).1 (hs1 r (by omega)).2 (gcn_ge _ _ _) (gcn_18 (td_len _ _))).1 (Nat.le_refl _) (sm_one_up (hs1 r (by omega)).1 (hs1 r (by omega)).2 (gcn_ge _ _ _) (gcn_18 (td_len _ _))).2 (c_H_add l D Y lo hcs x4 hr ha hb) (fun M2 th c hm hrr => c_R_add l D Y lo hm hrr hPp hr ha hb x4)
  · exact un_badI (RR := inR x1 ∧ inR x2 ∧ inR x3) h (by omega) (by omega) (by omega) (by omega) (x_H_add l D Y lo hlt h) (fun M2 th c hm hrr => e_R_add l D Y lo hm h)
set_option maxHeartbeats 4000000 in
theorem u_multiply (l : Launch) (D : va_G) (Y : Nat → ClassId) (lo : Nat) (hlt : l.stackTraces = false) {M : Hm} {xa p rf : Nat} {A cap si : Nat → Nat} {P : Nat → Pf} (hcs : cs Y M xa A p P cap si rf) (ma : Nat) (E : Nat → Nat) (x1 x2 x3 : Int32) : unit l D Y lo y_H_multiply b_H_multiply 7 y_R_multiply b_R_multiply 6 (some .boolean) false [.int x1, .int x2, .int x3] M xa p rf A cap si P ma E := by
  have hcs0 := hcs
  obtain ⟨-, -, -, ⟨-, hpr⟩, -, -, ⟨hs1, hs2⟩, -, -, -, hc1, hc2, hPp⟩ := hcs0
  by_cases h : inR x1 ∧ inR x2 ∧ inR x3
  · obtain ⟨⟨r, hr, rfl⟩, ⟨a, ha, rfl⟩, ⟨b, hb, rfl⟩⟩ := h
    by_cases hdg : ∀ u, u < 3 → dgl u (tp (P a)) 0 + dgl u (tp (P b)) 0 ≤ 12
    · exact un_good (v := nI 1) (fun _ => ⟨1, by omega, rfl⟩) (by omega) (by omega) (sm_one_up (hs1 r (by omega)).1 (hs1 r (by omega)).2 (gcn_ge _ _ _) (gcn_18 (td_len _ _))).1 (Nat.le_refl _) (sm_one_up (hs1 r (by omega)).1 (hs1 r (by omega)).2 (gcn_ge _ _ _) (gcn_18 (td_len _ _))).2 (c_H_multiply l D Y lo hcs hr ha hb hdg) (fun M2 th c hm hrr => c_R_multiply l D Y lo hm hrr hPp hr ha hb hdg)
    · exact un_good0 (v := nI 0) (fun _ => ⟨0, by omega, rfl⟩) (by omega) (by omega) (n_H_multiply l D Y lo hcs hr ha hb hdg) (fun M2 th c hm hrr => n_R_multiply l D Y lo hm hrr hPp hr ha hb hdg)
  · exact un_badI (RR := inR x1 ∧ inR x2 ∧ inR x3) h (by omega) (by omega) (by omega) (by omega) (x_H_multiply l D Y lo hlt h) (fun M2 th c hm hrr => e_R_multiply l D Y lo hm h)
set_option maxHeartbeats 4000000 in
theorem u_power (l : Launch) (D : va_G) (Y : Nat → ClassId) (lo : Nat) (hlt : l.stackTraces = false) {M : Hm} {xa p rf : Nat} {A cap si : Nat → Nat} {P : Nat → Pf} (hcs : cs Y M xa A p P cap si rf) (ma : Nat) (E : Nat → Nat) (x1 x2 x3 : Int32) : unit l D Y lo y_H_power b_H_power 6 y_R_power b_R_power 7 (some .boolean) true [.int x1, .int x2, .int x3] M xa p rf A cap si P ma E := by
  have hcs0 := hcs
  obtain ⟨-, -, -, ⟨-, hpr⟩, -, -, ⟨hs1, hs2⟩, -, -, -, hc1, hc2, hPp⟩ := hcs0
  by_cases h : (inR x1 ∧ inR x2) ∧ ∃ n : Nat, n ≤ 100 ∧ x3 = nI n
  · obtain ⟨⟨⟨r, hr, rfl⟩, ⟨a, ha, rfl⟩⟩, ⟨n, hn, rfl⟩⟩ := h
    by_cases hdg : ∀ u, u < 3 → n * dgl u (tp (P a)) 0 ≤ 12
    · exact un_good (v := nI 1) (fun _ => ⟨1, by omega, rfl⟩) (by omega) (by omega) (sm_one_up (hs1 12 (by omega)).1 (hs1 12 (by omega)).2 (cpw_ge _ _ _ _) (fun h => cpw_le _ _ h _)).1 (Nat.le_refl _) (sm_one_up (hs1 12 (by omega)).1 (hs1 12 (by omega)).2 (cpw_ge _ _ _ _) (fun h => cpw_le _ _ h _)).2 (c_H_power l D Y lo hcs hr ha hn hdg) (fun M2 th c hm hrr => c_R_power l D Y lo hm hrr hPp hr ha hn hdg)
    · exact un_good0 (v := nI 0) (fun _ => ⟨0, by omega, rfl⟩) (by omega) (by omega) (n_H_power l D Y lo hcs hr ha hn hdg) (fun M2 th c hm hrr => n_R_power l D Y lo hm hrr hPp hr ha hn hdg)
  · exact un_badRR rfl (inR x1 ∧ inR x2) (by omega) (by omega) (by omega) (by omega) (x_H_power l D Y lo hlt h) (fun M2 th c hm hrr => e_R_power l D Y lo hm h)
set_option maxHeartbeats 4000000 in
theorem u_divide (l : Launch) (D : va_G) (Y : Nat → ClassId) (lo : Nat) (hlt : l.stackTraces = false) {M : Hm} {xa p rf : Nat} {A cap si : Nat → Nat} {P : Nat → Pf} (hcs : cs Y M xa A p P cap si rf) (ma : Nat) (E : Nat → Nat) (x1 x2 x3 : Int32) {z : Nat} (hz : z ≤ 1) : unit l D Y lo y_H_divide b_H_divide 6 y_R_divide b_R_divide 14 none true [.int x1, .int x2, .int x3, .int (nI z)] M xa p rf A cap si P ma E := by
  have hcs0 := hcs
  obtain ⟨-, -, -, ⟨-, hpr⟩, -, -, ⟨hs1, hs2⟩, -, -, -, hc1, hc2, hPp⟩ := hcs0
  by_cases h : inR x1 ∧ inR x2 ∧ inR x3
  · obtain ⟨⟨r, hr, rfl⟩, ⟨a, ha, rfl⟩, ⟨b, hb, rfl⟩⟩ := h
    by_cases hz0 : tp (P b) = []
    · exact un_bad (k := 2) (w := 0) (by omega) (fun h => by cases h) (by omega) (fun h => by cases h) (by omega) (by omega) (by omega) (by omega) (x_H_divide_z l D Y lo hlt hcs hr ha hb hz0) (fun E9 M' hp => ⟨hp.2, Or.inr ⟨hp.1, rfl⟩⟩) (fun M2 th c hm hrr => e_R_divide_z l D Y lo hm hrr hPp hr ha hb hz0)
    · obtain ⟨q0, hq0⟩ : ∃ q0, (tp (P b))[0]? = some q0 := by
        cases hL : tp (P b) with
        | nil => exact absurd hL hz0
        | cons q L => exact ⟨q, rfl⟩
      rcases (show z = 0 ∨ z = 1 by omega) with rfl | rfl
      · have u1 := sm_one_up (cap := cap) (hs1 12 (by omega)).1 (hs1 12 (by omega)).2 (gcn_ge (dvQ p q0.1 (q0.2 ^ (p - 2) % p) (tp (P b)) 9139 (addL p 1 0 (tp (P a)) (fun _ => 0))).length (cap (si 12)) 0) (gcn_18 (dvQ_len _ _))
        have hne : si r ≠ si 12 := fun e => by have := hs2 r 12 (by omega) (by omega) e; omega
        have e9 : va_up cap (si 12) (gcn (cap (si 12)) 0 (dvQ p q0.1 (q0.2 ^ (p - 2) % p) (tp (P b)) 9139 (addL p 1 0 (tp (P a)) (fun _ => 0))).length) (si r) = cap (si r) := va_up_ne _ _ hne
        have u2 := sm_one_up (cap := va_up cap (si 12) (gcn (cap (si 12)) 0 (dvQ p q0.1 (q0.2 ^ (p - 2) % p) (tp (P b)) 9139 (addL p 1 0 (tp (P a)) (fun _ => 0))).length)) (hs1 r (by omega)).1 (hs1 r (by omega)).2 (by rw [e9]; exact gcn_ge (td (dvC p q0.1 (q0.2 ^ (p - 2) % p) (tp (P b)) 9139 (addL p 1 0 (tp (P a)) (fun _ => 0))) 9139).length (cap (si r)) 0) (by rw [e9]; exact gcn_18 (td_len _ _))
        rw [e9] at u2
        exact un_good (v := 0) (fun h => by cases h) (by omega) (by omega) (by have := u1.1; have := u2.1; omega) (Nat.le_refl _) (fun h => u2.2 (u1.2 h)) (c_H_divide_r l D Y lo hcs hr ha hb hq0) (fun M2 th c hm hrr => c_R_divide_r l D Y lo hm hrr hPp hr ha hb hpr hq0)
      · exact un_good (v := 0) (fun h => by cases h) (by omega) (by omega) (sm_one_up (hs1 12 (by omega)).1 (hs1 12 (by omega)).2 (gcn_ge _ _ _) (gcn_18 (dvQ_len _ _))).1 (Nat.le_refl _) (sm_one_up (hs1 12 (by omega)).1 (hs1 12 (by omega)).2 (gcn_ge _ _ _) (gcn_18 (dvQ_len _ _))).2 (c_H_divide_q l D Y lo hcs hr ha hb hq0) (fun M2 th c hm hrr => c_R_divide_q l D Y lo hm hrr hPp hr ha hb hpr hq0)
  · exact un_badI (RR := inR x1 ∧ inR x2 ∧ inR x3) h (by omega) (by omega) (by omega) (by omega) (x_H_divide l D Y lo hlt h) (fun M2 th c hm hrr => e_R_divide l D Y lo hm h)
set_option maxHeartbeats 4000000 in
theorem u_derive (l : Launch) (D : va_G) (Y : Nat → ClassId) (lo : Nat) (hlt : l.stackTraces = false) {M : Hm} {xa p rf : Nat} {A cap si : Nat → Nat} {P : Nat → Pf} (hcs : cs Y M xa A p P cap si rf) (ma : Nat) (E : Nat → Nat) (x1 x2 x3 : Int32) : unit l D Y lo y_H_derive b_H_derive 8 y_R_derive b_R_derive 7 none true [.int x1, .int x2, .int x3] M xa p rf A cap si P ma E := by
  have hcs0 := hcs
  obtain ⟨-, -, -, ⟨-, hpr⟩, -, -, ⟨hs1, hs2⟩, -, -, -, hc1, hc2, hPp⟩ := hcs0
  by_cases h : (inR x1 ∧ inR x2) ∧ inV x3
  · obtain ⟨⟨⟨r, hr, rfl⟩, ⟨a, ha, rfl⟩⟩, ⟨v, hv, rfl⟩⟩ := h
    exact un_good (v := 0) (fun h => by cases h) (by omega) (by omega) (sm_one_up (hs1 12 (by omega)).1 (hs1 12 (by omega)).2 (gcn_ge _ _ _) (gcn_18 (Nat.le_trans (der_len _) (td_len _ _)))).1 (Nat.le_refl _) (sm_one_up (hs1 12 (by omega)).1 (hs1 12 (by omega)).2 (gcn_ge _ _ _) (gcn_18 (Nat.le_trans (der_len _) (td_len _ _)))).2 (c_H_derive l D Y lo hcs hr ha hv) (fun M2 th c hm hrr => c_R_derive l D Y lo hm hrr hPp hr ha hv)
  · exact un_badRR rfl (inR x1 ∧ inR x2) (by omega) (by omega) (by omega) (by omega) (x_H_derive l D Y lo hlt h) (fun M2 th c hm hrr => e_R_derive l D Y lo hm h)
set_option maxHeartbeats 4000000 in
theorem u_put (l : Launch) (D : va_G) (Y : Nat → ClassId) (lo : Nat) (hlt : l.stackTraces = false) {M : Hm} {xa p rf : Nat} {A cap si : Nat → Nat} {P : Nat → Pf} (hcs : cs Y M xa A p P cap si rf) (ma : Nat) (E : Nat → Nat) (x1 x2 x3 x4 : Int32) : unit l D Y lo y_H_put b_H_put 10 y_R_put b_R_put 10 (some .boolean) true [.int x1, .int x2, .int x3, .int x4] M xa p rf A cap si P ma E := by
  have hcs0 := hcs
  obtain ⟨-, -, -, ⟨-, hpr⟩, -, -, ⟨hs1, hs2⟩, -, -, -, hc1, hc2, hPp⟩ := hcs0
  by_cases h : (inR x1 ∧ inR x2 ∧ inR x4) ∧ inV x3
  · obtain ⟨⟨⟨r, hr, rfl⟩, ⟨a, ha, rfl⟩, ⟨b, hb, rfl⟩⟩, ⟨v, hv, rfl⟩⟩ := h
    by_cases hdg : ∀ u, u < 3 → hrD v (P a) (P b) (dgl v (tp (P a)) 0) u ≤ 12
    · exact un_good (v := nI 1) (fun _ => ⟨1, by omega, rfl⟩) (by omega) (by omega) (sm_one_up (hs1 12 (by omega)).1 (hs1 12 (by omega)).2 (cpF_ge _ _ _) (fun h => cpF_le _ h _)).1 (Nat.le_refl _) (sm_one_up (hs1 12 (by omega)).1 (hs1 12 (by omega)).2 (cpF_ge _ _ _) (fun h => cpF_le _ h _)).2 (c_H_put l D Y lo hcs hr ha hv hb hdg) (fun M2 th c hm hrr => c_R_put l D Y lo hm hrr hPp hr ha hv hb hdg)
    · exact un_good0 (v := nI 0) (fun _ => ⟨0, by omega, rfl⟩) (by omega) (by omega) (n_H_put l D Y lo hcs hr ha hv hb hdg) (fun M2 th c hm hrr => n_R_put l D Y lo hm hrr hPp hr ha hv hb hdg)
  · exact un_badRR rfl (inR x1 ∧ inR x2 ∧ inR x4) (by omega) (by omega) (by omega) (by omega) (x_H_put l D Y lo hlt h) (fun M2 th c hm hrr => e_R_put l D Y lo hm h)
set_option maxHeartbeats 4000000 in
theorem u_resultant (l : Launch) (D : va_G) (Y : Nat → ClassId) (lo : Nat) (hlt : l.stackTraces = false) {M : Hm} {xa p rf : Nat} {A cap si : Nat → Nat} {P : Nat → Pf} (hcs : cs Y M xa A p P cap si rf) (ma : Nat) (E : Nat → Nat) (x1 x2 x3 x4 : Int32) : unit l D Y lo y_H_resultant b_H_resultant 12 y_R_resultant b_R_resultant 15 (some .boolean) true [.int x1, .int x2, .int x3, .int x4] M xa p rf A cap si P ma E := by
  have hcs0 := hcs
  obtain ⟨-, -, -, ⟨-, hpr⟩, -, -, ⟨hs1, hs2⟩, -, -, -, hc1, hc2, hPp⟩ := hcs0
  by_cases h : (inR x1 ∧ inR x2 ∧ inR x3) ∧ inV x4
  · obtain ⟨⟨⟨r, hr, rfl⟩, ⟨a, ha, rfl⟩, ⟨b, hb, rfl⟩⟩, ⟨v, hv, rfl⟩⟩ := h
    obtain ⟨m, hm9⟩ : ∃ m, m = dgf (P a) v := ⟨_, rfl⟩
    obtain ⟨n, hn9⟩ : ∃ n, n = dgf (P b) v := ⟨_, rfl⟩
    by_cases hno : tp (P a) = [] ∨ tp (P b) = [] ∨ ¬ m + n ≤ 8
    · exact un_bad (k := 2) (w := nI 0) (by omega) (fun h => by cases h) (by omega) (fun _ => ⟨0, by omega, rfl⟩) (by omega) (by omega) (by omega) (by omega) (x_H_resultant_z l D Y lo hlt hcs hr ha hb hv hm9 hn9 hno) (fun E9 M' hp => ⟨hp.2, Or.inr ⟨hp.1, rfl⟩⟩) (fun M2 th c hm hrr => e_R_resultant_z l D Y lo hm hrr hPp hr ha hb hv hm9 hn9 hno)
    · have hza : tp (P a) ≠ [] := fun z => hno (Or.inl z)
      have hzb : tp (P b) ≠ [] := fun z => hno (Or.inr (Or.inl z))
      have hmn : m + n ≤ 8 := Classical.byContradiction (fun z => hno (Or.inr (Or.inr z)))
      by_cases hdg : ∀ u, u < 3 → u ≠ v → n * dgf (P a) u + m * dgf (P b) u ≤ 12
      · obtain ⟨q1, q2⟩ := p2_le hmn
        have hsr := hs1 r (by omega)
        have e9 : cpM (fun c => mnT p v m n (P a) (P b) c c) cap (2 ^ (m + n) - 1) (si r) = cap (si r) := cpM_lo (by omega)
        have u1 := cpM_sm_mono (T := fun c => mnT p v m n (P a) (P b) c c) (cap := cap) (i := 0) (n := 2 ^ (m + n) - 1) (by omega) (by omega)
        have u1 : sm cap 300 ≤ sm (cpM (fun c => mnT p v m n (P a) (P b) c c) cap (2 ^ (m + n) - 1)) 300 := u1
        have u2 := sm_one_up (cap := cpM (fun c => mnT p v m n (P a) (P b) c c) cap (2 ^ (m + n) - 1)) hsr.1 hsr.2 (by rw [e9]; exact gcn_ge (td (addL p 1 0 (tp (mnT p v m n (P a) (P b) (2 ^ (m + n) - 1) (2 ^ (m + n) - 1))) (fun _ => 0)) 9139).length (cap (si r)) 0) (by rw [e9]; exact gcn_18 (td_len _ _))
        rw [e9] at u2
        have u3 := u2.1
        exact un_good (v := nI 1) (fun _ => ⟨1, by omega, rfl⟩) (by omega) (by omega) (by omega) (Nat.le_refl _) (fun h => u2.2 (cpM_cb (by omega) (fun c _ hc => len169 hv (mnT_bx hpr.1 hv hm9 hn9 hmn hdg (by omega) (Nat.le_refl _))) h)) (c_H_resultant l D Y lo hcs hr ha hb hv hm9 hn9 hza hzb hmn hdg) (fun M2 th c hm hrr => c_R_resultant l D Y lo hm hrr hPp hr ha hb hv hm9 hn9 hza hzb hmn hdg)
      · exact un_good0 (v := nI 0) (fun _ => ⟨0, by omega, rfl⟩) (by omega) (by omega) (n_H_resultant l D Y lo hcs hr ha hb hv hm9 hn9 hza hzb hmn hdg) (fun M2 th c hm hrr => n_R_resultant l D Y lo hm hrr hPp hr ha hb hv hm9 hn9 hza hzb hmn hdg)
  · exact un_badRR rfl (inR x1 ∧ inR x2 ∧ inR x3) (by omega) (by omega) (by omega) (by omega) (x_H_resultant l D Y lo hlt h) (fun M2 th c hm hrr => e_R_resultant l D Y lo hm h)
set_option maxHeartbeats 4000000 in
theorem u_value (l : Launch) (D : va_G) (Y : Nat → ClassId) (lo : Nat) (hlt : l.stackTraces = false) {M : Hm} {xa p rf : Nat} {A cap si : Nat → Nat} {P : Nat → Pf} (hcs : cs Y M xa A p P cap si rf) (ma : Nat) (E : Nat → Nat) (x1 x2 x3 x4 : Int32) : unit l D Y lo y_H_value b_H_value 8 y_R_value b_R_value 11 (some .int) false [.int x1, .int x2, .int x3, .int x4] M xa p rf A cap si P ma E := by
  have hcs0 := hcs
  obtain ⟨-, -, -, ⟨-, hpr⟩, -, -, ⟨hs1, hs2⟩, -, -, -, hc1, hc2, hPp⟩ := hcs0
  by_cases h : inR x1
  · obtain ⟨r, hr, rfl⟩ := h
    exact un_good0 (v := _) (fun h => by cases h) (by omega) (by omega) (c_H_value l D Y lo hcs x2 x3 x4 hr) (fun M2 th c hm hrr => c_R_value l D Y lo hm hrr hPp hr x2 x3 x4)
  · exact un_badI (RR := inR x1) h (by omega) (by omega) (by omega) (by omega) (x_H_value l D Y lo hlt h) (fun M2 th c hm hrr => e_R_value l D Y lo hm h)
set_option maxHeartbeats 4000000 in
theorem u_terms (l : Launch) (D : va_G) (Y : Nat → ClassId) (lo : Nat) (hlt : l.stackTraces = false) {M : Hm} {xa p rf : Nat} {A cap si : Nat → Nat} {P : Nat → Pf} (hcs : cs Y M xa A p P cap si rf) (ma : Nat) (E : Nat → Nat) (x1 : Int32) : unit l D Y lo y_H_terms b_H_terms 2 y_R_terms b_R_terms 2 (some .int) false [.int x1] M xa p rf A cap si P ma E := by
  have hcs0 := hcs
  obtain ⟨-, -, -, ⟨-, hpr⟩, -, -, ⟨hs1, hs2⟩, -, -, -, hc1, hc2, hPp⟩ := hcs0
  by_cases h : inR x1
  · obtain ⟨r, hr, rfl⟩ := h
    exact un_same (v := _) hcs (fun h => by cases h) (by omega) (by omega) (c_H_terms l D Y lo hcs hr) (fun M2 th c hm hrr => c_R_terms l D Y lo hm hrr hPp hr)
  · exact un_badI (RR := inR x1) h (by omega) (by omega) (by omega) (by omega) (x_H_terms l D Y lo hlt h) (fun M2 th c hm hrr => e_R_terms l D Y lo hm h)
set_option maxHeartbeats 4000000 in
theorem u_term (l : Launch) (D : va_G) (Y : Nat → ClassId) (lo : Nat) (hlt : l.stackTraces = false) {M : Hm} {xa p rf : Nat} {A cap si : Nat → Nat} {P : Nat → Pf} (hcs : cs Y M xa A p P cap si rf) (ma : Nat) (E : Nat → Nat) (x1 x2 x3 : Int32) : unit l D Y lo y_H_term b_H_term 5 y_R_term b_R_term 7 (some .int) true [.int x1, .int x2, .int x3] M xa p rf A cap si P ma E := by
  have hcs0 := hcs
  obtain ⟨-, -, -, ⟨-, hpr⟩, -, -, ⟨hs1, hs2⟩, -, -, -, hc1, hc2, hPp⟩ := hcs0
  by_cases h : inR x1
  · obtain ⟨r, hr, rfl⟩ := h
    by_cases hi : ∃ i : Nat, i < (tp (P r)).length ∧ x2 = nI i
    · obtain ⟨i, hi, rfl⟩ := hi
      by_cases hw : ∃ k : Nat, k ≤ 3 ∧ x3 = nI k
      · obtain ⟨wh, hwh, rfl⟩ := hw
        have hq : (tp (P r))[i]? = some ((tp (P r))[i]) := List.getElem?_eq_getElem hi
        exact un_same (v := _) hcs (fun h => by cases h) (by omega) (by omega) (c_H_term l D Y lo hcs hr hq hwh) (fun M2 th c hm hrr => c_R_term l D Y lo hm hrr hPp hr hq hwh)
      · exact un_bad (k := 2) (w := nI 0) (by omega) (fun h => by cases h) (by omega) (fun h => by cases h) (by omega) (by omega) (by omega) (by omega) (x_H_term_w l D Y lo hlt hcs hr hi hw) (fun E9 M' hp => ⟨hp.2, Or.inr ⟨hp.1, rfl⟩⟩) (fun M2 th c hm hrr => ct_wk (e_R_term_w l D Y lo hm hrr hPp hr hi hw) (fun r9 M' hp => ⟨c, hp.1, hp.2.1, hrr, hp.2.2⟩) (fun _ _ h => h) (Nat.le_refl _) (Nat.le_refl _) (Nat.le_refl _))
    · exact un_bad (k := 1) (w := nI 0) (by omega) (fun _ => by omega) (by omega) (fun h => by cases h) (by omega) (by omega) (by omega) (by omega) (x_H_term_i l D Y lo hlt hcs hr hi) (fun E9 M' hp => ⟨hp.2, Or.inl ⟨hp.1, rfl⟩⟩) (fun M2 th c hm hrr => ct_wk (e_R_term_i l D Y lo hm hrr hPp hr hi) (fun r9 M' hp => ⟨c, hp.1, hp.2.1, hrr, hp.2.2⟩) (fun _ _ h => h) (Nat.le_refl _) (Nat.le_refl _) (Nat.le_refl _))
  · exact un_bad (k := 1) (w := nI 0) (by omega) (fun _ => by omega) (by omega) (fun h => by cases h) (by omega) (by omega) (by omega) (by omega) (x_H_term l D Y lo hlt h) (fun E9 M' hp => ⟨hp.2, Or.inl ⟨hp.1, rfl⟩⟩) (fun M2 th c hm hrr => ct_wk (e_R_term l D Y lo hm h) (fun r9 M' hp => ⟨c, hp.1, hp.2.1, hrr, hp.2.2⟩) (fun _ _ h => h) (Nat.le_refl _) (Nat.le_refl _) (Nat.le_refl _))
set_option maxHeartbeats 4000000 in
theorem u_coefficient (l : Launch) (D : va_G) (Y : Nat → ClassId) (lo : Nat) (hlt : l.stackTraces = false) {M : Hm} {xa p rf : Nat} {A cap si : Nat → Nat} {P : Nat → Pf} (hcs : cs Y M xa A p P cap si rf) (ma : Nat) (E : Nat → Nat) (x1 x2 x3 x4 : Int32) : unit l D Y lo y_H_coefficient b_H_coefficient 5 y_R_coefficient b_R_coefficient 6 (some .int) true [.int x1, .int x2, .int x3, .int x4] M xa p rf A cap si P ma E := by
  have hcs0 := hcs
  obtain ⟨-, -, -, ⟨-, hpr⟩, -, -, ⟨hs1, hs2⟩, -, -, -, hc1, hc2, hPp⟩ := hcs0
  by_cases h : inR x1 ∧ ¬ x2 < 0 ∧ ¬ x3 < 0 ∧ ¬ x4 < 0
  · obtain ⟨⟨r, hr, rfl⟩, g0, g1, g2⟩ := h
    obtain ⟨e0, h0, rfl⟩ := nI_of g0
    obtain ⟨e1, h1, rfl⟩ := nI_of g1
    obtain ⟨e2, h2, rfl⟩ := nI_of g2
    exact un_same (v := _) hcs (fun h => by cases h) (by omega) (by omega) (c_H_coefficient l D Y lo hcs hr h0 h1 h2) (fun M2 th c hm hrr => c_R_coefficient l D Y lo hm hrr hPp hr h0 h1 h2)
  · exact un_badRR rfl (inR x1) (by omega) (by omega) (by omega) (by omega) (x_H_coefficient l D Y lo hlt h) (fun M2 th c hm hrr => e_R_coefficient l D Y lo hm h)
set_option maxHeartbeats 4000000 in
theorem u_degree (l : Launch) (D : va_G) (Y : Nat → ClassId) (lo : Nat) (hlt : l.stackTraces = false) {M : Hm} {xa p rf : Nat} {A cap si : Nat → Nat} {P : Nat → Pf} (hcs : cs Y M xa A p P cap si rf) (ma : Nat) (E : Nat → Nat) (x1 x2 : Int32) : unit l D Y lo y_H_degree b_H_degree 3 y_R_degree b_R_degree 4 (some .int) true [.int x1, .int x2] M xa p rf A cap si P ma E := by
  have hcs0 := hcs
  obtain ⟨-, -, -, ⟨-, hpr⟩, -, -, ⟨hs1, hs2⟩, -, -, -, hc1, hc2, hPp⟩ := hcs0
  by_cases h : inR x1 ∧ inV x2
  · obtain ⟨⟨r, hr, rfl⟩, ⟨v, hv, rfl⟩⟩ := h
    exact un_same (v := _) hcs (fun h => by cases h) (by omega) (by omega) (c_H_degree l D Y lo hcs hr hv) (fun M2 th c hm hrr => c_R_degree l D Y lo hm hrr hPp hr hv)
  · exact un_badRR rfl (inR x1) (by omega) (by omega) (by omega) (by omega) (x_H_degree l D Y lo hlt h) (fun M2 th c hm hrr => e_R_degree l D Y lo hm h)
set_option maxHeartbeats 4000000 in
theorem u_isSame (l : Launch) (D : va_G) (Y : Nat → ClassId) (lo : Nat) (hlt : l.stackTraces = false) {M : Hm} {xa p rf : Nat} {A cap si : Nat → Nat} {P : Nat → Pf} (hcs : cs Y M xa A p P cap si rf) (ma : Nat) (E : Nat → Nat) (x1 x2 : Int32) : unit l D Y lo y_H_isSame b_H_isSame 3 y_R_isSame b_R_isSame 5 (some .boolean) false [.int x1, .int x2] M xa p rf A cap si P ma E := by
  have hcs0 := hcs
  obtain ⟨-, -, -, ⟨-, hpr⟩, -, -, ⟨hs1, hs2⟩, -, -, -, hc1, hc2, hPp⟩ := hcs0
  by_cases h : inR x1 ∧ inR x2
  · obtain ⟨⟨r, hr, rfl⟩, ⟨a, ha, rfl⟩⟩ := h
    obtain ⟨z, hz, hz1⟩ : ∃ z : Nat, z ≤ 1 ∧ (z = 1 ↔ tp (P r) = tp (P a)) := by
      by_cases hs : tp (P r) = tp (P a)
      · exact ⟨1, by omega, fun _ => hs, fun _ => rfl⟩
      · exact ⟨0, by omega, fun z => absurd z (by omega), fun z => absurd z hs⟩
    have hz2 : ∀ b : Nat, b ≤ 1 → (b = 1 ↔ tp (P r) = tp (P a)) → b = z := fun b h1 h2 => by
      by_cases hb : b = 1
      · rw [hb, hz1.mpr (h2.mp hb)]
      · have : z ≠ 1 := fun q => hb (h2.mpr (hz1.mp q))
        omega
    refine un_same (v := nI z) hcs (fun _ => ⟨z, hz, rfl⟩) (by omega) (by omega) (ct_wk (c_H_isSame l D Y lo hcs hr ha) (fun r9 M' ⟨b, h1, h2, h3, h4⟩ => ⟨by rw [h1, hz2 b h2 h3]; rfl, h4⟩) (fun _ _ h => h) (Nat.le_refl _) (Nat.le_refl _) (Nat.le_refl _)) (fun M2 th c hm hrr => ct_wk (c_R_isSame l D Y lo hm hrr hPp hr ha) (fun r9 M' ⟨b, h1, h2, h3, c', h4, h5, h6⟩ => ⟨c', by rw [h1, hz2 b h2 h3]; rfl, h4, h5, h6⟩) (fun _ _ h => h) (Nat.le_refl _) (Nat.le_refl _) (Nat.le_refl _))
  · exact un_badI (RR := inR x1 ∧ inR x2) h (by omega) (by omega) (by omega) (by omega) (x_H_isSame l D Y lo hlt h) (fun M2 th c hm hrr => e_R_isSame l D Y lo hm h)
