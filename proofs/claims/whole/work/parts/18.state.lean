/-! The class's state: A the addresses (0 field, 1 sheet, 2 powers, 3 registers, 4 minors, from 10 on the polynomials), P the registers' polynomials, cap the rooms, si which polynomial stands where (12: spare). -/
def cs (Y : Nat → ClassId) (M : Hm) (xa : Nat) (A : Nat → Nat) (p : Nat) (P : Nat → Pf) (cap si : Nat → Nat) (rf : Nat) : Prop :=
  M xa = some ((0, 0), .inr (4, [.ref (A 0), .ref (A 1), .ref (A 2), .ref (A 3), .ref (A 4), .ref (A (si 12)), .int (nI rf)])) ∧
  (∃ gr : Nat → Option Nat, M (A 3) = some ((0, 1), e_q Y 12 gr) ∧ ∀ r, r < 12 → gr r = some (A (si r))) ∧
  (∃ gn : Nat → Option Nat, M (A 4) = some ((0, 2), e_q Y 256 gn) ∧ ∀ c, c < 256 → gn c = some (A (30 + c))) ∧
  (fd M (A 0) p ∧ pr p) ∧ sh Y M (A 1) (A 0) (fun _ => 0) ∧ (∃ g : Nat → Nat → Nat, pt Y M (A 2) (A 0) g) ∧
  ((∀ i, i ≤ 12 → 10 ≤ si i ∧ si i < 23) ∧ ∀ i j, i ≤ 12 → j ≤ 12 → si i = si j → i = j) ∧
  (∀ r, r < 12 → po Y M (si r) (A (si r)) (cap (si r)) (tp (P r))) ∧ (∃ L, po Y M (si 12) (A (si 12)) (cap (si 12)) L) ∧
  (∀ c, c < 256 → ∃ L, po Y M (30 + c) (A (30 + c)) (cap (30 + c)) L) ∧ (∀ i, i ≤ 12 → cap (si i) ≤ 18278) ∧ (∀ c, c < 256 → cap (30 + c) ≤ 338) ∧ ∀ r, r < 12 → ∀ m, P r m < p
/-- the rooms' sum -/
def sm (f : Nat → Nat) : Nat → Nat
  | 0 => 0
  | n + 1 => sm f n + f n
theorem sm_up {f : Nat → Nat} {i v : Nat} : ∀ {n : Nat}, (n ≤ i → sm (va_up f i v) n = sm f n) ∧ (i < n → sm (va_up f i v) n + f i = sm f n + v) := by
  intro n
  induction n with
  | zero => exact ⟨fun _ => rfl, fun h => by omega⟩
  | succ n ih =>
    constructor
    · intro h
      show sm (va_up f i v) n + va_up f i v n = sm f n + f n
      rw [ih.1 (by omega), va_up_ne _ _ (by omega)]
    · intro h
      show sm (va_up f i v) n + va_up f i v n + f i = sm f n + f n + v
      by_cases hn : i = n
      · subst hn
        rw [ih.1 (Nat.le_refl _), va_up_self]
        omega
      · have := ih.2 (by omega)
        rw [va_up_ne _ _ (fun z => hn z.symm)]
        omega
section CSL
variable {Y : Nat → ClassId} {M M' : Hm} {xa p rf : Nat} {A cap si : Nat → Nat} {P : Nat → Pf}
/-- a polynomial of the pool that isn't a register's part of the world stays -/
theorem cs.reg (h : cs Y M xa A p P cap si rf) {r : Nat} (hr : r < 12) (ho : hp_off (fun i => i = 2 ∨ i = si r) M M') (hs : sh Y M' (A 1) (A 0) (fun _ => 0)) {g : Pf} {cp : Nat} (hp : po Y M' (si r) (A (si r)) cp (tp g)) (hcp : cp ≤ 18278) (hg : ∀ m, g m < p) : cs Y M' xa A p (va_up P r g) (va_up cap (si r) cp) si rf := by
  obtain ⟨x0, ⟨gr, x1, hgr⟩, ⟨gn, x2, hgn⟩, ⟨hf, hpr⟩, hs0, ⟨gw, ht⟩, ⟨hs1, hs2⟩, hP, ⟨LS, hS⟩, hN, hc1, hc2, hPp⟩ := h
  have hb := hs1 r (by omega)
  have hne : ∀ i, i ≤ 12 → i ≠ r → si i ≠ si r := fun i hi hir z => hir (hs2 i r hi (by omega) z)
  refine ⟨ho.of x0 (by omega), ⟨gr, ho.of x1 (by omega), hgr⟩, ⟨gn, ho.of x2 (by omega), hgn⟩, ⟨hf.off ho (by omega), hpr⟩, hs, ⟨gw, ht.off ho (by omega)⟩, ⟨hs1, hs2⟩, ?_, ⟨LS, ?_⟩, ?_, ?_, ?_, ?_⟩
  · intro i hi
    by_cases hir : i = r
    · subst hir
      rw [va_up_self, va_up_self]
      exact hp
    · have h1 := hne i (by omega) hir
      have h2 := hs1 i (by omega)
      rw [va_up_ne _ _ h1, va_up_ne _ _ hir]
      exact (hP i hi).off ho (by omega)
  · have h1 := hne 12 (by omega) (by omega)
    have h2 := hs1 12 (by omega)
    rw [va_up_ne _ _ h1]
    exact hS.off ho (by omega)
  · intro c hc
    obtain ⟨L, hL⟩ := hN c hc
    rw [va_up_ne _ _ (by omega)]
    exact ⟨L, hL.off ho (by omega)⟩
  · intro i hi
    by_cases hir : i = r
    · subst hir
      rw [va_up_self]
      exact hcp
    · rw [va_up_ne _ _ (hne i hi hir)]
      exact hc1 i hi
  · intro c hc
    rw [va_up_ne _ _ (by omega)]
    exact hc2 c hc
  · intro i hi m
    by_cases hir : i = r
    · subst hir
      rw [va_up_self]
      exact hg m
    · rw [va_up_ne _ _ hir]
      exact hPp i hi m
/-- .. and the spare one -/
theorem cs.spr (h : cs Y M xa A p P cap si rf) (ho : hp_off (fun i => i = 2 ∨ i = si 12) M M') (hs : sh Y M' (A 1) (A 0) (fun _ => 0)) {L : List (Nat × Nat)} {cp : Nat} (hp : po Y M' (si 12) (A (si 12)) cp L) (hcp : cp ≤ 18278) : cs Y M' xa A p P (va_up cap (si 12) cp) si rf := by
  obtain ⟨x0, ⟨gr, x1, hgr⟩, ⟨gn, x2, hgn⟩, ⟨hf, hpr⟩, hs0, ⟨gw, ht⟩, ⟨hs1, hs2⟩, hP, ⟨LS, hS⟩, hN, hc1, hc2, hPp⟩ := h
  have hb := hs1 12 (by omega)
  have hne : ∀ i, i ≤ 12 → i ≠ 12 → si i ≠ si 12 := fun i hi hir z => hir (hs2 i 12 hi (by omega) z)
  refine ⟨ho.of x0 (by omega), ⟨gr, ho.of x1 (by omega), hgr⟩, ⟨gn, ho.of x2 (by omega), hgn⟩, ⟨hf.off ho (by omega), hpr⟩, hs, ⟨gw, ht.off ho (by omega)⟩, ⟨hs1, hs2⟩, ?_, ⟨L, ?_⟩, ?_, ?_, ?_, hPp⟩
  · intro i hi
    have h1 := hne i (by omega) (by omega)
    have h2 := hs1 i (by omega)
    rw [va_up_ne _ _ h1]
    exact (hP i hi).off ho (by omega)
  · rw [va_up_self]
    exact hp
  · intro c hc
    obtain ⟨L, hL⟩ := hN c hc
    rw [va_up_ne _ _ (by omega)]
    exact ⟨L, hL.off ho (by omega)⟩
  · intro i hi
    by_cases hir : i = 12
    · subst hir
      rw [va_up_self]
      exact hcp
    · rw [va_up_ne _ _ (hne i hi hir)]
      exact hc1 i hi
  · intro c hc
    rw [va_up_ne _ _ (by omega)]
    exact hc2 c hc
/-- nothing of the class has changed -/
theorem cs.off (h : cs Y M xa A p P cap si rf) {S : Nat → Prop} (ho : hp_off S M M') (hS : ∀ i, i < 300 → ¬ S i) : cs Y M' xa A p P cap si rf := by
  obtain ⟨x0, ⟨gr, x1, hgr⟩, ⟨gn, x2, hgn⟩, ⟨hf, hpr⟩, hs0, ⟨gw, ht⟩, ⟨hs1, hs2⟩, hP, ⟨LS, hS9⟩, hN, hc1, hc2, hPp⟩ := h
  exact ⟨ho.of x0 (hS 0 (by omega)), ⟨gr, ho.of x1 (hS 0 (by omega)), hgr⟩, ⟨gn, ho.of x2 (hS 0 (by omega)), hgn⟩, ⟨hf.off ho (hS 1 (by omega)), hpr⟩, hs0.off ho (hS 2 (by omega)), ⟨gw, ht.off ho (hS 3 (by omega))⟩, ⟨hs1, hs2⟩, fun r hr => (hP r hr).off ho (hS _ (by have := hs1 r (by omega); omega)), ⟨LS, hS9.off ho (hS _ (by have := hs1 12 (by omega); omega))⟩, fun c hc => (hN c hc).imp fun L hL => hL.off ho (hS _ (by omega)), hc1, hc2, hPp⟩
end CSL
/-- the spare one changes places with register r -/
def sw (si : Nat → Nat) (r : Nat) : Nat → Nat := fun i => if i = r then si 12 else if i = 12 then si r else si i

theorem room_le {s : State} {pl : Platform} {d d' mc mc' ms ms' : Nat} (hd : d ≤ d') (hc : mc ≤ mc') (hs : ms ≤ ms') (h : s.hasRoom pl (rmL d' mc' ms') = true) : s.hasRoom pl (rmL d mc ms) = true := by
  unfold State.hasRoom at h ⊢
  simp only [Bool.and_eq_true, decide_eq_true_eq] at h ⊢
  have e1 : (rmL d mc ms).locals ≤ (rmL d' mc' ms').locals := Nat.mul_le_mul_left 36 hd
  have e2 : (rmL d mc ms).frames ≤ (rmL d' mc' ms').frames := hd
  have e3 : (rmL d mc ms).cells ≤ (rmL d' mc' ms').cells := hc
  have e4 : (rmL d mc ms).slots ≤ (rmL d' mc' ms').slots := hs
  generalize rmL d mc ms = R1 at *
  generalize rmL d' mc' ms' = R2 at *
  obtain ⟨⟨⟨⟨a1, a2, a3, a4, a5, a6⟩, a7⟩, a8⟩, a9⟩ := h
  exact ⟨⟨⟨⟨by omega, by omega, by omega, by omega, by omega, a6⟩, by omega⟩, by omega⟩, a9⟩
theorem ct_room {ws : List Cond} {y : MethodName} {s : State} {pl : Platform} {d d' mc mc' ms ms' : Nat} (hd : d ≤ d') (hc : mc ≤ mc') (hs : ms ≤ ms') (h : (headSpec ws (rmL d' mc' ms')).appliesLoose y pl s = true) : (headSpec ws (rmL d mc ms)).appliesLoose y pl s = true := by
  unfold Spec.appliesLoose at h ⊢
  split at h
  · simp only [Bool.and_eq_true] at h ⊢
    exact ⟨⟨h.1.1, room_le hd hc hs h.1.2⟩, h.2⟩
  · cases h
/-- a contract may say less, and charge more -/
theorem ct_wk {l : Launch} {D : va_G} {Y : Nat → ClassId} {lo : Nat} {y : MethodName} {cc : ByteArray} {mL : Nat} {ret : Option FieldType} {d d' : Nat} {av : List Value} {M : Hm} {Post Post' : Option Value → Hm → Prop} {PX PX' : String → Hm → Prop} {mc ms mc' ms' : Nat} (h : ct l D Y lo y cc mL ret d av M Post PX mc ms) (h1 : ∀ r M', Post r M' → Post' r M') (h2 : ∀ E M', PX E M' → PX' E M') (hd : d ≤ d') (hc : mc ≤ mc') (hs : ms ≤ ms') : ct l D Y lo y cc mL ret d' av M Post' PX' mc' ms' := by
  intro p e ha hcc hk s m args below hf happ hP hK
  have hap : (headSpec (.code y cc mL ret :: GW) (rmL d mc ms)).appliesLoose y e.platform s = true := ct_room hd hc hs happ
  obtain ⟨n, o, k1, k2, k3, k4⟩ := h p e ha hcc hk s m args below hf hap hP hK
  refine ⟨n, o, k1, k2, k3, ?_⟩
  rcases k4 with ⟨⟨⟨r, M', q1, q2, q3⟩, q4⟩, L, hF, hL⟩ | ⟨q, hq, E, ce, L, ⟨M', hx, q3, q4⟩, z1, z2, z3, z4, z5, z6⟩
  · exact Or.inl ⟨⟨⟨r, M', q1, h1 r M' q2, q3⟩, q4⟩, L, ⟨hF.1, hF.2.1, hF.2.2.mono hc hs⟩, hL⟩
  · exact Or.inr ⟨q, hq, E, ce, L, ⟨M', h2 E M' hx, q3, q4⟩, z1, z2, z3, z4, z5.mono hc hs, z6⟩

set_option maxHeartbeats 4000000 in
set_option maxRecDepth 100000 in
theorem c_H_checkRegisters (l : Launch) (D : va_G) (Y : Nat → ClassId) (lo : Nat) {M : Hm} {a9 b9 c9 : Nat} (ha : a9 < 12) (hb9 : b9 < 12) (hc9 : c9 < 12) : ct l D Y lo y_H_checkRegisters b_H_checkRegisters 3 none 1 [.int (nI a9), .int (nI b9), .int (nI c9)] M (fun r M' => r = none ∧ M = M') nx 0 0 := by
  refine ct_of (by decide) (Nat.le_of_ble_eq_true rfl) ?_
  intro pg eg sg mg bw mt cg ls X hst hl
  have X1 := X
  obtain ⟨hx, hb, hml, hrt, hlocks, hown, hnm, hts, hkz, hex⟩ := X1
  have hG : ∀ w ∈ GW, w.before _ sg = true := fun w h => hts w (List.mem_cons_of_mem _ h)
  have hK := hkz.1
  have hl : lv_has ls 3 [(0, .int (nI a9)), (1, .int (nI b9)), (2, .int (nI c9))] := hl
  refine lv_iload_n hx hb dH_checkRegisters_0 rfl (lv_at hl 0 rfl) ?_
  refine ct_callS (av2 := [.int (nI a9)]) (rest := []) X hst (c_H_checkRegister l D Y lo ha) wc_H_checkRegister ml_H_48 ws_H_checkRegister wn_H md_H_checkRegister (by decide) hl.1 rfl (Nat.le_of_ble_eq_true rfl) ⟨by omega, by omega⟩ (fun _ _ h => h.elim) dH_checkRegisters_1 (fun r M' H locs hp hst => ?_)
  obtain ⟨rfl, rfl⟩ := hp
  refine lv_iload_n hx hb dH_checkRegisters_4 rfl (lv_at hl 1 rfl) ?_
  refine ct_callS (av2 := [.int (nI b9)]) (rest := []) X hst (c_H_checkRegister l D Y lo hb9) wc_H_checkRegister ml_H_48 ws_H_checkRegister wn_H md_H_checkRegister (by decide) hl.1 rfl (Nat.le_of_ble_eq_true rfl) ⟨by omega, by omega⟩ (fun _ _ h => h.elim) dH_checkRegisters_5 (fun r M' H locs hp hst => ?_)
  obtain ⟨rfl, rfl⟩ := hp
  refine lv_iload_n hx hb dH_checkRegisters_8 rfl (lv_at hl 2 rfl) ?_
  refine ct_callS (av2 := [.int (nI c9)]) (rest := []) X hst (c_H_checkRegister l D Y lo hc9) wc_H_checkRegister ml_H_48 ws_H_checkRegister wn_H md_H_checkRegister (by decide) hl.1 rfl (Nat.le_of_ble_eq_true rfl) ⟨by omega, by omega⟩ (fun _ _ h => h.elim) dH_checkRegisters_9 (fun r M' H locs hp hst => ?_)
  obtain ⟨rfl, rfl⟩ := hp
  exact ct_vret X hst ⟨rfl, rfl⟩ (by omega) (by omega) dH_checkRegisters_12

theorem x_cr_call {l : Launch} {D : va_G} {Y : Nat → ClassId} {lo : Nat} (hlt : l.stackTraces = false) (x : Int32) (M : Hm) : ct l D Y lo y_H_checkRegister b_H_checkRegister 1 none 6 [.int x] M (fun r M' => r = none ∧ M = M' ∧ inR x) (fun E M' => E = EI ∧ M = M' ∧ ¬ inR x) 1 6 := by
  by_cases h : inR x
  · obtain ⟨j, hj, rfl⟩ := h
    exact ct_wk (c_H_checkRegister l D Y lo hj) (fun r M' hp => ⟨hp.1, hp.2, j, hj, rfl⟩) (fun E M' hp => hp.elim) (by omega) (by omega) (by omega)
  · exact ct_wk (x_H_checkRegister l D Y lo hlt h) (fun r M' hp => hp.elim) (fun E M' hp => ⟨hp.1, hp.2, h⟩) (by omega) (by omega) (by omega)
theorem x_cv_call {l : Launch} {D : va_G} {Y : Nat → ClassId} {lo : Nat} (hlt : l.stackTraces = false) (x : Int32) (M : Hm) : ct l D Y lo y_H_checkVariable b_H_checkVariable 1 none 6 [.int x] M (fun r M' => r = none ∧ M = M' ∧ inV x) (fun E M' => E = EA ∧ M = M' ∧ ¬ inV x) 1 6 := by
  by_cases h : inV x
  · obtain ⟨j, hj, rfl⟩ := h
    exact ct_wk (c_H_checkVariable l D Y lo hj) (fun r M' hp => ⟨hp.1, hp.2, j, hj, rfl⟩) (fun E M' hp => hp.elim) (by omega) (by omega) (by omega)
  · exact ct_wk (x_H_checkVariable l D Y lo hlt h) (fun r M' hp => hp.elim) (fun E M' hp => ⟨hp.1, hp.2, h⟩) (by omega) (by omega) (by omega)

set_option maxHeartbeats 4000000 in
set_option maxRecDepth 100000 in
theorem x_H_checkRegisters (l : Launch) (D : va_G) (Y : Nat → ClassId) (lo : Nat) (hlt : l.stackTraces = false) {M : Hm} {a9 b9 c9 : Int32} (hno : ¬ (inR a9 ∧ inR b9 ∧ inR c9)) : ct l D Y lo y_H_checkRegisters b_H_checkRegisters 3 none 7 [.int a9, .int b9, .int c9] M (fun _ _ => False) (fun E M' => E = EI ∧ M = M') 3 18 := by
  refine ct_of (by decide) (Nat.le_of_ble_eq_true rfl) ?_
  intro pg eg sg mg bw mt cg ls X hst hl
  have X1 := X
  obtain ⟨hx, hb, hml, hrt, hlocks, hown, hnm, hts, hkz, hex⟩ := X1
  have hG : ∀ w ∈ GW, w.before _ sg = true := fun w h => hts w (List.mem_cons_of_mem _ h)
  have hK := hkz.1
  have hl : lv_has ls 3 [(0, .int a9), (1, .int b9), (2, .int c9)] := hl
  refine lv_iload_n hx hb dH_checkRegisters_0 rfl (lv_at hl 0 rfl) ?_
  refine ct_callS (av2 := [.int a9]) (rest := []) X hst (x_cr_call hlt a9 M) wc_H_checkRegister ml_H_48 ws_H_checkRegister wn_H md_H_checkRegister (by decide) hl.1 rfl (Nat.le_of_ble_eq_true rfl) ⟨by omega, by omega⟩ (fun E M1 h => ⟨h.1, h.2.1⟩) dH_checkRegisters_1 (fun r M' H locs hp hst => ?_)
  obtain ⟨rfl, rfl, hra⟩ := hp
  refine lv_iload_n hx hb dH_checkRegisters_4 rfl (lv_at hl 1 rfl) ?_
  refine ct_callS (av2 := [.int b9]) (rest := []) X hst (x_cr_call hlt b9 M) wc_H_checkRegister ml_H_48 ws_H_checkRegister wn_H md_H_checkRegister (by decide) hl.1 rfl (Nat.le_of_ble_eq_true rfl) ⟨by omega, by omega⟩ (fun E M1 h => ⟨h.1, h.2.1⟩) dH_checkRegisters_5 (fun r M' H locs hp hst => ?_)
  obtain ⟨rfl, rfl, hrb⟩ := hp
  refine lv_iload_n hx hb dH_checkRegisters_8 rfl (lv_at hl 2 rfl) ?_
  refine ct_callS (av2 := [.int c9]) (rest := []) X hst (x_cr_call hlt c9 M) wc_H_checkRegister ml_H_48 ws_H_checkRegister wn_H md_H_checkRegister (by decide) hl.1 rfl (Nat.le_of_ble_eq_true rfl) ⟨by omega, by omega⟩ (fun E M1 h => ⟨h.1, h.2.1⟩) dH_checkRegisters_9 (fun r M' H locs hp hst => ?_)
  obtain ⟨rfl, rfl, hrc⟩ := hp
  exact absurd ⟨hra, hrb, hrc⟩ hno

set_option maxHeartbeats 4000000 in
set_option maxRecDepth 100000 in
theorem c_H_refuse (l : Launch) (D : va_G) (Y : Nat → ClassId) (lo : Nat) {M : Hm} {xa p rf : Nat} {A cap si : Nat → Nat} {P : Nat → Pf} (hcs : cs Y M xa A p P cap si rf) : ct l D Y lo y_H_refuse b_H_refuse 1 (some .boolean) 0 [.ref xa] M (fun r M' => r = some (.int (nI 0)) ∧ cs Y M' xa A p P cap si (rf + 1) ∧ hp_off (fun i => i = 0) M M') nx 0 0 := by
  refine ct_of (by decide) (Nat.le_of_ble_eq_true rfl) ?_
  intro pg eg sg mg bw mt cg ls X hst hl
  have X1 := X
  obtain ⟨hx, hb, hml, hrt, hlocks, hown, hnm, hts, hkz, hex⟩ := X1
  have hG : ∀ w ∈ GW, w.before _ sg = true := fun w h => hts w (List.mem_cons_of_mem _ h)
  have hK := hkz.1
  have hl : lv_has ls 1 [(0, .ref xa)] := hl
  obtain ⟨x0, ⟨gr, x1, hgr⟩, ⟨gn, x2, hgn⟩, ⟨hf, hpr⟩, hs, ⟨gw, ht⟩, ⟨hs1, hs2⟩, hP, ⟨LS, hS⟩, hN, hc1, hc2, hPp⟩ := hcs
  refine lv_aload_n hx hb dH_refuse_0 rfl (lv_at hl 0 rfl) ?_
  refine lv_dup hx hb dH_refuse_1 rfl ?_
  refine hp_get hx hb hG in_H hown hK hst x0 rfl 6 (by decide) (hG _ fl_H_179) rfl rfl dH_refuse_2 ?_
  refine lv_iconst (v := nI 1) hx hb dH_refuse_5 (by decide +kernel) ?_
  refine t_iadd hx hb dH_refuse_6 (v := nI (rf + 1)) (nI_add _ _) ?_
  refine hp_put hx hb hG in_H ty_H tyok_H nm_H hown hK hst x0 rfl 6 (by decide) (hG _ fl_H_179) rfl rfl rfl rfl (Nat.le_of_ble_eq_true rfl) dH_refuse_7 (fs' := [.ref (A 0), .ref (A 1), .ref (A 2), .ref (A 3), .ref (A 4), .ref (A (si 12)), .int (nI (rf + 1))]) rfl (fun H locs hst => ?_)
  generalize hM2 : hp_up M xa ((0, 0), .inr (4, [.ref (A 0), .ref (A 1), .ref (A 2), .ref (A 3), .ref (A 4), .ref (A (si 12)), .int (nI (rf + 1))])) = M1 at hst
  have f3 : M1 xa = some ((0, 0), .inr (4, [.ref (A 0), .ref (A 1), .ref (A 2), .ref (A 3), .ref (A 4), .ref (A (si 12)), .int (nI (rf + 1))])) := by rw [← hM2]; exact hp_up_self _ _ _
  have f4 : M1 (A 3) = some ((0, 1), e_q Y 12 gr) := by rw [← hM2]; exact hp_kt x0 x1 (tg2 (by decide))
  have f5 : M1 (A 4) = some ((0, 2), e_q Y 256 gn) := by rw [← hM2]; exact hp_kt x0 x2 (tg2 (by decide))
  have o6 : hp_off (fun i => i = 0) M M1 := by rw [← hM2]; exact hp_off.up x0 rfl
  refine lv_iconst (v := nI 0) hx hb dH_refuse_10 (by decide +kernel) ?_
  exact ct_zret X hst (by omega) ⟨rfl, ⟨f3, ⟨gr, f4, hgr⟩, ⟨gn, f5, hgn⟩, ⟨hf.off o6 (by omega), hpr⟩, hs.off o6 (by omega), ⟨gw, ht.off o6 (by omega)⟩, ⟨hs1, hs2⟩, fun r hr => (hP r hr).off o6 (by have := hs1 r (by omega); omega), ⟨LS, hS.off o6 (by have := hs1 12 (by omega); omega)⟩, fun c hc => (hN c hc).imp fun L hL => hL.off o6 (by omega), hc1, hc2, hPp⟩, o6⟩ (by omega) (by omega) dH_refuse_11

set_option maxHeartbeats 4000000 in
set_option maxRecDepth 100000 in
theorem c_H_exchangeSpare (l : Launch) (D : va_G) (Y : Nat → ClassId) (lo : Nat) {M : Hm} {xa p rf : Nat} {A cap si : Nat → Nat} {P : Nat → Pf} (hcs : cs Y M xa A p P cap si rf) {r : Nat} (hr : r < 12) {g : Pf} (hS0 : po Y M (si 12) (A (si 12)) (cap (si 12)) (tp g)) (hg : ∀ m, g m < p) : ct l D Y lo y_H_exchangeSpare b_H_exchangeSpare 3 none 0 [.ref xa, .int (nI r)] M (fun r9 M' => r9 = none ∧ cs Y M' xa A p (va_up P r g) cap (sw si r) rf ∧ hp_off (fun i => i = 0) M M') nx 0 0 := by
  refine ct_of (by decide) (Nat.le_of_ble_eq_true rfl) ?_
  intro pg eg sg mg bw mt cg ls X hst hl
  have X1 := X
  obtain ⟨hx, hb, hml, hrt, hlocks, hown, hnm, hts, hkz, hex⟩ := X1
  have hG : ∀ w ∈ GW, w.before _ sg = true := fun w h => hts w (List.mem_cons_of_mem _ h)
  have hK := hkz.1
  have hl : lv_has ls 3 [(0, .ref xa), (1, .int (nI r))] := hl
  obtain ⟨x0, ⟨gr, x1, hgr⟩, ⟨gn, x2, hgn⟩, ⟨hf, hpr⟩, hs, ⟨gw, ht⟩, ⟨hs1, hs2⟩, hP, ⟨LS, hS⟩, hN, hc1, hc2, hPp⟩ := hcs
  refine lv_aload_n hx hb dH_exchangeSpare_0 rfl (lv_at hl 0 rfl) ?_
  refine hp_get hx hb hG in_H hown hK hst x0 rfl 3 (by decide) (hG _ fl_H_11) rfl rfl dH_exchangeSpare_1 ?_
  refine lv_iload_n hx hb dH_exchangeSpare_4 rfl (lv_at hl 1 rfl) ?_
  refine hp_aald hx hb hK rfl hst x1 (j := r) (v := (A (si r))) (by omega) (by omega) (hgr r hr) dH_exchangeSpare_5 ?_
  refine lv_astore_n (lv' := [(2, .ref (A (si r))), (0, .ref xa), (1, .int (nI r))]) hx hb dH_exchangeSpare_6 rfl hl (by decide) rfl (fun ls hl => ?_)
  refine lv_aload_n hx hb dH_exchangeSpare_7 rfl (lv_at hl 1 rfl) ?_
  refine hp_get hx hb hG in_H hown hK hst x0 rfl 3 (by decide) (hG _ fl_H_11) rfl rfl dH_exchangeSpare_8 ?_
  refine lv_iload_n hx hb dH_exchangeSpare_11 rfl (lv_at hl 2 rfl) ?_
  refine lv_aload_n hx hb dH_exchangeSpare_12 rfl (lv_at hl 1 rfl) ?_
  refine hp_get hx hb hG in_H hown hK hst x0 rfl 5 (by decide) (hG _ fl_H_44) rfl rfl dH_exchangeSpare_13 ?_
  obtain ⟨fs9, hcell⟩ := hS0.cell
  refine hp_aast (r := (R_P, T_P, 3)) hx hb hK rfl hst x1 hcell rfl (j := r) hr (by omega) dH_exchangeSpare_16 (fun H locs hst => ?_)
  generalize hM2 : hp_up M (A 3) ((0, 1), e_q Y 12 (va_up gr r (some (A (si 12))))) = M1 at hst
  have f3 : M1 (A 3) = some ((0, 1), e_q Y 12 (va_up gr r (some (A (si 12))))) := by rw [← hM2]; exact hp_up_self _ _ _
  have f4 : M1 xa = some ((0, 0), .inr (4, [.ref (A 0), .ref (A 1), .ref (A 2), .ref (A 3), .ref (A 4), .ref (A (si 12)), .int (nI rf)])) := by rw [← hM2]; exact hp_kt x1 x0 (tg2 (by decide))
  have f5 : M1 (A 4) = some ((0, 2), e_q Y 256 gn) := by rw [← hM2]; exact hp_kt x1 x2 (tg2 (by decide))
  have o6 : hp_off (fun i => i = 0) M M1 := by rw [← hM2]; exact hp_off.up x1 rfl
  refine lv_aload_n hx hb dH_exchangeSpare_17 rfl (lv_at hl 1 rfl) ?_
  refine lv_aload_n hx hb dH_exchangeSpare_18 rfl (lv_at hl 0 rfl) ?_
  refine hp_put hx hb hG in_H ty_H tyok_H nm_H hown hK hst f4 rfl 5 (by decide) (hG _ fl_H_44) rfl rfl rfl rfl (Nat.le_of_ble_eq_true rfl) dH_exchangeSpare_19 (fs' := [.ref (A 0), .ref (A 1), .ref (A 2), .ref (A 3), .ref (A 4), .ref (A (si r)), .int (nI rf)]) rfl (fun H locs hst => ?_)
  generalize hM8 : hp_up M1 xa ((0, 0), .inr (4, [.ref (A 0), .ref (A 1), .ref (A 2), .ref (A 3), .ref (A 4), .ref (A (si r)), .int (nI rf)])) = M7 at hst
  have f9 : M7 xa = some ((0, 0), .inr (4, [.ref (A 0), .ref (A 1), .ref (A 2), .ref (A 3), .ref (A 4), .ref (A (si r)), .int (nI rf)])) := by rw [← hM8]; exact hp_up_self _ _ _
  have f10 : M7 (A 4) = some ((0, 2), e_q Y 256 gn) := by rw [← hM8]; exact hp_kt f4 f5 (tg2 (by decide))
  have f11 : M7 (A 3) = some ((0, 1), e_q Y 12 (va_up gr r (some (A (si 12))))) := by rw [← hM8]; exact hp_kt f4 f3 (tg2 (by decide))
  have o12 : hp_off (fun i => i = 0) M M7 := by rw [← hM8]; exact hp_off.tr o6 (hp_off.up f4 rfl)
  have hsw12 : sw si r 12 = si r := by unfold sw; rw [if_neg (by omega), if_pos rfl]
  have hswr : sw si r r = si 12 := by unfold sw; rw [if_pos rfl]
  have hswn : ∀ i, i ≠ r → i ≠ 12 → sw si r i = si i := fun i h1 h2 => by unfold sw; rw [if_neg h1, if_neg h2]
  have hx0 : M7 xa = some ((0, 0), .inr (4, [.ref (A 0), .ref (A 1), .ref (A 2), .ref (A 3), .ref (A 4), .ref (A (sw si r 12)), .int (nI rf)])) := by rw [hsw12]; exact f9
  have hgr2 : ∀ i, i < 12 → va_up gr r (some (A (si 12))) i = some (A (sw si r i)) := by
    intro i hi
    by_cases h9 : i = r
    · subst h9; rw [va_up_self, hswr]
    · rw [va_up_ne _ _ h9, hswn i h9 (by omega)]; exact hgr i hi
  have hcas : ∀ i, i ≤ 12 → ∃ k, k ≤ 12 ∧ sw si r i = si k ∧ (i = r ∧ k = 12 ∨ i = 12 ∧ k = r ∨ i ≠ r ∧ i ≠ 12 ∧ k = i) := by
    intro i hi
    by_cases h9 : i = r
    · subst h9; exact ⟨12, by omega, hswr, Or.inl ⟨rfl, rfl⟩⟩
    · by_cases h8 : i = 12
      · subst h8; exact ⟨r, by omega, hsw12, Or.inr (Or.inl ⟨rfl, rfl⟩)⟩
      · exact ⟨i, hi, hswn i h9 h8, Or.inr (Or.inr ⟨h9, h8, rfl⟩)⟩
  have hA1 : ∀ i, i ≤ 12 → 10 ≤ sw si r i ∧ sw si r i < 23 := by
    intro i hi
    obtain ⟨k, hk, he, -⟩ := hcas i hi
    rw [he]; exact hs1 k hk
  have hA2 : ∀ i j, i ≤ 12 → j ≤ 12 → sw si r i = sw si r j → i = j := by
    intro i j hi hj he
    obtain ⟨k, hk, e1, c1⟩ := hcas i hi
    obtain ⟨k2, hk2, e2, c2⟩ := hcas j hj
    rw [e1, e2] at he
    have := hs2 k k2 hk hk2 he
    omega
  have hA3 : ∀ i, i < 12 → po Y M7 (sw si r i) (A (sw si r i)) (cap (sw si r i)) (tp (va_up P r g i)) := by
    intro i hi
    by_cases h9 : i = r
    · subst h9; rw [hswr, va_up_self]; exact hS0.off o12 (by have := hs1 12 (by omega); omega)
    · rw [hswn i h9 (by omega), va_up_ne _ _ h9]; exact (hP i hi).off o12 (by have := hs1 i (by omega); omega)
  have hA4 : ∀ i, i ≤ 12 → cap (sw si r i) ≤ 18278 := by
    intro i hi
    obtain ⟨k, hk, he, -⟩ := hcas i hi
    rw [he]; exact hc1 k hk
  have hA5 : ∀ i, i < 12 → ∀ m, va_up P r g i m < p := by
    intro i hi m
    by_cases h9 : i = r
    · subst h9; rw [va_up_self]; exact hg m
    · rw [va_up_ne _ _ h9]; exact hPp i hi m
  exact ct_vret X hst ⟨rfl, ⟨hx0, ⟨_, f11, hgr2⟩, ⟨gn, f10, hgn⟩, ⟨hf.off o12 (by omega), hpr⟩, hs.off o12 (by omega), ⟨gw, ht.off o12 (by omega)⟩, ⟨hA1, hA2⟩, hA3, ⟨_, by rw [hsw12]; exact (hP r hr).off o12 (by have := hs1 r (by omega); omega)⟩, fun c hc => (hN c hc).imp fun L hL => hL.off o12 (by omega), hA4, hc2, hA5⟩, o12⟩ (by omega) (by omega) dH_exchangeSpare_22
