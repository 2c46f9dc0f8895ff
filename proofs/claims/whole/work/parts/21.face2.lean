/-! The face: the methods that only answer. -/
theorem tp_b {g : Pf} {p : Nat} (hp : p ≤ 46337) (hg : ∀ m, g m < p) : ∀ q ∈ tp g, q.1 < 2 ^ 31 ∧ q.2 < 2 ^ 31 := by
  intro q hq
  obtain ⟨h1, h2, -⟩ := tp_mem hq
  have h3 := mv_lt h1
  have h4 := hg q.1
  rw [h2]
  omega
/-- the sum that value gathers -/
def vlF (p : Nat) (ys : Nat → Nat) : List (Nat × Nat) → Nat → Nat
  | [], z => z
  | q :: qs, z => vlF p ys qs ((z + q.2 * atF p (fun v k => pw p (ys v) k) q.1 3) % p)
theorem atF_congr {p k : Nat} {g g' : Nat → Nat → Nat} (h : ∀ v, v < 3 → g v (xe k v) = g' v (xe k v)) : ∀ {n : Nat}, n ≤ 3 → atF p g k n = atF p g' k n := by
  intro n
  induction n with
  | zero => intro _; rfl
  | succ n ih =>
    intro hn
    show atF p g k n * g n (xe k n) % p = atF p g' k n * g' n (xe k n) % p
    rw [ih (by omega), h n (by omega)]
theorem atF_lt {p k : Nat} {g : Nat → Nat → Nat} (hp : 2 ≤ p) : ∀ {n : Nat}, atF p g k n < p := by
  intro n
  cases n with
  | zero => exact hp
  | succ n => exact Nat.mod_lt _ (by omega)
def gd3 (L : List (Nat × Nat)) (g : Nat) : Nat → Nat
  | 0 => g
  | v + 1 => max (gd3 L g v) (dgl v L 0)
noncomputable def gdA (P : Nat → Pf) : Nat → Nat
  | 0 => 0
  | r + 1 => gd3 (tp (P r)) (gdA P r) 3
theorem gd3_lt {L : List (Nat × Nat)} {g : Nat} (h : g < 64) : ∀ v, gd3 L g v < 64
  | 0 => h
  | v + 1 => by
    have h1 := gd3_lt (L := L) h v
    have h2 := dgl_lt (v := v) (g := 0) (L := L) (by omega)
    show max _ _ < 64
    omega
theorem gdA_lt (P : Nat → Pf) : ∀ r, gdA P r < 64
  | 0 => by show 0 < 64; omega
  | r + 1 => gd3_lt (gdA_lt P r) 3

set_option maxHeartbeats 4000000 in
set_option maxRecDepth 100000 in
theorem c_H_terms (l : Launch) (D : va_G) (Y : Nat → ClassId) (lo : Nat) {M : Hm} {xa p rf : Nat} {A cap si : Nat → Nat} {P : Nat → Pf} (hcs : cs Y M xa A p P cap si rf) {r : Nat} (hr : r < 12) : ct l D Y lo y_H_terms b_H_terms 2 (some .int) 1 [.ref xa, .int (nI r)] M (fun r9 M' => r9 = some (.int (nI (tp (P r)).length)) ∧ M = M') nx 0 0 := by
  refine ct_of (by decide) (Nat.le_of_ble_eq_true rfl) ?_
  intro pg eg sg mg bw mt cg ls X hst hl
  have X1 := X
  obtain ⟨hx, hb, hml, hrt, hlocks, hown, hnm, hts, hkz, hex⟩ := X1
  have hG : ∀ w ∈ GW, w.before _ sg = true := fun w h => hts w (List.mem_cons_of_mem _ h)
  have hK := hkz.1
  have hl : lv_has ls 2 [(0, .ref xa), (1, .int (nI r))] := hl
  have hcs0 := hcs
  obtain ⟨x0, ⟨gr, x1, hgr⟩, ⟨gn, x2, hgn⟩, ⟨hf, hpr⟩, hs, ⟨gw, ht⟩, ⟨hs1, hs2⟩, hP, ⟨LS, hS⟩, hN, hc1, hc2, hPp⟩ := hcs
  have hpp := hf.2.1
  have hpp3 := hf.2.2
  have hf0 := hf.1
  refine lv_iload_n hx hb dH_terms_0 rfl (lv_at hl 1 rfl) ?_
  refine ct_callS (av2 := [.int (nI r)]) (rest := []) X hst (c_H_checkRegister l D Y lo hr) wc_H_checkRegister ml_H_48 ws_H_checkRegister wn_H md_H_checkRegister (by decide) hl.1 rfl (Nat.le_of_ble_eq_true rfl) ⟨by omega, by omega⟩ (fun _ _ h => h.elim) dH_terms_1 (fun r M' H locs hp hst => ?_)
  obtain ⟨rfl, rfl⟩ := hp
  refine lv_aload_n hx hb dH_terms_4 rfl (lv_at hl 0 rfl) ?_
  refine hp_get hx hb hG in_H hown hK hst x0 rfl 3 (by decide) (hG _ fl_H_11) rfl rfl dH_terms_5 ?_
  refine lv_iload_n hx hb dH_terms_8 rfl (lv_at hl 1 rfl) ?_
  refine hp_aald hx hb hK rfl hst x1 (j := r) (v := (A (si r))) (by omega) (by omega) (hgr r hr) dH_terms_9 ?_
  have hPr := hP r hr
  obtain ⟨a9, b9, fa9, fb9, h09, h19, h29, hL9, hn9, hc19, hc29⟩ := hPr
  refine hp_get hx hb hG in_P hown hK hst h09 rfl 2 (by decide) (hG _ fl_H_109) rfl rfl dH_terms_10 ?_
  exact ct_iret X hst ⟨rfl, rfl⟩ (by omega) (by omega) dH_terms_13

set_option maxHeartbeats 4000000 in
set_option maxRecDepth 100000 in
theorem x_H_terms (l : Launch) (D : va_G) (Y : Nat → ClassId) (lo : Nat) (hlt : l.stackTraces = false) {M : Hm} {xa : Nat} {x1 : Int32} (hno : ¬ inR x1) : ct l D Y lo y_H_terms b_H_terms 2 (some .int) 7 [.ref xa, .int x1] M (fun _ _ => False) (fun E M' => E = EI ∧ M = M') 1 6 := by
  refine ct_of (by decide) (Nat.le_of_ble_eq_true rfl) ?_
  intro pg eg sg mg bw mt cg ls X hst hl
  have X1 := X
  obtain ⟨hx, hb, hml, hrt, hlocks, hown, hnm, hts, hkz, hex⟩ := X1
  have hG : ∀ w ∈ GW, w.before _ sg = true := fun w h => hts w (List.mem_cons_of_mem _ h)
  have hK := hkz.1
  have hl : lv_has ls 2 [(0, .ref xa), (1, .int x1)] := hl
  refine lv_iload_n hx hb dH_terms_0 rfl (lv_at hl 1 rfl) ?_
  refine ct_callS (av2 := [.int x1]) (rest := []) X hst (x_H_checkRegister l D Y lo hlt hno) wc_H_checkRegister ml_H_48 ws_H_checkRegister wn_H md_H_checkRegister (by decide) hl.1 rfl (Nat.le_of_ble_eq_true rfl) ⟨by omega, by omega⟩ (fun E M1 h => h) dH_terms_1 (fun r M' H locs hp hst => ?_)
  exact False.elim hp

set_option maxHeartbeats 4000000 in
set_option maxRecDepth 100000 in
theorem c_H_degree (l : Launch) (D : va_G) (Y : Nat → ClassId) (lo : Nat) {M : Hm} {xa p rf : Nat} {A cap si : Nat → Nat} {P : Nat → Pf} (hcs : cs Y M xa A p P cap si rf) {r v : Nat} (hr : r < 12) (hv : v < 3) : ct l D Y lo y_H_degree b_H_degree 3 (some .int) 2 [.ref xa, .int (nI r), .int (nI v)] M (fun r9 M' => r9 = some (.int (nI (dgl v (tp (P r)) 0))) ∧ M = M') nx 0 0 := by
  refine ct_of (by decide) (Nat.le_of_ble_eq_true rfl) ?_
  intro pg eg sg mg bw mt cg ls X hst hl
  have X1 := X
  obtain ⟨hx, hb, hml, hrt, hlocks, hown, hnm, hts, hkz, hex⟩ := X1
  have hG : ∀ w ∈ GW, w.before _ sg = true := fun w h => hts w (List.mem_cons_of_mem _ h)
  have hK := hkz.1
  have hl : lv_has ls 3 [(0, .ref xa), (1, .int (nI r)), (2, .int (nI v))] := hl
  have hcs0 := hcs
  obtain ⟨x0, ⟨gr, x1, hgr⟩, ⟨gn, x2, hgn⟩, ⟨hf, hpr⟩, hs, ⟨gw, ht⟩, ⟨hs1, hs2⟩, hP, ⟨LS, hS⟩, hN, hc1, hc2, hPp⟩ := hcs
  have hpp := hf.2.1
  have hpp3 := hf.2.2
  have hf0 := hf.1
  refine lv_iload_n hx hb dH_degree_0 rfl (lv_at hl 1 rfl) ?_
  refine ct_callS (av2 := [.int (nI r)]) (rest := []) X hst (c_H_checkRegister l D Y lo hr) wc_H_checkRegister ml_H_48 ws_H_checkRegister wn_H md_H_checkRegister (by decide) hl.1 rfl (Nat.le_of_ble_eq_true rfl) ⟨by omega, by omega⟩ (fun _ _ h => h.elim) dH_degree_1 (fun r M' H locs hp hst => ?_)
  obtain ⟨rfl, rfl⟩ := hp
  refine lv_iload_n hx hb dH_degree_4 rfl (lv_at hl 2 rfl) ?_
  refine ct_callS (av2 := [.int (nI v)]) (rest := []) X hst (c_H_checkVariable l D Y lo hv) wc_H_checkVariable ml_H_58 ws_H_checkVariable wn_H md_H_checkVariable (by decide) hl.1 rfl (Nat.le_of_ble_eq_true rfl) ⟨by omega, by omega⟩ (fun _ _ h => h.elim) dH_degree_5 (fun r M' H locs hp hst => ?_)
  obtain ⟨rfl, rfl⟩ := hp
  refine lv_aload_n hx hb dH_degree_8 rfl (lv_at hl 0 rfl) ?_
  refine hp_get hx hb hG in_H hown hK hst x0 rfl 3 (by decide) (hG _ fl_H_11) rfl rfl dH_degree_9 ?_
  refine lv_iload_n hx hb dH_degree_12 rfl (lv_at hl 1 rfl) ?_
  refine hp_aald hx hb hK rfl hst x1 (j := r) (v := (A (si r))) (by omega) (by omega) (hgr r hr) dH_degree_13 ?_
  obtain ⟨fs_r, cell_r⟩ := (hP r hr).cell
  refine lv_iload_n hx hb dH_degree_14 rfl (lv_at hl 2 rfl) ?_
  refine ct_callV (av2 := [.int (nI v)]) (rest := []) (b := (A (si r))) X hst (c_P_degreeIn l D Y lo (hP r hr) hv (fun q hq => (tp_b hpp3 (hPp r hr) q hq).1)) cell_r rfl wc_P_degreeIn ml_H_85 wi_P_degreeIn wl_P_degreeIn wn_P md_P_degreeIn (by decide) hl.1 rfl (Nat.le_of_ble_eq_true rfl) ⟨by omega, by omega⟩ (fun _ _ h => h.elim) dH_degree_15 (fun r M' H locs hp hst => ?_)
  obtain ⟨rfl, rfl⟩ := hp
  exact ct_iret X hst ⟨rfl, rfl⟩ (by omega) (by omega) dH_degree_18

set_option maxHeartbeats 4000000 in
set_option maxRecDepth 100000 in
theorem x_H_degree (l : Launch) (D : va_G) (Y : Nat → ClassId) (lo : Nat) (hlt : l.stackTraces = false) {M : Hm} {xa : Nat} {x1 x2 : Int32} (hno : ¬ (inR x1 ∧ inV x2)) : ct l D Y lo y_H_degree b_H_degree 3 (some .int) 7 [.ref xa, .int x1, .int x2] M (fun _ _ => False) (fun E M' => M = M' ∧ (E = EI ∧ ¬ (inR x1) ∨ E = EA ∧ (inR x1))) 2 12 := by
  refine ct_of (by decide) (Nat.le_of_ble_eq_true rfl) ?_
  intro pg eg sg mg bw mt cg ls X hst hl
  have X1 := X
  obtain ⟨hx, hb, hml, hrt, hlocks, hown, hnm, hts, hkz, hex⟩ := X1
  have hG : ∀ w ∈ GW, w.before _ sg = true := fun w h => hts w (List.mem_cons_of_mem _ h)
  have hK := hkz.1
  have hl : lv_has ls 3 [(0, .ref xa), (1, .int x1), (2, .int x2)] := hl
  refine lv_iload_n hx hb dH_degree_0 rfl (lv_at hl 1 rfl) ?_
  refine ct_callS (av2 := [.int x1]) (rest := []) X hst (x_cr_call hlt x1 M) wc_H_checkRegister ml_H_48 ws_H_checkRegister wn_H md_H_checkRegister (by decide) hl.1 rfl (Nat.le_of_ble_eq_true rfl) ⟨by omega, by omega⟩ (fun E M1 h => ⟨h.2.1, Or.inl ⟨h.1, h.2.2⟩⟩) dH_degree_1 (fun r M' H locs hp hst => ?_)
  obtain ⟨rfl, rfl, h1⟩ := hp
  refine lv_iload_n hx hb dH_degree_4 rfl (lv_at hl 2 rfl) ?_
  refine ct_callS (av2 := [.int x2]) (rest := []) X hst (x_cv_call hlt x2 M) wc_H_checkVariable ml_H_58 ws_H_checkVariable wn_H md_H_checkVariable (by decide) hl.1 rfl (Nat.le_of_ble_eq_true rfl) ⟨by omega, by omega⟩ (fun E M1 h => ⟨h.2.1, Or.inr ⟨h.1, h1⟩⟩) dH_degree_5 (fun r M' H locs hp hst => ?_)
  obtain ⟨rfl, rfl, h2⟩ := hp
  exact absurd ⟨h1, h2⟩ hno

set_option maxHeartbeats 4000000 in
set_option maxRecDepth 100000 in
theorem c_H_isSame (l : Launch) (D : va_G) (Y : Nat → ClassId) (lo : Nat) {M : Hm} {xa p rf : Nat} {A cap si : Nat → Nat} {P : Nat → Pf} (hcs : cs Y M xa A p P cap si rf) {r a : Nat} (hr : r < 12) (ha : a < 12) : ct l D Y lo y_H_isSame b_H_isSame 3 (some .boolean) 1 [.ref xa, .int (nI r), .int (nI a)] M (fun r9 M' => ∃ b : Nat, r9 = some (.int (nI b)) ∧ b ≤ 1 ∧ (b = 1 ↔ tp (P r) = tp (P a)) ∧ M = M') nx 0 0 := by
  refine ct_of (by decide) (Nat.le_of_ble_eq_true rfl) ?_
  intro pg eg sg mg bw mt cg ls X hst hl
  have X1 := X
  obtain ⟨hx, hb, hml, hrt, hlocks, hown, hnm, hts, hkz, hex⟩ := X1
  have hG : ∀ w ∈ GW, w.before _ sg = true := fun w h => hts w (List.mem_cons_of_mem _ h)
  have hK := hkz.1
  have hl : lv_has ls 3 [(0, .ref xa), (1, .int (nI r)), (2, .int (nI a))] := hl
  have hcs0 := hcs
  obtain ⟨x0, ⟨gr, x1, hgr⟩, ⟨gn, x2, hgn⟩, ⟨hf, hpr⟩, hs, ⟨gw, ht⟩, ⟨hs1, hs2⟩, hP, ⟨LS, hS⟩, hN, hc1, hc2, hPp⟩ := hcs
  have hpp := hf.2.1
  have hpp3 := hf.2.2
  have hf0 := hf.1
  refine lv_iload_n hx hb dH_isSame_0 rfl (lv_at hl 1 rfl) ?_
  refine ct_callS (av2 := [.int (nI r)]) (rest := []) X hst (c_H_checkRegister l D Y lo hr) wc_H_checkRegister ml_H_48 ws_H_checkRegister wn_H md_H_checkRegister (by decide) hl.1 rfl (Nat.le_of_ble_eq_true rfl) ⟨by omega, by omega⟩ (fun _ _ h => h.elim) dH_isSame_1 (fun r M' H locs hp hst => ?_)
  obtain ⟨rfl, rfl⟩ := hp
  refine lv_iload_n hx hb dH_isSame_4 rfl (lv_at hl 2 rfl) ?_
  refine ct_callS (av2 := [.int (nI a)]) (rest := []) X hst (c_H_checkRegister l D Y lo ha) wc_H_checkRegister ml_H_48 ws_H_checkRegister wn_H md_H_checkRegister (by decide) hl.1 rfl (Nat.le_of_ble_eq_true rfl) ⟨by omega, by omega⟩ (fun _ _ h => h.elim) dH_isSame_5 (fun r M' H locs hp hst => ?_)
  obtain ⟨rfl, rfl⟩ := hp
  refine lv_aload_n hx hb dH_isSame_8 rfl (lv_at hl 0 rfl) ?_
  refine hp_get hx hb hG in_H hown hK hst x0 rfl 3 (by decide) (hG _ fl_H_11) rfl rfl dH_isSame_9 ?_
  refine lv_iload_n hx hb dH_isSame_12 rfl (lv_at hl 1 rfl) ?_
  refine hp_aald hx hb hK rfl hst x1 (j := r) (v := (A (si r))) (by omega) (by omega) (hgr r hr) dH_isSame_13 ?_
  obtain ⟨fs_r, cell_r⟩ := (hP r hr).cell
  refine lv_aload_n hx hb dH_isSame_14 rfl (lv_at hl 0 rfl) ?_
  refine hp_get hx hb hG in_H hown hK hst x0 rfl 3 (by decide) (hG _ fl_H_11) rfl rfl dH_isSame_15 ?_
  refine lv_iload_n hx hb dH_isSame_18 rfl (lv_at hl 2 rfl) ?_
  refine hp_aald hx hb hK rfl hst x1 (j := a) (v := (A (si a))) (by omega) (by omega) (hgr a ha) dH_isSame_19 ?_
  refine ct_callV (av2 := [.ref (A (si a))]) (rest := []) (b := (A (si r))) X hst (c_P_matches l D Y lo (hP r hr) (hP a ha) (tp_b hpp3 (hPp r hr)) (tp_b hpp3 (hPp a ha))) cell_r rfl wc_P_matches ml_H_162 wi_P_matches wl_P_matches wn_P md_P_matches (by decide) hl.1 rfl (Nat.le_of_ble_eq_true rfl) ⟨by omega, by omega⟩ (fun _ _ h => h.elim) dH_isSame_20 (fun r M' H locs hp hst => ?_)
  obtain ⟨b, rfl, hb1, hb2, rfl⟩ := hp
  exact ct_zret X hst (by omega) ⟨b, rfl, hb1, hb2, rfl⟩ (by omega) (by omega) dH_isSame_23

set_option maxHeartbeats 4000000 in
set_option maxRecDepth 100000 in
theorem x_H_isSame (l : Launch) (D : va_G) (Y : Nat → ClassId) (lo : Nat) (hlt : l.stackTraces = false) {M : Hm} {xa : Nat} {x1 x2 : Int32} (hno : ¬ (inR x1 ∧ inR x2)) : ct l D Y lo y_H_isSame b_H_isSame 3 (some .boolean) 7 [.ref xa, .int x1, .int x2] M (fun _ _ => False) (fun E M' => E = EI ∧ M = M') 2 12 := by
  refine ct_of (by decide) (Nat.le_of_ble_eq_true rfl) ?_
  intro pg eg sg mg bw mt cg ls X hst hl
  have X1 := X
  obtain ⟨hx, hb, hml, hrt, hlocks, hown, hnm, hts, hkz, hex⟩ := X1
  have hG : ∀ w ∈ GW, w.before _ sg = true := fun w h => hts w (List.mem_cons_of_mem _ h)
  have hK := hkz.1
  have hl : lv_has ls 3 [(0, .ref xa), (1, .int x1), (2, .int x2)] := hl
  refine lv_iload_n hx hb dH_isSame_0 rfl (lv_at hl 1 rfl) ?_
  refine ct_callS (av2 := [.int x1]) (rest := []) X hst (x_cr_call hlt x1 M) wc_H_checkRegister ml_H_48 ws_H_checkRegister wn_H md_H_checkRegister (by decide) hl.1 rfl (Nat.le_of_ble_eq_true rfl) ⟨by omega, by omega⟩ (fun E M1 h => ⟨h.1, h.2.1⟩) dH_isSame_1 (fun r M' H locs hp hst => ?_)
  obtain ⟨rfl, rfl, h1⟩ := hp
  refine lv_iload_n hx hb dH_isSame_4 rfl (lv_at hl 2 rfl) ?_
  refine ct_callS (av2 := [.int x2]) (rest := []) X hst (x_cr_call hlt x2 M) wc_H_checkRegister ml_H_48 ws_H_checkRegister wn_H md_H_checkRegister (by decide) hl.1 rfl (Nat.le_of_ble_eq_true rfl) ⟨by omega, by omega⟩ (fun E M1 h => ⟨h.1, h.2.1⟩) dH_isSame_5 (fun r M' H locs hp hst => ?_)
  obtain ⟨rfl, rfl, h2⟩ := hp
  exact absurd ⟨h1, h2⟩ hno

set_option maxHeartbeats 4000000 in
set_option maxRecDepth 100000 in
theorem c_H_coefficient (l : Launch) (D : va_G) (Y : Nat → ClassId) (lo : Nat) {M : Hm} {xa p rf : Nat} {A cap si : Nat → Nat} {P : Nat → Pf} (hcs : cs Y M xa A p P cap si rf) {r e0 e1 e2 : Nat} (hr : r < 12) (h0 : e0 < 2 ^ 31) (h1 : e1 < 2 ^ 31) (h2 : e2 < 2 ^ 31) : ct l D Y lo y_H_coefficient b_H_coefficient 5 (some .int) 1 [.ref xa, .int (nI r), .int (nI e0), .int (nI e1), .int (nI e2)] M (fun r9 M' => r9 = some (.int (nI (if e0 + e1 + e2 ≤ 36 then cfo (mp e0 e1 e2) (tp (P r)) else 0))) ∧ M = M') nx 0 0 := by
  refine ct_of (by decide) (Nat.le_of_ble_eq_true rfl) ?_
  intro pg eg sg mg bw mt cg ls X hst hl
  have X1 := X
  obtain ⟨hx, hb, hml, hrt, hlocks, hown, hnm, hts, hkz, hex⟩ := X1
  have hG : ∀ w ∈ GW, w.before _ sg = true := fun w h => hts w (List.mem_cons_of_mem _ h)
  have hK := hkz.1
  have hl : lv_has ls 5 [(0, .ref xa), (1, .int (nI r)), (2, .int (nI e0)), (3, .int (nI e1)), (4, .int (nI e2))] := hl
  have hcs0 := hcs
  obtain ⟨x0, ⟨gr, x1, hgr⟩, ⟨gn, x2, hgn⟩, ⟨hf, hpr⟩, hs, ⟨gw, ht⟩, ⟨hs1, hs2⟩, hP, ⟨LS, hS⟩, hN, hc1, hc2, hPp⟩ := hcs
  have hpp := hf.2.1
  have hpp3 := hf.2.2
  have hf0 := hf.1
  refine lv_iload_n hx hb dH_coefficient_0 rfl (lv_at hl 1 rfl) ?_
  refine ct_callS (av2 := [.int (nI r)]) (rest := []) X hst (c_H_checkRegister l D Y lo hr) wc_H_checkRegister ml_H_48 ws_H_checkRegister wn_H md_H_checkRegister (by decide) hl.1 rfl (Nat.le_of_ble_eq_true rfl) ⟨by omega, by omega⟩ (fun _ _ h => h.elim) dH_coefficient_1 (fun r M' H locs hp hst => ?_)
  obtain ⟨rfl, rfl⟩ := hp
  refine lv_iload_n hx hb dH_coefficient_4 rfl (lv_at hl 2 rfl) ?_
  refine lv_if_lt hx hb dH_coefficient_5 (tgt := 17) rfl (fun hc => ?_) (fun hc => ?_)
  · skip
    rw [← nI_0] at hc
    have hc9 : e0 < 0 := (nI_ltI (by omega) (by omega)).mp hc
    exact absurd hc9 (by omega)
  · skip
    rw [← nI_0] at hc
    have hc9 : ¬ e0 < 0 := fun z => hc ((nI_ltI (by omega) (by omega)).mpr z)
    refine lv_iload_n hx hb dH_coefficient_8 rfl (lv_at hl 3 rfl) ?_
    refine lv_if_lt hx hb dH_coefficient_9 (tgt := 17) rfl (fun hc => ?_) (fun hc => ?_)
    · skip
      rw [← nI_0] at hc
      have hc9 : e1 < 0 := (nI_ltI (by omega) (by omega)).mp hc
      exact absurd hc9 (by omega)
    · skip
      rw [← nI_0] at hc
      have hc9 : ¬ e1 < 0 := fun z => hc ((nI_ltI (by omega) (by omega)).mpr z)
      refine lv_iload hx hb dH_coefficient_12 (lv_at hl 4 rfl) ?_
      refine lv_if_ge hx hb dH_coefficient_14 (tgt := 25) rfl (fun hc => ?_) (fun hc => ?_)
      · skip
        rw [← nI_0] at hc
        have hc9 : 0 ≤ e2 := (nI_leI (by omega) (by omega)).mp hc
        refine lv_iload_n hx hb dH_coefficient_25 rfl (lv_at hl 2 rfl) ?_
        refine lv_iload_n hx hb dH_coefficient_26 rfl (lv_at hl 3 rfl) ?_
        refine lv_iload hx hb dH_coefficient_27 (lv_at hl 4 rfl) ?_
        refine ct_callS (av2 := [.int (nI e0), .int (nI e1), .int (nI e2)]) (rest := []) X hst (c_Q_exists l D Y lo (a := e0) (b := e1) (c := e2) h0 h1 h2) wc_Q_exists ml_H_152 ws_Q_exists wn_Q md_Q_exists (by decide) hl.1 rfl (Nat.le_of_ble_eq_true rfl) ⟨by omega, by omega⟩ (fun _ _ h => h.elim) dH_coefficient_29 (fun r M' H locs hp hst => ?_)
        obtain ⟨z, rfl, hz1, hz2, rfl⟩ := hp
        refine lv_if_ne hx hb dH_coefficient_32 (tgt := 37) rfl (fun hc => ?_) (fun hc => ?_)
        · skip
          rw [← nI_0] at hc
          have hc8 : ¬ z = 0 := fun z => hc ((nI_eq (by omega) (by omega)).mpr z)
          have hsum : e0 + e1 + e2 ≤ 36 := hz2.mp (by omega)
          refine lv_aload_n hx hb dH_coefficient_37 rfl (lv_at hl 0 rfl) ?_
          refine hp_get hx hb hG in_H hown hK hst x0 rfl 3 (by decide) (hG _ fl_H_11) rfl rfl dH_coefficient_38 ?_
          refine lv_iload_n hx hb dH_coefficient_41 rfl (lv_at hl 1 rfl) ?_
          refine hp_aald hx hb hK rfl hst x1 (j := r) (v := (A (si r))) (by omega) (by omega) (hgr r hr) dH_coefficient_42 ?_
          obtain ⟨fs_r, cell_r⟩ := (hP r hr).cell
          refine lv_iload_n hx hb dH_coefficient_43 rfl (lv_at hl 2 rfl) ?_
          refine lv_iload_n hx hb dH_coefficient_44 rfl (lv_at hl 3 rfl) ?_
          refine lv_iload hx hb dH_coefficient_45 (lv_at hl 4 rfl) ?_
          refine ct_callS (av2 := [.int (nI e0), .int (nI e1), .int (nI e2)]) (rest := [.ref (A (si r))]) X hst (c_Q_of l D Y lo (a := e0) (b := e1) (c := e2) hsum) wc_Q_of ml_H_156 ws_Q_of wn_Q md_Q_of (by decide) hl.1 rfl (Nat.le_of_ble_eq_true rfl) ⟨by omega, by omega⟩ (fun _ _ h => h.elim) dH_coefficient_47 (fun r M' H locs hp hst => ?_)
          obtain ⟨rfl, rfl⟩ := hp
          have hmp := mv_lt (mv_mp hsum)
          refine ct_callV (av2 := [.int (nI (mp e0 e1 e2))]) (rest := []) (b := (A (si r))) X hst (c_P_coefficientOf l D Y lo (hP r hr) (k9 := mp e0 e1 e2) (by omega) (fun q hq => (tp_b hpp3 (hPp r hr) q hq).1)) cell_r rfl wc_P_coefficientOf ml_H_159 wi_P_coefficientOf wl_P_coefficientOf wn_P md_P_coefficientOf (by decide) hl.1 rfl (Nat.le_of_ble_eq_true rfl) ⟨by omega, by omega⟩ (fun _ _ h => h.elim) dH_coefficient_50 (fun r M' H locs hp hst => ?_)
          obtain ⟨rfl, rfl⟩ := hp
          exact ct_iret X hst ⟨by rw [if_pos hsum], rfl⟩ (by omega) (by omega) dH_coefficient_53
        · skip
          rw [← nI_0] at hc
          have hc8 : z = 0 := (nI_eq (by omega) (by omega)).mp hc
          refine lv_iconst (v := nI 0) hx hb dH_coefficient_35 (by decide +kernel) ?_
          exact ct_iret X hst ⟨by rw [if_neg (fun h => by have := hz2.mpr h; omega)], rfl⟩ (by omega) (by omega) dH_coefficient_36
      · skip
        rw [← nI_0] at hc
        have hc9 : ¬ 0 ≤ e2 := fun z => hc ((nI_leI (by omega) (by omega)).mpr z)
        exact absurd (Nat.zero_le _) hc9

set_option maxHeartbeats 4000000 in
set_option maxRecDepth 100000 in
theorem x_H_coefficient (l : Launch) (D : va_G) (Y : Nat → ClassId) (lo : Nat) (hlt : l.stackTraces = false) {M : Hm} {xa : Nat} {x1 x2 x3 x4 : Int32} (hno : ¬ (inR x1 ∧ ¬ x2 < 0 ∧ ¬ x3 < 0 ∧ ¬ x4 < 0)) : ct l D Y lo y_H_coefficient b_H_coefficient 5 (some .int) 7 [.ref xa, .int x1, .int x2, .int x3, .int x4] M (fun _ _ => False) (fun E M' => M = M' ∧ (E = EI ∧ ¬ (inR x1) ∨ E = EA ∧ (inR x1))) 2 12 := by
  refine ct_of (by decide) (Nat.le_of_ble_eq_true rfl) ?_
  intro pg eg sg mg bw mt cg ls X hst hl
  have X1 := X
  obtain ⟨hx, hb, hml, hrt, hlocks, hown, hnm, hts, hkz, hex⟩ := X1
  have hG : ∀ w ∈ GW, w.before _ sg = true := fun w h => hts w (List.mem_cons_of_mem _ h)
  have hK := hkz.1
  have hl : lv_has ls 5 [(0, .ref xa), (1, .int x1), (2, .int x2), (3, .int x3), (4, .int x4)] := hl
  refine lv_iload_n hx hb dH_coefficient_0 rfl (lv_at hl 1 rfl) ?_
  refine ct_callS (av2 := [.int x1]) (rest := []) X hst (x_cr_call hlt x1 M) wc_H_checkRegister ml_H_48 ws_H_checkRegister wn_H md_H_checkRegister (by decide) hl.1 rfl (Nat.le_of_ble_eq_true rfl) ⟨by omega, by omega⟩ (fun E M1 h => ⟨h.2.1, Or.inl ⟨h.1, h.2.2⟩⟩) dH_coefficient_1 (fun r M' H locs hp hst => ?_)
  obtain ⟨rfl, rfl, h1⟩ := hp
  refine lv_iload_n hx hb dH_coefficient_4 rfl (lv_at hl 2 rfl) ?_
  refine lv_if_lt hx hb dH_coefficient_5 (tgt := 17) rfl (fun hc => ?_) (fun hc => ?_)
  · skip
    exact ct_throw (cls := EA) (ik := 96) (ic := 98) X hst hlt rfl (by decide +kernel) cl_H_96 wn_IllegalArgumentException at_A gd_A hl.1 (by decide) (Nat.le_of_ble_eq_true rfl) (by omega) (by omega) ⟨rfl, Or.inr ⟨rfl, h1⟩⟩ dH_coefficient_17 dH_coefficient_20 dH_coefficient_21 dH_coefficient_24
  · skip
    have n1 := hc
    refine lv_iload_n hx hb dH_coefficient_8 rfl (lv_at hl 3 rfl) ?_
    refine lv_if_lt hx hb dH_coefficient_9 (tgt := 17) rfl (fun hc => ?_) (fun hc => ?_)
    · skip
      exact ct_throw (cls := EA) (ik := 96) (ic := 98) X hst hlt rfl (by decide +kernel) cl_H_96 wn_IllegalArgumentException at_A gd_A hl.1 (by decide) (Nat.le_of_ble_eq_true rfl) (by omega) (by omega) ⟨rfl, Or.inr ⟨rfl, h1⟩⟩ dH_coefficient_17 dH_coefficient_20 dH_coefficient_21 dH_coefficient_24
    · skip
      have n2 := hc
      refine lv_iload hx hb dH_coefficient_12 (lv_at hl 4 rfl) ?_
      refine lv_if_ge hx hb dH_coefficient_14 (tgt := 25) rfl (fun hc => ?_) (fun hc => ?_)
      · skip
        exact absurd ⟨h1, n1, n2, fun z => absurd hc (by rw [Int32.le_iff_toInt_le]; rw [Int32.lt_iff_toInt_lt] at z; omega)⟩ hno
      · skip
        exact ct_throw (cls := EA) (ik := 96) (ic := 98) X hst hlt rfl (by decide +kernel) cl_H_96 wn_IllegalArgumentException at_A gd_A hl.1 (by decide) (Nat.le_of_ble_eq_true rfl) (by omega) (by omega) ⟨rfl, Or.inr ⟨rfl, h1⟩⟩ dH_coefficient_17 dH_coefficient_20 dH_coefficient_21 dH_coefficient_24

set_option maxHeartbeats 4000000 in
set_option maxRecDepth 100000 in
theorem c_H_allTerms (l : Launch) (D : va_G) (Y : Nat → ClassId) (lo : Nat) {M : Hm} {xa p rf : Nat} {A cap si : Nat → Nat} {P : Nat → Pf} (hcs : cs Y M xa A p P cap si rf) : ct l D Y lo y_H_allTerms b_H_allTerms 3 (some .int) 0 [.ref xa] M (fun r9 M' => r9 = some (.int (nI (sm (fun r => (tp (P r)).length) 12))) ∧ M = M') nx 0 0 := by
  refine ct_of (by decide) (Nat.le_of_ble_eq_true rfl) ?_
  intro pg eg sg mg bw mt cg ls X hst hl
  have X1 := X
  obtain ⟨hx, hb, hml, hrt, hlocks, hown, hnm, hts, hkz, hex⟩ := X1
  have hG : ∀ w ∈ GW, w.before _ sg = true := fun w h => hts w (List.mem_cons_of_mem _ h)
  have hK := hkz.1
  have hl : lv_has ls 3 [(0, .ref xa)] := hl
  have hcs0 := hcs
  obtain ⟨x0, ⟨gr, x1, hgr⟩, ⟨gn, x2, hgn⟩, ⟨hf, hpr⟩, hs, ⟨gw, ht⟩, ⟨hs1, hs2⟩, hP, ⟨LS, hS⟩, hN, hc1, hc2, hPp⟩ := hcs
  have hpp := hf.2.1
  have hpp3 := hf.2.2
  have hf0 := hf.1
  refine lv_iconst (v := nI 0) hx hb dH_allTerms_0 (by decide +kernel) ?_
  refine lv_istore_n (lv' := [(1, .int (nI 0)), (0, .ref xa)]) hx hb dH_allTerms_1 rfl hl (by decide) rfl (fun ls hl => ?_)
  refine lv_iconst (v := nI 0) hx hb dH_allTerms_2 (by decide +kernel) ?_
  refine lv_istore_n (lv' := [(2, .int (nI 0)), (1, .int (nI 0)), (0, .ref xa)]) hx hb dH_allTerms_3 rfl hl (by decide) rfl (fun ls hl => ?_)
  have LP : ∀ (kk : Nat) (z r : Nat) (H : Heap) (locs : List Loc) (ls : Array Slot), kk = 13 - r → (r ≤ 12) → (z = sm (fun r => (tp (P r)).length) r) → hp_st D vC lo M sg.heap H locs → lv_has ls 3 [(0, .ref xa), (1, .int (nI z)), (2, .int (nI r))] → cW pg l eg sg mg [.ref xa] bw mt cg y_H_allTerms b_H_allTerms 3 (some .int) 0 D lo (fun r9 M' => r9 = some (.int (nI (sm (fun r => (tp (P r)).length) 12))) ∧ M = M') nx 0 0 H locs 0 0 (F0 mg 4 ls []) := by
    intro kk
    induction kk using Nat.strongRecOn with
    | _ kk ih =>
    intro z r H locs ls hkk hr9 hz hst hl
    refine lv_iload_n hx hb dH_allTerms_4 rfl (lv_at hl 2 rfl) ?_
    refine lv_bipush (v := nI 12) hx hb dH_allTerms_5 (by decide +kernel) ?_
    refine lv_icmp_ge hx hb dH_allTerms_7 (tgt := 28) rfl (fun hc => ?_) (fun hc => ?_)
    · skip
      have hc : 12 ≤ r := (nI_leI (by omega) (by omega)).mp hc
      have : r = 12 := by omega
      subst this
      refine lv_iload_n hx hb dH_allTerms_28 rfl (lv_at hl 1 rfl) ?_
      exact ct_iret X hst ⟨by rw [hz], rfl⟩ (by omega) (by omega) dH_allTerms_29
    · skip
      have hc : ¬ 12 ≤ r := fun z => hc ((nI_leI (by omega) (by omega)).mpr z)
      have hr : r < 12 := by omega
      refine lv_iload_n hx hb dH_allTerms_10 rfl (lv_at hl 1 rfl) ?_
      refine lv_aload_n hx hb dH_allTerms_11 rfl (lv_at hl 0 rfl) ?_
      refine hp_get hx hb hG in_H hown hK hst x0 rfl 3 (by decide) (hG _ fl_H_11) rfl rfl dH_allTerms_12 ?_
      refine lv_iload_n hx hb dH_allTerms_15 rfl (lv_at hl 2 rfl) ?_
      refine hp_aald hx hb hK rfl hst x1 (j := r) (v := (A (si r))) (by omega) (by omega) (hgr r hr) dH_allTerms_16 ?_
      have hPr := hP r hr
      obtain ⟨a9, b9, fa9, fb9, h09, h19, h29, hL9, hn9, hc19, hc29⟩ := hPr
      refine hp_get hx hb hG in_P hown hK hst h09 rfl 2 (by decide) (hG _ fl_H_109) rfl rfl dH_allTerms_17 ?_
      refine t_iadd hx hb dH_allTerms_20 (v := nI (z + ((tp (P r)).length))) (nI_add _ _) ?_
      refine lv_istore_n (lv' := [(1, .int (nI (z + ((tp (P r)).length)))), (0, .ref xa), (2, .int (nI r))]) hx hb dH_allTerms_21 rfl hl (by decide) rfl (fun ls hl => ?_)
      refine lv_iinc (lv' := [(2, .int (nI (r + 1))), (1, .int (nI (z + ((tp (P r)).length)))), (0, .ref xa)]) hx hb dH_allTerms_22 hl (k := 2) rfl (ii_p _) (by decide) rfl (fun ls hl => ?_)
      refine lv_goto hx hb dH_allTerms_25 (tgt := 4) rfl ?_
      exact ih _ (by omega) (z + (tp (P r)).length) (r + 1) _ _ _ rfl (by omega) (by rw [hz]; rfl) hst (lv_sub hl [2, 1, 0] rfl)
  exact LP _ 0 0 _ _ _ rfl (by omega) rfl hst (lv_sub hl [2, 1, 0] rfl)

set_option maxHeartbeats 4000000 in
set_option maxRecDepth 100000 in
theorem c_H_zeroRegisters (l : Launch) (D : va_G) (Y : Nat → ClassId) (lo : Nat) {M : Hm} {xa p rf : Nat} {A cap si : Nat → Nat} {P : Nat → Pf} (hcs : cs Y M xa A p P cap si rf) : ct l D Y lo y_H_zeroRegisters b_H_zeroRegisters 3 (some .int) 1 [.ref xa] M (fun r9 M' => r9 = some (.int (nI (sm (fun r => if (tp (P r)).length = 0 then 1 else 0) 12))) ∧ M = M') nx 0 0 := by
  refine ct_of (by decide) (Nat.le_of_ble_eq_true rfl) ?_
  intro pg eg sg mg bw mt cg ls X hst hl
  have X1 := X
  obtain ⟨hx, hb, hml, hrt, hlocks, hown, hnm, hts, hkz, hex⟩ := X1
  have hG : ∀ w ∈ GW, w.before _ sg = true := fun w h => hts w (List.mem_cons_of_mem _ h)
  have hK := hkz.1
  have hl : lv_has ls 3 [(0, .ref xa)] := hl
  have hcs0 := hcs
  obtain ⟨x0, ⟨gr, x1, hgr⟩, ⟨gn, x2, hgn⟩, ⟨hf, hpr⟩, hs, ⟨gw, ht⟩, ⟨hs1, hs2⟩, hP, ⟨LS, hS⟩, hN, hc1, hc2, hPp⟩ := hcs
  have hpp := hf.2.1
  have hpp3 := hf.2.2
  have hf0 := hf.1
  refine lv_iconst (v := nI 0) hx hb dH_zeroRegisters_0 (by decide +kernel) ?_
  refine lv_istore_n (lv' := [(1, .int (nI 0)), (0, .ref xa)]) hx hb dH_zeroRegisters_1 rfl hl (by decide) rfl (fun ls hl => ?_)
  refine lv_iconst (v := nI 0) hx hb dH_zeroRegisters_2 (by decide +kernel) ?_
  refine lv_istore_n (lv' := [(2, .int (nI 0)), (1, .int (nI 0)), (0, .ref xa)]) hx hb dH_zeroRegisters_3 rfl hl (by decide) rfl (fun ls hl => ?_)
  have LP : ∀ (kk : Nat) (z r : Nat) (H : Heap) (locs : List Loc) (ls : Array Slot), kk = 13 - r → (r ≤ 12) → (z = sm (fun r => if (tp (P r)).length = 0 then 1 else 0) r) → hp_st D vC lo M sg.heap H locs → lv_has ls 3 [(0, .ref xa), (1, .int (nI z)), (2, .int (nI r))] → cW pg l eg sg mg [.ref xa] bw mt cg y_H_zeroRegisters b_H_zeroRegisters 3 (some .int) 1 D lo (fun r9 M' => r9 = some (.int (nI (sm (fun r => if (tp (P r)).length = 0 then 1 else 0) 12))) ∧ M = M') nx 0 0 H locs 0 0 (F0 mg 4 ls []) := by
    intro kk
    induction kk using Nat.strongRecOn with
    | _ kk ih =>
    intro z r H locs ls hkk hr9 hz hst hl
    refine lv_iload_n hx hb dH_zeroRegisters_4 rfl (lv_at hl 2 rfl) ?_
    refine lv_bipush (v := nI 12) hx hb dH_zeroRegisters_5 (by decide +kernel) ?_
    refine lv_icmp_ge hx hb dH_zeroRegisters_7 (tgt := 31) rfl (fun hc => ?_) (fun hc => ?_)
    · skip
      have hc : 12 ≤ r := (nI_leI (by omega) (by omega)).mp hc
      have : r = 12 := by omega
      subst this
      refine lv_iload_n hx hb dH_zeroRegisters_31 rfl (lv_at hl 1 rfl) ?_
      exact ct_iret X hst ⟨by rw [hz], rfl⟩ (by omega) (by omega) dH_zeroRegisters_32
    · skip
      have hc : ¬ 12 ≤ r := fun z => hc ((nI_leI (by omega) (by omega)).mpr z)
      have hr : r < 12 := by omega
      refine lv_aload_n hx hb dH_zeroRegisters_10 rfl (lv_at hl 0 rfl) ?_
      refine hp_get hx hb hG in_H hown hK hst x0 rfl 3 (by decide) (hG _ fl_H_11) rfl rfl dH_zeroRegisters_11 ?_
      refine lv_iload_n hx hb dH_zeroRegisters_14 rfl (lv_at hl 2 rfl) ?_
      refine hp_aald hx hb hK rfl hst x1 (j := r) (v := (A (si r))) (by omega) (by omega) (hgr r hr) dH_zeroRegisters_15 ?_
      obtain ⟨fs_r, cell_r⟩ := (hP r hr).cell
      refine ct_callV (av2 := []) (rest := []) (b := (A (si r))) X hst (c_P_isZero l D Y lo (hP r hr)) cell_r rfl wc_P_isZero ml_H_102 wi_P_isZero wl_P_isZero wn_P md_P_isZero (by decide) hl.1 rfl (Nat.le_of_ble_eq_true rfl) ⟨by omega, by omega⟩ (fun _ _ h => h.elim) dH_zeroRegisters_16 (fun r M' H locs hp hst => ?_)
      obtain ⟨b, rfl, hb1, hb2, rfl⟩ := hp
      refine lv_if_eq hx hb dH_zeroRegisters_19 (tgt := 25) rfl (fun hc => ?_) (fun hc => ?_)
      · skip
        rw [← nI_0] at hc
        have hc7 : b = 0 := (nI_eq (by omega) (by omega)).mp hc
        refine lv_iinc (lv' := [(2, .int (nI (r + 1))), (0, .ref xa), (1, .int (nI z))]) hx hb dH_zeroRegisters_25 hl (k := 2) rfl (ii_p _) (by decide) rfl (fun ls hl => ?_)
        refine lv_goto hx hb dH_zeroRegisters_28 (tgt := 4) rfl ?_
        exact ih _ (by omega) z (r + 1) _ _ _ rfl (by omega) (by
            rw [hz]
            show _ = sm _ r + (if (tp (P r)).length = 0 then 1 else 0)
            rw [if_neg (fun h => by have := hb2.mpr (List.length_eq_zero_iff.mp h); omega)]; rfl) hst (lv_sub hl [1, 2, 0] rfl)
      · skip
        rw [← nI_0] at hc
        have hc7 : ¬ b = 0 := fun z => hc ((nI_eq (by omega) (by omega)).mpr z)
        refine lv_iinc (lv' := [(1, .int (nI (z + 1))), (0, .ref xa), (2, .int (nI r))]) hx hb dH_zeroRegisters_22 hl (k := 1) rfl (ii_p _) (by decide) rfl (fun ls hl => ?_)
        refine lv_iinc (lv' := [(2, .int (nI (r + 1))), (1, .int (nI (z + 1))), (0, .ref xa)]) hx hb dH_zeroRegisters_25 hl (k := 2) rfl (ii_p _) (by decide) rfl (fun ls hl => ?_)
        refine lv_goto hx hb dH_zeroRegisters_28 (tgt := 4) rfl ?_
        exact ih _ (by omega) (z + 1) (r + 1) _ _ _ rfl (by omega) (by
            rw [hz]
            show _ = sm _ r + (if (tp (P r)).length = 0 then 1 else 0)
            rw [if_pos (List.length_eq_zero_iff.mpr (hb2.mp (by omega)))]) hst (lv_sub hl [2, 1, 0] rfl)
  exact LP _ 0 0 _ _ _ rfl (by omega) rfl hst (lv_sub hl [2, 1, 0] rfl)

set_option maxHeartbeats 4000000 in
set_option maxRecDepth 100000 in
theorem c_H_greatestDegree (l : Launch) (D : va_G) (Y : Nat → ClassId) (lo : Nat) {M : Hm} {xa p rf : Nat} {A cap si : Nat → Nat} {P : Nat → Pf} (hcs : cs Y M xa A p P cap si rf) : ct l D Y lo y_H_greatestDegree b_H_greatestDegree 4 (some .int) 2 [.ref xa] M (fun r9 M' => r9 = some (.int (nI (gdA P 12))) ∧ M = M') nx 0 0 := by
  refine ct_of (by decide) (Nat.le_of_ble_eq_true rfl) ?_
  intro pg eg sg mg bw mt cg ls X hst hl
  have X1 := X
  obtain ⟨hx, hb, hml, hrt, hlocks, hown, hnm, hts, hkz, hex⟩ := X1
  have hG : ∀ w ∈ GW, w.before _ sg = true := fun w h => hts w (List.mem_cons_of_mem _ h)
  have hK := hkz.1
  have hl : lv_has ls 4 [(0, .ref xa)] := hl
  have hcs0 := hcs
  obtain ⟨x0, ⟨gr, x1, hgr⟩, ⟨gn, x2, hgn⟩, ⟨hf, hpr⟩, hs, ⟨gw, ht⟩, ⟨hs1, hs2⟩, hP, ⟨LS, hS⟩, hN, hc1, hc2, hPp⟩ := hcs
  have hpp := hf.2.1
  have hpp3 := hf.2.2
  have hf0 := hf.1
  refine lv_iconst (v := nI 0) hx hb dH_greatestDegree_0 (by decide +kernel) ?_
  refine lv_istore_n (lv' := [(1, .int (nI 0)), (0, .ref xa)]) hx hb dH_greatestDegree_1 rfl hl (by decide) rfl (fun ls hl => ?_)
  refine lv_iconst (v := nI 0) hx hb dH_greatestDegree_2 (by decide +kernel) ?_
  refine lv_istore_n (lv' := [(2, .int (nI 0)), (1, .int (nI 0)), (0, .ref xa)]) hx hb dH_greatestDegree_3 rfl hl (by decide) rfl (fun ls hl => ?_)
  have LP : ∀ (kk : Nat) (r : Nat) (H : Heap) (locs : List Loc) (ls : Array Slot), kk = 13 - r → (r ≤ 12) → hp_st D vC lo M sg.heap H locs → lv_has ls 4 [(0, .ref xa), (1, .int (nI (gdA P r))), (2, .int (nI r))] → cW pg l eg sg mg [.ref xa] bw mt cg y_H_greatestDegree b_H_greatestDegree 4 (some .int) 2 D lo (fun r9 M' => r9 = some (.int (nI (gdA P 12))) ∧ M = M') nx 0 0 H locs 0 0 (F0 mg 4 ls []) := by
    intro kk
    induction kk using Nat.strongRecOn with
    | _ kk ihLP =>
    intro r H locs ls hkk hr9 hst hl
    refine lv_iload_n hx hb dH_greatestDegree_4 rfl (lv_at hl 2 rfl) ?_
    refine lv_bipush (v := nI 12) hx hb dH_greatestDegree_5 (by decide +kernel) ?_
    refine lv_icmp_ge hx hb dH_greatestDegree_7 (tgt := 44) rfl (fun hc => ?_) (fun hc => ?_)
    · skip
      have hc : 12 ≤ r := (nI_leI (by omega) (by omega)).mp hc
      have : r = 12 := by omega
      subst this
      refine lv_iload_n hx hb dH_greatestDegree_44 rfl (lv_at hl 1 rfl) ?_
      exact ct_iret X hst ⟨rfl, rfl⟩ (by omega) (by omega) dH_greatestDegree_45
    · skip
      have hc : ¬ 12 ≤ r := fun z => hc ((nI_leI (by omega) (by omega)).mpr z)
      have hr : r < 12 := by omega
      have hgl := gdA_lt P r
      refine lv_iconst (v := nI 0) hx hb dH_greatestDegree_10 (by decide +kernel) ?_
      refine lv_istore_n (lv' := [(3, .int (nI 0)), (0, .ref xa), (1, .int (nI (gdA P r))), (2, .int (nI r))]) hx hb dH_greatestDegree_11 rfl hl (by decide) rfl (fun ls hl => ?_)
      have LQ : ∀ (kk : Nat) (v : Nat) (H : Heap) (locs : List Loc) (ls : Array Slot), kk = 4 - v → (v ≤ 3) → hp_st D vC lo M sg.heap H locs → lv_has ls 4 [(0, .ref xa), (1, .int (nI (gd3 (tp (P r)) (gdA P r) v))), (2, .int (nI r)), (3, .int (nI v))] → cW pg l eg sg mg [.ref xa] bw mt cg y_H_greatestDegree b_H_greatestDegree 4 (some .int) 2 D lo (fun r9 M' => r9 = some (.int (nI (gdA P 12))) ∧ M = M') nx 0 0 H locs 0 0 (F0 mg 12 ls []) := by
        intro kk
        induction kk using Nat.strongRecOn with
        | _ kk ihLQ =>
        intro v H locs ls hkk hv9 hst hl
        have hg3 := gd3_lt (L := tp (P r)) hgl v
        refine lv_iload_n hx hb dH_greatestDegree_12 rfl (lv_at hl 3 rfl) ?_
        refine lv_iconst (v := nI 3) hx hb dH_greatestDegree_13 (by decide +kernel) ?_
        refine lv_icmp_ge hx hb dH_greatestDegree_14 (tgt := 38) rfl (fun hc => ?_) (fun hc => ?_)
        · skip
          have hc2 : 3 ≤ v := (nI_leI (by omega) (by omega)).mp hc
          have : v = 3 := by omega
          subst this
          have hl : lv_has ls 4 [(0, .ref xa), (1, .int (nI (gdA P (r + 1)))), (2, .int (nI r)), (3, .int (nI 3))] := hl
          refine lv_iinc (lv' := [(2, .int (nI (r + 1))), (0, .ref xa), (1, .int (nI (gdA P (r + 1)))), (3, .int (nI 3))]) hx hb dH_greatestDegree_38 hl (k := 2) rfl (ii_p _) (by decide) rfl (fun ls hl => ?_)
          refine lv_goto hx hb dH_greatestDegree_41 (tgt := 4) rfl ?_
          exact ihLP _ (by omega) (r + 1) _ _ _ rfl (by omega) hst (lv_sub hl [1, 2, 0] rfl)
        · skip
          have hc2 : ¬ 3 ≤ v := fun z => hc ((nI_leI (by omega) (by omega)).mpr z)
          have hv : v < 3 := by omega
          have hdg := dgl_lt (v := v) (g := 0) (L := tp (P r)) (by omega)
          refine lv_iload_n hx hb dH_greatestDegree_17 rfl (lv_at hl 1 rfl) ?_
          refine lv_aload_n hx hb dH_greatestDegree_18 rfl (lv_at hl 0 rfl) ?_
          refine hp_get hx hb hG in_H hown hK hst x0 rfl 3 (by decide) (hG _ fl_H_11) rfl rfl dH_greatestDegree_19 ?_
          refine lv_iload_n hx hb dH_greatestDegree_22 rfl (lv_at hl 2 rfl) ?_
          refine hp_aald hx hb hK rfl hst x1 (j := r) (v := (A (si r))) (by omega) (by omega) (hgr r hr) dH_greatestDegree_23 ?_
          obtain ⟨fs_r, cell_r⟩ := (hP r hr).cell
          refine lv_iload_n hx hb dH_greatestDegree_24 rfl (lv_at hl 3 rfl) ?_
          refine ct_callV (av2 := [.int (nI v)]) (rest := [.int (nI (gd3 (tp (P r)) (gdA P r) v))]) (b := (A (si r))) X hst (c_P_degreeIn l D Y lo (hP r hr) hv (fun q hq => (tp_b hpp3 (hPp r hr) q hq).1)) cell_r rfl wc_P_degreeIn ml_H_85 wi_P_degreeIn wl_P_degreeIn wn_P md_P_degreeIn (by decide) hl.1 rfl (Nat.le_of_ble_eq_true rfl) ⟨by omega, by omega⟩ (fun _ _ h => h.elim) dH_greatestDegree_25 (fun r M' H locs hp hst => ?_)
          obtain ⟨rfl, rfl⟩ := hp
          refine va_mmax hx hb (by rw [hml]; exact hl.1.symm) hown (hG _ ml_H_188) (hG _ ws_Jm_max) (hG _ wn_Jm) (hG _ wc_Jm_max) (Nat.le_of_ble_eq_true rfl) (Nat.le_of_ble_eq_true rfl) (by show _ ≤ _; omega) (by show _ ≤ _; omega) dH_greatestDegree_28 ?_
          refine tp_i (e2 := nI (max (gd3 (tp (P r)) (gdA P r) v) (dgl v (tp (P r)) 0))) (mx9 (by omega) (by omega)) ?_
          refine lv_istore_n (lv' := [(1, .int (nI (max (gd3 (tp (P r)) (gdA P r) v) (dgl v (tp (P r)) 0)))), (0, .ref xa), (2, .int (nI r)), (3, .int (nI v))]) hx hb dH_greatestDegree_31 rfl hl (by decide) rfl (fun ls hl => ?_)
          refine lv_iinc (lv' := [(3, .int (nI (v + 1))), (1, .int (nI (max (gd3 (tp (P r)) (gdA P r) v) (dgl v (tp (P r)) 0)))), (0, .ref xa), (2, .int (nI r))]) hx hb dH_greatestDegree_32 hl (k := 3) rfl (ii_p _) (by decide) rfl (fun ls hl => ?_)
          refine lv_goto hx hb dH_greatestDegree_35 (tgt := 12) rfl ?_
          exact ihLQ _ (by omega) (v + 1) _ _ _ rfl (by omega) hst (lv_sub hl [2, 1, 3, 0] rfl)
      exact LQ _ 0 _ _ _ rfl (by omega) hst (lv_sub hl [1, 2, 3, 0] rfl)
  exact LP _ 0 _ _ _ rfl (by omega) hst (lv_sub hl [2, 1, 0] rfl)
