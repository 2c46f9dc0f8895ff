/-! The face's state in words, throws, and the small methods beside the face. -/
abbrev EI : String := "java/lang/IndexOutOfBoundsException"
abbrev EA : String := "java/lang/IllegalArgumentException"
abbrev eN : List String := ["java/lang/RuntimeException", "java/lang/Exception"]
theorem wd_ok {L : List Cond} (h : L.all (fun w => decide (w ∈ lw_tbl) && (goodWord w || nwB w)) = true) {args : Array Value} {s : State} (hG : ∀ w ∈ GW, w.before args s = true) (hN : ∀ w ∈ NW, va_Nw w s) : ∀ w ∈ L, w.before args s = true := by
  intro w hw
  have h1 := List.all_eq_true.mp h w hw
  rw [Bool.and_eq_true, decide_eq_true_eq, Bool.or_eq_true] at h1
  obtain ⟨h2, h3 | h3⟩ := h1
  · exact hG w (List.mem_filter.mpr ⟨h2, h3⟩)
  · have h4 := hN w (List.mem_filter.mpr ⟨h2, h3⟩)
    cases w <;> first | exact va_Nw.use rfl h4 | exact h4 | cases h3
theorem at_I : (vx_at0 R_H 151 EI eN).all (fun w => decide (w ∈ lw_tbl) && (goodWord w || nwB w)) = true := by decide +kernel
theorem at_A : (vx_at0 R_H 98 EA eN).all (fun w => decide (w ∈ lw_tbl) && (goodWord w || nwB w)) = true := by decide +kernel
theorem gd_I : ∀ w ∈ Cond.classLink R_H 149 EI :: Cond.initialized EI :: vx_at0 R_H 151 EI eN, vx_ot w = true := by
  have h : (Cond.classLink R_H 149 EI :: Cond.initialized EI :: vx_at0 R_H 151 EI eN).all vx_ot = true := by decide +kernel
  exact List.all_eq_true.mp h
theorem gd_A : ∀ w ∈ Cond.classLink R_H 96 EA :: Cond.initialized EA :: vx_at0 R_H 98 EA eN, vx_ot w = true := by
  have h : (Cond.classLink R_H 96 EA :: Cond.initialized EA :: vx_at0 R_H 98 EA eN).all vx_ot = true := by decide +kernel
  exact List.all_eq_true.mp h
section CTT
variable {p : Program} {l : Launch} {e : Env} {s : State} {m : MethodId} {av : List Value} {below : List Frame} {meth : Method} {c : Code} {y : MethodName} {cc : ByteArray} {mL : Nat} {ret : Option FieldType} {d : Nat} {D : va_G} {Y : Nat → ClassId} {lo : Nat} {Post : Option Value → Hm → Prop} {PX : String → Hm → Prop} {mc ms : Nat} {H : Heap} {locs : List Loc} {cells slots pc : Nat} {ls : Array Slot} {M : Hm} {rest : List Value}
/-- throw new E() in a method of the heap's class -/
theorem ct_throw {cls : String} {ik ic : Nat} (X : cx p s m av.toArray meth c y cc mL ret D Y lo) (hst : hp_st D vC lo M s.heap H locs) (hlt : l.stackTraces = false) (hy : y.cls = R_H) (hcls : Bundle.fit cls = true)
    (hk : Cond.classLink R_H ik cls ∈ GW) (hini : Cond.initialized cls ∈ GW) (hat : (vx_at0 R_H ic cls eN).all (fun w => decide (w ∈ lw_tbl) && (goodWord w || nwB w)) = true) (hgood : ∀ w ∈ Cond.classLink R_H ik cls :: Cond.initialized cls :: vx_at0 R_H ic cls eN, vx_ot w = true)
    (hsize : ls.size = mL) (hd : 6 ≤ d) (hrest : (rest.map fun v => v.category).sum ≤ 8) (hc : cells + 1 ≤ mc) (hs : slots + 6 ≤ ms) (hP : PX cls M)
    (d0 : decode cc pc = .ok (.new ik, 3)) (d3 : decode cc (pc + 3) = .ok (.dup, 1)) (d4 : decode cc (pc + 4) = .ok (.invokespecial ic, 3)) (d7 : decode cc (pc + 7) = .ok (.athrow, 1)) :
    cW p l e s m av below meth c y cc mL ret d D lo Post PX mc ms H locs cells slots (F0 m pc ls rest) := by
  obtain ⟨hx, hb, hml, hrt, hlocks, ho, hnm, hts, hkz, hex⟩ := X
  have hG : ∀ w ∈ GW, w.before av.toArray s = true := fun w h => hts w (List.mem_cons_of_mem _ h)
  rw [hy] at ho
  refine vx_throw0 (own := R_H) (cls := cls) (names := eN) (ik := ik) (ic := ic) (A := fun q => lo ≤ q) hx hb hlt ho hcls (by decide +kernel) (hG _ hk) (hG _ hini) (wd_ok hat hG hkz.2.2.2.1) hgood hkz.2.1 hkz.2.2.1 hst.2.1 (hsize.trans hml.symm) d0 d3 d4 d7 (fun x hx => (hex x hx).elim) (show 2 + 3 < d by omega) (show _ + (13 * (2 + 1) + 42) ≤ 36 * d by omega) hc hs hlocks (fun t ha hz hq => ⟨M, hP, hst.1.grown hz hq, Nat.le_trans hst.2.1.1 hz, fun q h1 h2 => (hq q (Nat.lt_of_lt_of_le h1 hst.2.1.1)).trans (hst.2.1.2.1 q h1 h2)⟩) hst.2.1.2.2 hc hs
end CTT
def inR (x : Int32) : Prop := ∃ j : Nat, j < 12 ∧ x = nI j
def inV (x : Int32) : Prop := ∃ j : Nat, j < 3 ∧ x = nI j
theorem in_of {x : Int32} {n : Nat} (h1 : ¬ x < 0) (h2 : x < nI n) (hn : n < 2 ^ 31) : ∃ j : Nat, j < n ∧ x = nI j := by
  obtain ⟨j, hj, rfl⟩ := nI_of h1
  exact ⟨j, (nI_ltI hj hn).mp h2, rfl⟩

set_option maxHeartbeats 4000000 in
set_option maxRecDepth 100000 in
theorem c_H_checkRegister (l : Launch) (D : va_G) (Y : Nat → ClassId) (lo : Nat) {M : Hm} {j : Nat} (hj : j < 12) : ct l D Y lo y_H_checkRegister b_H_checkRegister 1 none 0 [.int (nI j)] M (fun r M' => r = none ∧ M = M') nx 0 0 := by
  refine ct_of (by decide) (Nat.le_of_ble_eq_true rfl) ?_
  intro pg eg sg mg bw mt cg ls X hst hl
  have X1 := X
  obtain ⟨hx, hb, hml, hrt, hlocks, hown, hnm, hts, hkz, hex⟩ := X1
  have hG : ∀ w ∈ GW, w.before _ sg = true := fun w h => hts w (List.mem_cons_of_mem _ h)
  have hK := hkz.1
  have hl : lv_has ls 1 [(0, .int (nI j))] := hl
  refine lv_iload_n hx hb dH_checkRegister_0 rfl (lv_at hl 0 rfl) ?_
  refine lv_if_lt hx hb dH_checkRegister_1 (tgt := 10) rfl (fun hc => ?_) (fun hc => ?_)
  · skip
    rw [← nI_0] at hc
    have hc9 : j < 0 := (nI_ltI (by omega) (by omega)).mp hc
    exact absurd hc9 (by omega)
  · skip
    rw [← nI_0] at hc
    have hc9 : ¬ j < 0 := fun z => hc ((nI_ltI (by omega) (by omega)).mpr z)
    refine lv_iload_n hx hb dH_checkRegister_4 rfl (lv_at hl 0 rfl) ?_
    refine lv_bipush (v := nI 12) hx hb dH_checkRegister_5 (by decide +kernel) ?_
    refine lv_icmp_lt hx hb dH_checkRegister_7 (tgt := 18) rfl (fun hc => ?_) (fun hc => ?_)
    · skip
      have hc8 : j < 12 := (nI_ltI (by omega) (by omega)).mp hc
      exact ct_vret X hst ⟨rfl, rfl⟩ (by omega) (by omega) dH_checkRegister_18
    · skip
      have hc8 : ¬ j < 12 := fun z => hc ((nI_ltI (by omega) (by omega)).mpr z)
      exact absurd hj (by omega)

set_option maxHeartbeats 4000000 in
set_option maxRecDepth 100000 in
theorem x_H_checkRegister (l : Launch) (D : va_G) (Y : Nat → ClassId) (lo : Nat) (hlt : l.stackTraces = false) {M : Hm} {x : Int32} (hno : ¬ inR x) : ct l D Y lo y_H_checkRegister b_H_checkRegister 1 none 6 [.int x] M (fun _ _ => False) (fun E M' => E = EI ∧ M = M') 1 6 := by
  refine ct_of (by decide) (Nat.le_of_ble_eq_true rfl) ?_
  intro pg eg sg mg bw mt cg ls X hst hl
  have X1 := X
  obtain ⟨hx, hb, hml, hrt, hlocks, hown, hnm, hts, hkz, hex⟩ := X1
  have hG : ∀ w ∈ GW, w.before _ sg = true := fun w h => hts w (List.mem_cons_of_mem _ h)
  have hK := hkz.1
  have hl : lv_has ls 1 [(0, .int x)] := hl
  refine lv_iload_n hx hb dH_checkRegister_0 rfl (lv_at hl 0 rfl) ?_
  refine lv_if_lt hx hb dH_checkRegister_1 (tgt := 10) rfl (fun hc => ?_) (fun hc => ?_)
  · skip
    exact ct_throw (cls := EI) (ik := 149) (ic := 151) X hst hlt rfl (by decide +kernel) cl_H_149 wn_IndexOutOfBoundsException at_I gd_I hl.1 (by decide) (Nat.le_of_ble_eq_true rfl) (by omega) (by omega) ⟨rfl, rfl⟩ dH_checkRegister_10 dH_checkRegister_13 dH_checkRegister_14 dH_checkRegister_17
  · skip
    have hc0 := hc
    refine lv_iload_n hx hb dH_checkRegister_4 rfl (lv_at hl 0 rfl) ?_
    refine lv_bipush (v := nI 12) hx hb dH_checkRegister_5 (by decide +kernel) ?_
    refine lv_icmp_lt hx hb dH_checkRegister_7 (tgt := 18) rfl (fun hc => ?_) (fun hc => ?_)
    · exact absurd (in_of hc0 hc (by omega)) hno
    · skip
      exact ct_throw (cls := EI) (ik := 149) (ic := 151) X hst hlt rfl (by decide +kernel) cl_H_149 wn_IndexOutOfBoundsException at_I gd_I hl.1 (by decide) (Nat.le_of_ble_eq_true rfl) (by omega) (by omega) ⟨rfl, rfl⟩ dH_checkRegister_10 dH_checkRegister_13 dH_checkRegister_14 dH_checkRegister_17

set_option maxHeartbeats 4000000 in
set_option maxRecDepth 100000 in
theorem c_H_checkVariable (l : Launch) (D : va_G) (Y : Nat → ClassId) (lo : Nat) {M : Hm} {j : Nat} (hj : j < 3) : ct l D Y lo y_H_checkVariable b_H_checkVariable 1 none 0 [.int (nI j)] M (fun r M' => r = none ∧ M = M') nx 0 0 := by
  refine ct_of (by decide) (Nat.le_of_ble_eq_true rfl) ?_
  intro pg eg sg mg bw mt cg ls X hst hl
  have X1 := X
  obtain ⟨hx, hb, hml, hrt, hlocks, hown, hnm, hts, hkz, hex⟩ := X1
  have hG : ∀ w ∈ GW, w.before _ sg = true := fun w h => hts w (List.mem_cons_of_mem _ h)
  have hK := hkz.1
  have hl : lv_has ls 1 [(0, .int (nI j))] := hl
  refine lv_iload_n hx hb dH_checkVariable_0 rfl (lv_at hl 0 rfl) ?_
  refine lv_if_lt hx hb dH_checkVariable_1 (tgt := 9) rfl (fun hc => ?_) (fun hc => ?_)
  · skip
    rw [← nI_0] at hc
    have hc9 : j < 0 := (nI_ltI (by omega) (by omega)).mp hc
    exact absurd hc9 (by omega)
  · skip
    rw [← nI_0] at hc
    have hc9 : ¬ j < 0 := fun z => hc ((nI_ltI (by omega) (by omega)).mpr z)
    refine lv_iload_n hx hb dH_checkVariable_4 rfl (lv_at hl 0 rfl) ?_
    refine lv_iconst (v := nI 3) hx hb dH_checkVariable_5 (by decide +kernel) ?_
    refine lv_icmp_lt hx hb dH_checkVariable_6 (tgt := 17) rfl (fun hc => ?_) (fun hc => ?_)
    · skip
      have hc8 : j < 3 := (nI_ltI (by omega) (by omega)).mp hc
      exact ct_vret X hst ⟨rfl, rfl⟩ (by omega) (by omega) dH_checkVariable_17
    · skip
      have hc8 : ¬ j < 3 := fun z => hc ((nI_ltI (by omega) (by omega)).mpr z)
      exact absurd hj (by omega)

set_option maxHeartbeats 4000000 in
set_option maxRecDepth 100000 in
theorem x_H_checkVariable (l : Launch) (D : va_G) (Y : Nat → ClassId) (lo : Nat) (hlt : l.stackTraces = false) {M : Hm} {x : Int32} (hno : ¬ inV x) : ct l D Y lo y_H_checkVariable b_H_checkVariable 1 none 6 [.int x] M (fun _ _ => False) (fun E M' => E = EA ∧ M = M') 1 6 := by
  refine ct_of (by decide) (Nat.le_of_ble_eq_true rfl) ?_
  intro pg eg sg mg bw mt cg ls X hst hl
  have X1 := X
  obtain ⟨hx, hb, hml, hrt, hlocks, hown, hnm, hts, hkz, hex⟩ := X1
  have hG : ∀ w ∈ GW, w.before _ sg = true := fun w h => hts w (List.mem_cons_of_mem _ h)
  have hK := hkz.1
  have hl : lv_has ls 1 [(0, .int x)] := hl
  refine lv_iload_n hx hb dH_checkVariable_0 rfl (lv_at hl 0 rfl) ?_
  refine lv_if_lt hx hb dH_checkVariable_1 (tgt := 9) rfl (fun hc => ?_) (fun hc => ?_)
  · skip
    exact ct_throw (cls := EA) (ik := 96) (ic := 98) X hst hlt rfl (by decide +kernel) cl_H_96 wn_IllegalArgumentException at_A gd_A hl.1 (by decide) (Nat.le_of_ble_eq_true rfl) (by omega) (by omega) ⟨rfl, rfl⟩ dH_checkVariable_9 dH_checkVariable_12 dH_checkVariable_13 dH_checkVariable_16
  · skip
    have hc0 := hc
    refine lv_iload_n hx hb dH_checkVariable_4 rfl (lv_at hl 0 rfl) ?_
    refine lv_iconst (v := nI 3) hx hb dH_checkVariable_5 (by decide +kernel) ?_
    refine lv_icmp_lt hx hb dH_checkVariable_6 (tgt := 17) rfl (fun hc => ?_) (fun hc => ?_)
    · exact absurd (in_of hc0 hc (by omega)) hno
    · skip
      exact ct_throw (cls := EA) (ik := 96) (ic := 98) X hst hlt rfl (by decide +kernel) cl_H_96 wn_IllegalArgumentException at_A gd_A hl.1 (by decide) (Nat.le_of_ble_eq_true rfl) (by omega) (by omega) ⟨rfl, rfl⟩ dH_checkVariable_9 dH_checkVariable_12 dH_checkVariable_13 dH_checkVariable_16
