/-! The JDK's methods that the class calls: Math.min, Arrays.copyOf, Arrays.fill, Integer.bitCount. -/
theorem rm_c {d mc ms x : Nat} (h : x ≤ mc) : x ≤ (rmL d mc ms).cells := h
theorem rm_s {d mc ms x : Nat} (h : x ≤ ms) : x ≤ (rmL d mc ms).slots := h
theorem hp_up_up (M : Hm) (a : Nat) (x y : (Nat × Nat) × va_E) : hp_up (hp_up M a x) a y = hp_up M a y := by
  funext z
  by_cases hz : z = a
  · subst hz; rw [hp_up_self, hp_up_self]
  · rw [hp_up_ne hz, hp_up_ne hz, hp_up_ne hz]
theorem hp_up_id {M : Hm} {a : Nat} {x : (Nat × Nat) × va_E} (h : M a = some x) : hp_up M a x = M := by
  funext z
  by_cases hz : z = a
  · subst hz; rw [hp_up_self, h]
  · rw [hp_up_ne hz]
section HPC
variable {p : Program} {l : Launch} {e : Env} {R : Room} {s : State} {m : MethodId} {args : Array Value} {below : List Frame} {meth : Method} {c : Code} {H : Heap} {locs : List Loc} {cells slots : Nat} {Q : State → Prop}
variable {cc : ByteArray} {pc : Nat} {ls : Array Slot} {rest : List Value} {D : va_G} {cl : List vw_C} {a : Nat} {tys : List (ClassId × FieldType)} {H0 : Heap} {lo : Nat} {M : Hm} {t : Nat × Nat} {Y : Nat → ClassId}
theorem hp_copyi (hexec : p.tables.exec = Jvm.exec) (hb : c.code = cc) (hml : c.maxLocals = ls.size) {own : String} {index : Nat} (hown : s.vm.findClass own = some m.cls) (hlink : (Cond.methodLink own index arraycopyName).before args s = true) (hnat : (Cond.native arraycopyName).before args s = true) (hstat : (Cond.static arraycopyName).before args s = true) (hini : (Cond.initialized "java/lang/System").before args s = true)
    (hK : va_K D cl tys s) (ht : tys[0]? = some (Y 0, .int)) (hst : hp_st D cl lo M H0 H locs) {a0 n0 n1 n : Nat} {u : Nat × Nat} {f g : Nat → Nat} (h0 : M a0 = some (u, e_n Y n0 f)) (h1 : M a = some (t, e_n Y n1 g)) (hn0 : n ≤ n0) (hn1 : n ≤ n1) (hn : n < 2 ^ 31)
    (hframes : 1 ≤ R.frames) (hlocals : (rest.map fun v => v.category).sum + (nativeFrameWords "java/lang/System" "arraycopy" 5 + 11) ≤ R.locals) (hdg : decode cc pc = .ok (.invokestatic index, 3))
    (kk : ∀ (H1 : Heap) (locs1 : List Loc), hp_st D cl lo (hp_up M a (t, e_n Y n1 (fun k => if k < n then f k else g k))) H0 H1 locs1 → W p l e R s m args below meth c H1 locs1 cells slots Q (F0 m (pc + 3) ls rest)) : W p l e R s m args below meth c H locs cells slots Q (F0 m pc ls (.int (nI n) :: .int (nI 0) :: .ref a :: .int (nI 0) :: .ref a0 :: rest)) := by
  obtain ⟨k0, hk0⟩ := hst.ix h0
  obtain ⟨k1, hk1⟩ := hst.ix h1
  have z0 : (nI 0).toNatClampNeg = 0 := nI_clamp (by omega)
  have zn : (nI n).toNatClampNeg = n := nI_clamp hn
  refine va_copyi hexec hb hml hown hlink hnat hstat hini hK hst.P hst.Dd hst.2.1 k0 k1 0 0 hk0 hk1 ht ht rfl (nI_pos (by omega)) (nI_pos (by omega)) (nI_pos hn) (by rw [z0, zn]; omega) (by rw [z0, zn]; omega) (fun i _ => rfl) hframes hlocals hdg (fun H1 locs1 hP _ hS => kk H1 locs1 (hst.set hk1 h1 ?_ hS))
  have hf : va_cpy (fun k => nI (f k)) (fun k => nI (g k)) (nI 0).toNatClampNeg (nI 0).toNatClampNeg (nI n).toNatClampNeg = fun k => nI (if k < n then f k else g k) := by
    rw [z0, zn]
    funext k
    by_cases hk : k < n
    · rw [pk_cpy_in (by omega) (by omega), if_pos hk]
      congr 2
      omega
    · rw [pk_cpy_out (by omega), if_neg hk]
  rw [hf] at hP
  exact hP
end HPC

set_option maxHeartbeats 4000000 in
set_option maxRecDepth 100000 in
theorem c_Jm_min (l : Launch) (D : va_G) (Y : Nat → ClassId) (lo : Nat) {M : Hm} {x y : Nat} (hx9 : x < 2 ^ 31) (hy9 : y < 2 ^ 31) : ct l D Y lo y_Jm_min b_Jm_min 2 (some .int) 0 [.int (nI x), .int (nI y)] M (fun r M' => r = some (.int (nI (min x y))) ∧ M = M') nx 0 0 := by
  refine ct_ofF (by decide +kernel) (Nat.le_of_ble_eq_true rfl) ?_
  intro pg eg sg mg bw mt cg ls X hst hl
  have X1 := X
  obtain ⟨hx, hb, hml, hrt, hlocks, hown, hnm, hts, hkz, hex⟩ := X1
  have hG : ∀ w ∈ GW, w.before _ sg = true := fun w h => hts w (List.mem_cons_of_mem _ h)
  have hK := hkz.1
  have hl : lv_has ls 2 [(0, .int (nI x)), (1, .int (nI y))] := hl
  refine lv_iload_n hx hb dJm_min_0 rfl (lv_at hl 0 rfl) ?_
  refine lv_iload_n hx hb dJm_min_1 rfl (lv_at hl 1 rfl) ?_
  refine lv_icmp_gt hx hb dJm_min_2 (tgt := 9) rfl (fun hc => ?_) (fun hc => ?_)
  · skip
    have hc : y < x := (nI_ltI (by omega) (by omega)).mp hc
    refine lv_iload_n hx hb dJm_min_9 rfl (lv_at hl 1 rfl) ?_
    exact ct_iret X hst ⟨by rw [Nat.min_eq_right (by omega)], rfl⟩ (by omega) (by omega) dJm_min_10
  · skip
    have hc : ¬ y < x := fun z => hc ((nI_ltI (by omega) (by omega)).mpr z)
    refine lv_iload_n hx hb dJm_min_5 rfl (lv_at hl 0 rfl) ?_
    refine lv_goto hx hb dJm_min_6 (tgt := 10) rfl ?_
    exact ct_iret X hst ⟨by rw [Nat.min_eq_left (by omega)], rfl⟩ (by omega) (by omega) dJm_min_10

set_option maxHeartbeats 4000000 in
set_option maxRecDepth 100000 in
theorem c_Ja_copyOf (l : Launch) (D : va_G) (Y : Nat → ClassId) (lo : Nat) {M : Hm} {a n k : Nat} {f : Nat → Nat} {t : Nat × Nat} (u : Nat × Nat) (ha : M a = some (t, e_n Y n f)) (hne : ¬ k = n) (hk : n ≤ k) (hk9 : k ≤ 1000000) : ct l D Y lo y_Ja_copyOf b_Ja_copyOf 3 (some (.array .int)) 1 [.ref a, .int (nI k)] M (fun r M' => ∃ q : Nat, r = some (.ref q) ∧ M q = none ∧ M' = hp_up M q (u, e_n Y k (fun j => if j < n then f j else 0))) nx 1 k := by
  refine ct_of (by decide) (Nat.le_of_ble_eq_true rfl) ?_
  intro pg eg sg mg bw mt cg ls X hst hl
  have X1 := X
  obtain ⟨hx, hb, hml, hrt, hlocks, hown, hnm, hts, hkz, hex⟩ := X1
  have hG : ∀ w ∈ GW, w.before _ sg = true := fun w h => hts w (List.mem_cons_of_mem _ h)
  have hK := hkz.1
  have hl : lv_has ls 3 [(0, .ref a), (1, .int (nI k))] := hl
  refine lv_iload_n hx hb dJa_copyOf_0 rfl (lv_at hl 1 rfl) ?_
  refine lv_aload_n hx hb dJa_copyOf_1 rfl (lv_at hl 0 rfl) ?_
  refine hp_alen hx hb hK rfl hst ha dJa_copyOf_2 ?_
  refine lv_icmp_ne hx hb dJa_copyOf_3 (tgt := 14) rfl (fun hc => ?_) (fun hc => ?_)
  · skip
    have hc : ¬ k = n := fun z => hc ((nI_eq (by omega) (by omega)).mpr z)
    refine lv_iload_n hx hb dJa_copyOf_14 rfl (lv_at hl 1 rfl) ?_
    refine hp_newi hx hb (hG _ ac_int) hK rfl hst u (N' := k) (by omega) (rm_c (by omega)) (rm_s (by omega)) dJa_copyOf_15 (fun q1 H hq2 hst => ?_)
    generalize hM4 : hp_up M q1 (u, e_n Y k (fun _ => 0)) = M3 at hst
    have f5 : M3 q1 = some (u, e_n Y k (fun _ => 0)) := by rw [← hM4]; exact hp_up_self _ _ _
    have f6 : M3 a = some (t, e_n Y n f) := by rw [← hM4]; exact hp_kf hq2 ha
    refine lv_astore_n (lv' := [(2, .ref q1), (0, .ref a), (1, .int (nI k))]) hx hb dJa_copyOf_17 rfl hl (by decide) rfl (fun ls hl => ?_)
    refine lv_aload_n hx hb dJa_copyOf_18 rfl (lv_at hl 1 rfl) ?_
    refine lv_iconst (v := nI 0) hx hb dJa_copyOf_19 (by decide +kernel) ?_
    refine lv_aload_n hx hb dJa_copyOf_20 rfl (lv_at hl 0 rfl) ?_
    refine lv_iconst (v := nI 0) hx hb dJa_copyOf_21 (by decide +kernel) ?_
    refine lv_aload_n hx hb dJa_copyOf_22 rfl (lv_at hl 1 rfl) ?_
    refine hp_alen hx hb hK rfl hst f6 dJa_copyOf_23 ?_
    refine lv_iload_n hx hb dJa_copyOf_24 rfl (lv_at hl 2 rfl) ?_
    refine ct_callS (av2 := [.int (nI n), .int (nI k)]) (rest := [.int (nI 0), .ref q1, .int (nI 0), .ref a]) X hst (c_Jm_min l D Y lo (x := n) (y := k) (by omega) (by omega)) wc_Jm_min ml_Ja_304 ws_Jm_min wn_Jm md_Jm_min (by decide) hl.1 rfl (Nat.le_of_ble_eq_true rfl) ⟨by omega, by omega⟩ (fun _ _ h => h.elim) dJa_copyOf_25 (fun r M' H locs hp hst => ?_)
    obtain ⟨rfl, rfl⟩ := hp
    refine tp_n (e2 := n) (Nat.min_eq_left hk) ?_
    refine hp_copyi hx hb (by rw [hml]; exact hl.1.symm) hown (hG _ ml_Ja_150) (hG _ wv_arraycopy) (hG _ ws_arraycopy) (hG _ wn_Js) hK rfl hst f6 f5 (Nat.le_refl _) hk (by omega) (Nat.le_of_ble_eq_true rfl) (Nat.le_of_ble_eq_true rfl) dJa_copyOf_28 (fun H locs hst => ?_)
    refine lv_aload_n hx hb dJa_copyOf_31 rfl (lv_at hl 0 rfl) ?_
    have hM9 : hp_up M3 q1 (u, e_n Y k (fun j => if j < n then f j else (fun _ => 0) j)) = hp_up M q1 (u, e_n Y k (fun j => if j < n then f j else 0)) := by
      rw [← hM4]
      funext z
      by_cases hz : z = q1
      · subst hz; rw [hp_up_self, hp_up_self]
      · rw [hp_up_ne hz, hp_up_ne hz, hp_up_ne hz]
    rw [hM9] at hst
    exact ct_aret (Or.inr ⟨_, rfl⟩) X hst ⟨q1, rfl, hq2, rfl⟩ (by omega) (by omega) dJa_copyOf_32
  · skip
    have hc : k = n := (nI_eq (by omega) (by omega)).mp hc
    exact absurd hc hne

set_option maxHeartbeats 4000000 in
set_option maxRecDepth 100000 in
theorem c_Ja_rangeCheck (l : Launch) (D : va_G) (Y : Nat → ClassId) (lo : Nat) {M : Hm} {n i j : Nat} (h1 : i ≤ j) (h2 : j ≤ n) (hn : n < 2 ^ 31) : ct l D Y lo y_Ja_rangeCheck b_Ja_rangeCheck 3 none 0 [.int (nI n), .int (nI i), .int (nI j)] M (fun r M' => r = none ∧ M = M') nx 0 0 := by
  refine ct_of (by decide) (Nat.le_of_ble_eq_true rfl) ?_
  intro pg eg sg mg bw mt cg ls X hst hl
  have X1 := X
  obtain ⟨hx, hb, hml, hrt, hlocks, hown, hnm, hts, hkz, hex⟩ := X1
  have hG : ∀ w ∈ GW, w.before _ sg = true := fun w h => hts w (List.mem_cons_of_mem _ h)
  have hK := hkz.1
  have hl : lv_has ls 3 [(0, .int (nI n)), (1, .int (nI i)), (2, .int (nI j))] := hl
  refine lv_iload_n hx hb dJa_rangeCheck_0 rfl (lv_at hl 1 rfl) ?_
  refine lv_iload_n hx hb dJa_rangeCheck_1 rfl (lv_at hl 2 rfl) ?_
  refine lv_icmp_le hx hb dJa_rangeCheck_2 (tgt := 46) rfl (fun hc => ?_) (fun hc => ?_)
  · skip
    have hc : i ≤ j := (nI_leI (by omega) (by omega)).mp hc
    refine lv_iload_n hx hb dJa_rangeCheck_46 rfl (lv_at hl 1 rfl) ?_
    refine lv_if_ge hx hb dJa_rangeCheck_47 (tgt := 59) rfl (fun hc => ?_) (fun hc => ?_)
    · skip
      rw [← nI_0] at hc
      have hc2 : 0 ≤ i := (nI_leI (by omega) (by omega)).mp hc
      refine lv_iload_n hx hb dJa_rangeCheck_59 rfl (lv_at hl 2 rfl) ?_
      refine lv_iload_n hx hb dJa_rangeCheck_60 rfl (lv_at hl 0 rfl) ?_
      refine lv_icmp_le hx hb dJa_rangeCheck_61 (tgt := 73) rfl (fun hc => ?_) (fun hc => ?_)
      · skip
        have hc3 : j ≤ n := (nI_leI (by omega) (by omega)).mp hc
        exact ct_vret X hst ⟨rfl, rfl⟩ (by omega) (by omega) dJa_rangeCheck_73
      · skip
        have hc3 : ¬ j ≤ n := fun z => hc ((nI_leI (by omega) (by omega)).mpr z)
        exact absurd h2 hc3
    · skip
      rw [← nI_0] at hc
      have hc2 : ¬ 0 ≤ i := fun z => hc ((nI_leI (by omega) (by omega)).mpr z)
      exact absurd (Nat.zero_le _) hc2
  · skip
    have hc : ¬ i ≤ j := fun z => hc ((nI_leI (by omega) (by omega)).mpr z)
    exact absurd h1 hc

set_option maxHeartbeats 4000000 in
set_option maxRecDepth 100000 in
theorem c_Ja_fill (l : Launch) (D : va_G) (Y : Nat → ClassId) (lo : Nat) {M : Hm} {a n k : Nat} {g : Nat → Nat} {t : Nat × Nat} (ha : M a = some (t, e_n Y n g)) (hk : k ≤ n) (hn : n < 2 ^ 31) : ct l D Y lo y_Ja_fill b_Ja_fill 5 none 1 [.ref a, .int (nI 0), .int (nI k), .int (nI 0)] M (fun r M' => r = none ∧ M' = hp_up M a (t, e_n Y n (fun j => if j < k then 0 else g j))) nx 0 0 := by
  refine ct_of (by decide) (Nat.le_of_ble_eq_true rfl) ?_
  intro pg eg sg mg bw mt cg ls X hst hl
  have X1 := X
  obtain ⟨hx, hb, hml, hrt, hlocks, hown, hnm, hts, hkz, hex⟩ := X1
  have hG : ∀ w ∈ GW, w.before _ sg = true := fun w h => hts w (List.mem_cons_of_mem _ h)
  have hK := hkz.1
  have hl : lv_has ls 5 [(0, .ref a), (1, .int (nI 0)), (2, .int (nI k)), (3, .int (nI 0))] := hl
  refine lv_aload_n hx hb dJa_fill_0 rfl (lv_at hl 0 rfl) ?_
  refine hp_alen hx hb hK rfl hst ha dJa_fill_1 ?_
  refine lv_iload_n hx hb dJa_fill_2 rfl (lv_at hl 1 rfl) ?_
  refine lv_iload_n hx hb dJa_fill_3 rfl (lv_at hl 2 rfl) ?_
  refine ct_callS (av2 := [.int (nI n), .int (nI 0), .int (nI k)]) (rest := []) X hst (c_Ja_rangeCheck l D Y lo (n := n) (i := 0) (j := k) (by omega) hk hn) wc_Ja_rangeCheck ml_Ja_13 ws_Ja_rangeCheck wn_Ja md_Ja_rangeCheck (by decide) hl.1 rfl (Nat.le_of_ble_eq_true rfl) ⟨by omega, by omega⟩ (fun _ _ h => h.elim) dJa_fill_4 (fun r M' H locs hp hst => ?_)
  obtain ⟨rfl, rfl⟩ := hp
  refine lv_iload_n hx hb dJa_fill_7 rfl (lv_at hl 1 rfl) ?_
  refine lv_istore (lv' := [(4, .int (nI 0)), (0, .ref a), (1, .int (nI 0)), (2, .int (nI k)), (3, .int (nI 0))]) hx hb dJa_fill_8 hl (by decide) rfl (fun ls hl => ?_)
  have LP : ∀ (kk : Nat) (i : Nat) (g1 : Nat → Nat) (M1 : Hm) (H : Heap) (locs : List Loc) (ls : Array Slot), kk = k - i → (M1 = hp_up M a (t, e_n Y n g1)) → (i ≤ k) → (∀ j, g1 j = if j < i then 0 else g j) → hp_st D vC lo M1 sg.heap H locs → lv_has ls 5 [(0, .ref a), (1, .int (nI 0)), (2, .int (nI k)), (3, .int (nI 0)), (4, .int (nI i))] → cW pg l eg sg mg [.ref a, .int (nI 0), .int (nI k), .int (nI 0)] bw mt cg y_Ja_fill b_Ja_fill 5 none 1 D lo (fun r M' => r = none ∧ M' = hp_up M a (t, e_n Y n (fun j => if j < k then 0 else g j))) nx 0 0 H locs 0 0 (F0 mg 10 ls []) := by
    intro kk
    induction kk using Nat.strongRecOn with
    | _ kk ihLP =>
    intro i g1 M1 H locs ls hkk hM1 hi hg1 hst hl
    have ha1 : M1 a = some (t, e_n Y n g1) := by rw [hM1]; exact hp_up_self _ _ _
    refine lv_iload hx hb dJa_fill_10 (lv_at hl 4 rfl) ?_
    refine lv_iload_n hx hb dJa_fill_12 rfl (lv_at hl 2 rfl) ?_
    refine lv_icmp_ge hx hb dJa_fill_13 (tgt := 27) rfl (fun hc => ?_) (fun hc => ?_)
    · skip
      have hc : k ≤ i := (nI_leI (by omega) (by omega)).mp hc
      have hg : g1 = fun j => if j < k then 0 else g j := by
        funext j
        rw [hg1 j]
        have : i = k := by omega
        rw [this]
      subst hg
      exact ct_vret X hst ⟨rfl, hM1⟩ (by omega) (by omega) dJa_fill_27
    · skip
      have hc : ¬ k ≤ i := fun z => hc ((nI_leI (by omega) (by omega)).mpr z)
      refine lv_aload_n hx hb dJa_fill_16 rfl (lv_at hl 0 rfl) ?_
      refine lv_iload hx hb dJa_fill_17 (lv_at hl 4 rfl) ?_
      refine lv_iload_n hx hb dJa_fill_19 rfl (lv_at hl 3 rfl) ?_
      refine hp_iast hx hb hK rfl hst ha1 (j := i) (v := 0) (by omega) (by omega) dJa_fill_20 (fun H locs hst => ?_)
      generalize hM2 : hp_up M1 a (t, e_n Y n (va_up g1 i 0)) = M1 at hst
      have f3 : M1 a = some (t, e_n Y n (va_up g1 i 0)) := by rw [← hM2]; exact hp_up_self _ _ _
      refine lv_iinc (lv' := [(4, .int (nI (i + 1))), (0, .ref a), (1, .int (nI 0)), (2, .int (nI k)), (3, .int (nI 0))]) hx hb dJa_fill_21 hl (k := 4) rfl (ii_p _) (by decide) rfl (fun ls hl => ?_)
      refine lv_goto hx hb dJa_fill_24 (tgt := 10) rfl ?_
      exact ihLP _ (by omega) (i + 1) (va_up g1 i 0) M1 _ _ _ rfl (by rw [← hM2, hM1]; exact hp_up_up _ _ _ _) (by omega) (fun j => by
          by_cases hj : j = i
          · subst hj; rw [va_up_self, if_pos (by omega)]
          · rw [va_up_ne _ _ hj, hg1 j]
            by_cases h9 : j < i
            · rw [if_pos h9, if_pos (by omega)]
            · rw [if_neg h9, if_neg (by omega)]) hst (lv_sub hl [1, 2, 3, 4, 0] rfl)
  exact LP _ 0 g M _ _ _ rfl (hp_up_id ha).symm (by omega) (fun j => by rw [if_neg (by omega)]) hst (lv_sub hl [1, 2, 3, 4, 0] rfl)

/-- what Integer.bitCount does to its int, step by step -/
def bc1 (x : Int32) : Int32 := x - ((x.toUInt32 >>> ((nI 1).toUInt32 &&& Int32.toUInt32 31)).toInt32 &&& 1431655765)
def bc2 (x : Int32) : Int32 := (x &&& 858993459) + ((x.toUInt32 >>> ((nI 2).toUInt32 &&& Int32.toUInt32 31)).toInt32 &&& 858993459)
def bc3 (x : Int32) : Int32 := (x + (x.toUInt32 >>> ((nI 4).toUInt32 &&& Int32.toUInt32 31)).toInt32) &&& 252645135
def bc4 (x : Int32) : Int32 := x + (x.toUInt32 >>> ((nI 8).toUInt32 &&& Int32.toUInt32 31)).toInt32
def bc5 (x : Int32) : Int32 := x + (x.toUInt32 >>> ((nI 16).toUInt32 &&& Int32.toUInt32 31)).toInt32
/-- how many bits of n are set (n below 512) -/
def pcn (n : Nat) : Nat := n % 2 + n / 2 % 2 + n / 4 % 2 + n / 8 % 2 + n / 16 % 2 + n / 32 % 2 + n / 64 % 2 + n / 128 % 2 + n / 256 % 2
theorem bc_all : ∀ n, n < 512 → (bc5 (bc4 (bc3 (bc2 (bc1 (nI n)))))) &&& nI 63 = nI (pcn n) := by decide +kernel

set_option maxHeartbeats 4000000 in
set_option maxRecDepth 100000 in
theorem c_Ji_bitCount (l : Launch) (D : va_G) (Y : Nat → ClassId) (lo : Nat) {M : Hm} {n : Nat} (hn : n < 512) : ct l D Y lo y_Ji_bitCount b_Ji_bitCount 1 (some .int) 0 [.int (nI n)] M (fun r M' => r = some (.int (nI (pcn n))) ∧ M = M') nx 0 0 := by
  refine ct_of (by decide) (Nat.le_of_ble_eq_true rfl) ?_
  intro pg eg sg mg bw mt cg ls X hst hl
  have X1 := X
  obtain ⟨hx, hb, hml, hrt, hlocks, hown, hnm, hts, hkz, hex⟩ := X1
  have hG : ∀ w ∈ GW, w.before _ sg = true := fun w h => hts w (List.mem_cons_of_mem _ h)
  have hK := hkz.1
  have hl : lv_has ls 1 [(0, .int (nI n))] := hl
  refine lv_iload_n hx hb dJi_bitCount_0 rfl (lv_at hl 0 rfl) ?_
  refine lv_iload_n hx hb dJi_bitCount_1 rfl (lv_at hl 0 rfl) ?_
  refine lv_iconst (v := nI 1) hx hb dJi_bitCount_2 (by decide +kernel) ?_
  refine lv_iushr hx hb dJi_bitCount_3 (v := ((nI n).toUInt32 >>> ((nI 1).toUInt32 &&& Int32.toUInt32 31)).toInt32) rfl ?_
  refine lv_ldcw (v := (1431655765 : Int32)) hx hb hown (hG _ kc_Ji_265) dJi_bitCount_4 ?_
  refine lv_iand hx hb dJi_bitCount_7 ?_
  refine lv_isub hx hb dJi_bitCount_8 ?_
  refine lv_topi (fun x1 e1 => ?_)
  refine lv_istore_n (lv' := [(0, .int x1)]) hx hb dJi_bitCount_9 rfl hl (by decide) rfl (fun ls hl => ?_)
  refine lv_iload_n hx hb dJi_bitCount_10 rfl (lv_at hl 0 rfl) ?_
  refine lv_ldcw (v := (858993459 : Int32)) hx hb hown (hG _ kc_Ji_266) dJi_bitCount_11 ?_
  refine lv_iand hx hb dJi_bitCount_14 ?_
  refine lv_iload_n hx hb dJi_bitCount_15 rfl (lv_at hl 0 rfl) ?_
  refine lv_iconst (v := nI 2) hx hb dJi_bitCount_16 (by decide +kernel) ?_
  refine lv_iushr hx hb dJi_bitCount_17 (v := (x1.toUInt32 >>> ((nI 2).toUInt32 &&& Int32.toUInt32 31)).toInt32) rfl ?_
  refine lv_ldcw (v := (858993459 : Int32)) hx hb hown (hG _ kc_Ji_266) dJi_bitCount_18 ?_
  refine lv_iand hx hb dJi_bitCount_21 ?_
  refine lv_iadd hx hb dJi_bitCount_22 ?_
  refine lv_topi (fun x2 e2 => ?_)
  refine lv_istore_n (lv' := [(0, .int x2)]) hx hb dJi_bitCount_23 rfl hl (by decide) rfl (fun ls hl => ?_)
  refine lv_iload_n hx hb dJi_bitCount_24 rfl (lv_at hl 0 rfl) ?_
  refine lv_iload_n hx hb dJi_bitCount_25 rfl (lv_at hl 0 rfl) ?_
  refine lv_iconst (v := nI 4) hx hb dJi_bitCount_26 (by decide +kernel) ?_
  refine lv_iushr hx hb dJi_bitCount_27 (v := (x2.toUInt32 >>> ((nI 4).toUInt32 &&& Int32.toUInt32 31)).toInt32) rfl ?_
  refine lv_iadd hx hb dJi_bitCount_28 ?_
  refine lv_ldcw (v := (252645135 : Int32)) hx hb hown (hG _ kc_Ji_267) dJi_bitCount_29 ?_
  refine lv_iand hx hb dJi_bitCount_32 ?_
  refine lv_topi (fun x3 e3 => ?_)
  refine lv_istore_n (lv' := [(0, .int x3)]) hx hb dJi_bitCount_33 rfl hl (by decide) rfl (fun ls hl => ?_)
  refine lv_iload_n hx hb dJi_bitCount_34 rfl (lv_at hl 0 rfl) ?_
  refine lv_iload_n hx hb dJi_bitCount_35 rfl (lv_at hl 0 rfl) ?_
  refine lv_bipush (v := nI 8) hx hb dJi_bitCount_36 (by decide +kernel) ?_
  refine lv_iushr hx hb dJi_bitCount_38 (v := (x3.toUInt32 >>> ((nI 8).toUInt32 &&& Int32.toUInt32 31)).toInt32) rfl ?_
  refine lv_iadd hx hb dJi_bitCount_39 ?_
  refine lv_topi (fun x4 e4 => ?_)
  refine lv_istore_n (lv' := [(0, .int x4)]) hx hb dJi_bitCount_40 rfl hl (by decide) rfl (fun ls hl => ?_)
  refine lv_iload_n hx hb dJi_bitCount_41 rfl (lv_at hl 0 rfl) ?_
  refine lv_iload_n hx hb dJi_bitCount_42 rfl (lv_at hl 0 rfl) ?_
  refine lv_bipush (v := nI 16) hx hb dJi_bitCount_43 (by decide +kernel) ?_
  refine lv_iushr hx hb dJi_bitCount_45 (v := (x4.toUInt32 >>> ((nI 16).toUInt32 &&& Int32.toUInt32 31)).toInt32) rfl ?_
  refine lv_iadd hx hb dJi_bitCount_46 ?_
  refine lv_topi (fun x5 e5 => ?_)
  refine lv_istore_n (lv' := [(0, .int x5)]) hx hb dJi_bitCount_47 rfl hl (by decide) rfl (fun ls hl => ?_)
  refine lv_iload_n hx hb dJi_bitCount_48 rfl (lv_at hl 0 rfl) ?_
  refine lv_bipush (v := nI 63) hx hb dJi_bitCount_49 (by decide +kernel) ?_
  refine lv_iand hx hb dJi_bitCount_51 ?_
  have hfin := bc_all n hn
  have g1 : x1 = bc1 (nI n) := e1
  have g2 : x2 = bc2 x1 := e2
  have g3 : x3 = bc3 x2 := e3
  have g4 : x4 = bc4 x3 := e4
  have g5 : x5 = bc5 x4 := e5
  rw [← g1, ← g2, ← g3, ← g4, ← g5] at hfin
  rw [hfin]
  exact ct_iret X hst ⟨rfl, rfl⟩ (by omega) (by omega) dJi_bitCount_52
