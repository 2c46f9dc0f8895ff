/-! Polynomial objects: po says that h holds the terms L, in rows of cap places. -/
theorem mx9 {a b : Nat} (ha : a < 2 ^ 31) (hb : b < 2 ^ 31) : (if nI a < nI b then nI b else nI a) = nI (max a b) := by
  by_cases h : a < b
  · rw [if_pos ((nI_ltI ha hb).mpr h), Nat.max_eq_right (by omega)]
  · rw [if_neg (fun z => h ((nI_ltI ha hb).mp z)), Nat.max_eq_left (by omega)]
def po (Y : Nat → ClassId) (M : Hm) (id h cap : Nat) (L : List (Nat × Nat)) : Prop :=
  ∃ (a b : Nat) (fa fb : Nat → Nat), M h = some ((id, 0), .inr (1, [.ref a, .ref b, .int (nI L.length)])) ∧ M a = some ((id, 1), e_n Y cap fa) ∧ M b = some ((id, 2), e_n Y cap fb) ∧
    (∀ (k : Nat) (q : Nat × Nat), L[k]? = some q → fa k = q.1 ∧ fb k = q.2) ∧ L.length ≤ cap ∧ 16 ≤ cap ∧ cap ≤ 65536
theorem po.off {Y : Nat → ClassId} {M M' : Hm} {id h cap : Nat} {L : List (Nat × Nat)} {S : Nat → Prop} (hp : po Y M id h cap L) (ho : hp_off S M M') (hS : ¬ S id) : po Y M' id h cap L := by
  obtain ⟨a, b, fa, fb, h0, h1, h2, h3⟩ := hp
  exact ⟨a, b, fa, fb, ho.of h0 hS, ho.of h1 hS, ho.of h2 hS, h3⟩
theorem po.cell {Y : Nat → ClassId} {M : Hm} {id h cap : Nat} {L : List (Nat × Nat)} (hp : po Y M id h cap L) : ∃ fs : List Value, M h = some ((id, 0), .inr (1, fs)) := by
  obtain ⟨a, b, fa, fb, h0, -⟩ := hp
  exact ⟨_, h0⟩
/-- the room behind one more term -/
def gc1 (n cap : Nat) : Nat := if n = cap then 2 * cap else cap
/-- the greatest exponent of a variable in a list, above g -/
def dgl (v : Nat) : List (Nat × Nat) → Nat → Nat
  | [], g => g
  | q :: qs, g => dgl v qs (max g (xe q.1 v))
def cfo (k : Nat) : List (Nat × Nat) → Nat
  | [] => 0
  | q :: qs => if q.1 = k then q.2 else cfo k qs
theorem dgl_lt {v g : Nat} : ∀ {L : List (Nat × Nat)}, g < 64 → dgl v L g < 64 := by
  intro L
  induction L generalizing g with
  | nil => intro h; exact h
  | cons q qs ih =>
    intro h
    have := xe_lt q.1 v
    exact ih (by omega)
theorem dr_cons {L : List (Nat × Nat)} {i : Nat} (h : i < L.length) : ∃ q, L[i]? = some q ∧ q ∈ L ∧ L.drop i = q :: L.drop (i + 1) := by
  refine ⟨L[i], List.getElem?_eq_getElem h, List.getElem_mem h, List.drop_eq_getElem_cons h⟩

set_option maxHeartbeats 4000000 in
set_option maxRecDepth 100000 in
theorem c_P_clear (l : Launch) (D : va_G) (Y : Nat → ClassId) (lo : Nat) {M : Hm} {id h cap : Nat} {L : List (Nat × Nat)} (hp : po Y M id h cap L) : ct l D Y lo y_P_clear b_P_clear 1 none 0 [.ref h] M (fun r M' => r = none ∧ po Y M' id h cap [] ∧ hp_off (fun i => i = id) M M') nx 0 0 := by
  refine ct_of (by decide) (Nat.le_of_ble_eq_true rfl) ?_
  intro pg eg sg mg bw mt cg ls X hst hl
  have X1 := X
  obtain ⟨hx, hb, hml, hrt, hlocks, hown, hnm, hts, hkz, hex⟩ := X1
  have hG : ∀ w ∈ GW, w.before _ sg = true := fun w h => hts w (List.mem_cons_of_mem _ h)
  have hK := hkz.1
  have hl : lv_has ls 1 [(0, .ref h)] := hl
  obtain ⟨a, b, fa, fb, h0, h1, h2, hL, hn, hc1, hc2⟩ := hp
  refine lv_aload_n hx hb dP_clear_0 rfl (lv_at hl 0 rfl) ?_
  refine lv_iconst (v := nI 0) hx hb dP_clear_1 (by decide +kernel) ?_
  refine hp_put hx hb hG in_P ty_P tyok_P nm_P hown hK hst h0 rfl 2 (by decide) (hG _ fl_P_16) rfl rfl rfl rfl (Nat.le_of_ble_eq_true rfl) dP_clear_2 (fs' := [.ref a, .ref b, .int (nI 0)]) rfl (fun H locs hst => ?_)
  generalize hM2 : hp_up M h ((id, 0), .inr (1, [.ref a, .ref b, .int (nI 0)])) = M1 at hst
  have f3 : M1 h = some ((id, 0), .inr (1, [.ref a, .ref b, .int (nI 0)])) := by rw [← hM2]; exact hp_up_self _ _ _
  have f4 : M1 a = some ((id, 1), e_n Y cap fa) := by rw [← hM2]; exact hp_kt h0 h1 (tg2 (by decide))
  have f5 : M1 b = some ((id, 2), e_n Y cap fb) := by rw [← hM2]; exact hp_kt h0 h2 (tg2 (by decide))
  have o6 : hp_off (fun i => i = id) M M1 := by rw [← hM2]; exact hp_off.up h0 rfl
  exact ct_vret X hst ⟨rfl, ⟨a, b, fa, fb, f3, f4, f5, (fun k q hq => by cases hq), Nat.zero_le _, hc1, hc2⟩, o6⟩ (by omega) (by omega) dP_clear_5

set_option maxHeartbeats 4000000 in
set_option maxRecDepth 100000 in
theorem c_P_init (l : Launch) (D : va_G) (Y : Nat → ClassId) (lo : Nat) {M : Hm} {id h : Nat} (h0 : M h = some ((id, 0), .inr (1, [.null, .null, .int (nI 0)]))) : ct l D Y lo y_P_init b_P_init 1 none 1 [.ref h] M (fun r M' => r = none ∧ po Y M' id h 16 [] ∧ hp_off (fun i => i = id) M M') nx 2 32 := by
  refine ct_of (by decide) (Nat.le_of_ble_eq_true rfl) ?_
  intro pg eg sg mg bw mt cg ls X hst hl
  have X1 := X
  obtain ⟨hx, hb, hml, hrt, hlocks, hown, hnm, hts, hkz, hex⟩ := X1
  have hG : ∀ w ∈ GW, w.before _ sg = true := fun w h => hts w (List.mem_cons_of_mem _ h)
  have hK := hkz.1
  have hl : lv_has ls 1 [(0, .ref h)] := hl
  have hin : mt.name = "<init>" := hnm
  refine lv_aload_n hx hb dP_init_0 rfl (lv_at hl 0 rfl) ?_
  refine W.objInit hx hb hown (hG _ ml_P_1) (hG _ wi_Jo_init) (hG _ wc_Jo_init) rfl (by rw [hml]; exact hl.1) rfl dP_init_1 (Nat.le_of_ble_eq_true rfl) (Nat.le_of_ble_eq_true rfl) ?_
  refine W.eq (g2 := F0 mg 4 ls []) rfl ?_
  refine lv_aload_n hx hb dP_init_4 rfl (lv_at hl 0 rfl) ?_
  refine lv_bipush (v := nI 16) hx hb dP_init_5 (by decide +kernel) ?_
  refine hp_newi hx hb (hG _ ac_int) hK rfl hst (id, 1) (N' := 16) (by omega) (rm_c (by omega)) (rm_s (by omega)) dP_init_7 (fun q1 H hq2 hst => ?_)
  generalize hM4 : hp_up M q1 ((id, 1), e_n Y 16 (fun _ => 0)) = M3 at hst
  have f5 : M3 q1 = some ((id, 1), e_n Y 16 (fun _ => 0)) := by rw [← hM4]; exact hp_up_self _ _ _
  have f6 : M3 h = some ((id, 0), .inr (1, [.null, .null, .int (nI 0)])) := by rw [← hM4]; exact hp_kf hq2 h0
  have o7 : hp_off (fun i => i = id) M M3 := by rw [← hM4]; exact hp_off.nw hq2 rfl
  refine hp_put hx hb hG in_P ty_P tyok_P nm_P hown hK hst f6 rfl 0 (by decide) (hG _ fl_P_9) rfl rfl rfl rfl (Nat.le_of_ble_eq_true rfl) dP_init_9 (fs' := [.ref q1, .null, .int (nI 0)]) rfl (fun H locs hst => ?_)
  generalize hM9 : hp_up M3 h ((id, 0), .inr (1, [.ref q1, .null, .int (nI 0)])) = M8 at hst
  have f10 : M8 h = some ((id, 0), .inr (1, [.ref q1, .null, .int (nI 0)])) := by rw [← hM9]; exact hp_up_self _ _ _
  have f11 : M8 q1 = some ((id, 1), e_n Y 16 (fun _ => 0)) := by rw [← hM9]; exact hp_kt f6 f5 (tg2 (by decide))
  have o12 : hp_off (fun i => i = id) M M8 := by rw [← hM9]; exact hp_off.tr o7 (hp_off.up f6 rfl)
  refine lv_aload_n hx hb dP_init_12 rfl (lv_at hl 0 rfl) ?_
  refine lv_bipush (v := nI 16) hx hb dP_init_13 (by decide +kernel) ?_
  refine hp_newi hx hb (hG _ ac_int) hK rfl hst (id, 2) (N' := 16) (by omega) (rm_c (by omega)) (rm_s (by omega)) dP_init_15 (fun q13 H hq14 hst => ?_)
  generalize hM16 : hp_up M8 q13 ((id, 2), e_n Y 16 (fun _ => 0)) = M15 at hst
  have f17 : M15 q13 = some ((id, 2), e_n Y 16 (fun _ => 0)) := by rw [← hM16]; exact hp_up_self _ _ _
  have f18 : M15 q1 = some ((id, 1), e_n Y 16 (fun _ => 0)) := by rw [← hM16]; exact hp_kf hq14 f11
  have f19 : M15 h = some ((id, 0), .inr (1, [.ref q1, .null, .int (nI 0)])) := by rw [← hM16]; exact hp_kf hq14 f10
  have o20 : hp_off (fun i => i = id) M M15 := by rw [← hM16]; exact hp_off.tr o12 (hp_off.nw hq14 rfl)
  refine hp_put hx hb hG in_P ty_P tyok_P nm_P hown hK hst f19 rfl 1 (by decide) (hG _ fl_P_13) rfl rfl rfl rfl (Nat.le_of_ble_eq_true rfl) dP_init_17 (fs' := [.ref q1, .ref q13, .int (nI 0)]) rfl (fun H locs hst => ?_)
  generalize hM22 : hp_up M15 h ((id, 0), .inr (1, [.ref q1, .ref q13, .int (nI 0)])) = M21 at hst
  have f23 : M21 h = some ((id, 0), .inr (1, [.ref q1, .ref q13, .int (nI 0)])) := by rw [← hM22]; exact hp_up_self _ _ _
  have f24 : M21 q1 = some ((id, 1), e_n Y 16 (fun _ => 0)) := by rw [← hM22]; exact hp_kt f19 f18 (tg2 (by decide))
  have f25 : M21 q13 = some ((id, 2), e_n Y 16 (fun _ => 0)) := by rw [← hM22]; exact hp_kt f19 f17 (tg2 (by decide))
  have o26 : hp_off (fun i => i = id) M M21 := by rw [← hM22]; exact hp_off.tr o20 (hp_off.up f19 rfl)
  exact ct_vret X hst ⟨rfl, ⟨q1, q13, _, _, f23, f24, f25, (fun k q hq => by cases hq), Nat.zero_le _, by omega, by omega⟩, o26⟩ (by omega) (by omega) dP_init_20

set_option maxHeartbeats 4000000 in
set_option maxRecDepth 100000 in
theorem c_P_append (l : Launch) (D : va_G) (Y : Nat → ClassId) (lo : Nat) {M : Hm} {id h cap : Nat} {L : List (Nat × Nat)} (hp : po Y M id h cap L) {mo co : Nat} (hcap : cap ≤ 32768) : ct l D Y lo y_P_append b_P_append 3 none 2 [.ref h, .int (nI mo), .int (nI co)] M (fun r M' => r = none ∧ po Y M' id h (gc1 L.length cap) (L ++ [(mo, co)]) ∧ hp_off (fun i => i = id) M M') nx (gc1 L.length cap - cap) (4 * (gc1 L.length cap - cap)) := by
  refine ct_of (by decide) (Nat.le_of_ble_eq_true rfl) ?_
  intro pg eg sg mg bw mt cg ls X hst hl
  have X1 := X
  obtain ⟨hx, hb, hml, hrt, hlocks, hown, hnm, hts, hkz, hex⟩ := X1
  have hG : ∀ w ∈ GW, w.before _ sg = true := fun w h => hts w (List.mem_cons_of_mem _ h)
  have hK := hkz.1
  have hl : lv_has ls 3 [(0, .ref h), (1, .int (nI mo)), (2, .int (nI co))] := hl
  obtain ⟨a, b, fa, fb, h0, h1, h2, hL, hn, hc1, hc2⟩ := hp
  refine lv_aload_n hx hb dP_append_0 rfl (lv_at hl 0 rfl) ?_
  refine hp_get hx hb hG in_P hown hK hst h0 rfl 2 (by decide) (hG _ fl_P_16) rfl rfl dP_append_1 ?_
  refine lv_aload_n hx hb dP_append_4 rfl (lv_at hl 0 rfl) ?_
  refine hp_get hx hb hG in_P hown hK hst h0 rfl 0 (by decide) (hG _ fl_P_9) rfl rfl dP_append_5 ?_
  refine hp_alen hx hb hK rfl hst h1 dP_append_8 ?_
  refine lv_icmp_ne hx hb dP_append_9 (tgt := 46) rfl (fun hc => ?_) (fun hc => ?_)
  · skip
    have hc : ¬ L.length = cap := fun z => hc ((nI_eq (by omega) (by omega)).mpr z)
    have hg : gc1 L.length cap = cap := if_neg hc
    refine lv_aload_n hx hb dP_append_46 rfl (lv_at hl 0 rfl) ?_
    refine hp_get hx hb hG in_P hown hK hst h0 rfl 0 (by decide) (hG _ fl_P_9) rfl rfl dP_append_47 ?_
    refine lv_aload_n hx hb dP_append_50 rfl (lv_at hl 0 rfl) ?_
    refine hp_get hx hb hG in_P hown hK hst h0 rfl 2 (by decide) (hG _ fl_P_16) rfl rfl dP_append_51 ?_
    refine lv_iload_n hx hb dP_append_54 rfl (lv_at hl 1 rfl) ?_
    refine hp_iast hx hb hK rfl hst h1 (j := L.length) (v := mo) (by omega) (by omega) dP_append_55 (fun H locs hst => ?_)
    generalize hM2 : hp_up M a ((id, 1), e_n Y cap (va_up fa L.length mo)) = M1 at hst
    have f3 : M1 a = some ((id, 1), e_n Y cap (va_up fa L.length mo)) := by rw [← hM2]; exact hp_up_self _ _ _
    have f4 : M1 h = some ((id, 0), .inr (1, [.ref a, .ref b, .int (nI L.length)])) := by rw [← hM2]; exact hp_kt h1 h0 (tg2 (by decide))
    have f5 : M1 b = some ((id, 2), e_n Y cap fb) := by rw [← hM2]; exact hp_kt h1 h2 (tg2 (by decide))
    have o6 : hp_off (fun i => i = id) M M1 := by rw [← hM2]; exact hp_off.up h1 rfl
    refine lv_aload_n hx hb dP_append_56 rfl (lv_at hl 0 rfl) ?_
    refine hp_get hx hb hG in_P hown hK hst f4 rfl 1 (by decide) (hG _ fl_P_13) rfl rfl dP_append_57 ?_
    refine lv_aload_n hx hb dP_append_60 rfl (lv_at hl 0 rfl) ?_
    refine hp_get hx hb hG in_P hown hK hst f4 rfl 2 (by decide) (hG _ fl_P_16) rfl rfl dP_append_61 ?_
    refine lv_iload_n hx hb dP_append_64 rfl (lv_at hl 2 rfl) ?_
    refine hp_iast hx hb hK rfl hst f5 (j := L.length) (v := co) (by omega) (by omega) dP_append_65 (fun H locs hst => ?_)
    generalize hM8 : hp_up M1 b ((id, 2), e_n Y cap (va_up fb L.length co)) = M7 at hst
    have f9 : M7 b = some ((id, 2), e_n Y cap (va_up fb L.length co)) := by rw [← hM8]; exact hp_up_self _ _ _
    have f10 : M7 h = some ((id, 0), .inr (1, [.ref a, .ref b, .int (nI L.length)])) := by rw [← hM8]; exact hp_kt f5 f4 (tg2 (by decide))
    have f11 : M7 a = some ((id, 1), e_n Y cap (va_up fa L.length mo)) := by rw [← hM8]; exact hp_kt f5 f3 (tg2 (by decide))
    have o12 : hp_off (fun i => i = id) M M7 := by rw [← hM8]; exact hp_off.tr o6 (hp_off.up f5 rfl)
    refine lv_aload_n hx hb dP_append_66 rfl (lv_at hl 0 rfl) ?_
    refine lv_dup hx hb dP_append_67 rfl ?_
    refine hp_get hx hb hG in_P hown hK hst f10 rfl 2 (by decide) (hG _ fl_P_16) rfl rfl dP_append_68 ?_
    refine lv_iconst (v := nI 1) hx hb dP_append_71 (by decide +kernel) ?_
    refine t_iadd hx hb dP_append_72 (v := nI (L.length + 1)) (nI_add _ _) ?_
    refine hp_put hx hb hG in_P ty_P tyok_P nm_P hown hK hst f10 rfl 2 (by decide) (hG _ fl_P_16) rfl rfl rfl rfl (Nat.le_of_ble_eq_true rfl) dP_append_73 (fs' := [.ref a, .ref b, .int (nI (L.length + 1))]) rfl (fun H locs hst => ?_)
    generalize hM14 : hp_up M7 h ((id, 0), .inr (1, [.ref a, .ref b, .int (nI (L.length + 1))])) = M13 at hst
    have f15 : M13 h = some ((id, 0), .inr (1, [.ref a, .ref b, .int (nI (L.length + 1))])) := by rw [← hM14]; exact hp_up_self _ _ _
    have f16 : M13 a = some ((id, 1), e_n Y cap (va_up fa L.length mo)) := by rw [← hM14]; exact hp_kt f10 f11 (tg2 (by decide))
    have f17 : M13 b = some ((id, 2), e_n Y cap (va_up fb L.length co)) := by rw [← hM14]; exact hp_kt f10 f9 (tg2 (by decide))
    have o18 : hp_off (fun i => i = id) M M13 := by rw [← hM14]; exact hp_off.tr o12 (hp_off.up f10 rfl)
    have hlen : (L ++ [(mo, co)]).length = L.length + 1 := by rw [List.length_append]; rfl
    have hcont : ∀ (k : Nat) (q : Nat × Nat), (L ++ [(mo, co)])[k]? = some q → (va_up fa L.length mo) k = q.1 ∧ (va_up fb L.length co) k = q.2 := by
      intro k q hq
      by_cases hk : k < L.length
      · rw [List.getElem?_append_left hk] at hq
        rw [va_up_ne _ _ (by omega), va_up_ne _ _ (by omega)]
        obtain ⟨i1, i2⟩ := hL k q hq
        exact ⟨i1, i2⟩
      · have hk2 : k < L.length + 1 := by
          have := (List.getElem?_eq_some_iff.mp hq).1
          omega
        have hk3 : k = L.length := by omega
        subst hk3
        rw [List.getElem?_append_right (Nat.le_refl _), Nat.sub_self] at hq
        cases hq
        exact ⟨va_up_self _ _ _, va_up_self _ _ _⟩
    exact ct_vret X hst ⟨rfl, ⟨a, b, _, _, (by rw [hlen]; exact f15), (by rw [hg]; exact f16), (by rw [hg]; exact f17), hcont, (by rw [hlen, hg]; omega), (by rw [hg]; omega), (by rw [hg]; omega)⟩, o18⟩ (by omega) (by omega) dP_append_76
  · skip
    have hc : L.length = cap := (nI_eq (by omega) (by omega)).mp hc
    have hg : gc1 L.length cap = 2 * cap := if_pos hc
    have hg2 : 2 * L.length = 2 * cap := by omega
    refine lv_aload_n hx hb dP_append_12 rfl (lv_at hl 0 rfl) ?_
    refine lv_aload_n hx hb dP_append_13 rfl (lv_at hl 0 rfl) ?_
    refine hp_get hx hb hG in_P hown hK hst h0 rfl 0 (by decide) (hG _ fl_P_9) rfl rfl dP_append_14 ?_
    refine lv_iconst (v := nI 2) hx hb dP_append_17 (by decide +kernel) ?_
    refine lv_aload_n hx hb dP_append_18 rfl (lv_at hl 0 rfl) ?_
    refine hp_get hx hb hG in_P hown hK hst h0 rfl 2 (by decide) (hG _ fl_P_16) rfl rfl dP_append_19 ?_
    refine t_imul hx hb dP_append_22 (v := nI (2 * L.length)) (pk_mul _ _) ?_
    refine ct_callS (av2 := [.ref a, .int (nI (2 * L.length))]) (rest := [.ref h]) X hst (c_Ja_copyOf l D Y lo (id, 1) h1 (k := 2 * L.length) (by omega) (by omega) (by omega)) wc_Ja_copyOf ml_P_20 ws_Ja_copyOf wn_Ja md_Ja_copyOf (by decide) hl.1 rfl (Nat.le_of_ble_eq_true rfl) ⟨by omega, by omega⟩ (fun _ _ h => h.elim) dP_append_23 (fun r M' H locs hp hst => ?_)
    obtain ⟨qa, rfl, hqa, rfl⟩ := hp
    rw [hg2] at hst
    generalize hM2 : hp_up M qa ((id, 1), e_n Y (2 * cap) (fun j => if j < cap then fa j else 0)) = M1 at hst
    have f3 : M1 qa = some ((id, 1), e_n Y (2 * cap) (fun j => if j < cap then fa j else 0)) := by rw [← hM2]; exact hp_up_self _ _ _
    have f4 : M1 h = some ((id, 0), .inr (1, [.ref a, .ref b, .int (nI L.length)])) := by rw [← hM2]; exact hp_kf hqa h0
    have f5 : M1 a = some ((id, 1), e_n Y cap fa) := by rw [← hM2]; exact hp_kf hqa h1
    have f6 : M1 b = some ((id, 2), e_n Y cap fb) := by rw [← hM2]; exact hp_kf hqa h2
    have o7 : hp_off (fun i => i = id) M M1 := by rw [← hM2]; exact hp_off.nw hqa rfl
    refine hp_put hx hb hG in_P ty_P tyok_P nm_P hown hK hst f4 rfl 0 (by decide) (hG _ fl_P_9) rfl rfl rfl rfl (Nat.le_of_ble_eq_true rfl) dP_append_26 (fs' := [.ref qa, .ref b, .int (nI L.length)]) rfl (fun H locs hst => ?_)
    generalize hM9 : hp_up M1 h ((id, 0), .inr (1, [.ref qa, .ref b, .int (nI L.length)])) = M8 at hst
    have f10 : M8 h = some ((id, 0), .inr (1, [.ref qa, .ref b, .int (nI L.length)])) := by rw [← hM9]; exact hp_up_self _ _ _
    have f11 : M8 b = some ((id, 2), e_n Y cap fb) := by rw [← hM9]; exact hp_kt f4 f6 (tg2 (by decide))
    have f12 : M8 qa = some ((id, 1), e_n Y (2 * cap) (fun j => if j < cap then fa j else 0)) := by rw [← hM9]; exact hp_kt f4 f3 (tg2 (by decide))
    have o13 : hp_off (fun i => i = id) M M8 := by rw [← hM9]; exact hp_off.tr o7 (hp_off.up f4 rfl)
    refine lv_aload_n hx hb dP_append_29 rfl (lv_at hl 0 rfl) ?_
    refine lv_aload_n hx hb dP_append_30 rfl (lv_at hl 0 rfl) ?_
    refine hp_get hx hb hG in_P hown hK hst f10 rfl 1 (by decide) (hG _ fl_P_13) rfl rfl dP_append_31 ?_
    refine lv_iconst (v := nI 2) hx hb dP_append_34 (by decide +kernel) ?_
    refine lv_aload_n hx hb dP_append_35 rfl (lv_at hl 0 rfl) ?_
    refine hp_get hx hb hG in_P hown hK hst f10 rfl 2 (by decide) (hG _ fl_P_16) rfl rfl dP_append_36 ?_
    refine t_imul hx hb dP_append_39 (v := nI (2 * L.length)) (pk_mul _ _) ?_
    refine ct_callS (av2 := [.ref b, .int (nI (2 * L.length))]) (rest := [.ref h]) X hst (c_Ja_copyOf l D Y lo (id, 2) f11 (k := 2 * L.length) (by omega) (by omega) (by omega)) wc_Ja_copyOf ml_P_20 ws_Ja_copyOf wn_Ja md_Ja_copyOf (by decide) hl.1 rfl (Nat.le_of_ble_eq_true rfl) ⟨by omega, by omega⟩ (fun _ _ h => h.elim) dP_append_40 (fun r M' H locs hp hst => ?_)
    obtain ⟨qb, rfl, hqb, rfl⟩ := hp
    rw [hg2] at hst
    generalize hM15 : hp_up M8 qb ((id, 2), e_n Y (2 * cap) (fun j => if j < cap then fb j else 0)) = M14 at hst
    have f16 : M14 qb = some ((id, 2), e_n Y (2 * cap) (fun j => if j < cap then fb j else 0)) := by rw [← hM15]; exact hp_up_self _ _ _
    have f17 : M14 b = some ((id, 2), e_n Y cap fb) := by rw [← hM15]; exact hp_kf hqb f11
    have f18 : M14 qa = some ((id, 1), e_n Y (2 * cap) (fun j => if j < cap then fa j else 0)) := by rw [← hM15]; exact hp_kf hqb f12
    have f19 : M14 h = some ((id, 0), .inr (1, [.ref qa, .ref b, .int (nI L.length)])) := by rw [← hM15]; exact hp_kf hqb f10
    have o20 : hp_off (fun i => i = id) M M14 := by rw [← hM15]; exact hp_off.tr o13 (hp_off.nw hqb rfl)
    refine hp_put hx hb hG in_P ty_P tyok_P nm_P hown hK hst f19 rfl 1 (by decide) (hG _ fl_P_13) rfl rfl rfl rfl (Nat.le_of_ble_eq_true rfl) dP_append_43 (fs' := [.ref qa, .ref qb, .int (nI L.length)]) rfl (fun H locs hst => ?_)
    generalize hM22 : hp_up M14 h ((id, 0), .inr (1, [.ref qa, .ref qb, .int (nI L.length)])) = M21 at hst
    have f23 : M21 h = some ((id, 0), .inr (1, [.ref qa, .ref qb, .int (nI L.length)])) := by rw [← hM22]; exact hp_up_self _ _ _
    have f24 : M21 qa = some ((id, 1), e_n Y (2 * cap) (fun j => if j < cap then fa j else 0)) := by rw [← hM22]; exact hp_kt f19 f18 (tg2 (by decide))
    have f25 : M21 qb = some ((id, 2), e_n Y (2 * cap) (fun j => if j < cap then fb j else 0)) := by rw [← hM22]; exact hp_kt f19 f16 (tg2 (by decide))
    have o26 : hp_off (fun i => i = id) M M21 := by rw [← hM22]; exact hp_off.tr o20 (hp_off.up f19 rfl)
    refine lv_aload_n hx hb dP_append_46 rfl (lv_at hl 0 rfl) ?_
    refine hp_get hx hb hG in_P hown hK hst f23 rfl 0 (by decide) (hG _ fl_P_9) rfl rfl dP_append_47 ?_
    refine lv_aload_n hx hb dP_append_50 rfl (lv_at hl 0 rfl) ?_
    refine hp_get hx hb hG in_P hown hK hst f23 rfl 2 (by decide) (hG _ fl_P_16) rfl rfl dP_append_51 ?_
    refine lv_iload_n hx hb dP_append_54 rfl (lv_at hl 1 rfl) ?_
    refine hp_iast hx hb hK rfl hst f24 (j := L.length) (v := mo) (by omega) (by omega) dP_append_55 (fun H locs hst => ?_)
    generalize hM28 : hp_up M21 qa ((id, 1), e_n Y (2 * cap) (va_up (fun j => if j < cap then fa j else 0) L.length mo)) = M27 at hst
    have f29 : M27 qa = some ((id, 1), e_n Y (2 * cap) (va_up (fun j => if j < cap then fa j else 0) L.length mo)) := by rw [← hM28]; exact hp_up_self _ _ _
    have f30 : M27 qb = some ((id, 2), e_n Y (2 * cap) (fun j => if j < cap then fb j else 0)) := by rw [← hM28]; exact hp_kt f24 f25 (tg2 (by decide))
    have f31 : M27 h = some ((id, 0), .inr (1, [.ref qa, .ref qb, .int (nI L.length)])) := by rw [← hM28]; exact hp_kt f24 f23 (tg2 (by decide))
    have o32 : hp_off (fun i => i = id) M M27 := by rw [← hM28]; exact hp_off.tr o26 (hp_off.up f24 rfl)
    refine lv_aload_n hx hb dP_append_56 rfl (lv_at hl 0 rfl) ?_
    refine hp_get hx hb hG in_P hown hK hst f31 rfl 1 (by decide) (hG _ fl_P_13) rfl rfl dP_append_57 ?_
    refine lv_aload_n hx hb dP_append_60 rfl (lv_at hl 0 rfl) ?_
    refine hp_get hx hb hG in_P hown hK hst f31 rfl 2 (by decide) (hG _ fl_P_16) rfl rfl dP_append_61 ?_
    refine lv_iload_n hx hb dP_append_64 rfl (lv_at hl 2 rfl) ?_
    refine hp_iast hx hb hK rfl hst f30 (j := L.length) (v := co) (by omega) (by omega) dP_append_65 (fun H locs hst => ?_)
    generalize hM34 : hp_up M27 qb ((id, 2), e_n Y (2 * cap) (va_up (fun j => if j < cap then fb j else 0) L.length co)) = M33 at hst
    have f35 : M33 qb = some ((id, 2), e_n Y (2 * cap) (va_up (fun j => if j < cap then fb j else 0) L.length co)) := by rw [← hM34]; exact hp_up_self _ _ _
    have f36 : M33 h = some ((id, 0), .inr (1, [.ref qa, .ref qb, .int (nI L.length)])) := by rw [← hM34]; exact hp_kt f30 f31 (tg2 (by decide))
    have f37 : M33 qa = some ((id, 1), e_n Y (2 * cap) (va_up (fun j => if j < cap then fa j else 0) L.length mo)) := by rw [← hM34]; exact hp_kt f30 f29 (tg2 (by decide))
    have o38 : hp_off (fun i => i = id) M M33 := by rw [← hM34]; exact hp_off.tr o32 (hp_off.up f30 rfl)
    refine lv_aload_n hx hb dP_append_66 rfl (lv_at hl 0 rfl) ?_
    refine lv_dup hx hb dP_append_67 rfl ?_
    refine hp_get hx hb hG in_P hown hK hst f36 rfl 2 (by decide) (hG _ fl_P_16) rfl rfl dP_append_68 ?_
    refine lv_iconst (v := nI 1) hx hb dP_append_71 (by decide +kernel) ?_
    refine t_iadd hx hb dP_append_72 (v := nI (L.length + 1)) (nI_add _ _) ?_
    refine hp_put hx hb hG in_P ty_P tyok_P nm_P hown hK hst f36 rfl 2 (by decide) (hG _ fl_P_16) rfl rfl rfl rfl (Nat.le_of_ble_eq_true rfl) dP_append_73 (fs' := [.ref qa, .ref qb, .int (nI (L.length + 1))]) rfl (fun H locs hst => ?_)
    generalize hM40 : hp_up M33 h ((id, 0), .inr (1, [.ref qa, .ref qb, .int (nI (L.length + 1))])) = M39 at hst
    have f41 : M39 h = some ((id, 0), .inr (1, [.ref qa, .ref qb, .int (nI (L.length + 1))])) := by rw [← hM40]; exact hp_up_self _ _ _
    have f42 : M39 qa = some ((id, 1), e_n Y (2 * cap) (va_up (fun j => if j < cap then fa j else 0) L.length mo)) := by rw [← hM40]; exact hp_kt f36 f37 (tg2 (by decide))
    have f43 : M39 qb = some ((id, 2), e_n Y (2 * cap) (va_up (fun j => if j < cap then fb j else 0) L.length co)) := by rw [← hM40]; exact hp_kt f36 f35 (tg2 (by decide))
    have o44 : hp_off (fun i => i = id) M M39 := by rw [← hM40]; exact hp_off.tr o38 (hp_off.up f36 rfl)
    have hlen : (L ++ [(mo, co)]).length = L.length + 1 := by rw [List.length_append]; rfl
    have hcont : ∀ (k : Nat) (q : Nat × Nat), (L ++ [(mo, co)])[k]? = some q → (va_up (fun j => if j < cap then fa j else 0) L.length mo) k = q.1 ∧ (va_up (fun j => if j < cap then fb j else 0) L.length co) k = q.2 := by
      intro k q hq
      by_cases hk : k < L.length
      · rw [List.getElem?_append_left hk] at hq
        rw [va_up_ne _ _ (by omega), va_up_ne _ _ (by omega)]
        obtain ⟨i1, i2⟩ := hL k q hq
        exact ⟨(by rw [if_pos (by omega)]; exact i1), (by rw [if_pos (by omega)]; exact i2)⟩
      · have hk2 : k < L.length + 1 := by
          have := (List.getElem?_eq_some_iff.mp hq).1
          omega
        have hk3 : k = L.length := by omega
        subst hk3
        rw [List.getElem?_append_right (Nat.le_refl _), Nat.sub_self] at hq
        cases hq
        exact ⟨va_up_self _ _ _, va_up_self _ _ _⟩
    exact ct_vret X hst ⟨rfl, ⟨qa, qb, _, _, (by rw [hlen]; exact f41), (by rw [hg]; exact f42), (by rw [hg]; exact f43), hcont, (by rw [hlen, hg]; omega), (by rw [hg]; omega), (by rw [hg]; omega)⟩, o44⟩ (by omega) (by omega) dP_append_76

set_option maxHeartbeats 4000000 in
set_option maxRecDepth 100000 in
theorem c_P_isZero (l : Launch) (D : va_G) (Y : Nat → ClassId) (lo : Nat) {M : Hm} {id h cap : Nat} {L : List (Nat × Nat)} (hp : po Y M id h cap L) : ct l D Y lo y_P_isZero b_P_isZero 1 (some .boolean) 0 [.ref h] M (fun r M' => ∃ b : Nat, r = some (.int (nI b)) ∧ b ≤ 1 ∧ (b = 1 ↔ L = []) ∧ M = M') nx 0 0 := by
  refine ct_of (by decide) (Nat.le_of_ble_eq_true rfl) ?_
  intro pg eg sg mg bw mt cg ls X hst hl
  have X1 := X
  obtain ⟨hx, hb, hml, hrt, hlocks, hown, hnm, hts, hkz, hex⟩ := X1
  have hG : ∀ w ∈ GW, w.before _ sg = true := fun w h => hts w (List.mem_cons_of_mem _ h)
  have hK := hkz.1
  have hl : lv_has ls 1 [(0, .ref h)] := hl
  obtain ⟨a, b, fa, fb, h0, h1, h2, hL, hn, hc1, hc2⟩ := hp
  refine lv_aload_n hx hb dP_isZero_0 rfl (lv_at hl 0 rfl) ?_
  refine hp_get hx hb hG in_P hown hK hst h0 rfl 2 (by decide) (hG _ fl_P_16) rfl rfl dP_isZero_1 ?_
  refine lv_if_ne hx hb dP_isZero_4 (tgt := 11) rfl (fun hc => ?_) (fun hc => ?_)
  · skip
    rw [← nI_0] at hc
    have hc : ¬ L.length = 0 := fun z => hc ((nI_eq (by omega) (by omega)).mpr z)
    refine lv_iconst (v := nI 0) hx hb dP_isZero_11 (by decide +kernel) ?_
    exact ct_zret X hst (by omega) ⟨0, rfl, by omega, iff_of_false (by omega) (fun z => by rw [z] at hc; exact hc rfl), rfl⟩ (by omega) (by omega) dP_isZero_12
  · skip
    rw [← nI_0] at hc
    have hc : L.length = 0 := (nI_eq (by omega) (by omega)).mp hc
    refine lv_iconst (v := nI 1) hx hb dP_isZero_7 (by decide +kernel) ?_
    refine lv_goto hx hb dP_isZero_8 (tgt := 12) rfl ?_
    exact ct_zret X hst (by omega) ⟨1, rfl, by omega, iff_of_true rfl (List.length_eq_zero_iff.mp hc), rfl⟩ (by omega) (by omega) dP_isZero_12

set_option maxHeartbeats 4000000 in
set_option maxRecDepth 100000 in
theorem c_P_degreeIn (l : Launch) (D : va_G) (Y : Nat → ClassId) (lo : Nat) {M : Hm} {id h cap : Nat} {L : List (Nat × Nat)} (hp : po Y M id h cap L) {v : Nat} (hv : v < 3) (hmo : ∀ q ∈ L, q.1 < 2 ^ 31) : ct l D Y lo y_P_degreeIn b_P_degreeIn 4 (some .int) 1 [.ref h, .int (nI v)] M (fun r M' => r = some (.int (nI (dgl v L 0))) ∧ M = M') nx 0 0 := by
  refine ct_of (by decide) (Nat.le_of_ble_eq_true rfl) ?_
  intro pg eg sg mg bw mt cg ls X hst hl
  have X1 := X
  obtain ⟨hx, hb, hml, hrt, hlocks, hown, hnm, hts, hkz, hex⟩ := X1
  have hG : ∀ w ∈ GW, w.before _ sg = true := fun w h => hts w (List.mem_cons_of_mem _ h)
  have hK := hkz.1
  have hl : lv_has ls 4 [(0, .ref h), (1, .int (nI v))] := hl
  obtain ⟨a, b, fa, fb, h0, h1, h2, hL, hn, hc1, hc2⟩ := hp
  refine lv_iconst (v := nI 0) hx hb dP_degreeIn_0 (by decide +kernel) ?_
  refine lv_istore_n (lv' := [(2, .int (nI 0)), (0, .ref h), (1, .int (nI v))]) hx hb dP_degreeIn_1 rfl hl (by decide) rfl (fun ls hl => ?_)
  refine lv_iconst (v := nI 0) hx hb dP_degreeIn_2 (by decide +kernel) ?_
  refine lv_istore_n (lv' := [(3, .int (nI 0)), (2, .int (nI 0)), (0, .ref h), (1, .int (nI v))]) hx hb dP_degreeIn_3 rfl hl (by decide) rfl (fun ls hl => ?_)
  have LP : ∀ (kk : Nat) (g i : Nat) (H : Heap) (locs : List Loc) (ls : Array Slot), kk = L.length - i → (g < 64) → (i ≤ L.length) → (dgl v (L.drop i) g = dgl v L 0) → hp_st D vC lo M sg.heap H locs → lv_has ls 4 [(0, .ref h), (1, .int (nI v)), (2, .int (nI g)), (3, .int (nI i))] → cW pg l eg sg mg [.ref h, .int (nI v)] bw mt cg y_P_degreeIn b_P_degreeIn 4 (some .int) 1 D lo (fun r M' => r = some (.int (nI (dgl v L 0))) ∧ M = M') nx 0 0 H locs 0 0 (F0 mg 4 ls []) := by
    intro kk
    induction kk using Nat.strongRecOn with
    | _ kk ih =>
    intro g i H locs ls hkk hg hi hinv hst hl
    refine lv_iload_n hx hb dP_degreeIn_4 rfl (lv_at hl 3 rfl) ?_
    refine lv_aload_n hx hb dP_degreeIn_5 rfl (lv_at hl 0 rfl) ?_
    refine hp_get hx hb hG in_P hown hK hst h0 rfl 2 (by decide) (hG _ fl_P_16) rfl rfl dP_degreeIn_6 ?_
    refine lv_icmp_ge hx hb dP_degreeIn_9 (tgt := 33) rfl (fun hc => ?_) (fun hc => ?_)
    · skip
      have hc : L.length ≤ i := (nI_leI (by omega) (by omega)).mp hc
      rw [List.drop_eq_nil_of_le (by omega)] at hinv
      have hinv : g = dgl v L 0 := hinv
      refine lv_iload_n hx hb dP_degreeIn_33 rfl (lv_at hl 2 rfl) ?_
      exact ct_iret X hst ⟨by rw [hinv], rfl⟩ (by omega) (by omega) dP_degreeIn_34
    · skip
      have hc : ¬ L.length ≤ i := fun z => hc ((nI_leI (by omega) (by omega)).mpr z)
      obtain ⟨q, hq1, hq2, hq3⟩ := dr_cons (L := L) (i := i) (by omega)
      obtain ⟨i1, i2⟩ := hL i q hq1
      have hm := hmo q hq2
      have hx9 := xe_lt q.1 v
      refine lv_iload_n hx hb dP_degreeIn_12 rfl (lv_at hl 2 rfl) ?_
      refine lv_aload_n hx hb dP_degreeIn_13 rfl (lv_at hl 0 rfl) ?_
      refine hp_get hx hb hG in_P hown hK hst h0 rfl 0 (by decide) (hG _ fl_P_9) rfl rfl dP_degreeIn_14 ?_
      refine lv_iload_n hx hb dP_degreeIn_17 rfl (lv_at hl 3 rfl) ?_
      refine hp_iald hx hb hK rfl hst h1 (j := i) (by omega) (by omega) dP_degreeIn_18 ?_
      refine tp_n (e2 := q.1) i1 ?_
      refine lv_iload_n hx hb dP_degreeIn_19 rfl (lv_at hl 1 rfl) ?_
      refine ct_callS (av2 := [.int (nI q.1), .int (nI v)]) (rest := [.int (nI g)]) X hst (c_Q_exponent l D Y lo (k := q.1) (v := v) (by omega) hv) wc_Q_exponent ml_P_35 ws_Q_exponent wn_Q md_Q_exponent (by decide) hl.1 rfl (Nat.le_of_ble_eq_true rfl) ⟨by omega, by omega⟩ (fun _ _ h => h.elim) dP_degreeIn_20 (fun r M' H locs hp hst => ?_)
      obtain ⟨rfl, rfl⟩ := hp
      refine va_mmax hx hb (by rw [hml]; exact hl.1.symm) hown (hG _ ml_P_39) (hG _ ws_Jm_max) (hG _ wn_Jm) (hG _ wc_Jm_max) (Nat.le_of_ble_eq_true rfl) (Nat.le_of_ble_eq_true rfl) (by show _ ≤ _; omega) (by show _ ≤ _; omega) dP_degreeIn_23 ?_
      refine tp_i (e2 := nI (max g (xe q.1 v))) (mx9 (by omega) (by omega)) ?_
      refine lv_istore_n (lv' := [(2, .int (nI (max g (xe q.1 v)))), (0, .ref h), (1, .int (nI v)), (3, .int (nI i))]) hx hb dP_degreeIn_26 rfl hl (by decide) rfl (fun ls hl => ?_)
      refine lv_iinc (lv' := [(3, .int (nI (i + 1))), (2, .int (nI (max g (xe q.1 v)))), (0, .ref h), (1, .int (nI v))]) hx hb dP_degreeIn_27 hl (k := 3) rfl (ii_p _) (by decide) rfl (fun ls hl => ?_)
      refine lv_goto hx hb dP_degreeIn_30 (tgt := 4) rfl ?_
      exact ih _ (by omega) (max g (xe q.1 v)) (i + 1) _ _ _ rfl (by omega) (by omega) (by rw [hq3] at hinv; exact hinv) hst (lv_sub hl [2, 3, 1, 0] rfl)
  exact LP _ 0 0 _ _ _ rfl (by omega) (by omega) rfl hst (lv_sub hl [2, 3, 1, 0] rfl)

set_option maxHeartbeats 4000000 in
set_option maxRecDepth 100000 in
theorem c_P_coefficientOf (l : Launch) (D : va_G) (Y : Nat → ClassId) (lo : Nat) {M : Hm} {id h cap : Nat} {L : List (Nat × Nat)} (hp : po Y M id h cap L) {k9 : Nat} (hk9 : k9 < 2 ^ 31) (hmo : ∀ q ∈ L, q.1 < 2 ^ 31) : ct l D Y lo y_P_coefficientOf b_P_coefficientOf 3 (some .int) 0 [.ref h, .int (nI k9)] M (fun r M' => r = some (.int (nI (cfo k9 L))) ∧ M = M') nx 0 0 := by
  refine ct_of (by decide) (Nat.le_of_ble_eq_true rfl) ?_
  intro pg eg sg mg bw mt cg ls X hst hl
  have X1 := X
  obtain ⟨hx, hb, hml, hrt, hlocks, hown, hnm, hts, hkz, hex⟩ := X1
  have hG : ∀ w ∈ GW, w.before _ sg = true := fun w h => hts w (List.mem_cons_of_mem _ h)
  have hK := hkz.1
  have hl : lv_has ls 3 [(0, .ref h), (1, .int (nI k9))] := hl
  obtain ⟨a, b, fa, fb, h0, h1, h2, hL, hn, hc1, hc2⟩ := hp
  refine lv_iconst (v := nI 0) hx hb dP_coefficientOf_0 (by decide +kernel) ?_
  refine lv_istore_n (lv' := [(2, .int (nI 0)), (0, .ref h), (1, .int (nI k9))]) hx hb dP_coefficientOf_1 rfl hl (by decide) rfl (fun ls hl => ?_)
  have LP : ∀ (kk : Nat) (i : Nat) (H : Heap) (locs : List Loc) (ls : Array Slot), kk = L.length - i → (i ≤ L.length) → (cfo k9 (L.drop i) = cfo k9 L) → hp_st D vC lo M sg.heap H locs → lv_has ls 3 [(0, .ref h), (1, .int (nI k9)), (2, .int (nI i))] → cW pg l eg sg mg [.ref h, .int (nI k9)] bw mt cg y_P_coefficientOf b_P_coefficientOf 3 (some .int) 0 D lo (fun r M' => r = some (.int (nI (cfo k9 L))) ∧ M = M') nx 0 0 H locs 0 0 (F0 mg 2 ls []) := by
    intro kk
    induction kk using Nat.strongRecOn with
    | _ kk ih =>
    intro i H locs ls hkk hi hinv hst hl
    refine lv_iload_n hx hb dP_coefficientOf_2 rfl (lv_at hl 2 rfl) ?_
    refine lv_aload_n hx hb dP_coefficientOf_3 rfl (lv_at hl 0 rfl) ?_
    refine hp_get hx hb hG in_P hown hK hst h0 rfl 2 (by decide) (hG _ fl_P_16) rfl rfl dP_coefficientOf_4 ?_
    refine lv_icmp_ge hx hb dP_coefficientOf_7 (tgt := 33) rfl (fun hc => ?_) (fun hc => ?_)
    · skip
      have hc : L.length ≤ i := (nI_leI (by omega) (by omega)).mp hc
      rw [List.drop_eq_nil_of_le (by omega)] at hinv
      have hinv : 0 = cfo k9 L := hinv
      refine lv_iconst (v := nI 0) hx hb dP_coefficientOf_33 (by decide +kernel) ?_
      exact ct_iret X hst ⟨by rw [← hinv], rfl⟩ (by omega) (by omega) dP_coefficientOf_34
    · skip
      have hc : ¬ L.length ≤ i := fun z => hc ((nI_leI (by omega) (by omega)).mpr z)
      obtain ⟨q, hq1, hq2, hq3⟩ := dr_cons (L := L) (i := i) (by omega)
      obtain ⟨i1, i2⟩ := hL i q hq1
      have hm := hmo q hq2
      refine lv_aload_n hx hb dP_coefficientOf_10 rfl (lv_at hl 0 rfl) ?_
      refine hp_get hx hb hG in_P hown hK hst h0 rfl 0 (by decide) (hG _ fl_P_9) rfl rfl dP_coefficientOf_11 ?_
      refine lv_iload_n hx hb dP_coefficientOf_14 rfl (lv_at hl 2 rfl) ?_
      refine hp_iald hx hb hK rfl hst h1 (j := i) (by omega) (by omega) dP_coefficientOf_15 ?_
      refine tp_n (e2 := q.1) i1 ?_
      refine lv_iload_n hx hb dP_coefficientOf_16 rfl (lv_at hl 1 rfl) ?_
      refine lv_icmp_ne hx hb dP_coefficientOf_17 (tgt := 27) rfl (fun hc => ?_) (fun hc => ?_)
      · skip
        have hc3 : ¬ q.1 = k9 := fun z => hc ((nI_eq (by omega) (by omega)).mpr z)
        refine lv_iinc (lv' := [(2, .int (nI (i + 1))), (0, .ref h), (1, .int (nI k9))]) hx hb dP_coefficientOf_27 hl (k := 2) rfl (ii_p _) (by decide) rfl (fun ls hl => ?_)
        refine lv_goto hx hb dP_coefficientOf_30 (tgt := 2) rfl ?_
        exact ih _ (by omega) (i + 1) _ _ _ rfl (by omega) (by
            rw [hq3] at hinv
            have h9 : (if q.1 = k9 then q.2 else cfo k9 (L.drop (i + 1))) = cfo k9 L := hinv
            rwa [if_neg hc3] at h9) hst (lv_sub hl [1, 2, 0] rfl)
      · skip
        have hc3 : q.1 = k9 := (nI_eq (by omega) (by omega)).mp hc
        refine lv_aload_n hx hb dP_coefficientOf_20 rfl (lv_at hl 0 rfl) ?_
        refine hp_get hx hb hG in_P hown hK hst h0 rfl 1 (by decide) (hG _ fl_P_13) rfl rfl dP_coefficientOf_21 ?_
        refine lv_iload_n hx hb dP_coefficientOf_24 rfl (lv_at hl 2 rfl) ?_
        refine hp_iald hx hb hK rfl hst h2 (j := i) (by omega) (by omega) dP_coefficientOf_25 ?_
        refine tp_n (e2 := q.2) i2 ?_
        exact ct_iret X hst ⟨by
          rw [hq3] at hinv
          have h9 : (if q.1 = k9 then q.2 else cfo k9 (L.drop (i + 1))) = cfo k9 L := hinv
          rw [if_pos hc3] at h9
          rw [h9], rfl⟩ (by omega) (by omega) dP_coefficientOf_26
  exact LP _ 0 _ _ _ rfl (by omega) rfl hst (lv_sub hl [1, 2, 0] rfl)

set_option maxHeartbeats 4000000 in
set_option maxRecDepth 100000 in
theorem c_P_matches (l : Launch) (D : va_G) (Y : Nat → ClassId) (lo : Nat) {M : Hm} {id h cap : Nat} {L : List (Nat × Nat)} (hp : po Y M id h cap L) {id2 ha2 cap2 : Nat} {L2 : List (Nat × Nat)} (hp2 : po Y M id2 ha2 cap2 L2) (hmo : ∀ q ∈ L, q.1 < 2 ^ 31 ∧ q.2 < 2 ^ 31) (hmo2 : ∀ q ∈ L2, q.1 < 2 ^ 31 ∧ q.2 < 2 ^ 31) : ct l D Y lo y_P_matches b_P_matches 3 (some .boolean) 0 [.ref h, .ref ha2] M (fun r M' => ∃ b : Nat, r = some (.int (nI b)) ∧ b ≤ 1 ∧ (b = 1 ↔ L = L2) ∧ M = M') nx 0 0 := by
  refine ct_of (by decide) (Nat.le_of_ble_eq_true rfl) ?_
  intro pg eg sg mg bw mt cg ls X hst hl
  have X1 := X
  obtain ⟨hx, hb, hml, hrt, hlocks, hown, hnm, hts, hkz, hex⟩ := X1
  have hG : ∀ w ∈ GW, w.before _ sg = true := fun w h => hts w (List.mem_cons_of_mem _ h)
  have hK := hkz.1
  have hl : lv_has ls 3 [(0, .ref h), (1, .ref ha2)] := hl
  obtain ⟨a, b, fa, fb, h0, h1, h2, hL, hn, hc1, hc2⟩ := hp
  obtain ⟨a2, b2, fa2, fb2, h02, h12, h22, hL2, hn2, hc12, hc22⟩ := hp2
  refine lv_aload_n hx hb dP_matches_0 rfl (lv_at hl 0 rfl) ?_
  refine hp_get hx hb hG in_P hown hK hst h0 rfl 2 (by decide) (hG _ fl_P_16) rfl rfl dP_matches_1 ?_
  refine lv_aload_n hx hb dP_matches_4 rfl (lv_at hl 1 rfl) ?_
  refine hp_get hx hb hG in_P hown hK hst h02 rfl 2 (by decide) (hG _ fl_P_16) rfl rfl dP_matches_5 ?_
  refine lv_icmp_eq hx hb dP_matches_8 (tgt := 13) rfl (fun hc => ?_) (fun hc => ?_)
  · skip
    have hc : L.length = L2.length := (nI_eq (by omega) (by omega)).mp hc
    refine lv_iconst (v := nI 0) hx hb dP_matches_13 (by decide +kernel) ?_
    refine lv_istore_n (lv' := [(2, .int (nI 0)), (0, .ref h), (1, .ref ha2)]) hx hb dP_matches_14 rfl hl (by decide) rfl (fun ls hl => ?_)
    have LP : ∀ (kk : Nat) (i : Nat) (H : Heap) (locs : List Loc) (ls : Array Slot), kk = L.length - i → (i ≤ L.length) → (L.drop i = L2.drop i ↔ L = L2) → hp_st D vC lo M sg.heap H locs → lv_has ls 3 [(0, .ref h), (1, .ref ha2), (2, .int (nI i))] → cW pg l eg sg mg [.ref h, .ref ha2] bw mt cg y_P_matches b_P_matches 3 (some .boolean) 0 D lo (fun r M' => ∃ b : Nat, r = some (.int (nI b)) ∧ b ≤ 1 ∧ (b = 1 ↔ L = L2) ∧ M = M') nx 0 0 H locs 0 0 (F0 mg 15 ls []) := by
      intro kk
      induction kk using Nat.strongRecOn with
      | _ kk ih =>
      intro i H locs ls hkk hi hinv hst hl
      refine lv_iload_n hx hb dP_matches_15 rfl (lv_at hl 2 rfl) ?_
      refine lv_aload_n hx hb dP_matches_16 rfl (lv_at hl 0 rfl) ?_
      refine hp_get hx hb hG in_P hown hK hst h0 rfl 2 (by decide) (hG _ fl_P_16) rfl rfl dP_matches_17 ?_
      refine lv_icmp_ge hx hb dP_matches_20 (tgt := 61) rfl (fun hc => ?_) (fun hc => ?_)
      · skip
        have hc : L.length ≤ i := (nI_leI (by omega) (by omega)).mp hc
        have he : L = L2 := hinv.mp (by rw [List.drop_eq_nil_of_le (by omega), List.drop_eq_nil_of_le (by omega)])
        refine lv_iconst (v := nI 1) hx hb dP_matches_61 (by decide +kernel) ?_
        exact ct_zret X hst (by omega) ⟨1, rfl, by omega, iff_of_true rfl he, rfl⟩ (by omega) (by omega) dP_matches_62
      · skip
        have hc : ¬ L.length ≤ i := fun z => hc ((nI_leI (by omega) (by omega)).mpr z)
        obtain ⟨q, hq1, hq2, hq3⟩ := dr_cons (L := L) (i := i) (by omega)
        obtain ⟨i1, i2⟩ := hL i q hq1
        obtain ⟨q2, hq12, hq22, hq32⟩ := dr_cons (L := L2) (i := i) (by omega)
        obtain ⟨i12, i22⟩ := hL2 i q2 hq12
        have hm := hmo q hq2
        have hm2 := hmo2 q2 hq22
        rw [hq3, hq32] at hinv
        refine lv_aload_n hx hb dP_matches_23 rfl (lv_at hl 0 rfl) ?_
        refine hp_get hx hb hG in_P hown hK hst h0 rfl 0 (by decide) (hG _ fl_P_9) rfl rfl dP_matches_24 ?_
        refine lv_iload_n hx hb dP_matches_27 rfl (lv_at hl 2 rfl) ?_
        refine hp_iald hx hb hK rfl hst h1 (j := i) (by omega) (by omega) dP_matches_28 ?_
        refine tp_n (e2 := q.1) i1 ?_
        refine lv_aload_n hx hb dP_matches_29 rfl (lv_at hl 1 rfl) ?_
        refine hp_get hx hb hG in_P hown hK hst h02 rfl 0 (by decide) (hG _ fl_P_9) rfl rfl dP_matches_30 ?_
        refine lv_iload_n hx hb dP_matches_33 rfl (lv_at hl 2 rfl) ?_
        refine hp_iald hx hb hK rfl hst h12 (j := i) (by omega) (by omega) dP_matches_34 ?_
        refine tp_n (e2 := q2.1) i12 ?_
        refine lv_icmp_ne hx hb dP_matches_35 (tgt := 53) rfl (fun hc => ?_) (fun hc => ?_)
        · skip
          have hc4 : ¬ q.1 = q2.1 := fun z => hc ((nI_eq (by omega) (by omega)).mpr z)
          refine lv_iconst (v := nI 0) hx hb dP_matches_53 (by decide +kernel) ?_
          exact ct_zret X hst (by omega) ⟨0, rfl, by omega, iff_of_false (by omega) (fun z => hc4 (by have h9 := hinv.mpr z; injection h9 with h9 _; rw [h9])), rfl⟩ (by omega) (by omega) dP_matches_54
        · skip
          have hc4 : q.1 = q2.1 := (nI_eq (by omega) (by omega)).mp hc
          refine lv_aload_n hx hb dP_matches_38 rfl (lv_at hl 0 rfl) ?_
          refine hp_get hx hb hG in_P hown hK hst h0 rfl 1 (by decide) (hG _ fl_P_13) rfl rfl dP_matches_39 ?_
          refine lv_iload_n hx hb dP_matches_42 rfl (lv_at hl 2 rfl) ?_
          refine hp_iald hx hb hK rfl hst h2 (j := i) (by omega) (by omega) dP_matches_43 ?_
          refine tp_n (e2 := q.2) i2 ?_
          refine lv_aload_n hx hb dP_matches_44 rfl (lv_at hl 1 rfl) ?_
          refine hp_get hx hb hG in_P hown hK hst h02 rfl 1 (by decide) (hG _ fl_P_13) rfl rfl dP_matches_45 ?_
          refine lv_iload_n hx hb dP_matches_48 rfl (lv_at hl 2 rfl) ?_
          refine hp_iald hx hb hK rfl hst h22 (j := i) (by omega) (by omega) dP_matches_49 ?_
          refine tp_n (e2 := q2.2) i22 ?_
          refine lv_icmp_eq hx hb dP_matches_50 (tgt := 55) rfl (fun hc => ?_) (fun hc => ?_)
          · skip
            have hc5 : q.2 = q2.2 := (nI_eq (by omega) (by omega)).mp hc
            refine lv_iinc (lv' := [(2, .int (nI (i + 1))), (0, .ref h), (1, .ref ha2)]) hx hb dP_matches_55 hl (k := 2) rfl (ii_p _) (by decide) rfl (fun ls hl => ?_)
            refine lv_goto hx hb dP_matches_58 (tgt := 15) rfl ?_
            exact ih _ (by omega) (i + 1) _ _ _ rfl (by omega) (by
                have hqq : q = q2 := Prod.ext hc4 hc5
                rw [← hinv, hqq]
                exact ⟨fun z => by rw [z], fun z => by injection z⟩) hst (lv_sub hl [1, 2, 0] rfl)
          · skip
            have hc5 : ¬ q.2 = q2.2 := fun z => hc ((nI_eq (by omega) (by omega)).mpr z)
            refine lv_iconst (v := nI 0) hx hb dP_matches_53 (by decide +kernel) ?_
            exact ct_zret X hst (by omega) ⟨0, rfl, by omega, iff_of_false (by omega) (fun z => hc5 (by have h9 := hinv.mpr z; injection h9 with h9 _; rw [h9])), rfl⟩ (by omega) (by omega) dP_matches_54
    exact LP _ 0 _ _ _ rfl (by omega) Iff.rfl hst (lv_sub hl [1, 2, 0] rfl)
  · skip
    have hc : ¬ L.length = L2.length := fun z => hc ((nI_eq (by omega) (by omega)).mpr z)
    refine lv_iconst (v := nI 0) hx hb dP_matches_11 (by decide +kernel) ?_
    exact ct_zret X hst (by omega) ⟨0, rfl, by omega, iff_of_false (by omega) (fun z => hc (by rw [z])), rfl⟩ (by omega) (by omega) dP_matches_12

set_option maxHeartbeats 4000000 in
set_option maxRecDepth 100000 in
theorem c_P_becomeNumber (l : Launch) (D : va_G) (Y : Nat → ClassId) (lo : Nat) {M : Hm} {id h cap : Nat} {L : List (Nat × Nat)} (hp : po Y M id h cap L) {x : Nat} (hx9 : x < 2 ^ 31) (hcap : cap ≤ 32768) : ct l D Y lo y_P_becomeNumber b_P_becomeNumber 2 none 3 [.ref h, .int (nI x)] M (fun r M' => r = none ∧ po Y M' id h cap (if x = 0 then [] else [(0, x)]) ∧ hp_off (fun i => i = id) M M') nx 0 0 := by
  refine ct_of (by decide) (Nat.le_of_ble_eq_true rfl) ?_
  intro pg eg sg mg bw mt cg ls X hst hl
  have X1 := X
  obtain ⟨hx, hb, hml, hrt, hlocks, hown, hnm, hts, hkz, hex⟩ := X1
  have hG : ∀ w ∈ GW, w.before _ sg = true := fun w h => hts w (List.mem_cons_of_mem _ h)
  have hK := hkz.1
  have hl : lv_has ls 2 [(0, .ref h), (1, .int (nI x))] := hl
  refine lv_aload_n hx hb dP_becomeNumber_0 rfl (lv_at hl 0 rfl) ?_
  obtain ⟨fs0, hcell⟩ := hp.cell
  refine ct_callV (av2 := []) (rest := []) (b := h) X hst (c_P_clear l D Y lo hp) hcell rfl wc_P_clear ml_P_26 wi_P_clear wl_P_clear wn_P md_P_clear (by decide) hl.1 rfl (Nat.le_of_ble_eq_true rfl) ⟨by omega, by omega⟩ (fun _ _ h => h.elim) dP_becomeNumber_1 (fun r M' H locs hp hst => ?_)
  obtain ⟨rfl, hp1, ho1⟩ := hp
  refine lv_iload_n hx hb dP_becomeNumber_4 rfl (lv_at hl 1 rfl) ?_
  refine lv_if_eq hx hb dP_becomeNumber_5 (tgt := 14) rfl (fun hc => ?_) (fun hc => ?_)
  · skip
    rw [← nI_0] at hc
    have hc : x = 0 := (nI_eq (by omega) (by omega)).mp hc
    exact ct_vret X hst ⟨rfl, (by subst hc; exact hp1), ho1⟩ (by omega) (by omega) dP_becomeNumber_14
  · skip
    rw [← nI_0] at hc
    have hc : ¬ x = 0 := fun z => hc ((nI_eq (by omega) (by omega)).mpr z)
    refine lv_aload_n hx hb dP_becomeNumber_8 rfl (lv_at hl 0 rfl) ?_
    refine lv_iconst (v := nI 0) hx hb dP_becomeNumber_9 (by decide +kernel) ?_
    refine lv_iload_n hx hb dP_becomeNumber_10 rfl (lv_at hl 1 rfl) ?_
    obtain ⟨fs1, hcell1⟩ := hp1.cell
    have hcp : 16 ≤ cap := by obtain ⟨_, _, _, _, _, _, _, _, _, h9, _⟩ := hp; exact h9
    have hg0 : gc1 ([] : List (Nat × Nat)).length cap = cap := if_neg (by show ¬ 0 = cap; omega)
    refine ct_callV (av2 := [.int (nI 0), .int (nI x)]) (rest := []) (b := h) X hst (c_P_append l D Y lo hp1 (mo := 0) (co := x) hcap) hcell1 rfl wc_P_append ml_P_31 wi_P_append wl_P_append wn_P md_P_append (by decide) hl.1 rfl (Nat.le_of_ble_eq_true rfl) ⟨by omega, by omega⟩ (fun _ _ h => h.elim) dP_becomeNumber_11 (fun r M' H locs hp hst => ?_)
    obtain ⟨rfl, hp2, ho2⟩ := hp
    rw [hg0] at hp2
    exact ct_vret X hst ⟨rfl, (by rw [if_neg hc]; exact hp2), ho1.tr ho2⟩ (by omega) (by omega) dP_becomeNumber_14
