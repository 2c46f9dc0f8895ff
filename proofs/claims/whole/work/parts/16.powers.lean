/-! The table of powers: three rows of 37 numbers. -/
theorem hp_st.push4 {D : va_G} {cl : List vw_C} {lo : Nat} {M : Hm} {H0 H H1 : Heap} {locs locs1 : List Loc} (h : hp_st D cl lo M H0 H locs) {a0 a1 a2 a3 : Nat} {e0 e1 e2 e3 : va_E} {t0 t1 t2 t3 : Nat × Nat}
    (hP : va_P D cl (wl M H.size ++ [(a0, e0), (a1, e1), (a2, e2), (a3, e3)]) H1) (hD : va_D (fun q => lo ≤ q) (wl M H.size ++ [(a0, e0), (a1, e1), (a2, e2), (a3, e3)])) (hS : va_S (fun q => lo ≤ q) H0 H1 locs1) :
    (M a0 = none ∧ M a1 = none ∧ M a2 = none ∧ M a3 = none) ∧ (a1 ≠ a0 ∧ a2 ≠ a0 ∧ a3 ≠ a0 ∧ a2 ≠ a1 ∧ a3 ≠ a1 ∧ a3 ≠ a2) ∧ hp_st D cl lo (hp_up (hp_up (hp_up (hp_up M a0 (t0, e0)) a1 (t1, e1)) a2 (t2, e2)) a3 (t3, e3)) H0 H1 locs1 := by
  have hat : ∀ (i : Nat) (z : Nat × va_E), ([(a0, e0), (a1, e1), (a2, e2), (a3, e3)] : va_W)[i]? = some z → (wl M H.size ++ [(a0, e0), (a1, e1), (a2, e2), (a3, e3)])[(wl M H.size).length + i]? = some z := by
    intro i z hi
    rw [List.getElem?_append_right (Nat.le_add_right _ _), Nat.add_sub_cancel_left]
    exact hi
  have hin : ∀ {j : Nat} {z : Nat × va_E}, (wl M H.size)[j]? = some z → (wl M H.size ++ [(a0, e0), (a1, e1), (a2, e2), (a3, e3)])[j]? = some z := by
    intro j z hj
    rw [List.getElem?_append_left (List.getElem?_eq_some_iff.mp hj).1]
    exact hj
  have hno : ∀ (i : Nat) (z : Nat × va_E), ([(a0, e0), (a1, e1), (a2, e2), (a3, e3)] : va_W)[i]? = some z → M z.1 = none := by
    intro i z hi
    cases hm : M z.1 with
    | none => rfl
    | some x =>
      obtain ⟨u, w⟩ := x
      obtain ⟨j, hj⟩ := h.ix hm
      have h1 := hD.1 _ _ _ _ (hin hj) (hat i z hi) rfl
      have h2 := (List.getElem?_eq_some_iff.mp hj).1
      omega
  have hne : ∀ (i j : Nat) (y z : Nat × va_E), ([(a0, e0), (a1, e1), (a2, e2), (a3, e3)] : va_W)[i]? = some y → ([(a0, e0), (a1, e1), (a2, e2), (a3, e3)] : va_W)[j]? = some z → i ≠ j → y.1 ≠ z.1 := by
    intro i j y z hi hj hij he
    have h1 := hD.1 _ _ _ _ (hat i y hi) (hat j z hj) he
    omega
  refine ⟨⟨hno 0 _ rfl, hno 1 _ rfl, hno 2 _ rfl, hno 3 _ rfl⟩, ⟨hne 1 0 _ _ rfl rfl (by omega), hne 2 0 _ _ rfl rfl (by omega), hne 3 0 _ _ rfl rfl (by omega), hne 2 1 _ _ rfl rfl (by omega), hne 3 1 _ _ rfl rfl (by omega), hne 3 2 _ _ rfl rfl (by omega)⟩, ⟨Nat.le_trans h.2.2 hS.1, fun b u x hb => ?_⟩, hS, h.2.2⟩
  by_cases h3 : b = a3
  · subst h3
    rw [hp_up_self] at hb
    cases hb
    exact ⟨hD.2 _ _ (hat 3 _ rfl), hP _ _ (hat 3 _ rfl)⟩
  rw [hp_up_ne h3] at hb
  by_cases h2 : b = a2
  · subst h2
    rw [hp_up_self] at hb
    cases hb
    exact ⟨hD.2 _ _ (hat 2 _ rfl), hP _ _ (hat 2 _ rfl)⟩
  rw [hp_up_ne h2] at hb
  by_cases h1 : b = a1
  · subst h1
    rw [hp_up_self] at hb
    cases hb
    exact ⟨hD.2 _ _ (hat 1 _ rfl), hP _ _ (hat 1 _ rfl)⟩
  rw [hp_up_ne h1] at hb
  by_cases h0 : b = a0
  · subst h0
    rw [hp_up_self] at hb
    cases hb
    exact ⟨hD.2 _ _ (hat 0 _ rfl), hP _ _ (hat 0 _ rfl)⟩
  rw [hp_up_ne h0] at hb
  obtain ⟨j, hj⟩ := h.ix hb
  exact ⟨(h.1.2 b u x hb).1, hP j _ (hin hj)⟩
section HPG
variable {p : Program} {l : Launch} {e : Env} {R : Room} {s : State} {m : MethodId} {args : Array Value} {below : List Frame} {meth : Method} {c : Code} {H : Heap} {locs : List Loc} {cells slots : Nat} {Q : State → Prop}
variable {cc : ByteArray} {pc : Nat} {ls : Array Slot} {rest : List Value} {D : va_G} {cl : List vw_C} {a : Nat} {tys : List (ClassId × FieldType)} {H0 : Heap} {lo : Nat} {M : Hm} {t : Nat × Nat} {Y : Nat → ClassId}
theorem hp_gald (hexec : p.tables.exec = Jvm.exec) (hb : c.code = cc) (hK : va_K D cl tys s) (ht : tys[3]? = some (Y 3, .array .int)) (hst : hp_st D cl lo M H0 H locs) {n j v : Nat} {g : Nat → Option Nat} (he : M a = some (t, e_g Y n g)) (hj : j < n) (hn : n < 2 ^ 31) (hv : g j = some v) (hdg : decode cc pc = .ok (.aaload, 1))
    (kk : W p l e R s m args below meth c H locs cells slots Q (F0 m (pc + 1) ls (.ref v :: rest))) : W p l e R s m args below meth c H locs cells slots Q (F0 m pc ls (.int (nI j) :: .ref a :: rest)) := by
  have hin := vp_in_nI hj hn
  have hcl := nI_clamp (n := j) (by omega)
  exact W.aald (v := .ref v) (ty := .array .int) hexec hb (hst.1.tk he) ((hK.2 3 _ ht).1 n (fun j => va_rf (g j))) rfl (fun q => by cases q) (by show ¬ (nI j < 0 ∨ (arrV _ _ _).slots.size ≤ _); rw [arrV_size]; exact hin) (by show (arrV _ _ _).slots[_]? = _; rw [hcl, arrV_read _ _ hj, hv]; rfl) rfl rfl hdg kk
theorem hp_mna3 (hexec : p.tables.exec = Jvm.exec) (hb : c.code = cc) {own : String} {index : Nat} (hown : s.vm.findClass own = some m.cls) (hclink : (Cond.classLink own index ("[" ++ (FieldType.array .int).toString)).before args s = true) (hover : va_AOA .int s) (harr : (Cond.arrayClass .int).before args s = true)
    (hK : va_K D cl tys s) (h0 : tys[0]? = some (Y 0, .int)) (h3 : tys[3]? = some (Y 3, .array .int)) (hst : hp_st D cl lo M H0 H locs) (t0 t1 t2 t3 : Nat × Nat) (hcells : cells + (1 + 3) ≤ R.cells) (hslots : slots + (3 + 3 * 37) ≤ R.slots) (hdg : decode cc pc = .ok (.multianewarray index 2, 4))
    (kk : ∀ (a0 a1 a2 a3 : Nat) (H1 : Heap), (M a0 = none ∧ M a1 = none ∧ M a2 = none ∧ M a3 = none) → (a1 ≠ a0 ∧ a2 ≠ a0 ∧ a3 ≠ a0 ∧ a2 ≠ a1 ∧ a3 ≠ a1 ∧ a3 ≠ a2) →
      hp_st D cl lo (hp_up (hp_up (hp_up (hp_up M a0 (t0, e_g Y 3 (fun i => if i = 0 then some a1 else if i = 1 then some a2 else if i = 2 then some a3 else none))) a1 (t1, e_n Y 37 (fun _ => 0))) a2 (t2, e_n Y 37 (fun _ => 0))) a3 (t3, e_n Y 37 (fun _ => 0))) H0 H1 locs →
      W p l e R s m args below meth c H1 locs (cells + 1 + 3) (slots + 3 + 3 * 37) Q (F0 m (pc + 4) ls (.ref a0 :: rest))) : W p l e R s m args below meth c H locs cells slots Q (F0 m pc ls (.int (nI 37) :: .int (nI 3) :: rest)) := by
  have hpl : va_pl [] (fun _ => e_n Y 0 (fun _ => 0)) = [] := rfl
  refine va_mna (X := wl M H.size) (L := []) (f := fun _ => e_n Y 0 (fun _ => 0)) (cy := Y 0) (z := (37, .inl (fun _ => nI 0))) (N' := 3) (K' := 37) hexec hb hown hclink hover harr (hK.2 0 _ h0).2 hK (by rw [hpl, List.append_nil]; exact hst.P) (by rw [hpl, List.append_nil]; exact hst.Dd) hst.2.1 hst.A (nI_pos (by omega)) (nI_pos (by omega)) (nI_clamp (by omega)) (nI_clamp (by omega)) (by omega) (by show 37 * 4 ≤ _; omega) (by omega) rfl rfl hcells hslots (fun c9 => ?_) hdg (fun q r cA H1 hinj _ hK' hP hD hS => ?_)
  · show ({ cls := c9, slots := Array.replicate 37 (.int 0), vm := .none } : Cell) = _
    rw [arrV_new]
    rfl
  have hc3 : cA = Y 3 := by
    have q1 := (hK.2 3 _ h3).2
    have q2 := (hK'.2 tys.length (cA, .array .int) (by rw [List.getElem?_append_right (Nat.le_refl _), Nat.sub_self]; rfl)).2
    exact Option.some.inj (q2.symm.trans q1)
  subst hc3
  have hr3 : (List.range 3).map r = [r 0, r 1, r 2] := rfl
  have hin : ∀ i, i < 3 → r i ∈ (List.range 3).map r := fun i hi => List.mem_map.mpr ⟨i, List.mem_range.mpr hi, rfl⟩
  have hl : va_pl ([] ++ (List.range 3).map r) (vr_up (fun _ => e_n Y 0 (fun _ => 0)) ((List.range 3).map r) (.inl (Y 0, (37, .inl (fun _ => nI 0))))) = [(r 0, e_n Y 37 (fun _ => 0)), (r 1, e_n Y 37 (fun _ => 0)), (r 2, e_n Y 37 (fun _ => 0))] := by
    show [(r 0, vr_up _ _ _ (r 0)), (r 1, vr_up _ _ _ (r 1)), (r 2, vr_up _ _ _ (r 2))] = _
    rw [vr_up_in (hin 0 (by omega)), vr_up_in (hin 1 (by omega)), vr_up_in (hin 2 (by omega))]
  rw [hl, List.append_assoc] at hP hD
  have hfun : (fun i => if i < 3 then some (r i) else none) = fun i => if i = 0 then some (r 0) else if i = 1 then some (r 1) else if i = 2 then some (r 2) else none := by
    funext i
    rcases (show i = 0 ∨ i = 1 ∨ i = 2 ∨ 3 ≤ i by omega) with rfl | rfl | rfl | h
    · rfl
    · rfl
    · rfl
    · rw [if_neg (by omega), if_neg (by omega), if_neg (by omega), if_neg (by omega)]
  rw [hfun] at hP hD
  obtain ⟨k1, k2, k3⟩ := hst.push4 (t0 := t0) (t1 := t1) (t2 := t2) (t3 := t3) hP hD hS
  exact kk q (r 0) (r 1) (r 2) H1 k1 k2 k3
end HPG
/-- the table's object, the array of its rows, the rows -/
def pt (Y : Nat → ClassId) (M : Hm) (ta fa : Nat) (g : Nat → Nat → Nat) : Prop :=
  ∃ (ra : Nat) (rr : Nat → Nat), M ta = some ((3, 0), .inr (2, [.ref fa, .ref ra])) ∧ (∃ gg : Nat → Option Nat, M ra = some ((3, 1), e_g Y 3 gg) ∧ ∀ v, v < 3 → gg v = some (rr v)) ∧ ∀ v, v < 3 → M (rr v) = some ((3, 2 + v), e_n Y 37 (g v))
theorem pt.off {Y : Nat → ClassId} {M M' : Hm} {ta fa : Nat} {g : Nat → Nat → Nat} {S : Nat → Prop} (h : pt Y M ta fa g) (ho : hp_off S M M') (hS : ¬ S 3) : pt Y M' ta fa g := by
  obtain ⟨ra, rr, h0, ⟨gg, h1, h2⟩, h3⟩ := h
  exact ⟨ra, rr, ho.of h0 hS, ⟨gg, ho.of h1 hS, h2⟩, fun v hv => ho.of (h3 v hv) hS⟩
theorem pt.cell {Y : Nat → ClassId} {M : Hm} {ta fa : Nat} {g : Nat → Nat → Nat} (h : pt Y M ta fa g) : ∃ fs : List Value, M ta = some ((3, 0), .inr (2, fs)) := by
  obtain ⟨ra, rr, h0, -⟩ := h
  exact ⟨_, h0⟩
/-- the powers of x modulo p -/
def pw (p x : Nat) : Nat → Nat
  | 0 => 1
  | k + 1 => pw p x k * x % p
theorem pw_lt {p x : Nat} (hp : 2 ≤ p) : ∀ k, pw p x k < p
  | 0 => hp
  | k + 1 => Nat.mod_lt _ (by omega)

set_option maxHeartbeats 4000000 in
set_option maxRecDepth 100000 in
theorem c_T_init (l : Launch) (D : va_G) (Y : Nat → ClassId) (lo : Nat) {M : Hm} {ta fa : Nat} (h0 : M ta = some ((3, 0), .inr (2, [.null, .null]))) : ct l D Y lo y_T_init b_T_init 2 none 1 [.ref ta, .ref fa] M (fun r M' => r = none ∧ pt Y M' ta fa (fun _ _ => 0) ∧ hp_off (fun i => i = 3) M M') nx 4 114 := by
  refine ct_of (by decide) (Nat.le_of_ble_eq_true rfl) ?_
  intro pg eg sg mg bw mt cg ls X hst hl
  have X1 := X
  obtain ⟨hx, hb, hml, hrt, hlocks, hown, hnm, hts, hkz, hex⟩ := X1
  have hG : ∀ w ∈ GW, w.before _ sg = true := fun w h => hts w (List.mem_cons_of_mem _ h)
  have hK := hkz.1
  have hl : lv_has ls 2 [(0, .ref ta), (1, .ref fa)] := hl
  have hin : mt.name = "<init>" := hnm
  refine lv_aload_n hx hb dT_init_0 rfl (lv_at hl 0 rfl) ?_
  refine W.objInit hx hb hown (hG _ ml_T_3) (hG _ wi_Jo_init) (hG _ wc_Jo_init) rfl (by rw [hml]; exact hl.1) rfl dT_init_1 (Nat.le_of_ble_eq_true rfl) (Nat.le_of_ble_eq_true rfl) ?_
  refine W.eq (g2 := F0 mg 4 ls []) rfl ?_
  refine lv_aload_n hx hb dT_init_4 rfl (lv_at hl 0 rfl) ?_
  refine lv_iconst (v := nI 3) hx hb dT_init_5 (by decide +kernel) ?_
  refine lv_bipush (v := nI 37) hx hb dT_init_6 (by decide +kernel) ?_
  refine hp_mna3 hx hb hown (hG _ cl_T_11) (hkz.2.2.2.1 _ ao_106) (hG _ ac_int) hK rfl rfl hst (3, 1) (3, 2) (3, 3) (3, 4) (rm_c (by omega)) (rm_s (by omega)) dT_init_8 (fun a0 a1 a2 a3 H hno hne hst => ?_)
  obtain ⟨n0, n1, n2, n3⟩ := hno
  obtain ⟨d1, d2, d3, d4, d5, d6⟩ := hne
  generalize hM : hp_up (hp_up (hp_up (hp_up M a0 ((3, 1), e_g Y 3 (fun i => if i = 0 then some a1 else if i = 1 then some a2 else if i = 2 then some a3 else none))) a1 ((3, 2), e_n Y 37 (fun _ => 0))) a2 ((3, 3), e_n Y 37 (fun _ => 0))) a3 ((3, 4), e_n Y 37 (fun _ => 0)) = M1 at hst
  have k3 : M1 a3 = some ((3, 4), e_n Y 37 (fun _ => 0)) := by rw [← hM]; exact hp_up_self _ _ _
  have k2 : M1 a2 = some ((3, 3), e_n Y 37 (fun _ => 0)) := by rw [← hM, hp_up_ne (Ne.symm d6)]; exact hp_up_self _ _ _
  have k1 : M1 a1 = some ((3, 2), e_n Y 37 (fun _ => 0)) := by rw [← hM, hp_up_ne (Ne.symm d5), hp_up_ne (Ne.symm d4)]; exact hp_up_self _ _ _
  have k0 : M1 a0 = some ((3, 1), e_g Y 3 (fun i => if i = 0 then some a1 else if i = 1 then some a2 else if i = 2 then some a3 else none)) := by rw [← hM, hp_up_ne (Ne.symm d3), hp_up_ne (Ne.symm d2), hp_up_ne (Ne.symm d1)]; exact hp_up_self _ _ _
  have kt : M1 ta = some ((3, 0), .inr (2, [.null, .null])) := by rw [← hM, hp_up_ne (hp_fr n3 h0), hp_up_ne (hp_fr n2 h0), hp_up_ne (hp_fr n1 h0), hp_up_ne (hp_fr n0 h0)]; exact h0
  have oo : hp_off (fun i => i = 3) M M1 := by
    rw [← hM]
    refine (((hp_off.nw (S := fun i => i = 3) n0 rfl).tr (hp_off.nw ?_ rfl)).tr (hp_off.nw ?_ rfl)).tr (hp_off.nw ?_ rfl)
    · rw [hp_up_ne d1]; exact n1
    · rw [hp_up_ne d4, hp_up_ne d2]; exact n2
    · rw [hp_up_ne d6, hp_up_ne d5, hp_up_ne d3]; exact n3
  refine hp_putF hx hb hG in_T ty_T tyok_T nm_T hown hK hst kt rfl 1 (by decide) (hG _ fl_T_13) rfl rfl hin rfl rfl rfl (Nat.le_of_ble_eq_true rfl) dT_init_12 (fs' := [.null, .ref a0]) rfl (fun H locs hst => ?_)
  generalize hM2 : hp_up M1 ta ((3, 0), .inr (2, [.null, .ref a0])) = M1 at hst
  have f3 : M1 ta = some ((3, 0), .inr (2, [.null, .ref a0])) := by rw [← hM2]; exact hp_up_self _ _ _
  have f4 : M1 a0 = some ((3, 1), e_g Y 3 (fun i => if i = 0 then some a1 else if i = 1 then some a2 else if i = 2 then some a3 else none)) := by rw [← hM2]; exact hp_kt kt k0 (tg2 (by decide))
  have f5 : M1 a1 = some ((3, 2), e_n Y 37 (fun _ => 0)) := by rw [← hM2]; exact hp_kt kt k1 (tg2 (by decide))
  have f6 : M1 a2 = some ((3, 3), e_n Y 37 (fun _ => 0)) := by rw [← hM2]; exact hp_kt kt k2 (tg2 (by decide))
  have f7 : M1 a3 = some ((3, 4), e_n Y 37 (fun _ => 0)) := by rw [← hM2]; exact hp_kt kt k3 (tg2 (by decide))
  have o8 : hp_off (fun i => i = 3) M M1 := by rw [← hM2]; exact hp_off.tr oo (hp_off.up kt rfl)
  refine lv_aload_n hx hb dT_init_15 rfl (lv_at hl 0 rfl) ?_
  refine lv_aload_n hx hb dT_init_16 rfl (lv_at hl 1 rfl) ?_
  refine hp_putF hx hb hG in_T ty_T tyok_T nm_T hown hK hst f3 rfl 0 (by decide) (hG _ fl_T_18) rfl rfl hin rfl rfl rfl (Nat.le_of_ble_eq_true rfl) dT_init_17 (fs' := [.ref fa, .ref a0]) rfl (fun H locs hst => ?_)
  generalize hM10 : hp_up M1 ta ((3, 0), .inr (2, [.ref fa, .ref a0])) = M9 at hst
  have f11 : M9 ta = some ((3, 0), .inr (2, [.ref fa, .ref a0])) := by rw [← hM10]; exact hp_up_self _ _ _
  have f12 : M9 a0 = some ((3, 1), e_g Y 3 (fun i => if i = 0 then some a1 else if i = 1 then some a2 else if i = 2 then some a3 else none)) := by rw [← hM10]; exact hp_kt f3 f4 (tg2 (by decide))
  have f13 : M9 a1 = some ((3, 2), e_n Y 37 (fun _ => 0)) := by rw [← hM10]; exact hp_kt f3 f5 (tg2 (by decide))
  have f14 : M9 a2 = some ((3, 3), e_n Y 37 (fun _ => 0)) := by rw [← hM10]; exact hp_kt f3 f6 (tg2 (by decide))
  have f15 : M9 a3 = some ((3, 4), e_n Y 37 (fun _ => 0)) := by rw [← hM10]; exact hp_kt f3 f7 (tg2 (by decide))
  have o16 : hp_off (fun i => i = 3) M M9 := by rw [← hM10]; exact hp_off.tr o8 (hp_off.up f3 rfl)
  have hrows : ∀ v, v < 3 → M9 ((fun i => if i = 0 then a1 else if i = 1 then a2 else a3) v) = some ((3, 2 + v), e_n Y 37 (fun _ => 0)) := by
    intro v hv
    rcases (show v = 0 ∨ v = 1 ∨ v = 2 by omega) with rfl | rfl | rfl
    · exact f13
    · exact f14
    · exact f15
  exact ct_vret X hst ⟨rfl, ⟨a0, _, f11, ⟨_, f12, fun v hv => by rcases (show v = 0 ∨ v = 1 ∨ v = 2 by omega) with rfl | rfl | rfl <;> rfl⟩, hrows⟩, o16⟩ (by omega) (by omega) dT_init_20

set_option maxHeartbeats 4000000 in
set_option maxRecDepth 100000 in
theorem c_T_fillRow (l : Launch) (D : va_G) (Y : Nat → ClassId) (lo : Nat) {M : Hm} {ta fa p : Nat} {g : Nat → Nat → Nat} (ht : pt Y M ta fa g) (hf : fd M fa p) {v x : Nat} (hv : v < 3) (hxp : x < p) : ct l D Y lo y_T_fillRow b_T_fillRow 4 none 1 [.ref ta, .int (nI v), .int (nI x)] M (fun r M' => r = none ∧ (∃ g' : Nat → Nat → Nat, (∀ k, k < 37 → g' v k = pw p x k) ∧ (∀ z, z ≠ v → g' z = g z) ∧ pt Y M' ta fa g') ∧ hp_off (fun i => i = 3) M M') nx 0 0 := by
  refine ct_of (by decide) (Nat.le_of_ble_eq_true rfl) ?_
  intro pg eg sg mg bw mt cg ls X hst hl
  have X1 := X
  obtain ⟨hx, hb, hml, hrt, hlocks, hown, hnm, hts, hkz, hex⟩ := X1
  have hG : ∀ w ∈ GW, w.before _ sg = true := fun w h => hts w (List.mem_cons_of_mem _ h)
  have hK := hkz.1
  have hl : lv_has ls 4 [(0, .ref ta), (1, .int (nI v)), (2, .int (nI x))] := hl
  have hpp := hf.2.1
  obtain ⟨ra, rr, t0, ⟨gg, t1, hgg⟩, t3⟩ := ht
  have tv := t3 v hv
  refine lv_aload_n hx hb dT_fillRow_0 rfl (lv_at hl 0 rfl) ?_
  refine hp_get hx hb hG in_T hown hK hst t0 rfl 1 (by decide) (hG _ fl_T_13) rfl rfl dT_fillRow_1 ?_
  refine lv_iload_n hx hb dT_fillRow_4 rfl (lv_at hl 1 rfl) ?_
  refine hp_gald hx hb hK rfl hst t1 (j := v) (v := rr v) hv (by omega) (hgg v hv) dT_fillRow_5 ?_
  refine lv_iconst (v := nI 0) hx hb dT_fillRow_6 (by decide +kernel) ?_
  refine lv_iconst (v := nI 1) hx hb dT_fillRow_7 (by decide +kernel) ?_
  refine hp_iast hx hb hK rfl hst tv (j := 0) (v := 1) (by omega) (by omega) dT_fillRow_8 (fun H locs hst => ?_)
  generalize hM2 : hp_up M (rr v) ((3, 2 + v), e_n Y 37 (va_up (g v) 0 1)) = M1 at hst
  have f3 : M1 (rr v) = some ((3, 2 + v), e_n Y 37 (va_up (g v) 0 1)) := by rw [← hM2]; exact hp_up_self _ _ _
  have f4 : M1 ta = some ((3, 0), .inr (2, [.ref fa, .ref ra])) := by rw [← hM2]; exact hp_kt tv t0 (tg2 (by omega))
  have f5 : M1 ra = some ((3, 1), e_g Y 3 gg) := by rw [← hM2]; exact hp_kt tv t1 (tg2 (by omega))
  refine lv_iconst (v := nI 1) hx hb dT_fillRow_9 (by decide +kernel) ?_
  refine lv_istore_n (lv' := [(3, .int (nI 1)), (0, .ref ta), (1, .int (nI v)), (2, .int (nI x))]) hx hb dT_fillRow_10 rfl hl (by decide) rfl (fun ls hl => ?_)
  have LP : ∀ (kk : Nat) (i : Nat) (row : Nat → Nat) (M1 : Hm) (H : Heap) (locs : List Loc) (ls : Array Slot), kk = 40 - i → (1 ≤ i) → (i ≤ 37) → (M1 ta = some ((3, 0), .inr (2, [.ref fa, .ref ra]))) → (M1 ra = some ((3, 1), e_g Y 3 gg)) → (M1 (rr v) = some ((3, 2 + v), e_n Y 37 row)) → (∀ z, z < 3 → z ≠ v → M1 (rr z) = some ((3, 2 + z), e_n Y 37 (g z))) → (∀ k, k < i → row k = pw p x k) → (hp_off (fun i => i = 3) M M1) → hp_st D vC lo M1 sg.heap H locs → lv_has ls 4 [(0, .ref ta), (1, .int (nI v)), (2, .int (nI x)), (3, .int (nI i))] → cW pg l eg sg mg [.ref ta, .int (nI v), .int (nI x)] bw mt cg y_T_fillRow b_T_fillRow 4 none 1 D lo (fun r M' => r = none ∧ (∃ g' : Nat → Nat → Nat, (∀ k, k < 37 → g' v k = pw p x k) ∧ (∀ z, z ≠ v → g' z = g z) ∧ pt Y M' ta fa g') ∧ hp_off (fun i => i = 3) M M') nx 0 0 H locs 0 0 (F0 mg 11 ls []) := by
    intro kk
    induction kk using Nat.strongRecOn with
    | _ kk ihLP =>
    intro i row M1 H locs ls hkk hi1 hi t0 t1 tv tw hrow ho hst hl
    have hfi : fd M1 fa p := hf.off ho (by omega)
    have hf0 := hfi.1
    refine lv_iload_n hx hb dT_fillRow_11 rfl (lv_at hl 3 rfl) ?_
    refine lv_bipush (v := nI 36) hx hb dT_fillRow_12 (by decide +kernel) ?_
    refine lv_icmp_gt hx hb dT_fillRow_14 (tgt := 49) rfl (fun hc => ?_) (fun hc => ?_)
    · skip
      have hc : 36 < i := (nI_ltI (by omega) (by omega)).mp hc
      have hi37 : i = 37 := by omega
      exact ct_vret X hst ⟨rfl, ⟨fun z => if z = v then row else g z, fun k hk => (by
        show (if v = v then row else g v) k = _
        rw [if_pos rfl]; exact hrow k (by omega)), fun z hz => if_neg hz, ⟨ra, rr, t0, ⟨gg, t1, hgg⟩, fun z hz => by
        by_cases h9 : z = v
        · rw [h9]
          show M1 (rr v) = some ((3, 2 + v), e_n Y 37 (if v = v then row else g v))
          rw [if_pos rfl]; exact tv
        · show M1 (rr z) = some ((3, 2 + z), e_n Y 37 (if z = v then row else g z))
          rw [if_neg h9]; exact tw z hz h9⟩⟩, ho⟩ (by omega) (by omega) dT_fillRow_49
    · skip
      have hc : ¬ 36 < i := fun z => hc ((nI_ltI (by omega) (by omega)).mpr z)
      refine lv_aload_n hx hb dT_fillRow_17 rfl (lv_at hl 0 rfl) ?_
      refine hp_get hx hb hG in_T hown hK hst t0 rfl 1 (by decide) (hG _ fl_T_13) rfl rfl dT_fillRow_18 ?_
      refine lv_iload_n hx hb dT_fillRow_21 rfl (lv_at hl 1 rfl) ?_
      refine hp_gald hx hb hK rfl hst t1 (j := v) (v := rr v) hv (by omega) (hgg v hv) dT_fillRow_22 ?_
      refine lv_iload_n hx hb dT_fillRow_23 rfl (lv_at hl 3 rfl) ?_
      refine lv_aload_n hx hb dT_fillRow_24 rfl (lv_at hl 0 rfl) ?_
      refine hp_get hx hb hG in_T hown hK hst t0 rfl 0 (by decide) (hG _ fl_T_18) rfl rfl dT_fillRow_25 ?_
      refine lv_aload_n hx hb dT_fillRow_28 rfl (lv_at hl 0 rfl) ?_
      refine hp_get hx hb hG in_T hown hK hst t0 rfl 1 (by decide) (hG _ fl_T_13) rfl rfl dT_fillRow_29 ?_
      refine lv_iload_n hx hb dT_fillRow_32 rfl (lv_at hl 1 rfl) ?_
      refine hp_gald hx hb hK rfl hst t1 (j := v) (v := rr v) hv (by omega) (hgg v hv) dT_fillRow_33 ?_
      refine lv_iload_n hx hb dT_fillRow_34 rfl (lv_at hl 3 rfl) ?_
      refine lv_iconst (v := nI 1) hx hb dT_fillRow_35 (by decide +kernel) ?_
      refine t_isub hx hb dT_fillRow_36 (v := nI (i - 1)) (pk_sub (by omega)) ?_
      refine hp_iald hx hb hK rfl hst tv (j := (i - 1)) (by omega) (by omega) dT_fillRow_37 ?_
      refine tp_n (e2 := pw p x (i - 1)) (hrow (i - 1) (by omega)) ?_
      refine lv_iload_n hx hb dT_fillRow_38 rfl (lv_at hl 2 rfl) ?_
      refine ct_callV (av2 := [.int (nI (pw p x (i - 1))), .int (nI x)]) (rest := [.int (nI i), .ref (rr v)]) (b := fa) X hst (c_F_product l D Y lo hfi (pw_lt hpp (i - 1)) hxp) hf0 rfl wc_F_product ml_T_22 wi_F_product wl_F_product wn_F md_F_product (by decide) hl.1 rfl (Nat.le_of_ble_eq_true rfl) ⟨by omega, by omega⟩ (fun _ _ h => h.elim) dT_fillRow_39 (fun r M' H locs hp hst => ?_)
      obtain ⟨rfl, rfl⟩ := hp
      refine tp_n (e2 := pw p x i) (by
        have h9 : i = (i - 1) + 1 := by omega
        rw [show pw p x i = pw p x ((i - 1) + 1) by rw [← h9]]
        rfl) ?_
      refine hp_iast hx hb hK rfl hst tv (j := i) (v := (pw p x i)) (by omega) (by omega) dT_fillRow_42 (fun H locs hst => ?_)
      generalize hM7 : hp_up M1 (rr v) ((3, 2 + v), e_n Y 37 (va_up row i (pw p x i))) = M6 at hst
      have f8 : M6 (rr v) = some ((3, 2 + v), e_n Y 37 (va_up row i (pw p x i))) := by rw [← hM7]; exact hp_up_self _ _ _
      have f9 : M6 ta = some ((3, 0), .inr (2, [.ref fa, .ref ra])) := by rw [← hM7]; exact hp_kt tv t0 (tg2 (by omega))
      have f10 : M6 ra = some ((3, 1), e_g Y 3 gg) := by rw [← hM7]; exact hp_kt tv t1 (tg2 (by omega))
      have f11 : M6 fa = some ((1, 0), .inr (0, [.int (nI p)])) := by rw [← hM7]; exact hp_kt tv hf0 (tg1 (by decide))
      have o12 : hp_off (fun i => i = 3) M M6 := by rw [← hM7]; exact hp_off.tr ho (hp_off.up tv rfl)
      refine lv_iinc (lv' := [(3, .int (nI (i + 1))), (0, .ref ta), (1, .int (nI v)), (2, .int (nI x))]) hx hb dT_fillRow_43 hl (k := 3) rfl (ii_p _) (by decide) rfl (fun ls hl => ?_)
      refine lv_goto hx hb dT_fillRow_46 (tgt := 11) rfl ?_
      exact ihLP _ (by omega) (i + 1) (va_up row i (pw p x i)) M6 _ _ _ rfl (by omega) (by omega) f9 f10 f8 (fun z hz hzv => by rw [← hM7]; exact hp_kt tv (tw z hz hzv) (tg2 (by omega))) (fun k hk => by
          by_cases h9 : k = i
          · subst h9; exact va_up_self _ _ _
          · rw [va_up_ne _ _ h9]; exact hrow k (by omega)) o12 hst (lv_sub hl [1, 2, 3, 0] rfl)
  exact LP _ 1 (va_up (g v) 0 1) M1 _ _ _ rfl (by omega) (by omega) f4 f5 f3 (fun z hz hzv => by rw [← hM2]; exact hp_kt tv (t3 z hz) (tg2 (by omega))) (fun k hk => by
    have : k = 0 := by omega
    subst this
    exact va_up_self _ _ _) (by rw [← hM2]; exact hp_off.up tv rfl) hst (lv_sub hl [1, 2, 3, 0] rfl)

/-- the product of the first n variables' powers -/
def atF (p : Nat) (g : Nat → Nat → Nat) (k : Nat) : Nat → Nat
  | 0 => 1
  | n + 1 => atF p g k n * g n (xe k n) % p

set_option maxHeartbeats 4000000 in
set_option maxRecDepth 100000 in
theorem c_T_at (l : Launch) (D : va_G) (Y : Nat → ClassId) (lo : Nat) {M : Hm} {ta fa p : Nat} {gw : Nat → Nat → Nat} (ht : pt Y M ta fa gw) (hf : fd M fa p) (hgp : ∀ v k, v < 3 → k < 37 → gw v k < p) {k : Nat} (hm : mv k) : ct l D Y lo y_T_at b_T_at 4 (some .int) 1 [.ref ta, .int (nI k)] M (fun r M' => r = some (.int (nI (atF p gw k 3))) ∧ M = M') nx 0 0 := by
  refine ct_of (by decide) (Nat.le_of_ble_eq_true rfl) ?_
  intro pg eg sg mg bw mt cg ls X hst hl
  have X1 := X
  obtain ⟨hx, hb, hml, hrt, hlocks, hown, hnm, hts, hkz, hex⟩ := X1
  have hG : ∀ w ∈ GW, w.before _ sg = true := fun w h => hts w (List.mem_cons_of_mem _ h)
  have hK := hkz.1
  have hl : lv_has ls 4 [(0, .ref ta), (1, .int (nI k))] := hl
  have hpp := hf.2.1
  have hf0 := hf.1
  have hm9 := mv_lt hm
  obtain ⟨ra, rr, t0, ⟨gg, t1, hgg⟩, t3⟩ := ht
  refine lv_iconst (v := nI 1) hx hb dT_at_0 (by decide +kernel) ?_
  refine lv_istore_n (lv' := [(2, .int (nI 1)), (0, .ref ta), (1, .int (nI k))]) hx hb dT_at_1 rfl hl (by decide) rfl (fun ls hl => ?_)
  refine lv_iconst (v := nI 0) hx hb dT_at_2 (by decide +kernel) ?_
  refine lv_istore_n (lv' := [(3, .int (nI 0)), (2, .int (nI 1)), (0, .ref ta), (1, .int (nI k))]) hx hb dT_at_3 rfl hl (by decide) rfl (fun ls hl => ?_)
  have LP : ∀ (kk : Nat) (r9 v : Nat) (H : Heap) (locs : List Loc) (ls : Array Slot), kk = 4 - v → (r9 < p) → (v ≤ 3) → (r9 = atF p gw k v) → hp_st D vC lo M sg.heap H locs → lv_has ls 4 [(0, .ref ta), (1, .int (nI k)), (2, .int (nI r9)), (3, .int (nI v))] → cW pg l eg sg mg [.ref ta, .int (nI k)] bw mt cg y_T_at b_T_at 4 (some .int) 1 D lo (fun r M' => r = some (.int (nI (atF p gw k 3))) ∧ M = M') nx 0 0 H locs 0 0 (F0 mg 4 ls []) := by
    intro kk
    induction kk using Nat.strongRecOn with
    | _ kk ih =>
    intro r9 v H locs ls hkk hr9 hv9 hinv hst hl
    refine lv_iload_n hx hb dT_at_4 rfl (lv_at hl 3 rfl) ?_
    refine lv_iconst (v := nI 3) hx hb dT_at_5 (by decide +kernel) ?_
    refine lv_icmp_ge hx hb dT_at_6 (tgt := 36) rfl (fun hc => ?_) (fun hc => ?_)
    · skip
      have hc : 3 ≤ v := (nI_leI (by omega) (by omega)).mp hc
      have hv3 : v = 3 := by omega
      subst hv3
      have hinv : r9 = atF p gw k 3 := hinv
      refine lv_iload_n hx hb dT_at_36 rfl (lv_at hl 2 rfl) ?_
      exact ct_iret X hst ⟨by rw [hinv], rfl⟩ (by omega) (by omega) dT_at_37
    · skip
      have hc : ¬ 3 ≤ v := fun z => hc ((nI_leI (by omega) (by omega)).mpr z)
      have hv : v < 3 := by omega
      have tv := t3 v hv
      have hxv : xe k v ≤ 36 := by
        have h1 := hm.1
        refine co3 (P := fun v => xe k v ≤ 36) ?_ ?_ ?_ hv <;> omega
      refine lv_aload_n hx hb dT_at_9 rfl (lv_at hl 0 rfl) ?_
      refine hp_get hx hb hG in_T hown hK hst t0 rfl 0 (by decide) (hG _ fl_T_18) rfl rfl dT_at_10 ?_
      refine lv_iload_n hx hb dT_at_13 rfl (lv_at hl 2 rfl) ?_
      refine lv_aload_n hx hb dT_at_14 rfl (lv_at hl 0 rfl) ?_
      refine hp_get hx hb hG in_T hown hK hst t0 rfl 1 (by decide) (hG _ fl_T_13) rfl rfl dT_at_15 ?_
      refine lv_iload_n hx hb dT_at_18 rfl (lv_at hl 3 rfl) ?_
      refine hp_gald hx hb hK rfl hst t1 (j := v) (v := rr v) hv (by omega) (hgg v hv) dT_at_19 ?_
      refine lv_iload_n hx hb dT_at_20 rfl (lv_at hl 1 rfl) ?_
      refine lv_iload_n hx hb dT_at_21 rfl (lv_at hl 3 rfl) ?_
      refine ct_callS (av2 := [.int (nI k), .int (nI v)]) (rest := [.ref (rr v), .int (nI r9), .ref fa]) X hst (c_Q_exponent l D Y lo (k := k) (v := v) (by omega) hv) wc_Q_exponent ml_T_28 ws_Q_exponent wn_Q md_Q_exponent (by decide) hl.1 rfl (Nat.le_of_ble_eq_true rfl) ⟨by omega, by omega⟩ (fun _ _ h => h.elim) dT_at_22 (fun r M' H locs hp hst => ?_)
      obtain ⟨rfl, rfl⟩ := hp
      refine hp_iald hx hb hK rfl hst tv (j := (xe k v)) (by omega) (by omega) dT_at_25 ?_
      refine ct_callV (av2 := [.int (nI r9), .int (nI ((gw v) (xe k v)))]) (rest := []) (b := fa) X hst (c_F_product l D Y lo hf hr9 (hgp v (xe k v) hv (by omega))) hf0 rfl wc_F_product ml_T_22 wi_F_product wl_F_product wn_F md_F_product (by decide) hl.1 rfl (Nat.le_of_ble_eq_true rfl) ⟨by omega, by omega⟩ (fun _ _ h => h.elim) dT_at_26 (fun r M' H locs hp hst => ?_)
      obtain ⟨rfl, rfl⟩ := hp
      refine lv_istore_n (lv' := [(2, .int (nI (r9 * gw v (xe k v) % p))), (0, .ref ta), (1, .int (nI k)), (3, .int (nI v))]) hx hb dT_at_29 rfl hl (by decide) rfl (fun ls hl => ?_)
      refine lv_iinc (lv' := [(3, .int (nI (v + 1))), (2, .int (nI (r9 * gw v (xe k v) % p))), (0, .ref ta), (1, .int (nI k))]) hx hb dT_at_30 hl (k := 3) rfl (ii_p _) (by decide) rfl (fun ls hl => ?_)
      refine lv_goto hx hb dT_at_33 (tgt := 4) rfl ?_
      exact ih _ (by omega) (r9 * gw v (xe k v) % p) (v + 1) _ _ _ rfl (Nat.mod_lt _ (by omega)) (by omega) (by rw [hinv]; rfl) hst (lv_sub hl [2, 3, 1, 0] rfl)
  exact LP _ 1 0 _ _ _ rfl (by omega) (by omega) rfl hst (lv_sub hl [2, 3, 1, 0] rfl)
