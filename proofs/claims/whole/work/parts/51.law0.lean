/-! The law: its own rows, and what holds at its start. -/
section LAW0
variable {p : Program} {l : Launch} {e : Env} {R : Room} {s : State} {m : MethodId} {args : Array Value} {below : List Frame} {meth : Method} {c : Code} {H : Heap} {locs : List Loc} {cells slots : Nat} {Q : State → Prop}
variable {cc : ByteArray} {pc : Nat} {ls : Array Slot} {rest : List Value} {D : va_G} {cl : List vw_C} {a : Nat} {tys : List (ClassId × FieldType)} {H0 : Heap} {lo : Nat} {M : Hm} {t : Nat × Nat} {Y : Nat → ClassId}
theorem hp_lald (hexec : p.tables.exec = Jvm.exec) (hb : c.code = cc) (hK : va_K D cl tys s) (ht : tys[1]? = some (Y 1, .long)) (hst : hp_st D cl lo M H0 H locs) {n j : Nat} {f : Nat → Int64} (he : M a = some (t, e_l Y n f)) (hj : j < n) (hn : n < 2 ^ 31) (hdg : decode cc pc = .ok (.laload, 1))
    (kk : W p l e R s m args below meth c H locs cells slots Q (F0 m (pc + 1) ls (.long (f j) :: rest))) : W p l e R s m args below meth c H locs cells slots Q (F0 m pc ls (.int (nI j) :: .ref a :: rest)) := by
  refine va_lald hexec hb hK (hst.1.P he) 0 1 rfl ht (vp_in_nI hj hn) hdg ?_
  rw [nI_clamp (by omega)]
  exact kk
theorem hp_last (hexec : p.tables.exec = Jvm.exec) (hb : c.code = cc) (hK : va_K D cl tys s) (ht : tys[1]? = some (Y 1, .long)) (hst : hp_st D cl lo M H0 H locs) {n j : Nat} {f : Nat → Int64} {v : Int64} (he : M a = some (t, e_l Y n f)) (hj : j < n) (hn : n < 2 ^ 31) (hdg : decode cc pc = .ok (.lastore, 1))
    (kk : ∀ (H1 : Heap) (locs1 : List Loc) (f' : Nat → Int64), f' j = v → hp_st D cl lo (hp_up M a (t, e_l Y n f')) H0 H1 locs1 → W p l e R s m args below meth c H1 locs1 cells slots Q (F0 m (pc + 1) ls rest)) : W p l e R s m args below meth c H locs cells slots Q (F0 m pc ls (.long v :: .int (nI j) :: .ref a :: rest)) := by
  obtain ⟨k0, hk0⟩ := hst.ix he
  refine va_last hexec hb hK hst.P hst.Dd hst.2.1 k0 1 hk0 ht (vp_in_nI hj hn) hdg (fun H1 locs1 hP _ hS => kk H1 locs1 _ ?_ (hst.set hk0 he hP hS))
  rw [nI_clamp (by omega)]
  simp [vp_updL]
theorem hp_newl (hexec : p.tables.exec = Jvm.exec) (hb : c.code = cc) (harr : (Cond.arrayClass .long).before args s = true) (hK : va_K D cl tys s) (ht : tys[1]? = some (Y 1, .long)) (hst : hp_st D cl lo M H0 H locs) (u : Nat × Nat)
    {N' : Nat} (hbytes : N' ≤ 67108864) (hcells : cells + 1 ≤ R.cells) (hslots : slots + N' ≤ R.slots) (hdg : decode cc pc = .ok (.newarray .long, 2))
    (kk : ∀ (q : Nat) (H1 : Heap), M q = none → hp_st D cl lo (hp_up M q (u, e_l Y N' (fun _ => 0))) H0 H1 locs → W p l e R s m args below meth c H1 locs (cells + 1) (slots + N') Q (F0 m (pc + 2) ls (.ref q :: rest))) : W p l e R s m args below meth c H locs cells slots Q (F0 m pc ls (.int (nI N') :: rest)) := by
  refine va_newa (atype := .long) (a0 := (N', .inr (.inl (fun _ => 0)))) hexec hb harr rfl hK hst.P hst.Dd hst.2.1 hst.A (fun cA => rfl) (nI_pos (by omega)) (nI_clamp (by omega)) (by show N' * 8 ≤ _; omega) hcells hslots hdg (fun q cA H1 hK' hP hD hS => ?_)
  have h1 := (hK.2 1 _ ht).2
  have h3 := (hK'.2 tys.length (cA, .long) (by rw [List.getElem?_append_right (Nat.le_refl _), Nat.sub_self]; rfl)).2
  have h2 : cA = Y 1 := Option.some.inj (h3.symm.trans h1)
  subst h2
  obtain ⟨h4, h5⟩ := hst.push (t := u) hP hD hS
  exact kk q H1 h4 h5
end LAW0
/-- the script beside the rest -/
def kx (D : va_G) (Y : Nat → ClassId) (lo b L : Nat) (xs : Nat → Int32) (U : State) (H : Heap) : Prop := kz D Y lo U H ∧ va_Nc EA EI U ∧ va_X b L xs U H
theorem kx.go {D : va_G} {Y : Nat → ClassId} {lo b L : Nat} {xs : Nat → Int32} {s U : State} {H0 H : Heap} (hb : b < lo) (hb2 : b < H0.size) (h : kx D Y lo b L xs s H0) (hW : s.WarmedH U.vm) (hq : ∀ q : Nat, q < H0.size → ¬ lo ≤ q → H[q]? = H0[q]?) : kx D Y lo b L xs U H :=
  ⟨h.1.go hW hq, h.2.1.moved hW.alike, (h.2.2.kept (hq b hb2 (by omega))).moved hW.alike⟩
def yy (a0 a1 a2 a3 : ClassId) : Nat → ClassId
  | 0 => a0
  | 1 => a1
  | 2 => a2
  | _ => a3
/-- the class ids and places of fields, out of the tables -/
theorem law_K {s : State} {args : Array Value} (hG : ∀ w ∈ GW, w.before args s = true) (hN : ∀ w ∈ NW, w.before args s = true) : ∃ (D : va_G) (Y : Nat → ClassId), va_K D vC (tysY Y) s := by
  have h : ∀ c : Nat, ∃ z : ClassId × (Nat → Nat), ∀ q, vC[c]? = some q → u_Kn s q.1 q.2.1 q.2.2 z.1 z.2 := by
    intro c
    match c with
    | 0 => obtain ⟨a, b, h⟩ := u_known hG in_F (hG _ is_F); exact ⟨(a, b), fun q hq => by cases hq; exact h⟩
    | 1 => obtain ⟨a, b, h⟩ := u_known hG in_P (hG _ is_P); exact ⟨(a, b), fun q hq => by cases hq; exact h⟩
    | 2 => obtain ⟨a, b, h⟩ := u_known hG in_T (hG _ is_T); exact ⟨(a, b), fun q hq => by cases hq; exact h⟩
    | 3 => obtain ⟨a, b, h⟩ := u_known hG in_S (hG _ is_S); exact ⟨(a, b), fun q hq => by cases hq; exact h⟩
    | 4 => obtain ⟨a, b, h⟩ := u_known hG in_H (hG _ is_H); exact ⟨(a, b), fun q hq => by cases hq; exact h⟩
    | 5 => obtain ⟨a, b, h⟩ := u_known hG in_R (hG _ is_R); exact ⟨(a, b), fun q hq => by cases hq; exact h⟩
    | n + 6 => exact ⟨(0, fun _ => 0), fun q hq => by cases (show (none : Option vw_C) = some q from hq)⟩
  obtain ⟨a0, k0, m0, f1, f2, f3⟩ := Cond.arrayClass_spec (hG _ ac_int)
  obtain ⟨a1, k1, m1, g1, g2, g3⟩ := Cond.arrayClass_spec (hG _ ac_long)
  obtain ⟨m2, a2, k2, i1, i2, i3, i4, i5⟩ := Cond.arrayOver_spec (hN _ ao_51)
  obtain ⟨m3, a3, k3, j1, j3, j4, j5⟩ := Cond.arrayOver_specA (hN _ ao_106)
  refine ⟨(fun c => (Classical.choose (h c)).1, fun c => (Classical.choose (h c)).2), yy a0 a1 a2 a3, fun c q hq => Classical.choose_spec (h c) q hq, fun k q hq => ?_⟩
  match k with
  | 0 => cases hq; exact ⟨fun n z => ⟨fun k h => (by cases h), k0, f2, m0, f3⟩, f1⟩
  | 1 => cases hq; exact ⟨fun n z => ⟨fun k h => (by cases h), k1, g2, m1, g3⟩, g1⟩
  | 2 => cases hq; exact ⟨fun n z => ⟨fun k h => (by cases h), k2, i3, m2, i4⟩, k2, m2, i3, i4, i1, i5⟩
  | 3 => cases hq; exact ⟨fun n z => ⟨fun k h => (by cases h), k3, j3, m3, j4⟩, j5⟩
  | n + 4 => cases (show (none : Option (ClassId × FieldType)) = some q from hq)
theorem law_kx {s : State} {b L : Nat} {xs : Nat → Int32} (hts : ∀ w ∈ lw_tbl, w.before #[Value.ref b] s = true) (hX : va_X b L xs s s.heap) (hgv : (Jvm.Cond.and given_1 narrow_1).before #[Value.ref b] s = true) : ∃ (D : va_G) (Y : Nat → ClassId), kx D Y s.heap.size b L xs s s.heap := by
  have hG : ∀ w ∈ GW, w.before #[Value.ref b] s = true := fun w hw => hts w (List.mem_filter.mp hw).1
  have hN : ∀ w ∈ NW, w.before #[Value.ref b] s = true := fun w hw => hts w (List.mem_filter.mp hw).1
  obtain ⟨D, Y, hK⟩ := law_K hG hN
  have hs := flat_of_before _ hgv
  have hlo : ∀ a : Nat, a < s.heap.size → ¬ s.heap.size ≤ a := fun a ha => by omega
  refine ⟨D, Y, ⟨hK, vx_Zqof (hts _ (by decide +kernel)) (hts _ (by decide +kernel)) (hs _ (by decide +kernel)) hlo, vx_Zqof (hts _ (by decide +kernel)) (hts _ (by decide +kernel)) (hs _ (by decide +kernel)) hlo, fun w hw => ?_, va_AO.of (hN _ ao_51)⟩, va_Nc.of (hs _ (by decide +kernel)), hX⟩
  have h2 := hN w hw
  have h3 := (List.mem_filter.mp hw).2
  cases w <;> first | exact va_Nw.of rfl h2 | exact h2 | cases h3
