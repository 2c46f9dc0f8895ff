/-! The heap as a function: M q = some (tag, entry) says what stands at address q; the tag names the owner (a ghost: no machine word). -/
abbrev Hm : Type := Nat → Option ((Nat × Nat) × va_E)
def hp_up (M : Hm) (a : Nat) (x : (Nat × Nat) × va_E) : Hm := fun q => if q = a then some x else M q
theorem hp_up_self (M : Hm) (a : Nat) (x : (Nat × Nat) × va_E) : hp_up M a x a = some x := by simp [hp_up]
theorem hp_up_ne {M : Hm} {a q : Nat} {x : (Nat × Nat) × va_E} (h : q ≠ a) : hp_up M a x q = M q := by simp [hp_up, h]
theorem hp_ne {M : Hm} {a b : Nat} {t u : Nat × Nat} {x y : va_E} (ha : M a = some (t, x)) (hb : M b = some (u, y)) (h : t ≠ u) : a ≠ b := by
  intro e
  subst e
  rw [ha] at hb
  exact h (congrArg Prod.fst (Option.some.inj hb))
theorem hp_fr {M : Hm} {q a : Nat} {x : (Nat × Nat) × va_E} (hq : M q = none) (ha : M a = some x) : a ≠ q := by
  intro e
  subst e
  rw [ha] at hq
  cases hq
/-- another cell stays over an update: by tags, or since the place was empty -/
theorem hp_kt {M : Hm} {a b : Nat} {t u : Nat × Nat} {x y : va_E} {z : (Nat × Nat) × va_E} (ha : M a = some (t, x)) (hb : M b = some (u, y)) (h : u ≠ t) : hp_up M a z b = some (u, y) := by
  rw [hp_up_ne (hp_ne hb ha h)]
  exact hb
theorem hp_kf {M : Hm} {a b : Nat} {z w : (Nat × Nat) × va_E} (ha : M a = none) (hb : M b = some w) : hp_up M a z b = some w := by
  rw [hp_up_ne (hp_fr ha hb)]
  exact hb
theorem tg2 {i j a b : Nat} (h : a ≠ b) : (i, a) ≠ (j, b) := fun e => h (congrArg Prod.snd e)
theorem tg1 {i j a b : Nat} (h : i ≠ j) : (i, a) ≠ (j, b) := fun e => h (congrArg Prod.fst e)
def hp_ok (D : va_G) (cl : List vw_C) (lo : Nat) (M : Hm) (H : Heap) : Prop := lo ≤ H.size ∧ ∀ (a : Nat) (t : Nat × Nat) (e : va_E), M a = some (t, e) → lo ≤ a ∧ va_at D cl (a, e) H
section HPO
variable {D : va_G} {cl : List vw_C} {lo : Nat} {M : Hm} {H H1 : Heap} {a : Nat} {t : Nat × Nat} {e e0 : va_E}
theorem hp_ok.tk (h : hp_ok D cl lo M H) (he : M a = some (t, e)) : va_at D cl (a, e) H := (h.2 a t e he).2
theorem hp_ok.P (h : hp_ok D cl lo M H) (he : M a = some (t, e)) : va_P D cl [(a, e)] H := by
  intro k q hk
  have hz : k < 1 := (List.getElem?_eq_some_iff.mp hk).1
  rw [show k = 0 by omega] at hk
  cases hk
  exact h.tk he
theorem hp_ok.fresh (h : hp_ok D cl lo M H) {q : Nat} (hq : H.size ≤ q) : M q = none := by
  cases hm : M q with
  | none => rfl
  | some x =>
    obtain ⟨t, e⟩ := x
    have h2 : q < H.size := (h.2 q t e hm).2.lt
    exact absurd h2 (by omega)
/-- a heap that kept all its cells holds what the old one held -/
theorem hp_ok.grown (h : hp_ok D cl lo M H) (z : H.size ≤ H1.size) (oq : ∀ q : Nat, q < H.size → H1[q]? = H[q]?) : hp_ok D cl lo M H1 := by
  refine ⟨Nat.le_trans h.1 z, fun b u x hb => ?_⟩
  obtain ⟨h2, h3⟩ := h.2 b u x hb
  have h4 : b < H.size := h3.lt
  exact ⟨h2, h3.kept (oq b h4)⟩
end HPO
/-- M's cells below n, as the kit's worlds have them: a list -/
def wl (M : Hm) : Nat → va_W
  | 0 => []
  | n + 1 => match M n with
    | none => wl M n
    | some x => wl M n ++ [(n, x.2)]
theorem wl_none {M : Hm} {n : Nat} (h : M n = none) : wl M (n + 1) = wl M n := by
  show (match M n with | none => wl M n | some x => wl M n ++ [(n, x.2)]) = _
  rw [h]
theorem wl_some {M : Hm} {n : Nat} {x : (Nat × Nat) × va_E} (h : M n = some x) : wl M (n + 1) = wl M n ++ [(n, x.2)] := by
  show (match M n with | none => wl M n | some x => wl M n ++ [(n, x.2)]) = _
  rw [h]
theorem wl_of {M : Hm} : ∀ {n k : Nat} {q : Nat × va_E}, (wl M n)[k]? = some q → q.1 < n ∧ ∃ t, M q.1 = some (t, q.2) := by
  intro n
  induction n with
  | zero => intro k q h; cases h
  | succ n ih =>
    intro k q h
    cases hm : M n with
    | none =>
      rw [wl_none hm] at h
      obtain ⟨h1, h2⟩ := ih h
      exact ⟨by omega, h2⟩
    | some x =>
      rw [wl_some hm] at h
      rcases List.mem_append.mp (List.mem_of_getElem? h) with hq | hq
      · obtain ⟨k2, h2⟩ := List.getElem?_of_mem hq
        obtain ⟨h1, h3⟩ := ih h2
        exact ⟨by omega, h3⟩
      · rw [List.mem_singleton] at hq
        subst hq
        exact ⟨Nat.lt_succ_self n, x.1, hm⟩
theorem wl_at {M : Hm} {a : Nat} {t : Nat × Nat} {e : va_E} (h : M a = some (t, e)) : ∀ {n : Nat}, a < n → ∃ k : Nat, (wl M n)[k]? = some (a, e) := by
  intro n hn
  suffices hs : (a, e) ∈ wl M n from List.getElem?_of_mem hs
  induction n with
  | zero => omega
  | succ n ih =>
    by_cases ha : a = n
    · subst ha
      rw [wl_some h]
      exact List.mem_append_right _ (List.mem_singleton.mpr rfl)
    · have h1 := ih (by omega)
      cases hm : M n with
      | none => rw [wl_none hm]; exact h1
      | some x => rw [wl_some hm]; exact List.mem_append_left _ h1
theorem wl_inj {M : Hm} : ∀ {n i j : Nat} {p q : Nat × va_E}, (wl M n)[i]? = some p → (wl M n)[j]? = some q → p.1 = q.1 → i = j := by
  intro n
  induction n with
  | zero => intro i j p q h; cases h
  | succ n ih =>
    intro i j p q hi hj he
    cases hm : M n with
    | none =>
      rw [wl_none hm] at hi hj
      exact ih hi hj he
    | some x =>
      rw [wl_some hm] at hi hj
      have li : i < (wl M n).length + 1 := by
        have := (List.getElem?_eq_some_iff.mp hi).1
        rwa [List.length_append, List.length_singleton] at this
      have lj : j < (wl M n).length + 1 := by
        have := (List.getElem?_eq_some_iff.mp hj).1
        rwa [List.length_append, List.length_singleton] at this
      by_cases ci : i < (wl M n).length
      · rw [List.getElem?_append_left ci] at hi
        by_cases cj : j < (wl M n).length
        · rw [List.getElem?_append_left cj] at hj
          exact ih hi hj he
        · have h1 := (wl_of hi).1
          rw [show j = (wl M n).length by omega, List.getElem?_append_right (Nat.le_refl _), Nat.sub_self] at hj
          cases hj
          exact absurd h1 (by rw [he]; exact Nat.lt_irrefl _)
      · by_cases cj : j < (wl M n).length
        · rw [List.getElem?_append_left cj] at hj
          have h1 := (wl_of hj).1
          rw [show i = (wl M n).length by omega, List.getElem?_append_right (Nat.le_refl _), Nat.sub_self] at hi
          cases hi
          exact absurd h1 (by rw [← he]; exact Nat.lt_irrefl _)
        · omega
/-- what a walk keeps: the heap holds M, and below lo nothing has changed since H0 -/
def hp_st (D : va_G) (cl : List vw_C) (lo : Nat) (M : Hm) (H0 H : Heap) (locs : List Loc) : Prop := hp_ok D cl lo M H ∧ va_S (fun q => lo ≤ q) H0 H locs ∧ lo ≤ H0.size
section HPS
variable {D : va_G} {cl : List vw_C} {lo : Nat} {M : Hm} {H0 H H1 : Heap} {locs locs1 : List Loc} {a : Nat} {t : Nat × Nat} {e e0 : va_E}
theorem hp_st.P (h : hp_st D cl lo M H0 H locs) : va_P D cl (wl M H.size) H := by
  intro k q hk
  obtain ⟨h1, t, h2⟩ := wl_of hk
  exact h.1.tk h2
theorem hp_st.Dd (h : hp_st D cl lo M H0 H locs) : va_D (fun q => lo ≤ q) (wl M H.size) := by
  refine ⟨fun i j p q hi hj he => wl_inj hi hj he, fun k q hk => ?_⟩
  obtain ⟨h1, t, h2⟩ := wl_of hk
  exact (h.1.2 _ _ _ h2).1
theorem hp_st.A (h : hp_st D cl lo M H0 H locs) : ∀ q : Nat, H0.size ≤ q → lo ≤ q := fun q hq => Nat.le_trans h.2.2 hq
theorem hp_st.ix (h : hp_st D cl lo M H0 H locs) (he : M a = some (t, e)) : ∃ k : Nat, (wl M H.size)[k]? = some (a, e) := wl_at he (h.1.tk he).lt
theorem hp_st.set (h : hp_st D cl lo M H0 H locs) {k : Nat} (hk : (wl M H.size)[k]? = some (a, e0)) (he : M a = some (t, e0)) (hP : va_P D cl ((wl M H.size).set k (a, e)) H1) (hS : va_S (fun q => lo ≤ q) H0 H1 locs1) : hp_st D cl lo (hp_up M a (t, e)) H0 H1 locs1 := by
  refine ⟨⟨Nat.le_trans h.2.2 hS.1, fun b u x hb => ?_⟩, hS, h.2.2⟩
  by_cases hq : b = a
  · subst hq
    rw [hp_up_self] at hb
    cases hb
    refine ⟨(h.1.2 b t e0 he).1, hP k _ ?_⟩
    rw [List.getElem?_set_self (List.getElem?_eq_some_iff.mp hk).1]
  · rw [hp_up_ne hq] at hb
    obtain ⟨j, hj⟩ := h.ix hb
    refine ⟨(h.1.2 b u x hb).1, hP j _ ?_⟩
    have hne : k ≠ j := by
      intro z
      subst z
      rw [hk] at hj
      exact hq (congrArg Prod.fst (Option.some.inj hj)).symm
    rw [List.getElem?_set_ne hne]
    exact hj
theorem hp_st.push (h : hp_st D cl lo M H0 H locs) {q : Nat} (hP : va_P D cl (wl M H.size ++ [(q, e)]) H1) (hD : va_D (fun q => lo ≤ q) (wl M H.size ++ [(q, e)])) (hS : va_S (fun q => lo ≤ q) H0 H1 locs1) : M q = none ∧ hp_st D cl lo (hp_up M q (t, e)) H0 H1 locs1 := by
  have hlast : (wl M H.size ++ [(q, e)])[(wl M H.size).length]? = some (q, e) := by
    rw [List.getElem?_append_right (Nat.le_refl _), Nat.sub_self]
    rfl
  have hin : ∀ {j : Nat} {z : Nat × va_E}, (wl M H.size)[j]? = some z → (wl M H.size ++ [(q, e)])[j]? = some z := by
    intro j z hj
    rw [List.getElem?_append_left (List.getElem?_eq_some_iff.mp hj).1]
    exact hj
  have hno : M q = none := by
    cases hm : M q with
    | none => rfl
    | some x =>
      obtain ⟨u, w⟩ := x
      obtain ⟨j, hj⟩ := h.ix hm
      have h1 := hD.1 _ _ _ _ (hin hj) hlast rfl
      have h2 := (List.getElem?_eq_some_iff.mp hj).1
      omega
  refine ⟨hno, ⟨Nat.le_trans h.2.2 hS.1, fun b u x hb => ?_⟩, hS, h.2.2⟩
  by_cases hq : b = q
  · subst hq
    rw [hp_up_self] at hb
    cases hb
    exact ⟨hD.2 _ _ hlast, hP _ _ hlast⟩
  · rw [hp_up_ne hq] at hb
    obtain ⟨j, hj⟩ := h.ix hb
    exact ⟨(h.1.2 b u x hb).1, hP j _ (hin hj)⟩
end HPS
/-- entries: an int array that holds numbers, a long array, arrays of references -/
abbrev e_n (Y : Nat → ClassId) (n : Nat) (g : Nat → Nat) : va_E := .inl (Y 0, n, .inl (fun k => nI (g k)))
abbrev e_l (Y : Nat → ClassId) (n : Nat) (f : Nat → Int64) : va_E := .inl (Y 1, n, .inr (.inl f))
abbrev e_q (Y : Nat → ClassId) (n : Nat) (f : Nat → Option Nat) : va_E := .inl (Y 2, n, .inr (.inr (.inr (.inr f))))
abbrev e_g (Y : Nat → ClassId) (n : Nat) (f : Nat → Option Nat) : va_E := .inl (Y 3, n, .inr (.inr (.inr (.inr f))))
/-- cells of owners outside S are the same in both -/
def hp_off (S : Nat → Prop) (M M' : Hm) : Prop := ∀ (q : Nat) (t : Nat × Nat) (e : va_E), ¬ S t.1 → (M q = some (t, e) ↔ M' q = some (t, e))
theorem hp_off.rf {S : Nat → Prop} {M : Hm} : hp_off S M M := fun _ _ _ _ => Iff.rfl
theorem hp_off.tr {S : Nat → Prop} {M M' M'' : Hm} (h : hp_off S M M') (h' : hp_off S M' M'') : hp_off S M M'' := fun q t e hn => (h q t e hn).trans (h' q t e hn)
theorem hp_off.wk {S S' : Nat → Prop} {M M' : Hm} (h : hp_off S M M') (hs : ∀ i, S i → S' i) : hp_off S' M M' := fun q t e hn => h q t e (fun z => hn (hs _ z))
theorem hp_off.of {S : Nat → Prop} {M M' : Hm} (h : hp_off S M M') {q : Nat} {t : Nat × Nat} {e : va_E} (hq : M q = some (t, e)) (hn : ¬ S t.1) : M' q = some (t, e) := (h q t e hn).mp hq
theorem hp_off.up {S : Nat → Prop} {M : Hm} {a : Nat} {t : Nat × Nat} {e e' : va_E} (ha : M a = some (t, e)) (hS : S t.1) : hp_off S M (hp_up M a (t, e')) := by
  intro q u x hn
  by_cases hq : q = a
  · subst hq
    rw [hp_up_self, ha]
    constructor
    · intro h
      cases h
      exact absurd hS hn
    · intro h
      cases h
      exact absurd hS hn
  · rw [hp_up_ne hq]
theorem hp_off.nw {S : Nat → Prop} {M : Hm} {a : Nat} {t : Nat × Nat} {e : va_E} (ha : M a = none) (hS : S t.1) : hp_off S M (hp_up M a (t, e)) := by
  intro q u x hn
  by_cases hq : q = a
  · subst hq
    rw [hp_up_self, ha]
    constructor
    · intro h
      cases h
    · intro h
      cases h
      exact absurd hS hn
  · rw [hp_up_ne hq]
section HPW
variable {p : Program} {l : Launch} {e : Env} {R : Room} {s : State} {m : MethodId} {args : Array Value} {below : List Frame} {meth : Method} {c : Code} {H : Heap} {locs : List Loc} {cells slots : Nat} {Q : State → Prop}
variable {cc : ByteArray} {pc : Nat} {ls : Array Slot} {rest : List Value} {D : va_G} {cl : List vw_C} {a : Nat} {tys : List (ClassId × FieldType)} {H0 : Heap} {lo : Nat} {M : Hm} {t : Nat × Nat} {Y : Nat → ClassId}
theorem hp_get (hexec : p.tables.exec = Jvm.exec) (hb : c.code = cc) {own ref C : String} {T : u_T} {N ci index : Nat} {Ts : List Cond} (hts : ∀ w ∈ Ts, w.before args s = true) (hin : ∀ w ∈ u_ws C T N, w ∈ Ts) (hown : s.vm.findClass own = some m.cls) (hK : va_K D cl tys s) (hst : hp_st D cl lo M H0 H locs) {fs : List Value} (he : M a = some (t, .inr (ci, fs))) (hc : cl[ci]? = some (C, T, N)) (k : Nat) (hk : k < N) (hlink : (Cond.fieldLink own index ref (T k).2.1 (T k).2.2.1).before args s = true) (hsame : (T k).1 = ref) {v : Value} (hv : fs[k]? = some v) (hdg : decode cc pc = .ok (.getfield index, 3))
    (kk : W p l e R s m args below meth c H locs cells slots Q (F0 m (pc + 3) ls (v :: rest))) : W p l e R s m args below meth c H locs cells slots Q (F0 m pc ls (.ref a :: rest)) :=
  va_get hexec hb hts hin hown hK (hst.1.P he) 0 rfl hc k hk hlink (fun x hx => by rw [← hsame]; exact hx) hv hdg kk
theorem hp_put (hexec : p.tables.exec = Jvm.exec) (hb : c.code = cc) {own ref C : String} {T : u_T} {N ci index : Nat} {Ts : List Cond} (hts : ∀ w ∈ Ts, w.before args s = true) (hin : ∀ w ∈ u_ws C T N, w ∈ Ts) (ty0 : Nat → FieldType) (hty : ∀ k, k < N → parseFieldDescriptor (T k).2.2.1 = some (ty0 k)) (hnm : ∀ a, a < N → ∀ b, b < N → a ≠ b → (T a).2.1 ≠ (T b).2.1) (hown : s.vm.findClass own = some m.cls) (hK : va_K D cl tys s) (hst : hp_st D cl lo M H0 H locs) {fs : List Value} (he : M a = some (t, .inr (ci, fs))) (hc : cl[ci]? = some (C, T, N)) (k : Nat) (hk : k < N) (hlink : (Cond.fieldLink own index ref (T k).2.1 (T k).2.2.1).before args s = true) (hsame : (T k).1 = ref) (hfin : (T k).2.2.2 = false) {v : Value} (hn : narrow (ty0 k) v = v) (hfit : fits (ty0 k) v = true) (hl : k < fs.length)
    (hdg : decode cc pc = .ok (.putfield index, 3)) {fs' : List Value} (hfs : fs.set k v = fs') (kk : ∀ (H1 : Heap) (locs1 : List Loc), hp_st D cl lo (hp_up M a (t, .inr (ci, fs'))) H0 H1 locs1 → W p l e R s m args below meth c H1 locs1 cells slots Q (F0 m (pc + 3) ls rest)) : W p l e R s m args below meth c H locs cells slots Q (F0 m pc ls (v :: .ref a :: rest)) := by
  subst hfs
  obtain ⟨k0, hk0⟩ := hst.ix he
  exact va_put hexec hb hts hin ty0 hty hnm hown hK hst.P hst.Dd hst.2.1 k0 hk0 hc k hk hlink (fun x hx => by rw [← hsame]; exact hx) hfin (hty k hk) hn hfit hl hdg (fun H1 locs1 hP _ hS => kk H1 locs1 (hst.set hk0 he hP hS))
theorem hp_putF (hexec : p.tables.exec = Jvm.exec) (hb : c.code = cc) {own ref C : String} {T : u_T} {N ci index : Nat} {Ts : List Cond} (hts : ∀ w ∈ Ts, w.before args s = true) (hin : ∀ w ∈ u_ws C T N, w ∈ Ts) (ty0 : Nat → FieldType) (hty : ∀ k, k < N → parseFieldDescriptor (T k).2.2.1 = some (ty0 k)) (hnm : ∀ a, a < N → ∀ b, b < N → a ≠ b → (T a).2.1 ≠ (T b).2.1) (hown : s.vm.findClass own = some m.cls) (hK : va_K D cl tys s) (hst : hp_st D cl lo M H0 H locs) {fs : List Value} (he : M a = some (t, .inr (ci, fs))) (hc : cl[ci]? = some (C, T, N)) (k : Nat) (hk : k < N) (hlink : (Cond.fieldLink own index ref (T k).2.1 (T k).2.2.1).before args s = true) (hsame : (T k).1 = ref) (hfin : (T k).2.2.2 = true) (hin2 : meth.name = "<init>") (hdecl : (T k).1 = own) {v : Value} (hn : narrow (ty0 k) v = v) (hfit : fits (ty0 k) v = true) (hl : k < fs.length)
    (hdg : decode cc pc = .ok (.putfield index, 3)) {fs' : List Value} (hfs : fs.set k v = fs') (kk : ∀ (H1 : Heap) (locs1 : List Loc), hp_st D cl lo (hp_up M a (t, .inr (ci, fs'))) H0 H1 locs1 → W p l e R s m args below meth c H1 locs1 cells slots Q (F0 m (pc + 3) ls rest)) : W p l e R s m args below meth c H locs cells slots Q (F0 m pc ls (v :: .ref a :: rest)) := by
  subst hfs
  obtain ⟨k0, hk0⟩ := hst.ix he
  exact va_putF hexec hb hts hin ty0 hty hnm hown hK hst.P hst.Dd hst.2.1 k0 hk0 hc k hk hlink (fun x hx => by rw [← hsame]; exact hx) hfin hin2 hdecl (hty k hk) hn hfit hl hdg (fun H1 locs1 hP _ hS => kk H1 locs1 (hst.set hk0 he hP hS))
/-- arrays of numbers -/
theorem hp_iald (hexec : p.tables.exec = Jvm.exec) (hb : c.code = cc) (hK : va_K D cl tys s) (ht : tys[0]? = some (Y 0, .int)) (hst : hp_st D cl lo M H0 H locs) {n j : Nat} {g : Nat → Nat} (he : M a = some (t, e_n Y n g)) (hj : j < n) (hn : n < 2 ^ 31) (hdg : decode cc pc = .ok (.iaload, 1))
    (kk : W p l e R s m args below meth c H locs cells slots Q (F0 m (pc + 1) ls (.int (nI (g j)) :: rest))) : W p l e R s m args below meth c H locs cells slots Q (F0 m pc ls (.int (nI j) :: .ref a :: rest)) := by
  refine va_iald hexec hb hK (hst.1.P he) 0 0 rfl ht (vp_in_nI hj hn) hdg ?_
  rw [nI_clamp (by omega)]
  exact kk
theorem hp_iast (hexec : p.tables.exec = Jvm.exec) (hb : c.code = cc) (hK : va_K D cl tys s) (ht : tys[0]? = some (Y 0, .int)) (hst : hp_st D cl lo M H0 H locs) {n j v : Nat} {g : Nat → Nat} (he : M a = some (t, e_n Y n g)) (hj : j < n) (hn : n < 2 ^ 31) (hdg : decode cc pc = .ok (.iastore, 1))
    (kk : ∀ (H1 : Heap) (locs1 : List Loc), hp_st D cl lo (hp_up M a (t, e_n Y n (va_up g j v))) H0 H1 locs1 → W p l e R s m args below meth c H1 locs1 cells slots Q (F0 m (pc + 1) ls rest)) : W p l e R s m args below meth c H locs cells slots Q (F0 m pc ls (.int (nI v) :: .int (nI j) :: .ref a :: rest)) := by
  obtain ⟨k0, hk0⟩ := hst.ix he
  refine va_iast hexec hb hK hst.P hst.Dd hst.2.1 k0 0 hk0 ht (vp_in_nI hj hn) hdg (fun H1 locs1 hP _ hS => kk H1 locs1 (hst.set hk0 he ?_ hS))
  have hf : upd (fun k => nI (g k)) (nI j).toNatClampNeg (nI v) = fun k => nI (va_up g j v k) := by
    rw [nI_clamp (by omega)]
    funext q
    by_cases hq : q = j
    · subst hq
      simp [upd, va_up]
    · simp [upd, va_up, hq]
  rw [hf] at hP
  exact hP
theorem hp_alen (hexec : p.tables.exec = Jvm.exec) (hb : c.code = cc) (hK : va_K D cl tys s) (ht : tys[0]? = some (Y 0, .int)) (hst : hp_st D cl lo M H0 H locs) {n : Nat} {g : Nat → Nat} (he : M a = some (t, e_n Y n g)) (hdg : decode cc pc = .ok (.arraylength, 1))
    (kk : W p l e R s m args below meth c H locs cells slots Q (F0 m (pc + 1) ls (.int (nI n) :: rest))) : W p l e R s m args below meth c H locs cells slots Q (F0 m pc ls (.ref a :: rest)) :=
  va_alen hexec hb hK (hst.1.P he) 0 0 rfl ht rfl hdg kk
theorem hp_alenq (hexec : p.tables.exec = Jvm.exec) (hb : c.code = cc) (hK : va_K D cl tys s) {C : String} (ht : tys[2]? = some (Y 2, .object C)) (hst : hp_st D cl lo M H0 H locs) {n : Nat} {g : Nat → Option Nat} (he : M a = some (t, e_q Y n g)) (hdg : decode cc pc = .ok (.arraylength, 1))
    (kk : W p l e R s m args below meth c H locs cells slots Q (F0 m (pc + 1) ls (.int (nI n) :: rest))) : W p l e R s m args below meth c H locs cells slots Q (F0 m pc ls (.ref a :: rest)) :=
  va_alen hexec hb hK (hst.1.P he) 0 2 rfl ht rfl hdg kk
theorem hp_newi (hexec : p.tables.exec = Jvm.exec) (hb : c.code = cc) (harr : (Cond.arrayClass .int).before args s = true) (hK : va_K D cl tys s) (ht : tys[0]? = some (Y 0, .int)) (hst : hp_st D cl lo M H0 H locs) (u : Nat × Nat)
    {N' : Nat} (hbytes : N' ≤ 134217728) (hcells : cells + 1 ≤ R.cells) (hslots : slots + N' ≤ R.slots) (hdg : decode cc pc = .ok (.newarray .int, 2))
    (kk : ∀ (q : Nat) (H1 : Heap), M q = none → hp_st D cl lo (hp_up M q (u, e_n Y N' (fun _ => 0))) H0 H1 locs → W p l e R s m args below meth c H1 locs (cells + 1) (slots + N') Q (F0 m (pc + 2) ls (.ref q :: rest))) : W p l e R s m args below meth c H locs cells slots Q (F0 m pc ls (.int (nI N') :: rest)) := by
  refine va_newa (atype := .int) (a0 := (N', .inl (fun _ => nI 0))) hexec hb harr rfl hK hst.P hst.Dd hst.2.1 hst.A (fun cA => rfl) (nI_pos (by omega)) (nI_clamp (by omega)) (by show N' * 4 ≤ _; omega) hcells hslots hdg (fun q cA H1 hK' hP hD hS => ?_)
  have h1 := (hK.2 0 _ ht).2
  have h3 := (hK'.2 tys.length (cA, .int) (by rw [List.getElem?_append_right (Nat.le_refl _), Nat.sub_self]; rfl)).2
  have h2 : cA = Y 0 := Option.some.inj (h3.symm.trans h1)
  subst h2
  obtain ⟨h4, h5⟩ := hst.push (t := u) hP hD hS
  exact kk q H1 h4 h5
theorem hp_new {c0 : Code} (hexec : p.tables.exec = Jvm.exec) (hb : c0.code = cc) {own C : String} {T : u_T} {N ci index : Nat} {Ts : List Cond} (hts : ∀ w ∈ Ts, w.before args s = true) (hin : ∀ w ∈ u_ws C T N, w ∈ Ts) (ty : Nat → FieldType) (hty : ∀ k, k < N → parseFieldDescriptor (T k).2.2.1 = some (ty k)) (hown : s.vm.findClass own = some m.cls) (hcl : (Cond.classLink own index C).before args s = true) (hinst : (Cond.instantiable C N).before args s = true) (hini : (Cond.initialized C).before args s = true)
    (hK : va_K D cl tys s) (hst : hp_st D cl lo M H0 H locs) (u : Nat × Nat) (hc : cl[ci]? = some (C, T, N)) {fs : List Value} (hfs : ∀ j, j < N → defaultValue (ty j) = vp_V fs j) (hcells : cells + 1 ≤ R.cells) (hslots : slots + N ≤ R.slots) (hdg : decode cc pc = .ok (.new index, 3))
    (kk : ∀ (q : Nat) (H1 : Heap), M q = none → hp_st D cl lo (hp_up M q (u, .inr (ci, fs))) H0 H1 locs → W p l e R s m args below meth c0 H1 locs (cells + 1) (slots + N) Q (F0 m (pc + 3) ls (.ref q :: rest))) : W p l e R s m args below meth c0 H locs cells slots Q (F0 m pc ls rest) := by
  refine va_new hexec hb hts hin ty hty hown hcl hinst hini hK hst.P hst.Dd hst.2.1 hst.A hc hfs hcells hslots hdg (fun q H1 hP hD hS => ?_)
  obtain ⟨h4, h5⟩ := hst.push (t := u) hP hD hS
  exact kk q H1 h4 h5
/-- arrays of references to objects -/
theorem hp_aald (hexec : p.tables.exec = Jvm.exec) (hb : c.code = cc) (hK : va_K D cl tys s) {C : String} (ht : tys[2]? = some (Y 2, .object C)) (hst : hp_st D cl lo M H0 H locs) {n j v : Nat} {g : Nat → Option Nat} (he : M a = some (t, e_q Y n g)) (hj : j < n) (hn : n < 2 ^ 31) (hv : g j = some v) (hdg : decode cc pc = .ok (.aaload, 1))
    (kk : W p l e R s m args below meth c H locs cells slots Q (F0 m (pc + 1) ls (.ref v :: rest))) : W p l e R s m args below meth c H locs cells slots Q (F0 m pc ls (.int (nI j) :: .ref a :: rest)) := by
  refine va_aldq hexec hb hK (hst.1.P he) 0 2 rfl ht (vp_in_nI hj hn) hdg ?_
  rw [nI_clamp (by omega), hv]
  exact kk
theorem hp_aast (hexec : p.tables.exec = Jvm.exec) (hb : c.code = cc) (hK : va_K D cl tys s) {r : vw_C} (ht : tys[2]? = some (Y 2, .object r.1)) (hst : hp_st D cl lo M H0 H locs) {n j v ci : Nat} {vs : List Value} {u : Nat × Nat} {g : Nat → Option Nat} (he : M a = some (t, e_q Y n g)) (hv : M v = some (u, .inr (ci, vs))) (hc : cl[ci]? = some r) (hj : j < n) (hn : n < 2 ^ 31) (hdg : decode cc pc = .ok (.aastore, 1))
    (kk : ∀ (H1 : Heap) (locs1 : List Loc), hp_st D cl lo (hp_up M a (t, e_q Y n (va_up g j (some v)))) H0 H1 locs1 → W p l e R s m args below meth c H1 locs1 cells slots Q (F0 m (pc + 1) ls rest)) : W p l e R s m args below meth c H locs cells slots Q (F0 m pc ls (.ref v :: .int (nI j) :: .ref a :: rest)) := by
  obtain ⟨k0, hk0⟩ := hst.ix he
  obtain ⟨k1, hk1⟩ := hst.ix hv
  refine va_astq hexec hb hK hst.P hst.Dd hst.2.1 k0 2 k1 ci hk0 ht hk1 hc (vp_in_nI hj hn) hdg (fun H1 locs1 hP _ hS => kk H1 locs1 (hst.set hk0 he ?_ hS))
  rw [nI_clamp (by omega)] at hP
  exact hP
theorem hp_newq (hexec : p.tables.exec = Jvm.exec) (hb : c.code = cc) {own C : String} {index : Nat} (hown : s.vm.findClass own = some m.cls) (hclink : (Cond.classLink own index C).before args s = true) (hover : va_AO C s) (hK : va_K D cl tys s) (ht : tys[2]? = some (Y 2, .object C)) (hst : hp_st D cl lo M H0 H locs) (u : Nat × Nat)
    {N' : Nat} (hbytes : N' ≤ 134217728) (hcells : cells + 1 ≤ R.cells) (hslots : slots + N' ≤ R.slots) (hdg : decode cc pc = .ok (.anewarray index, 3))
    (kk : ∀ (q : Nat) (H1 : Heap), M q = none → hp_st D cl lo (hp_up M q (u, e_q Y N' (fun _ => none))) H0 H1 locs → W p l e R s m args below meth c H1 locs (cells + 1) (slots + N') Q (F0 m (pc + 3) ls (.ref q :: rest))) : W p l e R s m args below meth c H locs cells slots Q (F0 m pc ls (.int (nI N') :: rest)) := by
  refine va_newq hexec hb hown hclink hover hK hst.P hst.Dd hst.2.1 hst.A (nI_pos (by omega)) (nI_clamp (by omega)) (by omega) hcells hslots hdg (fun q cA H1 hK' hP hD hS => ?_)
  obtain ⟨_, _, _, _, _, h1⟩ := (hK.2 2 _ ht).2
  obtain ⟨_, _, _, _, _, h3⟩ := (hK'.2 tys.length (cA, .object C) (by rw [List.getElem?_append_right (Nat.le_refl _), Nat.sub_self]; rfl)).2
  have h2 : cA = Y 2 := Option.some.inj (h3.symm.trans h1)
  subst h2
  obtain ⟨h4, h5⟩ := hst.push (t := u) hP hD hS
  exact kk q H1 h4 h5
end HPW
