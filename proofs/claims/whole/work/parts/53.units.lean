/-! Each call, of the class and of the reference at once. -/
section UN
variable {l : Launch} {D : va_G} {Y : Nat → ClassId} {lo : Nat} {yH : MethodName} {bH : ByteArray} {mLH : Nat} {yR : MethodName} {bR : ByteArray} {mLR : Nat} {ret : Option FieldType} {tw : Bool} {av : List Value} {M : Hm} {xa p rf : Nat} {A cap si : Nat → Nat} {P : Nat → Pf} {ma : Nat} {E : Nat → Nat}
theorem un_bad {dH mcx msx dR k : Nat} {w : Int32} {PX : String → Hm → Prop} (hk : k ≤ 2) (hk2 : tw = false → k ≠ 2) (hk0 : k ≠ 0) (hw : ret = some .boolean → ∃ z : Nat, z ≤ 1 ∧ w = nI z) (hdH : dH ≤ 8) (hmc : mcx ≤ 4) (hms : msx ≤ 24) (hdR : dR ≤ 6)
    (hH : ct l D Y lo yH bH mLH ret dH (.ref xa :: av) M (fun _ _ => False) PX mcx msx) (hPX : ∀ E9 M', PX E9 M' → M = M' ∧ (E9 = EI ∧ k = 1 ∨ E9 = EA ∧ k = 2))
    (hR : ∀ (M2 : Hm) (th : Nat) (c : Nat → Nat → Nat), mo Y M2 ma E p rf th c → rr c P → ct l D Y lo yR bR mLR ret dR (.ref ma :: av) M2 (fun r9 M' => ∃ c' : Nat → Nat → Nat, r9 = rvl ret w ∧ mo Y M' ma E p rf k c' ∧ rr c' P ∧ hp_off (fun i => i = 1000) M2 M') nx 0 0) :
    unit l D Y lo yH bH mLH yR bR mLR ret tw av M xa p rf A cap si P ma E :=
  ⟨k, P, rf, w, cap, si, 4, hk, hk2, by omega, Nat.le_refl _, id, hw, ct_wk hH (fun _ _ h => h.elim) (fun E9 M' h => ⟨(hPX E9 M' h).1, (hPX E9 M' h).2, rfl, rfl, rfl, rfl⟩) hdH hmc (by omega),
    fun M2 th c hm hr => ct_wk (hR M2 th c hm hr) (fun r9 M' ⟨c', h1, h2, h3, h4⟩ => ⟨c', w, h1, hw, fun _ => rfl, h2, h3, h4⟩) (fun _ _ h => h) hdR (Nat.le_refl _) (Nat.le_refl _)⟩
/-- thrown, one class or the other -/
theorem un_badRR {dH mcx msx dR : Nat} (htw : tw = true) (RR : Prop) (hdH : dH ≤ 8) (hmc : mcx ≤ 4) (hms : msx ≤ 24) (hdR : dR ≤ 6)
    (hH : ct l D Y lo yH bH mLH ret dH (.ref xa :: av) M (fun _ _ => False) (fun E9 M' => M = M' ∧ (E9 = EI ∧ ¬ RR ∨ E9 = EA ∧ RR)) mcx msx)
    (hR : ∀ (M2 : Hm) (th : Nat) (c : Nat → Nat → Nat), mo Y M2 ma E p rf th c → rr c P → ct l D Y lo yR bR mLR ret dR (.ref ma :: av) M2 (fun r9 M' => ∃ t : Nat, r9 = rvl ret (nI 0) ∧ mo Y M' ma E p rf t c ∧ (t = 1 ∧ ¬ RR ∨ t = 2 ∧ RR) ∧ hp_off (fun i => i = 1000) M2 M') nx 0 0) :
    unit l D Y lo yH bH mLH yR bR mLR ret tw av M xa p rf A cap si P ma E := by
  by_cases h : RR
  · refine un_bad (k := 2) (w := nI 0) (by omega) (fun h => by rw [htw] at h; cases h) (by omega) (fun _ => ⟨0, by omega, rfl⟩) hdH hmc hms hdR hH (fun E9 M' hp => ⟨hp.1, Or.inr ⟨hp.2.elim (fun z => absurd h z.2) (fun z => z.1), rfl⟩⟩) (fun M2 th c hm hr => ct_wk (hR M2 th c hm hr) (fun r9 M' hp => ?_) (fun _ _ h => h) (Nat.le_refl _) (Nat.le_refl _) (Nat.le_refl _))
    obtain ⟨t, h1, h2, h3, h4⟩ := hp
    have e : t = 2 := h3.elim (fun z => absurd h z.2) (fun z => z.1)
    subst e
    exact ⟨c, h1, h2, hr, h4⟩
  · refine un_bad (k := 1) (w := nI 0) (by omega) (fun _ => by omega) (by omega) (fun _ => ⟨0, by omega, rfl⟩) hdH hmc hms hdR hH (fun E9 M' hp => ⟨hp.1, Or.inl ⟨hp.2.elim (fun z => z.1) (fun z => absurd z.2 h), rfl⟩⟩) (fun M2 th c hm hr => ct_wk (hR M2 th c hm hr) (fun r9 M' hp => ?_) (fun _ _ h => h) (Nat.le_refl _) (Nat.le_refl _) (Nat.le_refl _))
    obtain ⟨t, h1, h2, h3, h4⟩ := hp
    have e : t = 1 := h3.elim (fun z => z.1) (fun z => absurd z.2 h)
    subst e
    exact ⟨c, h1, h2, hr, h4⟩
theorem un_badI {dH mcx msx dR : Nat} {RR : Prop} (hno : ¬ RR) (hdH : dH ≤ 8) (hmc : mcx ≤ 4) (hms : msx ≤ 24) (hdR : dR ≤ 6)
    (hH : ct l D Y lo yH bH mLH ret dH (.ref xa :: av) M (fun _ _ => False) (fun E9 M' => E9 = EI ∧ M = M') mcx msx)
    (hR : ∀ (M2 : Hm) (th : Nat) (c : Nat → Nat → Nat), mo Y M2 ma E p rf th c → rr c P → ct l D Y lo yR bR mLR ret dR (.ref ma :: av) M2 (fun r9 M' => ∃ t : Nat, r9 = rvl ret (nI 0) ∧ mo Y M' ma E p rf t c ∧ (t = 1 ∧ ¬ RR ∨ t = 2 ∧ RR) ∧ hp_off (fun i => i = 1000) M2 M') nx 0 0) :
    unit l D Y lo yH bH mLH yR bR mLR ret tw av M xa p rf A cap si P ma E :=
  un_bad (k := 1) (w := nI 0) (by omega) (fun _ => by omega) (by omega) (fun _ => ⟨0, by omega, rfl⟩) hdH hmc hms hdR hH (fun E9 M' hp => ⟨hp.2, Or.inl ⟨hp.1, rfl⟩⟩) (fun M2 th c hm hr => ct_wk (hR M2 th c hm hr) (fun r9 M' ⟨t, h1, h2, h3, h4⟩ => ⟨c, h1, by rw [show 1 = t from (h3.elim (fun z => z.1.symm) (fun z => absurd z.2 hno))]; exact h2, hr, h4⟩) (fun _ _ h => h) (Nat.le_refl _) (Nat.le_refl _) (Nat.le_refl _))
theorem un_good {dH mc ms dR rf' : Nat} {P' : Nat → Pf} {v : Int32} {cap' si' : Nat → Nat} (hv : ret = some .boolean → ∃ z : Nat, z ≤ 1 ∧ v = nI z) (hdH : dH ≤ 8) (hdR : dR ≤ 6) (hmc : mc + sm cap 300 ≤ sm cap' 300) (hms : ms ≤ 4 * mc) (hcap : cb cap → cb cap')
    (hH : ct l D Y lo yH bH mLH ret dH (.ref xa :: av) M (fun r9 M' => r9 = rvl ret v ∧ cs Y M' xa A p P' cap' si' rf' ∧ hp_off (fun i => i < 300) M M') nx mc ms)
    (hR : ∀ (M2 : Hm) (th : Nat) (c : Nat → Nat → Nat), mo Y M2 ma E p rf th c → rr c P → ct l D Y lo yR bR mLR ret dR (.ref ma :: av) M2 (fun r9 M' => ∃ c' : Nat → Nat → Nat, r9 = rvl ret v ∧ mo Y M' ma E p rf' 0 c' ∧ rr c' P' ∧ hp_off (fun i => i = 1000) M2 M') nx 0 0) :
    unit l D Y lo yH bH mLH yR bR mLR ret tw av M xa p rf A cap si P ma E :=
  ⟨0, P', rf', v, cap', si', mc, by omega, fun _ => by omega, by omega, by omega, hcap, hv, ct_wk hH (fun r9 M' h => ⟨rfl, h⟩) (fun _ _ h => h.elim) hdH (Nat.le_refl _) (by omega),
    fun M2 th c hm hr => ct_wk (hR M2 th c hm hr) (fun r9 M' ⟨c', h1, h2, h3, h4⟩ => ⟨c', v, h1, hv, fun _ => rfl, h2, h3, h4⟩) (fun _ _ h => h) hdR (Nat.le_refl _) (Nat.le_refl _)⟩
/-- no room taken -/
theorem un_good0 {dH dR rf' : Nat} {P' : Nat → Pf} {v : Int32} (hv : ret = some .boolean → ∃ z : Nat, z ≤ 1 ∧ v = nI z) (hdH : dH ≤ 8) (hdR : dR ≤ 6)
    (hH : ct l D Y lo yH bH mLH ret dH (.ref xa :: av) M (fun r9 M' => r9 = rvl ret v ∧ cs Y M' xa A p P' cap si rf' ∧ hp_off (fun i => i < 300) M M') nx 0 0)
    (hR : ∀ (M2 : Hm) (th : Nat) (c : Nat → Nat → Nat), mo Y M2 ma E p rf th c → rr c P → ct l D Y lo yR bR mLR ret dR (.ref ma :: av) M2 (fun r9 M' => ∃ c' : Nat → Nat → Nat, r9 = rvl ret v ∧ mo Y M' ma E p rf' 0 c' ∧ rr c' P' ∧ hp_off (fun i => i = 1000) M2 M') nx 0 0) :
    unit l D Y lo yH bH mLH yR bR mLR ret tw av M xa p rf A cap si P ma E :=
  un_good hv hdH hdR (by omega) (by omega) id hH hR
/-- nothing changed -/
theorem un_same {dH dR : Nat} {v : Int32} (hcs : cs Y M xa A p P cap si rf) (hv : ret = some .boolean → ∃ z : Nat, z ≤ 1 ∧ v = nI z) (hdH : dH ≤ 8) (hdR : dR ≤ 6)
    (hH : ct l D Y lo yH bH mLH ret dH (.ref xa :: av) M (fun r9 M' => r9 = rvl ret v ∧ M = M') nx 0 0)
    (hR : ∀ (M2 : Hm) (th : Nat) (c : Nat → Nat → Nat), mo Y M2 ma E p rf th c → rr c P → ct l D Y lo yR bR mLR ret dR (.ref ma :: av) M2 (fun r9 M' => ∃ c' : Nat → Nat → Nat, r9 = rvl ret v ∧ mo Y M' ma E p rf 0 c' ∧ rr c' P ∧ hp_off (fun i => i = 1000) M2 M') nx 0 0) :
    unit l D Y lo yH bH mLH yR bR mLR ret tw av M xa p rf A cap si P ma E :=
  un_good0 hv hdH hdR (ct_wk hH (fun r9 M' h => ⟨h.1, by rw [← h.2]; exact hcs, by rw [← h.2]; exact hp_off.rf⟩) (fun _ _ h => h) (Nat.le_refl _) (Nat.le_refl _) (Nat.le_refl _)) hR
/-- one polynomial's room grows -/
theorem sm_one_up {j g : Nat} (hj1 : 10 ≤ j) (hj2 : j < 23) (hg : cap j ≤ g) (hg2 : cap j ≤ 18278 → g ≤ 18278) : g - cap j + sm cap 300 ≤ sm (va_up cap j g) 300 ∧ (cb cap → cb (va_up cap j g)) := by
  have h := (sm_up (f := cap) (i := j) (v := g) (n := 300)).2 (by omega)
  refine ⟨by omega, fun hc => ⟨fun i h1 h2 => ?_, fun i h1 h2 => ?_, fun i h1 => ?_⟩⟩
  · by_cases hi : i = j
    · subst hi; rw [va_up_self]; exact hg2 (hc.1 i h1 h2)
    · rw [va_up_ne _ _ hi]; exact hc.1 i h1 h2
  · rw [va_up_ne _ _ (by omega)]; exact hc.2.1 i h1 h2
  · rw [va_up_ne _ _ (by omega)]; exact hc.2.2 i h1
theorem gcn_18 {cp k : Nat} (hk : k ≤ 9139) : cp ≤ 18278 → gcn cp 0 k ≤ 18278 := fun h => gcn_le _ _ _ _ h (by omega)
theorem cpM_cb {T : Nat → Pf} : ∀ {k : Nat}, k ≤ 255 → (∀ c, 1 ≤ c → c ≤ k → (tp (T c)).length ≤ 169) → cb cap → cb (cpM T cap k) := by
  intro k
  induction k with
  | zero => intro _ _ h; exact h
  | succ k ih =>
    intro hk hT hc
    have h1 := ih (by omega) (fun c a b => hT c a (by omega)) hc
    show cb (va_up (cpM T cap k) (30 + (k + 1)) (gcn (cap (30 + (k + 1))) 0 (tp (T (k + 1))).length))
    refine ⟨fun i a b => ?_, fun i a b => ?_, fun i a => ?_⟩
    · rw [va_up_ne _ _ (by omega)]; exact h1.1 i a b
    · by_cases hi : i = 30 + (k + 1)
      · subst hi
        rw [va_up_self]
        have h2 := hT (k + 1) (by omega) (Nat.le_refl _)
        exact gcn_le _ _ _ _ (hc.2.1 _ (by omega) (by omega)) (by omega)
      · rw [va_up_ne _ _ hi]; exact h1.2.1 i a b
    · rw [va_up_ne _ _ (by omega)]; exact h1.2.2 i a
end UN
