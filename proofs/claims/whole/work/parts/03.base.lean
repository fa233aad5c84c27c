/-! what the printed functions are made of -/
def gd {α : Type} (b : Bool) (x : Option α) : Option α := match b with
  | true => x
  | false => none
theorem gd_some {α : Type} {b : Bool} {x : Option α} {o : α} (h : gd b x = some o) : b = true ∧ x = some o := by
  cases b with
  | true => exact ⟨rfl, h⟩
  | false => cases h
def lt {α β : Type} (x : α) (f : α → Option β) : Option β := f x
theorem lt_use {α β : Type} {x y : α} {f : α → Option β} {o : β} (h : lt x f = some o) (e : y = x) : f y = some o := by
  subst e; exact h
def ltP {α β γ : Type} (p : α × β) (f : α → β → Option γ) : Option γ := f p.1 p.2
theorem ltP_use {α β γ : Type} {a : α} {b : β} {f : α → β → Option γ} {o : γ} (h : ltP (a, b) f = some o) : f a b = some o := h
def onE {A R β : Type} (u : A ⊕ R) (f : A → Option β) (g : R → Option β) : Option β := match u with
  | .inl t => f t
  | .inr r => g r
def inb (i : Int32) (n : Nat) : Bool := !(decide (i < 0)) && decide (i.toNatClampNeg < n)
theorem inb_in {i : Int32} {n : Nat} (h : inb i n = true) : vp_in i n := by
  unfold inb at h
  simp only [Bool.and_eq_true, Bool.not_eq_true', decide_eq_false_iff_not, decide_eq_true_eq] at h
  intro q
  rcases q with q | q
  · exact h.1 q
  · omega
def zb (v : Int32) : Bool := decide (v = 0) || decide (v = 1)
theorem zb_ok {v : Int32} (h : zb v = true) : narrow .boolean (.int v) = .int v := by
  unfold zb at h
  simp only [Bool.or_eq_true, decide_eq_true_eq] at h
  rcases h with h | h <;> subst h <;> rfl
def lpS {T : Type} (step : T → Option (T ⊕ T)) : Nat → T → Option T
  | 0, _ => none
  | n + 1, t => match step t with
    | none => none
    | some (.inl u) => some u
    | some (.inr u) => lpS step n u
def lpO {T R : Type} (step : T → Option (T ⊕ (R ⊕ T))) : Nat → T → Option (T ⊕ R)
  | 0, _ => none
  | n + 1, t => match step t with
    | none => none
    | some (.inl u) => some (.inl u)
    | some (.inr (.inl r)) => some (.inr r)
    | some (.inr (.inr u)) => lpO step n u
theorem lpS_pw {T : Type} {X E : T → Prop} {step : T → Option (T ⊕ T)} (hstep : ∀ t o, step t = some o → (∀ u, o = .inl u → E u) → (∀ u, o = .inr u → X u) → X t) : ∀ (n : Nat) (t u : T), lpS step n t = some u → E u → X t := by
  intro n
  induction n with
  | zero => intro t u h; cases h
  | succ n ih =>
    intro t u h hE
    unfold lpS at h
    cases hst : step t with
    | none => rw [hst] at h; cases h
    | some o =>
      rw [hst] at h
      refine hstep t o hst (fun v hv => ?_) (fun v hv => ?_)
      · subst hv
        have : v = u := Option.some.inj h
        rw [this]; exact hE
      · subst hv
        exact ih v u h hE
theorem lpO_pw {T R : Type} {X E : T → Prop} {PR : R → Prop} {step : T → Option (T ⊕ (R ⊕ T))} (hstep : ∀ t o, step t = some o → (∀ u, o = .inl u → E u) → (∀ r, o = .inr (.inl r) → PR r) → (∀ u, o = .inr (.inr u) → X u) → X t) : ∀ (n : Nat) (t : T) (u : T ⊕ R), lpO step n t = some u → (∀ v, u = .inl v → E v) → (∀ r, u = .inr r → PR r) → X t := by
  intro n
  induction n with
  | zero => intro t u h; cases h
  | succ n ih =>
    intro t u h hE hR
    unfold lpO at h
    cases hst : step t with
    | none => rw [hst] at h; cases h
    | some o =>
      rw [hst] at h
      refine hstep t o hst (fun v hv => ?_) (fun r hv => ?_) (fun v hv => ?_)
      · subst hv
        exact hE v (Option.some.inj h).symm
      · subst hv
        exact hR r (Option.some.inj h).symm
      · subst hv
        exact ih v u h hE hR
def PoI (o : Int32) (g : Sg) : Option Value → Sg → Prop := fun v h => v = some (.int o) ∧ h = g
def PoL (o : Int64) (g : Sg) : Option Value → Sg → Prop := fun v h => v = some (.long o) ∧ h = g
def PoV (g : Sg) : Option Value → Sg → Prop := fun v h => v = none ∧ h = g
section PWX
variable {tab : Tb} {own : String} {cc : ByteArray} {nL : Nat} {rt : Option FieldType} {rF rL : Nat} {Post : Option Value → Sg → Prop} {pc : Nat} {lv lv' : List (Nat × Value)} {st : List Value} {sg : Sg}
theorem pw_sg (k : ∀ g : Sg, g = sg → PW tab own cc nL rt rF rL Post pc lv st g) : PW tab own cc nL rt rF rL Post pc lv st sg := k sg rfl
theorem pw_topi {x : Int32} (k : ∀ y : Int32, y = x → PW tab own cc nL rt rF rL Post pc lv (.int y :: st) sg) : PW tab own cc nL rt rF rL Post pc lv (.int x :: st) sg := k x rfl
theorem pw_topl {x : Int64} (k : ∀ y : Int64, y = x → PW tab own cc nL rt rF rL Post pc lv (.long y :: st) sg) : PW tab own cc nL rt rF rL Post pc lv (.long x :: st) sg := k x rfl
theorem pw_ldcw {idx : Nat} {v : Int32} (hd : decode cc pc = .ok (.ldc_w idx, 3)) (hc : Cond.constant own idx v ∈ gl) (k : PW tab own cc nL rt rF rL Post (pc + 3) lv (.int v :: st) sg) : PW tab own cc nL rt rF rL Post pc lv st sg := by
  intro p l e s m args below meth c dC dI ad cA A H locs ls hX hA hK hP hD hS h
  exact lv_ldcw hX.1 hX.2.1 hX.2.2.2.2.1 (hX.2.2.2.2.2.2 _ hc) hd (k p l e s m args below meth c dC dI ad cA A H locs ls hX hA hK hP hD hS h)
theorem pw_mmin {idx : Nat} {x y : Int32} (hd : decode cc pc = .ok (.invokestatic idx, 3)) (hlk : Cond.methodLink own idx Lib.Math.min.name ∈ gl) (hst : Cond.static Lib.Math.min.name ∈ gl) (hini : Cond.initialized "java/lang/Math" ∈ gl) (hco : Cond.code Lib.Math.min.name Lib.Math.min.code 2 (some .int) ∈ gl) (hF : 1 ≤ rF) (hL : (st.map fun v => v.category).sum + 13 ≤ rL) (k : PW tab own cc nL rt rF rL Post (pc + 3) lv (.int (if y < x then y else x) :: st) sg) : PW tab own cc nL rt rF rL Post pc lv (.int y :: .int x :: st) sg := by
  intro p l e s m args below meth c dC dI ad cA A H locs ls hX hA hK hP hD hS h
  have hts := hX.2.2.2.2.2.2
  exact va_mmin hX.1 hX.2.1 (hX.2.2.1.trans h.1.symm) hX.2.2.2.2.1 (hts _ hlk) (hts _ hst) (hts _ hini) (hts _ hco) hF (by rw [cv_sum]; exact hL) (Nat.le_refl 0) (Nat.le_refl 0) hd (k p l e s m args below meth c dC dI ad cA A H locs ls hX hA hK hP hD hS h)
section CS
variable {idx : Nat} {y : MethodName} {cc2 : ByteArray} {nL2 : Nat} {rt2 : Option FieldType} {rF2 rL2 : Nat} {sg2 : Sg}
theorem pw_callSi {r : Int32} (vs : List Value) (hd : decode cc pc = .ok (.invokestatic idx, 3)) (hlk : Cond.methodLink own idx y ∈ gl) (hst : Cond.static y ∈ gl) (hini : Cond.initialized y.cls ∈ gl) (hco : Cond.code y cc2 nL2 rt2 ∈ gl) (hy : y.cls ≠ "java/lang/invoke/MethodHandle" ∧ y.cls ≠ "java/lang/invoke/VarHandle" ∧ (parseMethodDescriptor y.desc).map (fun d => d.parameters.length) = some vs.length) (hR : rF2 + 1 ≤ rF ∧ 8 + (nL2 + 11) + rL2 ≤ rL) (hw : (st.map fun v => v.category).sum ≤ 8)
    (con : Con tab y cc2 nL2 rt2 rF2 rL2 vs sg (PoI r sg2)) (kk : PW tab own cc nL rt rF rL Post (pc + 3) lv (.int r :: st) sg2) : PW tab own cc nL rt rF rL Post pc lv (vs.reverse ++ st) sg := by
  refine pw_callS vs hd hlk hst hini hco hy hR hw con (fun v g hq => ?_)
  obtain ⟨rfl, rfl⟩ := hq
  exact kk
theorem pw_callSl {r : Int64} (vs : List Value) (hd : decode cc pc = .ok (.invokestatic idx, 3)) (hlk : Cond.methodLink own idx y ∈ gl) (hst : Cond.static y ∈ gl) (hini : Cond.initialized y.cls ∈ gl) (hco : Cond.code y cc2 nL2 rt2 ∈ gl) (hy : y.cls ≠ "java/lang/invoke/MethodHandle" ∧ y.cls ≠ "java/lang/invoke/VarHandle" ∧ (parseMethodDescriptor y.desc).map (fun d => d.parameters.length) = some vs.length) (hR : rF2 + 1 ≤ rF ∧ 8 + (nL2 + 11) + rL2 ≤ rL) (hw : (st.map fun v => v.category).sum ≤ 8)
    (con : Con tab y cc2 nL2 rt2 rF2 rL2 vs sg (PoL r sg2)) (kk : PW tab own cc nL rt rF rL Post (pc + 3) lv (.long r :: st) sg2) : PW tab own cc nL rt rF rL Post pc lv (vs.reverse ++ st) sg := by
  refine pw_callS vs hd hlk hst hini hco hy hR hw con (fun v g hq => ?_)
  obtain ⟨rfl, rfl⟩ := hq
  exact kk
variable {q ci N : Nat} {fk : List (Nat × Nat)} {T : u_T}
theorem pw_callVi {r : Int32} (vs : List Value) (hd : decode cc pc = .ok (.invokevirtual idx, 3)) (ht : tab[q]? = some (.inr (ci, fk))) (hcl : vwCl[ci]? = some (y.cls, T, N)) (hlk : Cond.methodLink own idx y ∈ gl) (him : Cond.instanceMethod y ∈ gl) (hse : Cond.selects y.cls y y ∈ gl) (hini : Cond.initialized y.cls ∈ gl) (hco : Cond.code y cc2 nL2 rt2 ∈ gl) (hy : y.cls ≠ "java/lang/invoke/MethodHandle" ∧ y.cls ≠ "java/lang/invoke/VarHandle" ∧ (parseMethodDescriptor y.desc).map (fun d => d.parameters.length) = some vs.length) (hR : rF2 + 1 ≤ rF ∧ 8 + (nL2 + 11) + rL2 ≤ rL) (hw : (st.map fun v => v.category).sum ≤ 8)
    (con : Con tab y cc2 nL2 rt2 rF2 rL2 (.ref q :: vs) sg (PoI r sg2)) (kk : PW tab own cc nL rt rF rL Post (pc + 3) lv (.int r :: st) sg2) : PW tab own cc nL rt rF rL Post pc lv (vs.reverse ++ .ref q :: st) sg := by
  refine pw_callV vs hd ht hcl hlk him hse hini hco hy hR hw con (fun v g hq => ?_)
  obtain ⟨rfl, rfl⟩ := hq
  exact kk
theorem pw_callVl {r : Int64} (vs : List Value) (hd : decode cc pc = .ok (.invokevirtual idx, 3)) (ht : tab[q]? = some (.inr (ci, fk))) (hcl : vwCl[ci]? = some (y.cls, T, N)) (hlk : Cond.methodLink own idx y ∈ gl) (him : Cond.instanceMethod y ∈ gl) (hse : Cond.selects y.cls y y ∈ gl) (hini : Cond.initialized y.cls ∈ gl) (hco : Cond.code y cc2 nL2 rt2 ∈ gl) (hy : y.cls ≠ "java/lang/invoke/MethodHandle" ∧ y.cls ≠ "java/lang/invoke/VarHandle" ∧ (parseMethodDescriptor y.desc).map (fun d => d.parameters.length) = some vs.length) (hR : rF2 + 1 ≤ rF ∧ 8 + (nL2 + 11) + rL2 ≤ rL) (hw : (st.map fun v => v.category).sum ≤ 8)
    (con : Con tab y cc2 nL2 rt2 rF2 rL2 (.ref q :: vs) sg (PoL r sg2)) (kk : PW tab own cc nL rt rF rL Post (pc + 3) lv (.long r :: st) sg2) : PW tab own cc nL rt rF rL Post pc lv (vs.reverse ++ .ref q :: st) sg := by
  refine pw_callV vs hd ht hcl hlk him hse hini hco hy hR hw con (fun v g hq => ?_)
  obtain ⟨rfl, rfl⟩ := hq
  exact kk
theorem pw_callVv (vs : List Value) (hd : decode cc pc = .ok (.invokevirtual idx, 3)) (ht : tab[q]? = some (.inr (ci, fk))) (hcl : vwCl[ci]? = some (y.cls, T, N)) (hlk : Cond.methodLink own idx y ∈ gl) (him : Cond.instanceMethod y ∈ gl) (hse : Cond.selects y.cls y y ∈ gl) (hini : Cond.initialized y.cls ∈ gl) (hco : Cond.code y cc2 nL2 rt2 ∈ gl) (hy : y.cls ≠ "java/lang/invoke/MethodHandle" ∧ y.cls ≠ "java/lang/invoke/VarHandle" ∧ (parseMethodDescriptor y.desc).map (fun d => d.parameters.length) = some vs.length) (hR : rF2 + 1 ≤ rF ∧ 8 + (nL2 + 11) + rL2 ≤ rL) (hw : (st.map fun v => v.category).sum ≤ 8)
    (con : Con tab y cc2 nL2 rt2 rF2 rL2 (.ref q :: vs) sg (PoV sg2)) (kk : PW tab own cc nL rt rF rL Post (pc + 3) lv st sg2) : PW tab own cc nL rt rF rL Post pc lv (vs.reverse ++ .ref q :: st) sg := by
  refine pw_callV vs hd ht hcl hlk him hse hini hco hy hR hw con (fun v g hq => ?_)
  obtain ⟨rfl, rfl⟩ := hq
  exact kk
end CS
end PWX
