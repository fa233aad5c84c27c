/-- the tables' words that a callee may ask of its caller -/
def gl : List Cond := lw_tbl.filter goodWord
theorem gl_all : gl.all goodWord = true := List.all_eq_true.mpr fun w h => (List.mem_filter.mp h).2
theorem gl_in {w : Cond} (h : w ∈ gl) : w ∈ lw_tbl := (List.mem_filter.mp h).1
theorem goodIn_sub' {big ws : List Cond} (hm : ∀ w ∈ ws, w ∈ big) (h : ws.all goodWord = true) : GoodIn big ws := fun w hw => ⟨hm w hw, good_of_word (List.all_eq_true.mp h w hw)⟩
theorem tb (i : Nat) {w : Cond} (h : tables_1[i]? = some w) (hg : goodWord w = true) : w ∈ gl := List.mem_filter.mpr ⟨List.mem_append_right _ (List.mem_of_getElem? h), hg⟩
theorem ts (i : Nat) {w : Cond} (h : (k2_sels lw_privs)[i]? = some w) (hg : goodWord w = true) : w ∈ gl := List.mem_filter.mpr ⟨List.mem_append_left _ (List.mem_of_getElem? h), hg⟩
/-! PW: a method's walk told over a small state. Cells have numbers (their addresses are 'ad' of them); sg q i is the int in slot i of cell q. -/
abbrev Sg : Type := (Nat → Nat → Int32) × (Nat → Nat → Int64)
def rd (sg : Sg) (q i : Nat) : Int32 := sg.1 q i
def wr (sg : Sg) (q i : Nat) (v : Int32) : Sg := (fun q' i' => if q' = q ∧ i' = i then v else sg.1 q' i', sg.2)
def rdL (sg : Sg) (q i : Nat) : Int64 := sg.2 q i
def wrL (sg : Sg) (q i : Nat) (v : Int64) : Sg := (sg.1, fun q' i' => if q' = q ∧ i' = i then v else sg.2 q' i')
/-- a table of cells: .inl n an array of n ints; .inr (ci, fields): an object, a field (0, k) a reference to cell k, (1, _) an int, (2, _) a long, (3, _) null -/
abbrev Tb : Type := List (Nat ⊕ (Nat × List (Nat × Nat)))
def fv (ad : Nat → Nat) (sg : Sg) (q j : Nat) (k : Nat × Nat) : Value := match k.1 with
  | 0 => .ref (ad k.2)
  | 1 => .int (rd sg q j)
  | 2 => .long (rdL sg q j)
  | _ => .null
def cel (ad : Nat → Nat) (cA : ClassId) (sg : Sg) (q : Nat) (e : Nat ⊕ (Nat × List (Nat × Nat))) : Nat × va_E := match e with
  | .inl n => (ad q, .inl (cA, n, .inl (rd sg q)))
  | .inr u => (ad q, .inr (u.1, u.2.mapIdx (fun j k => fv ad sg q j k)))
def wld (tab : Tb) (ad : Nat → Nat) (cA : ClassId) (sg : Sg) : va_W := tab.mapIdx (fun q e => cel ad cA sg q e)
theorem wld_get {tab : Tb} {ad : Nat → Nat} {cA : ClassId} {sg : Sg} {q : Nat} {e : Nat ⊕ (Nat × List (Nat × Nat))} (h : tab[q]? = some e) : (wld tab ad cA sg)[q]? = some (cel ad cA sg q e) := by
  unfold wld
  rw [List.getElem?_mapIdx, h]
  rfl
theorem wld_set {tab : Tb} {ad : Nat → Nat} {cA : ClassId} {sg sg' : Sg} {q : Nat} {e : Nat ⊕ (Nat × List (Nat × Nat))} (h : tab[q]? = some e) (ho : ∀ k, k ≠ q → ∀ e, cel ad cA sg' k e = cel ad cA sg k e) : wld tab ad cA sg' = (wld tab ad cA sg).set q (cel ad cA sg' q e) := by
  apply List.ext_getElem?
  intro k
  by_cases hk : k = q
  · subst hk
    rw [List.getElem?_set_self (by unfold wld; rw [List.length_mapIdx]; exact (List.getElem?_eq_some_iff.mp h).1)]
    exact wld_get h
  · rw [List.getElem?_set_ne (Ne.symm hk)]
    unfold wld
    rw [List.getElem?_mapIdx, List.getElem?_mapIdx]
    cases tab[k]? with
    | none => rfl
    | some e' => exact congrArg some (ho k hk e')
theorem rd_wr_row {sg : Sg} {q i : Nat} {v : Int32} : rd (wr sg q i v) q = upd (rd sg q) i v := by
  funext j
  by_cases h : j = i <;> simp [rd, wr, upd, h]
theorem rd_wr_ne {sg : Sg} {q i k : Nat} {v : Int32} (h : k ≠ q) : rd (wr sg q i v) k = rd sg k := by
  funext j
  simp [rd, wr, h]
theorem fv_ne {ad : Nat → Nat} {sg sg' : Sg} {q : Nat} (h1 : rd sg' q = rd sg q) (h2 : rdL sg' q = rdL sg q) (j : Nat) (k : Nat × Nat) : fv ad sg' q j k = fv ad sg q j k := by
  obtain ⟨a, b⟩ := k
  match a with
  | 0 => rfl
  | 1 => simp [fv, h1]
  | 2 => simp [fv, h2]
  | n + 3 => rfl
theorem cel_ne {ad : Nat → Nat} {cA : ClassId} {sg sg' : Sg} {q : Nat} (h1 : rd sg' q = rd sg q) (h2 : rdL sg' q = rdL sg q) (e : Nat ⊕ (Nat × List (Nat × Nat))) : cel ad cA sg' q e = cel ad cA sg q e := by
  cases e with
  | inl n => simp [cel, h1]
  | inr u => simp only [cel]; rw [show (fun (j : Nat) (k : Nat × Nat) => fv ad sg' q j k) = (fun j k => fv ad sg q j k) from funext fun j => funext fun k => fv_ne h1 h2 j k]
theorem wld_wr {tab : Tb} {ad : Nat → Nat} {cA : ClassId} {sg : Sg} {q n i : Nat} {v : Int32} (h : tab[q]? = some (.inl n)) : wld tab ad cA (wr sg q i v) = (wld tab ad cA sg).set q (ad q, .inl (cA, n, .inl (upd (rd sg q) i v))) := by
  rw [wld_set (sg := sg) h (fun k hk e => cel_ne (rd_wr_ne hk) rfl e)]
  simp [cel, rd_wr_row]
theorem wld_put {tab : Tb} {ad : Nat → Nat} {cA : ClassId} {sg : Sg} {q ci j z : Nat} {fk : List (Nat × Nat)} {v : Int32} (h : tab[q]? = some (.inr (ci, fk))) (hj : fk[j]? = some (1, z)) : wld tab ad cA (wr sg q j v) = (wld tab ad cA sg).set q (ad q, .inr (ci, (fk.mapIdx (fun j k => fv ad sg q j k)).set j (.int v))) := by
  rw [wld_set (sg := sg) h (fun k hk e => cel_ne (rd_wr_ne hk) rfl e)]
  congr 1
  simp only [cel]
  congr 3
  apply List.ext_getElem?
  intro i
  by_cases hi : i = j
  · subst hi
    rw [List.getElem?_set_self (by rw [List.length_mapIdx]; exact (List.getElem?_eq_some_iff.mp hj).1), List.getElem?_mapIdx, hj]
    simp [fv, rd_wr_row, upd]
  · rw [List.getElem?_set_ne (Ne.symm hi), List.getElem?_mapIdx, List.getElem?_mapIdx]
    cases fk[i]? with
    | none => rfl
    | some k =>
      obtain ⟨a, b⟩ := k
      match a with
      | 0 => rfl
      | 1 => simp [fv, rd_wr_row, upd, hi]
      | 2 => rfl
      | n + 3 => rfl
theorem wld_putL {tab : Tb} {ad : Nat → Nat} {cA : ClassId} {sg : Sg} {q ci j z : Nat} {fk : List (Nat × Nat)} {v : Int64} (h : tab[q]? = some (.inr (ci, fk))) (hj : fk[j]? = some (2, z)) : wld tab ad cA (wrL sg q j v) = (wld tab ad cA sg).set q (ad q, .inr (ci, (fk.mapIdx (fun j k => fv ad sg q j k)).set j (.long v))) := by
  rw [wld_set (sg := sg) (sg' := wrL sg q j v) h (fun k hk e => cel_ne (sg := sg) (sg' := wrL sg q j v) rfl (by funext i; simp [rdL, wrL, hk]) e)]
  congr 1
  simp only [cel]
  congr 3
  apply List.ext_getElem?
  intro i
  by_cases hi : i = j
  · subst hi
    rw [List.getElem?_set_self (by rw [List.length_mapIdx]; exact (List.getElem?_eq_some_iff.mp hj).1), List.getElem?_mapIdx, hj]
    simp [fv, rdL, wrL]
  · rw [List.getElem?_set_ne (Ne.symm hi), List.getElem?_mapIdx, List.getElem?_mapIdx]
    cases fk[i]? with
    | none => rfl
    | some k =>
      obtain ⟨a, b⟩ := k
      match a with
      | 0 => rfl
      | 1 => rfl
      | 2 => simp [fv, rdL, wrL, hi]
      | n + 3 => rfl
/-- a value as the machine has it -/
def cv (ad : Nat → Nat) (v : Value) : Value := match v with
  | .ref k => .ref (ad k)
  | x => x
theorem cv_cat (ad : Nat → Nat) (v : Value) : (cv ad v).category = v.category := by cases v <;> rfl
def cvl (ad : Nat → Nat) (q : Nat × Value) : Nat × Value := (q.1, cv ad q.2)
theorem cv_sum (ad : Nat → Nat) (st : List Value) : ((st.map (cv ad)).map fun v => v.category).sum = (st.map fun v => v.category).sum := by
  rw [List.map_map]
  congr 1
  apply List.map_congr_left
  intro v _
  exact cv_cat ad v
theorem cvl_args (ad : Nat → Nat) : ∀ (vs : List Value) (i : Nat), lv_args i (vs.map (cv ad)) = (lv_args i vs).map (cvl ad)
  | [], _ => rfl
  | v :: vs, i => by
    show (i, cv ad v) :: lv_args (if (cv ad v).category = 2 then i + 2 else i + 1) (vs.map (cv ad)) = (i, cv ad v) :: (lv_args (if v.category = 2 then i + 2 else i + 1) vs).map (cvl ad)
    rw [cv_cat, cvl_args ad vs]
theorem cvl_sl (ad : Nat → Nat) : ∀ (vs : List Value), (lg_sl (vs.map (cv ad))).length = (lg_sl vs).length
  | [] => rfl
  | v :: vs => by
    have h := cvl_sl ad vs
    unfold lg_sl at h ⊢
    simp only [List.map_cons, List.flatMap_cons, List.length_append, h, cv_cat]
    congr 1
    split <;> rfl
theorem cvl_filter (ad : Nat → Nat) (lv : List (Nat × Value)) (P : Nat × Value → Bool) (hP : ∀ q, P (cvl ad q) = P q) : (lv.map (cvl ad)).filter P = (lv.filter P).map (cvl ad) := by
  rw [List.filter_map]
  congr 1
  apply List.filter_congr
  intro q _
  exact hP q
abbrev rmOf (rF rL : Nat) : Room := { frames := rF, cells := 0, slots := 0, locals := rL }
def PX (own : String) (cc : ByteArray) (nL : Nat) (rt : Option FieldType) (p : Program) (s : State) (m : MethodId) (args : Array Value) (meth : Method) (c : Code) : Prop := p.tables.exec = Jvm.exec ∧ c.code = cc ∧ c.maxLocals = nL ∧ meth.sig.returnType = rt ∧ s.vm.findClass own = some m.cls ∧ meth.locks = false ∧ ∀ w ∈ gl, w.before args s = true
def pB (tab : Tb) (dC : Nat → ClassId) (dI : Nat → Nat → Nat) (ad : Nat → Nat) (cA : ClassId) (A : Nat → Prop) (sg : Sg) (t : State) : Prop := va_P (dC, dI) vwCl (wld tab ad cA sg) t.heap ∧ va_K (dC, dI) vwCl [(cA, .int)] t ∧ va_D A (wld tab ad cA sg)
def pQ (tab : Tb) (dC : Nat → ClassId) (dI : Nat → Nat → Nat) (ad : Nat → Nat) (cA : ClassId) (A : Nat → Prop) (Post : Option Value → Sg → Prop) : Array Value → State → Outcome → State → Prop := fun _ st oc t => (∃ (v : Option Value) (sg : Sg), oc = .returned (v.map (cv ad)) ∧ Post v sg ∧ pB tab dC dI ad cA A sg t) ∧ va_F A st t
def PW (tab : Tb) (own : String) (cc : ByteArray) (nL : Nat) (rt : Option FieldType) (rF rL : Nat) (Post : Option Value → Sg → Prop) (pc : Nat) (lv : List (Nat × Value)) (st : List Value) (sg : Sg) : Prop :=
  ∀ (p : Program) (l : Launch) (e : Env) (s : State) (m : MethodId) (args : Array Value) (below : List Frame) (meth : Method) (c : Code) (dC : Nat → ClassId) (dI : Nat → Nat → Nat) (ad : Nat → Nat) (cA : ClassId) (A : Nat → Prop) (H : Heap) (locs : List Loc) (ls : Array Slot),
    PX own cc nL rt p s m args meth c → (∀ q, s.heap.size ≤ q → A q) → va_K (dC, dI) vwCl [(cA, .int)] s → va_P (dC, dI) vwCl (wld tab ad cA sg) H → va_D A (wld tab ad cA sg) → va_S A s.heap H locs → lv_has ls nL (lv.map (cvl ad)) →
    W p l e (rmOf rF rL) s m args below meth c H locs 0 0 (MQ below (pQ tab dC dI ad cA A Post) args s 0 0 A) (F0 m pc ls (st.map (cv ad)))
def Con (tab : Tb) (y : MethodName) (cc : ByteArray) (nL : Nat) (rt : Option FieldType) (rF rL : Nat) (vs : List Value) (sg : Sg) (Post : Option Value → Sg → Prop) : Prop :=
  ∀ (l : Launch) (dC : Nat → ClassId) (dI : Nat → Nat → Nat) (ad : Nat → Nat) (cA : ClassId) (sz : Nat), Met l y (.code y cc nL rt :: gl) (rmOf rF rL) (va_Pc (vs.map (cv ad)) (fun U => U.heap.size = sz ∧ va_P (dC, dI) vwCl (wld tab ad cA sg) U.heap ∧ va_K (dC, dI) vwCl [(cA, .int)] U ∧ va_D (fun _ => True) (wld tab ad cA sg))) (pQ tab dC dI ad cA (va_A (wld tab ad cA sg) sz) Post) 0 0 (va_A (wld tab ad cA sg) sz)
theorem Con.of {tab : Tb} {y : MethodName} {cc : ByteArray} {nL : Nat} {rt : Option FieldType} {rF rL : Nat} {vs : List Value} {sg : Sg} {Post : Option Value → Sg → Prop} (hy : plainName y.cls = true) (hn : (lg_sl vs).length ≤ nL) (k : PW tab y.cls cc nL rt rF rL Post 0 (lv_args 0 vs) [] sg) : Con tab y cc nL rt rF rL vs sg Post := by
  intro l dC dI ad cA sz
  refine Met.ofW (cc := cc) (maxL := nL) (ret := rt) hy rfl ?_
  intro p e s m args below meth c s₁ B hml hv
  obtain ⟨rfl, hsz, hP, hK, hD0⟩ := hv
  have hts := atoms_spec (ws := .code y cc nL rt :: gl) B.pre
  have hown : s.vm.findClass y.cls = some m.cls := findClass_of_methodNamed B.named
  subst hsz
  have hD := hD0.self (sz := s.heap.size)
  have hl := lv_entry (vs.map (cv ad)) (n := nL) (by rw [cvl_sl]; exact hn)
  rw [lg_entry_eq]
  rw [cvl_args] at hl
  exact k p l e s m _ below meth c dC dI ad cA _ s.heap [] _ ⟨B.exec, B.bytes, hml, B.returns, hown, B.notSynchronized, fun w h => hts w (List.mem_cons_of_mem _ h)⟩ (fun q h => Or.inr h) hK hP hD va_S.rf hl
theorem Con.mono {tab : Tb} {y : MethodName} {cc : ByteArray} {nL : Nat} {rt : Option FieldType} {rF rL : Nat} {vs : List Value} {sg : Sg} {Post Post' : Option Value → Sg → Prop} (h : Con tab y cc nL rt rF rL vs sg Post) (hP : ∀ v g, Post v g → Post' v g) : Con tab y cc nL rt rF rL vs sg Post' := by
  intro l dC dI ad cA sz p e ha hc hk s m args below hf happ hpre htr
  obtain ⟨k, o, h1, h2, h3, h4, h5⟩ := h l dC dI ad cA sz p e ha hc hk s m args below hf happ hpre htr
  refine ⟨k, o, h1, h2, h3, ?_, h5⟩
  obtain ⟨⟨v, g, e1, e2, e3⟩, e4⟩ := h4
  exact ⟨⟨v, g, e1, hP v g e2, e3⟩, e4⟩
section PWR
variable {tab : Tb} {own : String} {cc : ByteArray} {nL : Nat} {rt : Option FieldType} {rF rL : Nat} {Post : Option Value → Sg → Prop} {pc : Nat} {lv lv' : List (Nat × Value)} {st : List Value} {sg : Sg}
theorem PW.sub (ks : List Nat) (hl : lv_pick lv ks = lv') (k : PW tab own cc nL rt rF rL Post pc lv' st sg) : PW tab own cc nL rt rF rL Post pc lv st sg := by
  intro p l e s m args below meth c dC dI ad cA A H locs ls hX hA hK hP hD hS h
  refine k p l e s m args below meth c dC dI ad cA A H locs ls hX hA hK hP hD hS (lv_sub h ks ?_)
  rw [← hl]
  unfold lv_pick
  rw [List.map_filterMap]
  congr 1
  funext i
  rw [List.getElem?_map]
theorem PW.eq {pc2 : Nat} {lv2 : List (Nat × Value)} {st2 : List Value} {sg2 : Sg} (h1 : pc = pc2) (h2 : lv = lv2) (h3 : st = st2) (h4 : sg = sg2) (k : PW tab own cc nL rt rF rL Post pc2 lv2 st2 sg2) : PW tab own cc nL rt rF rL Post pc lv st sg := by
  subst h1; subst h2; subst h3; subst h4; exact k
theorem pw_iconst {n : Int} (v : Int32) (hd : decode cc pc = .ok (.iconst n, 1)) (hv : Int32.ofInt n = v) (k : PW tab own cc nL rt rF rL Post (pc + 1) lv (.int v :: st) sg) : PW tab own cc nL rt rF rL Post pc lv st sg := by
  intro p l e s m args below meth c dC dI ad cA A H locs ls hX hA hK hP hD hS h
  exact lv_iconst hX.1 hX.2.1 hd hv (k p l e s m args below meth c dC dI ad cA A H locs ls hX hA hK hP hD hS h)
theorem pw_bipush {n : Int} (v : Int32) (hd : decode cc pc = .ok (.bipush n, 2)) (hv : (Int8.ofInt n).toInt32 = v) (k : PW tab own cc nL rt rF rL Post (pc + 2) lv (.int v :: st) sg) : PW tab own cc nL rt rF rL Post pc lv st sg := by
  intro p l e s m args below meth c dC dI ad cA A H locs ls hX hA hK hP hD hS h
  exact lv_bipush hX.1 hX.2.1 hd hv (k p l e s m args below meth c dC dI ad cA A H locs ls hX hA hK hP hD hS h)
theorem pw_sipush {n : Int} (v : Int32) (hd : decode cc pc = .ok (.sipush n, 3)) (hv : (Int16.ofInt n).toInt32 = v) (k : PW tab own cc nL rt rF rL Post (pc + 3) lv (.int v :: st) sg) : PW tab own cc nL rt rF rL Post pc lv st sg := by
  intro p l e s m args below meth c dC dI ad cA A H locs ls hX hA hK hP hD hS h
  exact lv_sipush hX.1 hX.2.1 hd hv (k p l e s m args below meth c dC dI ad cA A H locs ls hX hA hK hP hD hS h)
theorem lv_get {ad : Nat → Nat} {ls : Array Slot} {j i : Nat} {v : Value} (h : lv_has ls nL (lv.map (cvl ad))) (hj : lv[j]? = some (i, v)) : ls[i]? = some (.val (cv ad v)) := lv_at h j (by rw [List.getElem?_map, hj]; rfl)
theorem pw_iload_n {k : Fin 4} {i : Nat} {x : Int32} (j : Nat) (hd : decode cc pc = .ok (.iload_n k, 1)) (hi : (k : Nat) = i) (hj : lv[j]? = some (i, .int x)) (kk : PW tab own cc nL rt rF rL Post (pc + 1) lv (.int x :: st) sg) : PW tab own cc nL rt rF rL Post pc lv st sg := by
  intro p l e s m args below meth c dC dI ad cA A H locs ls hX hA hK hP hD hS h
  exact lv_iload_n hX.1 hX.2.1 hd hi (lv_get h hj) (kk p l e s m args below meth c dC dI ad cA A H locs ls hX hA hK hP hD hS h)
theorem pw_iload {i : Nat} {x : Int32} (j : Nat) (hd : decode cc pc = .ok (.iload i, 2)) (hj : lv[j]? = some (i, .int x)) (kk : PW tab own cc nL rt rF rL Post (pc + 2) lv (.int x :: st) sg) : PW tab own cc nL rt rF rL Post pc lv st sg := by
  intro p l e s m args below meth c dC dI ad cA A H locs ls hX hA hK hP hD hS h
  exact lv_iload hX.1 hX.2.1 hd (lv_get h hj) (kk p l e s m args below meth c dC dI ad cA A H locs ls hX hA hK hP hD hS h)
theorem pw_lload_n {k : Fin 4} {i : Nat} {x : Int64} (j : Nat) (hd : decode cc pc = .ok (.lload_n k, 1)) (hi : (k : Nat) = i) (hj : lv[j]? = some (i, .long x)) (kk : PW tab own cc nL rt rF rL Post (pc + 1) lv (.long x :: st) sg) : PW tab own cc nL rt rF rL Post pc lv st sg := by
  intro p l e s m args below meth c dC dI ad cA A H locs ls hX hA hK hP hD hS h
  exact lv_lload_n hX.1 hX.2.1 hd hi (lv_get h hj) (kk p l e s m args below meth c dC dI ad cA A H locs ls hX hA hK hP hD hS h)
theorem pw_aload_n {k : Fin 4} {i : Nat} {x : Nat} (j : Nat) (hd : decode cc pc = .ok (.aload_n k, 1)) (hi : (k : Nat) = i) (hj : lv[j]? = some (i, .ref x)) (kk : PW tab own cc nL rt rF rL Post (pc + 1) lv (.ref x :: st) sg) : PW tab own cc nL rt rF rL Post pc lv st sg := by
  intro p l e s m args below meth c dC dI ad cA A H locs ls hX hA hK hP hD hS h
  exact lv_aload_n hX.1 hX.2.1 hd hi (lv_get h hj) (kk p l e s m args below meth c dC dI ad cA A H locs ls hX hA hK hP hD hS h)
theorem pw_aload {i : Nat} {x : Nat} (j : Nat) (hd : decode cc pc = .ok (.aload i, 2)) (hj : lv[j]? = some (i, .ref x)) (kk : PW tab own cc nL rt rF rL Post (pc + 2) lv (.ref x :: st) sg) : PW tab own cc nL rt rF rL Post pc lv st sg := by
  intro p l e s m args below meth c dC dI ad cA A H locs ls hX hA hK hP hD hS h
  exact lv_aload hX.1 hX.2.1 hd (lv_get h hj) (kk p l e s m args below meth c dC dI ad cA A H locs ls hX hA hK hP hD hS h)
theorem pw_istore_n {k : Fin 4} {i : Nat} {x : Int32} (lv2 : List (Nat × Value)) (hd : decode cc pc = .ok (.istore_n k, 1)) (hi : (k : Nat) = i) (hn : i < nL) (hl : (i, Value.int x) :: lv.filter (fun q => !(q.1 == i) && !(q.1 + 1 == i && q.2.category == 2)) = lv2) (kk : PW tab own cc nL rt rF rL Post (pc + 1) lv2 st sg) : PW tab own cc nL rt rF rL Post pc lv (.int x :: st) sg := by
  intro p l e s m args below meth c dC dI ad cA A H locs ls hX hA hK hP hD hS h
  refine lv_istore_n (lv' := lv2.map (cvl ad)) hX.1 hX.2.1 hd hi h hn ?_ (fun ls h => kk p l e s m args below meth c dC dI ad cA A H locs ls hX hA hK hP hD hS h)
  rw [← hl, cvl_filter _ _ _ (fun q => by simp [cvl, cv_cat])]
  rfl
theorem pw_istore {i : Nat} {x : Int32} (lv2 : List (Nat × Value)) (hd : decode cc pc = .ok (.istore i, 2)) (hn : i < nL) (hl : (i, Value.int x) :: lv.filter (fun q => !(q.1 == i) && !(q.1 + 1 == i && q.2.category == 2)) = lv2) (kk : PW tab own cc nL rt rF rL Post (pc + 2) lv2 st sg) : PW tab own cc nL rt rF rL Post pc lv (.int x :: st) sg := by
  intro p l e s m args below meth c dC dI ad cA A H locs ls hX hA hK hP hD hS h
  refine lv_istore (lv' := lv2.map (cvl ad)) hX.1 hX.2.1 hd h hn ?_ (fun ls h => kk p l e s m args below meth c dC dI ad cA A H locs ls hX hA hK hP hD hS h)
  rw [← hl, cvl_filter _ _ _ (fun q => by simp [cvl, cv_cat])]
  rfl
theorem pw_lstore_n {k : Fin 4} {i : Nat} {x : Int64} (lv2 : List (Nat × Value)) (hd : decode cc pc = .ok (.lstore_n k, 1)) (hi : (k : Nat) = i) (hn : i + 1 < nL) (hl : (i, Value.long x) :: lv.filter (fun q => !(q.1 == i) && (!(q.1 == i + 1) && !(q.1 + 1 == i && q.2.category == 2))) = lv2) (kk : PW tab own cc nL rt rF rL Post (pc + 1) lv2 st sg) : PW tab own cc nL rt rF rL Post pc lv (.long x :: st) sg := by
  intro p l e s m args below meth c dC dI ad cA A H locs ls hX hA hK hP hD hS h
  refine lv_lstore_n (lv' := lv2.map (cvl ad)) hX.1 hX.2.1 hd hi h hn ?_ (fun ls h => kk p l e s m args below meth c dC dI ad cA A H locs ls hX hA hK hP hD hS h)
  rw [← hl, cvl_filter _ _ _ (fun q => by simp [cvl, cv_cat])]
  rfl
theorem pw_iinc {i : Nat} {n : Int} {x : Int32} (j : Nat) (v : Int32) (lv2 : List (Nat × Value)) (hd : decode cc pc = .ok (.iinc i n, 3)) (hj : lv[j]? = some (i, .int x)) (hv : x + Int32.ofInt n = v) (hn : i < nL) (hl : (i, Value.int v) :: lv.filter (fun q => !(q.1 == i) && !(q.1 + 1 == i && q.2.category == 2)) = lv2) (kk : PW tab own cc nL rt rF rL Post (pc + 3) lv2 st sg) : PW tab own cc nL rt rF rL Post pc lv st sg := by
  intro p l e s m args below meth c dC dI ad cA A H locs ls hX hA hK hP hD hS h
  refine lv_iinc (v := v) (k := j) (x := x) (lv' := lv2.map (cvl ad)) hX.1 hX.2.1 hd h (by rw [List.getElem?_map, hj]; rfl) hv hn ?_ (fun ls h => kk p l e s m args below meth c dC dI ad cA A H locs ls hX hA hK hP hD hS h)
  rw [← hl, cvl_filter _ _ _ (fun q => by simp [cvl, cv_cat])]
  rfl
theorem pw_iadd {x y : Int32} (hd : decode cc pc = .ok (.iadd, 1)) (k : PW tab own cc nL rt rF rL Post (pc + 1) lv (.int (x + y) :: st) sg) : PW tab own cc nL rt rF rL Post pc lv (.int y :: .int x :: st) sg := by
  intro p l e s m args below meth c dC dI ad cA A H locs ls hX hA hK hP hD hS h
  exact lv_iadd hX.1 hX.2.1 hd (k p l e s m args below meth c dC dI ad cA A H locs ls hX hA hK hP hD hS h)
theorem pw_isub {x y : Int32} (hd : decode cc pc = .ok (.isub, 1)) (k : PW tab own cc nL rt rF rL Post (pc + 1) lv (.int (x - y) :: st) sg) : PW tab own cc nL rt rF rL Post pc lv (.int y :: .int x :: st) sg := by
  intro p l e s m args below meth c dC dI ad cA A H locs ls hX hA hK hP hD hS h
  exact lv_isub hX.1 hX.2.1 hd (k p l e s m args below meth c dC dI ad cA A H locs ls hX hA hK hP hD hS h)
theorem pw_imul {x y : Int32} (hd : decode cc pc = .ok (.imul, 1)) (k : PW tab own cc nL rt rF rL Post (pc + 1) lv (.int (x * y) :: st) sg) : PW tab own cc nL rt rF rL Post pc lv (.int y :: .int x :: st) sg := by
  intro p l e s m args below meth c dC dI ad cA A H locs ls hX hA hK hP hD hS h
  exact lv_imul hX.1 hX.2.1 hd (k p l e s m args below meth c dC dI ad cA A H locs ls hX hA hK hP hD hS h)
theorem pw_iand {x y : Int32} (hd : decode cc pc = .ok (.iand, 1)) (k : PW tab own cc nL rt rF rL Post (pc + 1) lv (.int (x &&& y) :: st) sg) : PW tab own cc nL rt rF rL Post pc lv (.int y :: .int x :: st) sg := by
  intro p l e s m args below meth c dC dI ad cA A H locs ls hX hA hK hP hD hS h
  exact lv_iand hX.1 hX.2.1 hd (k p l e s m args below meth c dC dI ad cA A H locs ls hX hA hK hP hD hS h)
theorem pw_ior {x y : Int32} (hd : decode cc pc = .ok (.ior, 1)) (k : PW tab own cc nL rt rF rL Post (pc + 1) lv (.int (x ||| y) :: st) sg) : PW tab own cc nL rt rF rL Post pc lv (.int y :: .int x :: st) sg := by
  intro p l e s m args below meth c dC dI ad cA A H locs ls hX hA hK hP hD hS h
  exact lv_ior hX.1 hX.2.1 hd (k p l e s m args below meth c dC dI ad cA A H locs ls hX hA hK hP hD hS h)
theorem pw_ixor {x y : Int32} (hd : decode cc pc = .ok (.ixor, 1)) (k : PW tab own cc nL rt rF rL Post (pc + 1) lv (.int (x ^^^ y) :: st) sg) : PW tab own cc nL rt rF rL Post pc lv (.int y :: .int x :: st) sg := by
  intro p l e s m args below meth c dC dI ad cA A H locs ls hX hA hK hP hD hS h
  exact lv_ixor hX.1 hX.2.1 hd (k p l e s m args below meth c dC dI ad cA A H locs ls hX hA hK hP hD hS h)
theorem pw_ishl {x y : Int32} (hd : decode cc pc = .ok (.ishl, 1)) (k : PW tab own cc nL rt rF rL Post (pc + 1) lv (.int (x <<< (y &&& 31)) :: st) sg) : PW tab own cc nL rt rF rL Post pc lv (.int y :: .int x :: st) sg := by
  intro p l e s m args below meth c dC dI ad cA A H locs ls hX hA hK hP hD hS h
  exact lv_ishl hX.1 hX.2.1 hd (k p l e s m args below meth c dC dI ad cA A H locs ls hX hA hK hP hD hS h)
theorem pw_ishr {x y : Int32} (hd : decode cc pc = .ok (.ishr, 1)) (k : PW tab own cc nL rt rF rL Post (pc + 1) lv (.int (x >>> (y &&& 31)) :: st) sg) : PW tab own cc nL rt rF rL Post pc lv (.int y :: .int x :: st) sg := by
  intro p l e s m args below meth c dC dI ad cA A H locs ls hX hA hK hP hD hS h
  exact lv_ishr hX.1 hX.2.1 hd (k p l e s m args below meth c dC dI ad cA A H locs ls hX hA hK hP hD hS h)
theorem pw_idiv {x y : Int32} (hd : decode cc pc = .ok (.idiv, 1)) (hne : ¬ y = 0) (k : PW tab own cc nL rt rF rL Post (pc + 1) lv (.int (x / y) :: st) sg) : PW tab own cc nL rt rF rL Post pc lv (.int y :: .int x :: st) sg := by
  intro p l e s m args below meth c dC dI ad cA A H locs ls hX hA hK hP hD hS h
  exact lv_idiv hX.1 hX.2.1 hd hne (k p l e s m args below meth c dC dI ad cA A H locs ls hX hA hK hP hD hS h)
theorem pw_irem {x y : Int32} (hd : decode cc pc = .ok (.irem, 1)) (hne : ¬ y = 0) (k : PW tab own cc nL rt rF rL Post (pc + 1) lv (.int (x - x / y * y) :: st) sg) : PW tab own cc nL rt rF rL Post pc lv (.int y :: .int x :: st) sg := by
  intro p l e s m args below meth c dC dI ad cA A H locs ls hX hA hK hP hD hS h
  exact lv_irem hX.1 hX.2.1 hd hne (k p l e s m args below meth c dC dI ad cA A H locs ls hX hA hK hP hD hS h)
theorem pw_iushr {x y : Int32} (hd : decode cc pc = .ok (.iushr, 1)) (k : PW tab own cc nL rt rF rL Post (pc + 1) lv (.int ((x.toUInt32 >>> (y.toUInt32 &&& Int32.toUInt32 31)).toInt32) :: st) sg) : PW tab own cc nL rt rF rL Post pc lv (.int y :: .int x :: st) sg := by
  intro p l e s m args below meth c dC dI ad cA A H locs ls hX hA hK hP hD hS h
  exact lv_iushr hX.1 hX.2.1 hd rfl (k p l e s m args below meth c dC dI ad cA A H locs ls hX hA hK hP hD hS h)
theorem pw_ladd {x y : Int64} (hd : decode cc pc = .ok (.ladd, 1)) (k : PW tab own cc nL rt rF rL Post (pc + 1) lv (.long (x + y) :: st) sg) : PW tab own cc nL rt rF rL Post pc lv (.long y :: .long x :: st) sg := by
  intro p l e s m args below meth c dC dI ad cA A H locs ls hX hA hK hP hD hS h
  exact lv_ladd hX.1 hX.2.1 hd (k p l e s m args below meth c dC dI ad cA A H locs ls hX hA hK hP hD hS h)
theorem pw_lmul {x y : Int64} (hd : decode cc pc = .ok (.lmul, 1)) (k : PW tab own cc nL rt rF rL Post (pc + 1) lv (.long (x * y) :: st) sg) : PW tab own cc nL rt rF rL Post pc lv (.long y :: .long x :: st) sg := by
  intro p l e s m args below meth c dC dI ad cA A H locs ls hX hA hK hP hD hS h
  exact lv_lmul hX.1 hX.2.1 hd (k p l e s m args below meth c dC dI ad cA A H locs ls hX hA hK hP hD hS h)
theorem pw_i2l {x : Int32} (hd : decode cc pc = .ok (.i2l, 1)) (k : PW tab own cc nL rt rF rL Post (pc + 1) lv (.long x.toInt64 :: st) sg) : PW tab own cc nL rt rF rL Post pc lv (.int x :: st) sg := by
  intro p l e s m args below meth c dC dI ad cA A H locs ls hX hA hK hP hD hS h
  exact lv_i2l hX.1 hX.2.1 hd rfl (k p l e s m args below meth c dC dI ad cA A H locs ls hX hA hK hP hD hS h)
theorem pw_ldc2 {idx : Nat} {v : Int64} (hd : decode cc pc = .ok (.ldc2_w idx, 3)) (hc : Cond.constantLong own idx v ∈ gl) (k : PW tab own cc nL rt rF rL Post (pc + 3) lv (.long v :: st) sg) : PW tab own cc nL rt rF rL Post pc lv st sg := by
  intro p l e s m args below meth c dC dI ad cA A H locs ls hX hA hK hP hD hS h
  exact lv_ldc2 hX.1 hX.2.1 hX.2.2.2.2.1 (hX.2.2.2.2.2.2 _ hc) hd (k p l e s m args below meth c dC dI ad cA A H locs ls hX hA hK hP hD hS h)
theorem pw_dup {va : Value} (hd : decode cc pc = .ok (.dup, 1)) (hva : va.category = 1) (k : PW tab own cc nL rt rF rL Post (pc + 1) lv (va :: va :: st) sg) : PW tab own cc nL rt rF rL Post pc lv (va :: st) sg := by
  intro p l e s m args below meth c dC dI ad cA A H locs ls hX hA hK hP hD hS h
  exact lv_dup hX.1 hX.2.1 hd ((cv_cat ad va).trans hva) (k p l e s m args below meth c dC dI ad cA A H locs ls hX hA hK hP hD hS h)
theorem pw_dup2 {va vb : Value} (hd : decode cc pc = .ok (.dup2, 1)) (hva : va.category = 1) (hvb : vb.category = 1) (k : PW tab own cc nL rt rF rL Post (pc + 1) lv (va :: vb :: va :: vb :: st) sg) : PW tab own cc nL rt rF rL Post pc lv (va :: vb :: st) sg := by
  intro p l e s m args below meth c dC dI ad cA A H locs ls hX hA hK hP hD hS h
  exact lv_dup2_11 hX.1 hX.2.1 hd ((cv_cat ad va).trans hva) ((cv_cat ad vb).trans hvb) (k p l e s m args below meth c dC dI ad cA A H locs ls hX hA hK hP hD hS h)
theorem pw_icmp_eq {x y : Int32} {off : Int} (tgt : Nat) (hd : decode cc pc = .ok (.if_icmp .eq off, 3)) (ht : (pc : Int) + off = (tgt : Int)) (kt : x = y → PW tab own cc nL rt rF rL Post tgt lv st sg) (kf : ¬ x = y → PW tab own cc nL rt rF rL Post (pc + 3) lv st sg) : PW tab own cc nL rt rF rL Post pc lv (.int y :: .int x :: st) sg := by
  intro p l e s m args below meth c dC dI ad cA A H locs ls hX hA hK hP hD hS h
  exact lv_icmp_eq hX.1 hX.2.1 hd ht (fun q => kt q p l e s m args below meth c dC dI ad cA A H locs ls hX hA hK hP hD hS h) (fun q => kf q p l e s m args below meth c dC dI ad cA A H locs ls hX hA hK hP hD hS h)
theorem pw_icmp_ne {x y : Int32} {off : Int} (tgt : Nat) (hd : decode cc pc = .ok (.if_icmp .ne off, 3)) (ht : (pc : Int) + off = (tgt : Int)) (kt : ¬ x = y → PW tab own cc nL rt rF rL Post tgt lv st sg) (kf : x = y → PW tab own cc nL rt rF rL Post (pc + 3) lv st sg) : PW tab own cc nL rt rF rL Post pc lv (.int y :: .int x :: st) sg := by
  intro p l e s m args below meth c dC dI ad cA A H locs ls hX hA hK hP hD hS h
  exact lv_icmp_ne hX.1 hX.2.1 hd ht (fun q => kt q p l e s m args below meth c dC dI ad cA A H locs ls hX hA hK hP hD hS h) (fun q => kf q p l e s m args below meth c dC dI ad cA A H locs ls hX hA hK hP hD hS h)
theorem pw_icmp_lt {x y : Int32} {off : Int} (tgt : Nat) (hd : decode cc pc = .ok (.if_icmp .lt off, 3)) (ht : (pc : Int) + off = (tgt : Int)) (kt : x < y → PW tab own cc nL rt rF rL Post tgt lv st sg) (kf : ¬ x < y → PW tab own cc nL rt rF rL Post (pc + 3) lv st sg) : PW tab own cc nL rt rF rL Post pc lv (.int y :: .int x :: st) sg := by
  intro p l e s m args below meth c dC dI ad cA A H locs ls hX hA hK hP hD hS h
  exact lv_icmp_lt hX.1 hX.2.1 hd ht (fun q => kt q p l e s m args below meth c dC dI ad cA A H locs ls hX hA hK hP hD hS h) (fun q => kf q p l e s m args below meth c dC dI ad cA A H locs ls hX hA hK hP hD hS h)
theorem pw_icmp_ge {x y : Int32} {off : Int} (tgt : Nat) (hd : decode cc pc = .ok (.if_icmp .ge off, 3)) (ht : (pc : Int) + off = (tgt : Int)) (kt : y ≤ x → PW tab own cc nL rt rF rL Post tgt lv st sg) (kf : ¬ y ≤ x → PW tab own cc nL rt rF rL Post (pc + 3) lv st sg) : PW tab own cc nL rt rF rL Post pc lv (.int y :: .int x :: st) sg := by
  intro p l e s m args below meth c dC dI ad cA A H locs ls hX hA hK hP hD hS h
  exact lv_icmp_ge hX.1 hX.2.1 hd ht (fun q => kt q p l e s m args below meth c dC dI ad cA A H locs ls hX hA hK hP hD hS h) (fun q => kf q p l e s m args below meth c dC dI ad cA A H locs ls hX hA hK hP hD hS h)
theorem pw_icmp_gt {x y : Int32} {off : Int} (tgt : Nat) (hd : decode cc pc = .ok (.if_icmp .gt off, 3)) (ht : (pc : Int) + off = (tgt : Int)) (kt : y < x → PW tab own cc nL rt rF rL Post tgt lv st sg) (kf : ¬ y < x → PW tab own cc nL rt rF rL Post (pc + 3) lv st sg) : PW tab own cc nL rt rF rL Post pc lv (.int y :: .int x :: st) sg := by
  intro p l e s m args below meth c dC dI ad cA A H locs ls hX hA hK hP hD hS h
  exact lv_icmp_gt hX.1 hX.2.1 hd ht (fun q => kt q p l e s m args below meth c dC dI ad cA A H locs ls hX hA hK hP hD hS h) (fun q => kf q p l e s m args below meth c dC dI ad cA A H locs ls hX hA hK hP hD hS h)
theorem pw_icmp_le {x y : Int32} {off : Int} (tgt : Nat) (hd : decode cc pc = .ok (.if_icmp .le off, 3)) (ht : (pc : Int) + off = (tgt : Int)) (kt : x ≤ y → PW tab own cc nL rt rF rL Post tgt lv st sg) (kf : ¬ x ≤ y → PW tab own cc nL rt rF rL Post (pc + 3) lv st sg) : PW tab own cc nL rt rF rL Post pc lv (.int y :: .int x :: st) sg := by
  intro p l e s m args below meth c dC dI ad cA A H locs ls hX hA hK hP hD hS h
  exact lv_icmp_le hX.1 hX.2.1 hd ht (fun q => kt q p l e s m args below meth c dC dI ad cA A H locs ls hX hA hK hP hD hS h) (fun q => kf q p l e s m args below meth c dC dI ad cA A H locs ls hX hA hK hP hD hS h)
theorem pw_if_eq {x : Int32} {off : Int} (tgt : Nat) (hd : decode cc pc = .ok (.ifCond .eq off, 3)) (ht : (pc : Int) + off = (tgt : Int)) (kt : x = 0 → PW tab own cc nL rt rF rL Post tgt lv st sg) (kf : ¬ x = 0 → PW tab own cc nL rt rF rL Post (pc + 3) lv st sg) : PW tab own cc nL rt rF rL Post pc lv (.int x :: st) sg := by
  intro p l e s m args below meth c dC dI ad cA A H locs ls hX hA hK hP hD hS h
  exact lv_if_eq hX.1 hX.2.1 hd ht (fun q => kt q p l e s m args below meth c dC dI ad cA A H locs ls hX hA hK hP hD hS h) (fun q => kf q p l e s m args below meth c dC dI ad cA A H locs ls hX hA hK hP hD hS h)
theorem pw_if_ne {x : Int32} {off : Int} (tgt : Nat) (hd : decode cc pc = .ok (.ifCond .ne off, 3)) (ht : (pc : Int) + off = (tgt : Int)) (kt : ¬ x = 0 → PW tab own cc nL rt rF rL Post tgt lv st sg) (kf : x = 0 → PW tab own cc nL rt rF rL Post (pc + 3) lv st sg) : PW tab own cc nL rt rF rL Post pc lv (.int x :: st) sg := by
  intro p l e s m args below meth c dC dI ad cA A H locs ls hX hA hK hP hD hS h
  exact lv_if_ne hX.1 hX.2.1 hd ht (fun q => kt q p l e s m args below meth c dC dI ad cA A H locs ls hX hA hK hP hD hS h) (fun q => kf q p l e s m args below meth c dC dI ad cA A H locs ls hX hA hK hP hD hS h)
theorem pw_if_lt {x : Int32} {off : Int} (tgt : Nat) (hd : decode cc pc = .ok (.ifCond .lt off, 3)) (ht : (pc : Int) + off = (tgt : Int)) (kt : x < 0 → PW tab own cc nL rt rF rL Post tgt lv st sg) (kf : ¬ x < 0 → PW tab own cc nL rt rF rL Post (pc + 3) lv st sg) : PW tab own cc nL rt rF rL Post pc lv (.int x :: st) sg := by
  intro p l e s m args below meth c dC dI ad cA A H locs ls hX hA hK hP hD hS h
  exact lv_if_lt hX.1 hX.2.1 hd ht (fun q => kt q p l e s m args below meth c dC dI ad cA A H locs ls hX hA hK hP hD hS h) (fun q => kf q p l e s m args below meth c dC dI ad cA A H locs ls hX hA hK hP hD hS h)
theorem pw_if_ge {x : Int32} {off : Int} (tgt : Nat) (hd : decode cc pc = .ok (.ifCond .ge off, 3)) (ht : (pc : Int) + off = (tgt : Int)) (kt : 0 ≤ x → PW tab own cc nL rt rF rL Post tgt lv st sg) (kf : ¬ 0 ≤ x → PW tab own cc nL rt rF rL Post (pc + 3) lv st sg) : PW tab own cc nL rt rF rL Post pc lv (.int x :: st) sg := by
  intro p l e s m args below meth c dC dI ad cA A H locs ls hX hA hK hP hD hS h
  exact lv_if_ge hX.1 hX.2.1 hd ht (fun q => kt q p l e s m args below meth c dC dI ad cA A H locs ls hX hA hK hP hD hS h) (fun q => kf q p l e s m args below meth c dC dI ad cA A H locs ls hX hA hK hP hD hS h)
theorem pw_if_gt {x : Int32} {off : Int} (tgt : Nat) (hd : decode cc pc = .ok (.ifCond .gt off, 3)) (ht : (pc : Int) + off = (tgt : Int)) (kt : 0 < x → PW tab own cc nL rt rF rL Post tgt lv st sg) (kf : ¬ 0 < x → PW tab own cc nL rt rF rL Post (pc + 3) lv st sg) : PW tab own cc nL rt rF rL Post pc lv (.int x :: st) sg := by
  intro p l e s m args below meth c dC dI ad cA A H locs ls hX hA hK hP hD hS h
  exact lv_if_gt hX.1 hX.2.1 hd ht (fun q => kt q p l e s m args below meth c dC dI ad cA A H locs ls hX hA hK hP hD hS h) (fun q => kf q p l e s m args below meth c dC dI ad cA A H locs ls hX hA hK hP hD hS h)
theorem pw_if_le {x : Int32} {off : Int} (tgt : Nat) (hd : decode cc pc = .ok (.ifCond .le off, 3)) (ht : (pc : Int) + off = (tgt : Int)) (kt : x ≤ 0 → PW tab own cc nL rt rF rL Post tgt lv st sg) (kf : ¬ x ≤ 0 → PW tab own cc nL rt rF rL Post (pc + 3) lv st sg) : PW tab own cc nL rt rF rL Post pc lv (.int x :: st) sg := by
  intro p l e s m args below meth c dC dI ad cA A H locs ls hX hA hK hP hD hS h
  exact lv_if_le hX.1 hX.2.1 hd ht (fun q => kt q p l e s m args below meth c dC dI ad cA A H locs ls hX hA hK hP hD hS h) (fun q => kf q p l e s m args below meth c dC dI ad cA A H locs ls hX hA hK hP hD hS h)
theorem pw_goto {off : Int} (tgt : Nat) (hd : decode cc pc = .ok (.goto off, 3)) (ht : (pc : Int) + off = (tgt : Int)) (k : PW tab own cc nL rt rF rL Post tgt lv st sg) : PW tab own cc nL rt rF rL Post pc lv st sg := by
  intro p l e s m args below meth c dC dI ad cA A H locs ls hX hA hK hP hD hS h
  exact lv_goto hX.1 hX.2.1 hd ht (k p l e s m args below meth c dC dI ad cA A H locs ls hX hA hK hP hD hS h)
theorem pw_tableIn {dflt lo hi : Int} {offs : Array Int} {len : Nat} {x : Int32} {off : Int} (tgt : Nat) (hd : decode cc pc = .ok (.tableswitch dflt lo hi offs, len)) (h1 : ¬ x.toInt < lo) (h2 : ¬ hi < x.toInt) (ho : offs[(x.toInt - lo).toNat]? = some off) (ht : (pc : Int) + off = (tgt : Int)) (k : PW tab own cc nL rt rF rL Post tgt lv st sg) : PW tab own cc nL rt rF rL Post pc lv (.int x :: st) sg := by
  intro p l e s m args below meth c dC dI ad cA A H locs ls hX hA hK hP hD hS h
  exact lv_tableIn hX.1 hX.2.1 hd h1 h2 ho ht (k p l e s m args below meth c dC dI ad cA A H locs ls hX hA hK hP hD hS h)
theorem pw_tableOut {dflt lo hi : Int} {offs : Array Int} {len : Nat} {x : Int32} (tgt : Nat) (hd : decode cc pc = .ok (.tableswitch dflt lo hi offs, len)) (hn : x.toInt < lo ∨ hi < x.toInt) (ht : (pc : Int) + dflt = (tgt : Int)) (k : PW tab own cc nL rt rF rL Post tgt lv st sg) : PW tab own cc nL rt rF rL Post pc lv (.int x :: st) sg := by
  intro p l e s m args below meth c dC dI ad cA A H locs ls hX hA hK hP hD hS h
  exact lv_tableOut hX.1 hX.2.1 hd hn ht (k p l e s m args below meth c dC dI ad cA A H locs ls hX hA hK hP hD hS h)
theorem pw_lookup {dflt : Int} {ps : Array (Int × Int)} {len : Nat} {x : Int32} {off : Int} (tgt : Nat) (hd : decode cc pc = .ok (.lookupswitch dflt ps, len)) (hp : (ps.toList.zip (ps.toList.drop 1)).all (fun (a, next) => a.1 < next.1) = true) (ho : Op.lookupswitch.offset ps.toList dflt x.toInt = off) (ht : (pc : Int) + off = (tgt : Int)) (k : PW tab own cc nL rt rF rL Post tgt lv st sg) : PW tab own cc nL rt rF rL Post pc lv (.int x :: st) sg := by
  intro p l e s m args below meth c dC dI ad cA A H locs ls hX hA hK hP hD hS h
  exact lv_lookup hX.1 hX.2.1 hd hp ho ht (k p l e s m args below meth c dC dI ad cA A H locs ls hX hA hK hP hD hS h)
theorem pw_iaload {q n : Nat} {i : Int32} (hd : decode cc pc = .ok (.iaload, 1)) (ht : tab[q]? = some (.inl n)) (hi : vp_in i n) (k : PW tab own cc nL rt rF rL Post (pc + 1) lv (.int (rd sg q i.toNatClampNeg) :: st) sg) : PW tab own cc nL rt rF rL Post pc lv (.int i :: .ref q :: st) sg := by
  intro p l e s m args below meth c dC dI ad cA A H locs ls hX hA hK hP hD hS h
  exact va_iald hX.1 hX.2.1 hK hP q 0 (wld_get ht) rfl hi hd (k p l e s m args below meth c dC dI ad cA A H locs ls hX hA hK hP hD hS h)
theorem pw_iastore {q n : Nat} {i x : Int32} (hd : decode cc pc = .ok (.iastore, 1)) (ht : tab[q]? = some (.inl n)) (hi : vp_in i n) (k : PW tab own cc nL rt rF rL Post (pc + 1) lv st (wr sg q i.toNatClampNeg x)) : PW tab own cc nL rt rF rL Post pc lv (.int x :: .int i :: .ref q :: st) sg := by
  intro p l e s m args below meth c dC dI ad cA A H locs ls hX hA hK hP hD hS h
  refine va_iast hX.1 hX.2.1 hK hP hD hS q 0 (wld_get ht) rfl hi hd (fun H locs hP hD hS => ?_)
  rw [← wld_wr ht] at hP hD
  exact k p l e s m args below meth c dC dI ad cA A H locs ls hX hA hK hP hD hS h
/-- what a class row of vwCl needs: its fields' words are in the tables, its types -/
def clOk (ci : Nat) (C : String) (T : u_T) (N : Nat) (ty : Nat → FieldType) : Prop := vwCl[ci]? = some (C, T, N) ∧ (∀ w ∈ u_ws C T N, w ∈ gl) ∧ (∀ k, k < N → parseFieldDescriptor (T k).2.2.1 = some (ty k)) ∧ (∀ a, a < N → ∀ b, b < N → a ≠ b → (T a).2.1 ≠ (T b).2.1)
theorem pw_getr {q ci N idx z : Nat} {C : String} {T : u_T} {ty : Nat → FieldType} {fk : List (Nat × Nat)} (j : Nat) (hd : decode cc pc = .ok (.getfield idx, 3)) (hcl : clOk ci C T N ty) (ht : tab[q]? = some (.inr (ci, fk))) (hN : j < N) (hlk : Cond.fieldLink own idx (T j).1 (T j).2.1 (T j).2.2.1 ∈ gl) (hj : fk[j]? = some (0, z)) (k : PW tab own cc nL rt rF rL Post (pc + 3) lv (.ref z :: st) sg) : PW tab own cc nL rt rF rL Post pc lv (.ref q :: st) sg := by
  intro p l e s m args below meth c dC dI ad cA A H locs ls hX hA hK hP hD hS h
  exact va_get hX.1 hX.2.1 hX.2.2.2.2.2.2 hcl.2.1 hX.2.2.2.2.1 hK hP q (wld_get ht) hcl.1 j hN (hX.2.2.2.2.2.2 _ hlk) (fun _ h9 => h9) (by rw [List.getElem?_mapIdx, hj]; rfl) hd (k p l e s m args below meth c dC dI ad cA A H locs ls hX hA hK hP hD hS h)
theorem pw_geti {q ci N idx z : Nat} {C : String} {T : u_T} {ty : Nat → FieldType} {fk : List (Nat × Nat)} (j : Nat) (hd : decode cc pc = .ok (.getfield idx, 3)) (hcl : clOk ci C T N ty) (ht : tab[q]? = some (.inr (ci, fk))) (hN : j < N) (hlk : Cond.fieldLink own idx (T j).1 (T j).2.1 (T j).2.2.1 ∈ gl) (hj : fk[j]? = some (1, z)) (k : PW tab own cc nL rt rF rL Post (pc + 3) lv (.int (rd sg q j) :: st) sg) : PW tab own cc nL rt rF rL Post pc lv (.ref q :: st) sg := by
  intro p l e s m args below meth c dC dI ad cA A H locs ls hX hA hK hP hD hS h
  exact va_get hX.1 hX.2.1 hX.2.2.2.2.2.2 hcl.2.1 hX.2.2.2.2.1 hK hP q (wld_get ht) hcl.1 j hN (hX.2.2.2.2.2.2 _ hlk) (fun _ h9 => h9) (by rw [List.getElem?_mapIdx, hj]; rfl) hd (k p l e s m args below meth c dC dI ad cA A H locs ls hX hA hK hP hD hS h)
theorem pw_getl {q ci N idx z : Nat} {C : String} {T : u_T} {ty : Nat → FieldType} {fk : List (Nat × Nat)} (j : Nat) (hd : decode cc pc = .ok (.getfield idx, 3)) (hcl : clOk ci C T N ty) (ht : tab[q]? = some (.inr (ci, fk))) (hN : j < N) (hlk : Cond.fieldLink own idx (T j).1 (T j).2.1 (T j).2.2.1 ∈ gl) (hj : fk[j]? = some (2, z)) (k : PW tab own cc nL rt rF rL Post (pc + 3) lv (.long (rdL sg q j) :: st) sg) : PW tab own cc nL rt rF rL Post pc lv (.ref q :: st) sg := by
  intro p l e s m args below meth c dC dI ad cA A H locs ls hX hA hK hP hD hS h
  exact va_get hX.1 hX.2.1 hX.2.2.2.2.2.2 hcl.2.1 hX.2.2.2.2.1 hK hP q (wld_get ht) hcl.1 j hN (hX.2.2.2.2.2.2 _ hlk) (fun _ h9 => h9) (by rw [List.getElem?_mapIdx, hj]; rfl) hd (k p l e s m args below meth c dC dI ad cA A H locs ls hX hA hK hP hD hS h)
theorem pw_puti {q ci N idx z : Nat} {C : String} {T : u_T} {ty : Nat → FieldType} {fk : List (Nat × Nat)} (j : Nat) {fty : FieldType} {v : Int32} (hd : decode cc pc = .ok (.putfield idx, 3)) (hcl : clOk ci C T N ty) (ht : tab[q]? = some (.inr (ci, fk))) (hN : j < N) (hlk : Cond.fieldLink own idx (T j).1 (T j).2.1 (T j).2.2.1 ∈ gl) (hj : fk[j]? = some (1, z)) (hfin : (T j).2.2.2 = false) (hty : parseFieldDescriptor (T j).2.2.1 = some fty) (hnr : narrow fty (.int v) = .int v) (hfit : fits fty (.int v) = true) (k : PW tab own cc nL rt rF rL Post (pc + 3) lv st (wr sg q j v)) : PW tab own cc nL rt rF rL Post pc lv (.int v :: .ref q :: st) sg := by
  intro p l e s m args below meth c dC dI ad cA A H locs ls hX hA hK hP hD hS h
  refine va_put hX.1 hX.2.1 hX.2.2.2.2.2.2 hcl.2.1 ty hcl.2.2.1 hcl.2.2.2 hX.2.2.2.2.1 hK hP hD hS q (wld_get ht) hcl.1 j hN (hX.2.2.2.2.2.2 _ hlk) (fun _ h9 => h9) hfin hty hnr hfit (by rw [List.length_mapIdx]; exact (List.getElem?_eq_some_iff.mp hj).1) hd (fun H locs hP hD hS => ?_)
  have hP : va_P (dC, dI) vwCl ((wld tab ad cA sg).set q (ad q, .inr (ci, (fk.mapIdx (fun j k => fv ad sg q j k)).set j (.int v)))) H := hP
  have hD : va_D A ((wld tab ad cA sg).set q (ad q, .inr (ci, (fk.mapIdx (fun j k => fv ad sg q j k)).set j (.int v)))) := hD
  rw [← wld_put ht hj] at hP hD
  exact k p l e s m args below meth c dC dI ad cA A H locs ls hX hA hK hP hD hS h
theorem pw_putl {q ci N idx z : Nat} {C : String} {T : u_T} {ty : Nat → FieldType} {fk : List (Nat × Nat)} (j : Nat) {fty : FieldType} {v : Int64} (hd : decode cc pc = .ok (.putfield idx, 3)) (hcl : clOk ci C T N ty) (ht : tab[q]? = some (.inr (ci, fk))) (hN : j < N) (hlk : Cond.fieldLink own idx (T j).1 (T j).2.1 (T j).2.2.1 ∈ gl) (hj : fk[j]? = some (2, z)) (hfin : (T j).2.2.2 = false) (hty : parseFieldDescriptor (T j).2.2.1 = some fty) (hnr : narrow fty (.long v) = .long v) (hfit : fits fty (.long v) = true) (k : PW tab own cc nL rt rF rL Post (pc + 3) lv st (wrL sg q j v)) : PW tab own cc nL rt rF rL Post pc lv (.long v :: .ref q :: st) sg := by
  intro p l e s m args below meth c dC dI ad cA A H locs ls hX hA hK hP hD hS h
  refine va_put hX.1 hX.2.1 hX.2.2.2.2.2.2 hcl.2.1 ty hcl.2.2.1 hcl.2.2.2 hX.2.2.2.2.1 hK hP hD hS q (wld_get ht) hcl.1 j hN (hX.2.2.2.2.2.2 _ hlk) (fun _ h9 => h9) hfin hty hnr hfit (by rw [List.length_mapIdx]; exact (List.getElem?_eq_some_iff.mp hj).1) hd (fun H locs hP hD hS => ?_)
  have hP : va_P (dC, dI) vwCl ((wld tab ad cA sg).set q (ad q, .inr (ci, (fk.mapIdx (fun j k => fv ad sg q j k)).set j (.long v)))) H := hP
  have hD : va_D A ((wld tab ad cA sg).set q (ad q, .inr (ci, (fk.mapIdx (fun j k => fv ad sg q j k)).set j (.long v)))) := hD
  rw [← wld_putL ht hj] at hP hD
  exact k p l e s m args below meth c dC dI ad cA A H locs ls hX hA hK hP hD hS h
theorem pw_ireturn {v : Int32} (hd : decode cc pc = .ok (.ireturn, 1)) (hr : rt = some .int) (hq : Post (some (.int v)) sg) : PW tab own cc nL rt rF rL Post pc lv [.int v] sg := by
  intro p l e s m args below meth c dC dI ad cA A H locs ls hX hA hK hP hD hS h
  have hlocks : meth.locks = false := hX.2.2.2.2.2.1
  exact W.iret hX.1 hX.2.1 (hX.2.2.2.1.trans hr) (fun t ht hW => ⟨⟨some (.int v), sg, rfl, hq, by rw [ht]; exact hP, va_K.moved hW.alike hK, hD⟩, hS.F ht⟩) hS.2.2 hd
theorem pw_zreturn {v : Int32} (hd : decode cc pc = .ok (.ireturn, 1)) (hr : rt = some .boolean) (hn : narrow .boolean (.int v) = .int v) (hq : Post (some (.int v)) sg) : PW tab own cc nL rt rF rL Post pc lv [.int v] sg := by
  intro p l e s m args below meth c dC dI ad cA A H locs ls hX hA hK hP hD hS h
  have hlocks : meth.locks = false := hX.2.2.2.2.2.1
  exact W.zret hX.1 hX.2.1 (hX.2.2.2.1.trans hr) hn (fun t ht hW => ⟨⟨some (.int v), sg, rfl, hq, by rw [ht]; exact hP, va_K.moved hW.alike hK, hD⟩, hS.F ht⟩) hS.2.2 hd
theorem pw_lreturn {v : Int64} (hd : decode cc pc = .ok (.lreturn, 1)) (hr : rt = some .long) (hq : Post (some (.long v)) sg) : PW tab own cc nL rt rF rL Post pc lv [.long v] sg := by
  intro p l e s m args below meth c dC dI ad cA A H locs ls hX hA hK hP hD hS h
  have hlocks : meth.locks = false := hX.2.2.2.2.2.1
  exact W.lret hX.1 hX.2.1 (hX.2.2.2.1.trans hr) (fun t ht hW => ⟨⟨some (.long v), sg, rfl, hq, by rw [ht]; exact hP, va_K.moved hW.alike hK, hD⟩, hS.F ht⟩) hS.2.2 hd
theorem pw_return (hd : decode cc pc = .ok (.return_, 1)) (hr : rt = none) (hq : Post none sg) : PW tab own cc nL rt rF rL Post pc lv [] sg := by
  intro p l e s m args below meth c dC dI ad cA A H locs ls hX hA hK hP hD hS h
  have hlocks : meth.locks = false := hX.2.2.2.2.2.1
  exact W.vret hX.1 hX.2.1 (hX.2.2.2.1.trans hr) (fun t ht hW => ⟨⟨none, sg, rfl, hq, by rw [ht]; exact hP, va_K.moved hW.alike hK, hD⟩, hS.F ht⟩) hS.2.2 hd
theorem tbl_good : GoodIn gl gl := goodIn_sub' (fun _ h => h) gl_all
theorem pw_call {p : Program} {l : Launch} {e : Env} {s : State} {m : MethodId} {args : Array Value} {below : List Frame} {meth : Method} {c : Code} {dC : Nat → ClassId} {dI : Nat → Nat → Nat} {ad : Nat → Nat} {cA : ClassId} {A : Nat → Prop} {H : Heap} {locs : List Loc} {ls : Array Slot} {st0 rest : List Value} {a : Array Value} {Q : State → Prop} {Post2 : Option Value → Sg → Prop}
    (hr : va_Run p l e (rmOf rF rL) s m args below meth c H locs 0 0 0 0 (F0 m pc ls st0) rest (pQ tab dC dI ad cA (va_A (wld tab ad cA sg) H.size) Post2 a) (va_A (wld tab ad cA sg) H.size))
    (hA : ∀ q, s.heap.size ≤ q → A q) (hD : va_D A (wld tab ad cA sg)) (hS : va_S A s.heap H locs)
    (kk : ∀ (v : Option Value) (sg2 : Sg) (H1 : Heap) (locs1 : List Loc), Post2 v sg2 → va_P (dC, dI) vwCl (wld tab ad cA sg2) H1 → va_D A (wld tab ad cA sg2) → va_S A s.heap H1 locs1 → W p l e (rmOf rF rL) s m args below meth c H1 locs1 0 0 Q (F0 m (pc + 3) ls ((v.map (cv ad)).toList ++ rest))) : W p l e (rmOf rF rL) s m args below meth c H locs 0 0 Q (F0 m pc ls st0) := by
  have hF : ∀ q, va_A (wld tab ad cA sg) H.size q → A q := by
    intro q h
    rcases h with ⟨k, e, h⟩ | h
    · exact hD.2 k (q, e) h
    · exact hA q (Nat.le_trans hS.1 h)
  intro T hT X
  obtain ⟨v, st₀, t, T', L, h0, X', hL, e1, e2, ⟨⟨v2, sg2, hv, hp, hP1, hK1, hD1⟩, hz, hk⟩, stp⟩ := hr T hT X
  cases hv
  rw [h0] at hz hk
  obtain ⟨t2, a1, b1⟩ := kk v2 sg2 T'.heap (locs ++ L) hp (by rw [e1]; exact hP1) (hD1.weaken (fun k q _ h => hF q.1 h))
    ⟨Nat.le_trans hS.1 (by rw [e1]; exact hz), fun q h1 h2 => by rw [e1, hk q (Nat.lt_of_lt_of_le h1 hS.1) (fun z => h2 (hF q z))]; exact hS.2.1 q h1 h2, fun q hq => by
      rcases List.mem_append.mp hq with h | h
      · exact hS.2.2 q h
      · exact hF _ (hL q h)⟩ T' rfl X'
  exact ⟨t2, stp t2 a1, b1⟩
theorem con_words {y : MethodName} {cc : ByteArray} {nL : Nat} {rt : Option FieldType} (hco : Cond.code y cc nL rt ∈ gl) : GoodIn gl (.code y cc nL rt :: gl) := by
  intro w hw
  rcases List.mem_cons.mp hw with h | h
  · rw [h]; exact tbl_good _ hco
  · exact tbl_good _ h
theorem con_blind {dC : Nat → ClassId} {dI : Nat → Nat → Nat} {cA : ClassId} {sz : Nat} {av : List Value} {wl : va_W} : FrameBlind (va_Pc av (fun U => U.heap.size = sz ∧ va_P (dC, dI) vwCl wl U.heap ∧ va_K (dC, dI) vwCl [(cA, .int)] U ∧ va_D (fun _ => True) wl)) := by
  intro a U g mk q
  obtain ⟨q0, q1, qP, qK, qD⟩ := q
  exact ⟨q0, q1, qP, va_K.moved (u := U) (U := U.calling g mk a) (Vm.Alike.refl U.vm) qK, qD⟩
theorem pw_callS {idx : Nat} {y : MethodName} {cc2 : ByteArray} {nL2 : Nat} {rt2 : Option FieldType} {rF2 rL2 : Nat} {Post2 : Option Value → Sg → Prop} (vs : List Value) (hd : decode cc pc = .ok (.invokestatic idx, 3)) (hlk : Cond.methodLink own idx y ∈ gl) (hst : Cond.static y ∈ gl) (hini : Cond.initialized y.cls ∈ gl) (hco : Cond.code y cc2 nL2 rt2 ∈ gl)
    (hy : y.cls ≠ "java/lang/invoke/MethodHandle" ∧ y.cls ≠ "java/lang/invoke/VarHandle" ∧ (parseMethodDescriptor y.desc).map (fun d => d.parameters.length) = some vs.length) (hR : rF2 + 1 ≤ rF ∧ 8 + (nL2 + 11) + rL2 ≤ rL) (hw : (st.map fun v => v.category).sum ≤ 8)
    (con : Con tab y cc2 nL2 rt2 rF2 rL2 vs sg Post2) (kk : ∀ (v : Option Value) (sg2 : Sg), Post2 v sg2 → PW tab own cc nL rt rF rL Post (pc + 3) lv (v.toList ++ st) sg2) : PW tab own cc nL rt rF rL Post pc lv (vs.reverse ++ st) sg := by
  intro p l e s m args below meth c dC dI ad cA A H locs ls hX hA hK hP hD hS h
  have hts := hX.2.2.2.2.2.2
  have cb := callB_of (R := rmOf rF rL) (rm := rmOf rF2 rL2) (mc := 0) (ms := 0) (index := idx) vs.length hts (con_words hco) rfl rfl rfl (hts _ hini) (hts _ hlk) hy hR
  have run := va_runS (As := vs.map (cv ad)) (rest := st.map (cv ad)) (g := F0 m pc ls ((vs.reverse ++ st).map (cv ad))) (H := H) (locs := locs) (cells := 0) (slots := 0) (below := below) (meth := meth) (e := e) ⟨hX.1, hX.2.1, hX.2.2.1, hX.2.2.2.2.1, hts⟩ (con l dC dI ad cA H.size) ⟨cb, hts _ hst⟩ ⟨con_blind, fun U hU hW => ⟨rfl, by rw [hU], by rw [hU]; exact hP, va_K.moved hW.alike hK, hD.weaken (fun _ _ _ _ => trivial)⟩⟩ rfl (List.length_map ..) h.1 (by rw [List.map_append, List.map_reverse]) (lv_room (by rw [cv_sum]; exact hw)) hd ⟨Nat.le_refl 0, Nat.le_refl 0⟩
  refine pw_call run hA hD hS (fun v sg2 H locs hp hP hD hS => ?_)
  have := kk v sg2 hp p l e s m args below meth c dC dI ad cA A H locs ls hX hA hK hP hD hS h
  rw [List.map_append] at this
  rw [show (v.map (cv ad)).toList = v.toList.map (cv ad) by cases v <;> rfl]
  exact this
theorem pw_callV {q ci N idx : Nat} {y : MethodName} {cc2 : ByteArray} {nL2 : Nat} {rt2 : Option FieldType} {rF2 rL2 : Nat} {fk : List (Nat × Nat)} {T : u_T} {Post2 : Option Value → Sg → Prop} (vs : List Value) (hd : decode cc pc = .ok (.invokevirtual idx, 3)) (ht : tab[q]? = some (.inr (ci, fk))) (hcl : vwCl[ci]? = some (y.cls, T, N)) (hlk : Cond.methodLink own idx y ∈ gl) (him : Cond.instanceMethod y ∈ gl) (hse : Cond.selects y.cls y y ∈ gl) (hini : Cond.initialized y.cls ∈ gl) (hco : Cond.code y cc2 nL2 rt2 ∈ gl)
    (hy : y.cls ≠ "java/lang/invoke/MethodHandle" ∧ y.cls ≠ "java/lang/invoke/VarHandle" ∧ (parseMethodDescriptor y.desc).map (fun d => d.parameters.length) = some vs.length) (hR : rF2 + 1 ≤ rF ∧ 8 + (nL2 + 11) + rL2 ≤ rL) (hw : (st.map fun v => v.category).sum ≤ 8)
    (con : Con tab y cc2 nL2 rt2 rF2 rL2 (.ref q :: vs) sg Post2) (kk : ∀ (v : Option Value) (sg2 : Sg), Post2 v sg2 → PW tab own cc nL rt rF rL Post (pc + 3) lv (v.toList ++ st) sg2) : PW tab own cc nL rt rF rL Post pc lv (vs.reverse ++ .ref q :: st) sg := by
  intro p l e s m args below meth c dC dI ad cA A H locs ls hX hA hK hP hD hS h
  have hts := hX.2.2.2.2.2.2
  have cb := callB_of (R := rmOf rF rL) (rm := rmOf rF2 rL2) (mc := 0) (ms := 0) (index := idx) vs.length hts (con_words hco) rfl rfl rfl (hts _ hini) (hts _ hlk) hy hR
  have run := va_runV (As := vs.map (cv ad)) (rest := st.map (cv ad)) (b := ad q) (C := y.cls) (g := F0 m pc ls ((vs.reverse ++ .ref q :: st).map (cv ad))) (H := H) (locs := locs) (cells := 0) (slots := 0) (below := below) (meth := meth) (e := e) ⟨hX.1, hX.2.1, hX.2.2.1, hX.2.2.2.2.1, hts⟩ (con l dC dI ad cA H.size) ⟨cb, hts _ him, hts _ hse⟩ ⟨con_blind, va_recv hK hP hcl (wld_get ht), fun U hU hW => ⟨rfl, by rw [hU], by rw [hU]; exact hP, va_K.moved hW.alike hK, hD.weaken (fun _ _ _ _ => trivial)⟩⟩ rfl (List.length_map ..) h.1 (by rw [List.map_append, List.map_reverse]; rfl) (lv_room (by rw [cv_sum]; exact hw)) hd ⟨Nat.le_refl 0, Nat.le_refl 0⟩
  refine pw_call run hA hD hS (fun v sg2 H locs hp hP hD hS => ?_)
  have := kk v sg2 hp p l e s m args below meth c dC dI ad cA A H locs ls hX hA hK hP hD hS h
  rw [List.map_append] at this
  rw [show (v.map (cv ad)).toList = v.toList.map (cv ad) by cases v <;> rfl]
  exact this
end PWR
