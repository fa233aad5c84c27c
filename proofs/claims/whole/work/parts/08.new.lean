/-! PN: constructors. Every int is 0; the table of cells grows. -/
def zsg : Sg := (fun _ _ => 0, fun _ _ => 0)
theorem wr_zsg {q j : Nat} : wr zsg q j 0 = zsg := by
  unfold wr zsg
  congr 1
  funext a i
  simp
abbrev rmN (rF rC rS rL : Nat) : Room := { frames := rF, cells := rC, slots := rS, locals := rL }
def vok (n : Nat) (v : Value) : Bool := match v with
  | .ref k => Nat.blt k n
  | _ => true
def eok (n : Nat) (e : Nat ⊕ (Nat × List (Nat × Nat))) : Bool := match e with
  | .inl _ => true
  | .inr u => u.2.all fun k => (k.1 != 0) || Nat.blt k.2 n
/-- references within n, in the table, in the locals and on the stack -/
def cok (n : Nat) (tab : Tb) (lv : List (Nat × Value)) (st : List Value) : Bool := tab.all (eok n) && (lv.all (fun q => vok n q.2) && (st.all (vok n) && Nat.beq tab.length n))
def adx (ad : Nat → Nat) (n q : Nat) : Nat → Nat := fun k => if k = n then q else ad k
theorem cv_ad {n : Nat} {ad ad' : Nat → Nat} (ha : ∀ k, k < n → ad' k = ad k) {v : Value} (h : vok n v = true) : cv ad' v = cv ad v := by
  cases v with
  | ref k => simp only [cv, ha k (Nat.blt_eq.mp h)]
  | _ => rfl
theorem cvst_ad {n : Nat} {ad ad' : Nat → Nat} (ha : ∀ k, k < n → ad' k = ad k) {st : List Value} (h : st.all (vok n) = true) : st.map (cv ad') = st.map (cv ad) := List.map_congr_left fun v hv => cv_ad ha (List.all_eq_true.mp h v hv)
theorem cvlv_ad {n : Nat} {ad ad' : Nat → Nat} (ha : ∀ k, k < n → ad' k = ad k) {lv : List (Nat × Value)} (h : lv.all (fun q => vok n q.2) = true) : lv.map (cvl ad') = lv.map (cvl ad) := List.map_congr_left fun q hq => by unfold cvl; rw [cv_ad ha (List.all_eq_true.mp h q hq)]
theorem wld_ad {n : Nat} {ad ad' : Nat → Nat} (ha : ∀ k, k < n → ad' k = ad k) {tab : Tb} {cA : ClassId} {sg : Sg} (h : tab.all (eok n) = true) (hl : tab.length = n) : wld tab ad' cA sg = wld tab ad cA sg := by
  apply List.ext_getElem?
  intro i
  unfold wld
  rw [List.getElem?_mapIdx, List.getElem?_mapIdx]
  cases hi : tab[i]? with
  | none => rfl
  | some e =>
    have hlt : i < n := by rw [← hl]; exact (List.getElem?_eq_some_iff.mp hi).1
    have he := List.all_eq_true.mp h e (List.mem_of_getElem? hi)
    simp only [Option.map_some]
    congr 1
    cases e with
    | inl k => simp only [cel, ha i hlt]
    | inr u =>
      simp only [cel, ha i hlt]
      congr 3
      apply List.ext_getElem?
      intro j
      rw [List.getElem?_mapIdx, List.getElem?_mapIdx]
      cases hj : u.2[j]? with
      | none => rfl
      | some k =>
        have hk := List.all_eq_true.mp he k (List.mem_of_getElem? hj)
        obtain ⟨a, c⟩ := k
        simp only [Option.map_some]
        congr 1
        match a with
        | 0 =>
          have : Nat.blt c n = true := by simpa using hk
          simp only [fv, ha c (Nat.blt_eq.mp this)]
        | 1 => rfl
        | 2 => rfl
        | k + 3 => rfl
theorem wld_push {tab : Tb} {ad : Nat → Nat} {cA : ClassId} {sg : Sg} {e : Nat ⊕ (Nat × List (Nat × Nat))} : wld (tab ++ [e]) ad cA sg = wld tab ad cA sg ++ [cel ad cA sg tab.length e] := by
  unfold wld
  rw [List.mapIdx_concat]
theorem adx_lt {ad : Nat → Nat} {n q : Nat} : ∀ k, k < n → adx ad n q k = ad k := fun k hk => by unfold adx; rw [if_neg (Nat.ne_of_lt hk)]
theorem wld_setr {tab : Tb} {ad : Nat → Nat} {cA : ClassId} {sg : Sg} {q ci j z k : Nat} {fk : List (Nat × Nat)} (h : tab[q]? = some (.inr (ci, fk))) (hj : fk[j]? = some (3, z)) : wld (tab.set q (.inr (ci, fk.set j (0, k)))) ad cA sg = (wld tab ad cA sg).set q (ad q, .inr (ci, (fk.mapIdx (fun j k => fv ad sg q j k)).set j (.ref (ad k)))) := by
  apply List.ext_getElem?
  intro i
  have hl := (List.getElem?_eq_some_iff.mp h).1
  by_cases hi : i = q
  · subst hi
    rw [List.getElem?_set_self (by unfold wld; rw [List.length_mapIdx]; exact hl)]
    unfold wld
    rw [List.getElem?_mapIdx, List.getElem?_set_self hl]
    simp only [Option.map_some, cel]
    congr 4
    apply List.ext_getElem?
    intro i2
    by_cases hi2 : i2 = j
    · subst hi2
      rw [List.getElem?_set_self (by rw [List.length_mapIdx]; exact (List.getElem?_eq_some_iff.mp hj).1), List.getElem?_mapIdx, List.getElem?_set_self (List.getElem?_eq_some_iff.mp hj).1]
      rfl
    · rw [List.getElem?_set_ne (Ne.symm hi2), List.getElem?_mapIdx, List.getElem?_set_ne (Ne.symm hi2), List.getElem?_mapIdx]
  · rw [List.getElem?_set_ne (Ne.symm hi)]
    unfold wld
    rw [List.getElem?_mapIdx, List.getElem?_set_ne (Ne.symm hi), List.getElem?_mapIdx]
def nQ (tab : Tb) (sg : Sg) (n0 : Nat) (ad0 : Nat → Nat) (dC : Nat → ClassId) (dI : Nat → Nat → Nat) (cA : ClassId) (A : Nat → Prop) : Array Value → State → Outcome → State → Prop := fun _ st oc t => (∃ ad : Nat → Nat, oc = .returned none ∧ (∀ k, k < n0 → ad k = ad0 k) ∧ pB tab dC dI ad cA A sg t) ∧ va_F A st t
def PN (own : String) (cc : ByteArray) (nL : Nat) (rF rC rS rL : Nat) (tabF : Tb) (sgF : Sg) (n0 : Nat) (pc : Nat) (lv : List (Nat × Value)) (st : List Value) (tab : Tb) (cells slots : Nat) : Prop :=
  ∀ (p : Program) (l : Launch) (e : Env) (s : State) (m : MethodId) (args : Array Value) (below : List Frame) (meth : Method) (c : Code) (dC : Nat → ClassId) (dI : Nat → Nat → Nat) (ad0 ad : Nat → Nat) (cA : ClassId) (A : Nat → Prop) (H : Heap) (locs : List Loc) (ls : Array Slot),
    PX own cc nL none p s m args meth c ∧ meth.name = "<init>" → (∀ q, s.heap.size ≤ q → A q) → (∀ k, k < n0 → ad k = ad0 k) → va_K (dC, dI) vwCl [(cA, .int)] s → va_P (dC, dI) vwCl (wld tab ad cA zsg) H → va_D A (wld tab ad cA zsg) → va_S A s.heap H locs → lv_has ls nL (lv.map (cvl ad)) →
    W p l e (rmN rF rC rS rL) s m args below meth c H locs cells slots (MQ below (nQ tabF sgF n0 ad0 dC dI cA A) args s rC rS A) (F0 m pc ls (st.map (cv ad)))
def NCon (y : MethodName) (cc : ByteArray) (nL : Nat) (rF rC rS rL : Nat) (tab : Tb) (q : Nat) (tabF : Tb) (sgF : Sg) : Prop :=
  ∀ (l : Launch) (dC : Nat → ClassId) (dI : Nat → Nat → Nat) (ad : Nat → Nat) (cA : ClassId) (sz : Nat), Met l y (.code y cc nL none :: gl) (rmN rF rC rS rL) (va_Pc [.ref (ad q)] (fun U => U.heap.size = sz ∧ va_P (dC, dI) vwCl (wld tab ad cA zsg) U.heap ∧ va_K (dC, dI) vwCl [(cA, .int)] U ∧ va_D (fun _ => True) (wld tab ad cA zsg))) (nQ tabF sgF tab.length ad dC dI cA (va_A (wld tab ad cA zsg) sz)) rC rS (va_A (wld tab ad cA zsg) sz)
theorem NCon.of {y : MethodName} {cc : ByteArray} {nL rF rC rS rL q : Nat} {tab tabF : Tb} {sgF : Sg} (hy : plainName y.cls = true) (hyn : y.name = "<init>") (hn : 1 ≤ nL) (k : PN y.cls cc nL rF rC rS rL tabF sgF tab.length 0 [(0, .ref q)] [] tab 0 0) : NCon y cc nL rF rC rS rL tab q tabF sgF := by
  intro l dC dI ad cA sz
  refine Met.ofW (cc := cc) (maxL := nL) (ret := none) hy rfl ?_
  intro p e s m args below meth c s₁ B hml hv
  obtain ⟨rfl, hsz, hP, hK, hD0⟩ := hv
  have hts := atoms_spec (ws := .code y cc nL none :: gl) B.pre
  have hown : s.vm.findClass y.cls = some m.cls := findClass_of_methodNamed B.named
  have hin : meth.name = "<init>" := (name_of_methodNamed B.named B.method).1.trans hyn
  subst hsz
  have hD := hD0.self (sz := s.heap.size)
  have hl := lv_entry ([.ref (ad q)]) (n := nL) hn
  rw [lg_entry_eq]
  exact k p l e s m (([.ref (ad q)] : List Value).toArray) below meth c dC dI ad ad cA _ s.heap [] _ ⟨⟨B.exec, B.bytes, hml, B.returns, hown, B.notSynchronized, fun w h => hts w (List.mem_cons_of_mem _ h)⟩, hin⟩ (fun q h => Or.inr h) (fun _ _ => rfl) hK hP hD va_S.rf hl
section PNR
variable {own : String} {cc : ByteArray} {nL rF rC rS rL : Nat} {tabF : Tb} {sgF : Sg} {n0 pc : Nat} {lv : List (Nat × Value)} {st : List Value} {tab : Tb} {cells slots : Nat}
theorem pn_iconst {n : Int} (v : Int32) (hd : decode cc pc = .ok (.iconst n, 1)) (hv : Int32.ofInt n = v) (k : PN own cc nL rF rC rS rL tabF sgF n0 (pc + 1) lv (.int v :: st) tab cells slots) : PN own cc nL rF rC rS rL tabF sgF n0 pc lv st tab cells slots := by
  intro p l e s m args below meth c dC dI ad0 ad cA A H locs ls hX hA h0 hK hP hD hS h
  exact lv_iconst hX.1.1 hX.1.2.1 hd hv (k p l e s m args below meth c dC dI ad0 ad cA A H locs ls hX hA h0 hK hP hD hS h)
theorem pn_bipush {n : Int} (v : Int32) (hd : decode cc pc = .ok (.bipush n, 2)) (hv : (Int8.ofInt n).toInt32 = v) (k : PN own cc nL rF rC rS rL tabF sgF n0 (pc + 2) lv (.int v :: st) tab cells slots) : PN own cc nL rF rC rS rL tabF sgF n0 pc lv st tab cells slots := by
  intro p l e s m args below meth c dC dI ad0 ad cA A H locs ls hX hA h0 hK hP hD hS h
  exact lv_bipush hX.1.1 hX.1.2.1 hd hv (k p l e s m args below meth c dC dI ad0 ad cA A H locs ls hX hA h0 hK hP hD hS h)
theorem pn_sipush {n : Int} (v : Int32) (hd : decode cc pc = .ok (.sipush n, 3)) (hv : (Int16.ofInt n).toInt32 = v) (k : PN own cc nL rF rC rS rL tabF sgF n0 (pc + 3) lv (.int v :: st) tab cells slots) : PN own cc nL rF rC rS rL tabF sgF n0 pc lv st tab cells slots := by
  intro p l e s m args below meth c dC dI ad0 ad cA A H locs ls hX hA h0 hK hP hD hS h
  exact lv_sipush hX.1.1 hX.1.2.1 hd hv (k p l e s m args below meth c dC dI ad0 ad cA A H locs ls hX hA h0 hK hP hD hS h)
theorem pn_aload_n {k : Fin 4} {i x : Nat} (j : Nat) (hd : decode cc pc = .ok (.aload_n k, 1)) (hi : (k : Nat) = i) (hj : lv[j]? = some (i, .ref x)) (kk : PN own cc nL rF rC rS rL tabF sgF n0 (pc + 1) lv (.ref x :: st) tab cells slots) : PN own cc nL rF rC rS rL tabF sgF n0 pc lv st tab cells slots := by
  intro p l e s m args below meth c dC dI ad0 ad cA A H locs ls hX hA h0 hK hP hD hS h
  exact lv_aload_n hX.1.1 hX.1.2.1 hd hi (lv_get h hj) (kk p l e s m args below meth c dC dI ad0 ad cA A H locs ls hX hA h0 hK hP hD hS h)
theorem pn_dup {va : Value} (hd : decode cc pc = .ok (.dup, 1)) (hva : va.category = 1) (k : PN own cc nL rF rC rS rL tabF sgF n0 (pc + 1) lv (va :: va :: st) tab cells slots) : PN own cc nL rF rC rS rL tabF sgF n0 pc lv (va :: st) tab cells slots := by
  intro p l e s m args below meth c dC dI ad0 ad cA A H locs ls hX hA h0 hK hP hD hS h
  exact lv_dup hX.1.1 hX.1.2.1 hd ((cv_cat _ va).trans hva) (k p l e s m args below meth c dC dI ad0 ad cA A H locs ls hX hA h0 hK hP hD hS h)
theorem pn_new {idx ci N : Nat} {C : String} {T : u_T} {ty : Nat → FieldType} (fk : List (Nat × Nat)) (fs : List Value) (hd : decode cc pc = .ok (.new idx, 3)) (hcl : clOk ci C T N ty) (hlk : Cond.classLink own idx C ∈ gl) (hins : Cond.instantiable C N ∈ gl) (hini : Cond.initialized C ∈ gl) (hbl : ∀ (ad : Nat → Nat) (q : Nat), fk.mapIdx (fun j k => fv ad zsg q j k) = fs) (hfs : ∀ j, j < N → defaultValue (ty j) = vp_V fs j) (hck : cok tab.length tab lv st = true) (hn0 : n0 ≤ tab.length) (hc1 : cells + 1 ≤ rC) (hs1 : slots + N ≤ rS) (k : PN own cc nL rF rC rS rL tabF sgF n0 (pc + 3) lv (.ref tab.length :: st) (tab ++ [.inr (ci, fk)]) (cells + 1) (slots + N)) : PN own cc nL rF rC rS rL tabF sgF n0 pc lv st tab cells slots := by
  intro p l e s m args below meth c dC dI ad0 ad cA A H locs ls hX hA h0 hK hP hD hS h
  have hck : tab.all (eok tab.length) = true ∧ lv.all (fun q => vok tab.length q.2) = true ∧ st.all (vok tab.length) = true := by
    unfold cok at hck
    simp only [Bool.and_eq_true] at hck
    exact ⟨hck.1, hck.2.1, hck.2.2.1⟩
  obtain ⟨k1, k2, k3⟩ := hck
  have hts := hX.1.2.2.2.2.2.2
  refine va_new (fs := fs) hX.1.1 hX.1.2.1 hts hcl.2.1 ty hcl.2.2.1 hX.1.2.2.2.2.1 (hts _ hlk) (hts _ hins) (hts _ hini) hK hP hD hS hA hcl.1 hfs hc1 hs1 hd (fun q H1 hP hD hS => ?_)
  have ha := adx_lt (ad := ad) (n := tab.length) (q := q)
  have hw : wld (tab ++ [.inr (ci, fk)]) (adx ad tab.length q) cA zsg = wld tab ad cA zsg ++ [(q, .inr (ci, fs))] := by
    rw [wld_push, wld_ad ha k1 rfl]
    simp only [cel, hbl, adx, if_true]
  rw [← hw] at hP hD
  have := k p l e s m args below meth c dC dI ad0 (adx ad tab.length q) cA A H1 locs ls hX hA (fun k hk => (ha k (Nat.lt_of_lt_of_le hk hn0)).trans (h0 k hk)) hK hP hD hS (by rw [cvlv_ad ha k2]; exact h)
  rw [List.map_cons, cvst_ad ha k3, show cv (adx ad tab.length q) (.ref tab.length) = .ref q by simp only [cv, adx, if_true]] at this
  exact this
theorem pn_newa {x : Int32} (n : Nat) (hd : decode cc pc = .ok (.newarray .int, 2)) (harr : Cond.arrayClass .int ∈ gl) (hn : ¬ x < 0) (hN : x.toNatClampNeg = n) (hb : n * componentBytes .int ≤ 536870912) (hck : cok tab.length tab lv st = true) (hn0 : n0 ≤ tab.length) (hc1 : cells + 1 ≤ rC) (hs1 : slots + n ≤ rS) (k : PN own cc nL rF rC rS rL tabF sgF n0 (pc + 2) lv (.ref tab.length :: st) (tab ++ [.inl n]) (cells + 1) (slots + n)) : PN own cc nL rF rC rS rL tabF sgF n0 pc lv (.int x :: st) tab cells slots := by
  intro p l e s m args below meth c dC dI ad0 ad cA A H locs ls hX hA h0 hK hP hD hS h
  have hck : tab.all (eok tab.length) = true ∧ lv.all (fun q => vok tab.length q.2) = true ∧ st.all (vok tab.length) = true := by
    unfold cok at hck
    simp only [Bool.and_eq_true] at hck
    exact ⟨hck.1, hck.2.1, hck.2.2.1⟩
  obtain ⟨k1, k2, k3⟩ := hck
  have hts := hX.1.2.2.2.2.2.2
  refine va_newa (atype := .int) (ty := .int) (a0 := (n, .inl (fun _ => 0))) hX.1.1 hX.1.2.1 (hts _ harr) rfl hK hP hD hS hA (fun _ => rfl) hn hN hb hc1 hs1 hd (fun q cA2 H1 hK2 hP hD hS => ?_)
  have hcA : cA2 = cA := Option.some.inj ((hK2.2 1 _ rfl).2.symm.trans (hK2.2 0 _ rfl).2)
  subst hcA
  have ha := adx_lt (ad := ad) (n := tab.length) (q := q)
  have hw : wld (tab ++ [.inl n]) (adx ad tab.length q) cA2 zsg = wld tab ad cA2 zsg ++ [(q, .inl (cA2, n, .inl (fun _ => 0)))] := by
    rw [wld_push, wld_ad ha k1 rfl]
    simp only [cel, adx, if_true]
    rfl
  rw [← hw] at hP hD
  have := k p l e s m args below meth c dC dI ad0 (adx ad tab.length q) cA2 A H1 locs ls hX hA (fun k hk => (ha k (Nat.lt_of_lt_of_le hk hn0)).trans (h0 k hk)) hK hP hD hS (by rw [cvlv_ad ha k2]; exact h)
  rw [List.map_cons, cvst_ad ha k3, show cv (adx ad tab.length q) (.ref tab.length) = .ref q by simp only [cv, adx, if_true]] at this
  exact this
theorem pn_putr {q ci N idx z : Nat} {C : String} {T : u_T} {ty : Nat → FieldType} {fk : List (Nat × Nat)} (j : Nat) (tab2 : Tb) {fty : FieldType} {k : Nat} (hd : decode cc pc = .ok (.putfield idx, 3)) (hcl : clOk ci C T N ty) (ht : tab[q]? = some (.inr (ci, fk))) (hN : j < N) (hlk : Cond.fieldLink own idx (T j).1 (T j).2.1 (T j).2.2.1 ∈ gl) (hj : fk[j]? = some (3, z)) (hfin : (T j).2.2.2 = true) (hdc : (T j).1 = own) (hty : parseFieldDescriptor (T j).2.2.1 = some fty) (hnr : ∀ a, narrow fty (.ref a) = .ref a) (hfit : ∀ a, fits fty (.ref a) = true) (htab : tab.set q (.inr (ci, fk.set j (0, k))) = tab2) (kk : PN own cc nL rF rC rS rL tabF sgF n0 (pc + 3) lv st tab2 cells slots) : PN own cc nL rF rC rS rL tabF sgF n0 pc lv (.ref k :: .ref q :: st) tab cells slots := by
  intro p l e s m args below meth c dC dI ad0 ad cA A H locs ls hX hA h0 hK hP hD hS h
  refine va_putF hX.1.1 hX.1.2.1 hX.1.2.2.2.2.2.2 hcl.2.1 ty hcl.2.2.1 hcl.2.2.2 hX.1.2.2.2.2.1 hK hP hD hS q (wld_get ht) hcl.1 j hN (hX.1.2.2.2.2.2.2 _ hlk) (fun _ h9 => h9) hfin hX.2 hdc hty (hnr _) (hfit _) (by rw [List.length_mapIdx]; exact (List.getElem?_eq_some_iff.mp hj).1) hd (fun H locs hP hD hS => ?_)
  have hP : va_P (dC, dI) vwCl ((wld tab ad cA zsg).set q (ad q, .inr (ci, (fk.mapIdx (fun j k => fv ad zsg q j k)).set j (.ref (ad k))))) H := hP
  have hD : va_D A ((wld tab ad cA zsg).set q (ad q, .inr (ci, (fk.mapIdx (fun j k => fv ad zsg q j k)).set j (.ref (ad k))))) := hD
  rw [← wld_setr ht hj, htab] at hP hD
  exact kk p l e s m args below meth c dC dI ad0 ad cA A H locs ls hX hA h0 hK hP hD hS h
theorem pn_puti {q ci N idx z : Nat} {C : String} {T : u_T} {ty : Nat → FieldType} {fk : List (Nat × Nat)} (j : Nat) {fty : FieldType} (hd : decode cc pc = .ok (.putfield idx, 3)) (hcl : clOk ci C T N ty) (ht : tab[q]? = some (.inr (ci, fk))) (hN : j < N) (hlk : Cond.fieldLink own idx (T j).1 (T j).2.1 (T j).2.2.1 ∈ gl) (hj : fk[j]? = some (1, z)) (hfin : (T j).2.2.2 = false) (hty : parseFieldDescriptor (T j).2.2.1 = some fty) (hnr : narrow fty (.int 0) = .int 0) (hfit : fits fty (.int 0) = true) (kk : PN own cc nL rF rC rS rL tabF sgF n0 (pc + 3) lv st tab cells slots) : PN own cc nL rF rC rS rL tabF sgF n0 pc lv (.int 0 :: .ref q :: st) tab cells slots := by
  intro p l e s m args below meth c dC dI ad0 ad cA A H locs ls hX hA h0 hK hP hD hS h
  refine va_put hX.1.1 hX.1.2.1 hX.1.2.2.2.2.2.2 hcl.2.1 ty hcl.2.2.1 hcl.2.2.2 hX.1.2.2.2.2.1 hK hP hD hS q (wld_get ht) hcl.1 j hN (hX.1.2.2.2.2.2.2 _ hlk) (fun _ h9 => h9) hfin hty hnr hfit (by rw [List.length_mapIdx]; exact (List.getElem?_eq_some_iff.mp hj).1) hd (fun H locs hP hD hS => ?_)
  have hP : va_P (dC, dI) vwCl ((wld tab ad cA zsg).set q (ad q, .inr (ci, (fk.mapIdx (fun j k => fv ad zsg q j k)).set j (.int 0)))) H := hP
  have hD : va_D A ((wld tab ad cA zsg).set q (ad q, .inr (ci, (fk.mapIdx (fun j k => fv ad zsg q j k)).set j (.int 0)))) := hD
  rw [← wld_put ht hj, wr_zsg] at hP hD
  exact kk p l e s m args below meth c dC dI ad0 ad cA A H locs ls hX hA h0 hK hP hD hS h
theorem pn_objInit {idx x : Nat} (hd : decode cc pc = .ok (.invokespecial idx, 3)) (hlk : Cond.methodLink own idx objectInit ∈ gl) (him : Cond.instanceMethod objectInit ∈ gl) (hco : Cond.code objectInit ⟨#[0xb1]⟩ 1 none ∈ gl) (hF : 1 ≤ rF) (hL : (st.map fun v => v.category).sum + 12 ≤ rL) (k : PN own cc nL rF rC rS rL tabF sgF n0 (pc + 3) lv st tab cells slots) : PN own cc nL rF rC rS rL tabF sgF n0 pc lv (.ref x :: st) tab cells slots := by
  intro p l e s m args below meth c dC dI ad0 ad cA A H locs ls hX hA h0 hK hP hD hS h
  have hts := hX.1.2.2.2.2.2.2
  exact W.objInit hX.1.1 hX.1.2.1 hX.1.2.2.2.2.1 (hts _ hlk) (hts _ him) (hts _ hco) rfl (h.1.trans hX.1.2.2.1.symm) rfl hd hF (by have := cv_sum ad st; show 2 * 0 + ((st.map (cv ad)).map fun v => v.category).sum + 12 ≤ rL; omega) (k p l e s m args below meth c dC dI ad0 ad cA A H locs ls hX hA h0 hK hP hD hS h)
theorem pn_return (hd : decode cc pc = .ok (.return_, 1)) (ht : tab = tabF) (hg : zsg = sgF) (hc1 : cells = rC) (hs1 : slots = rS) : PN own cc nL rF rC rS rL tabF sgF n0 pc lv [] tab cells slots := by
  intro p l e s m args below meth c dC dI ad0 ad cA A H locs ls hX hA h0 hK hP hD hS h
  subst ht; subst hg; subst hc1; subst hs1
  have hlocks : meth.locks = false := hX.1.2.2.2.2.2.1
  exact W.vret hX.1.1 hX.1.2.1 hX.1.2.2.2.1 (fun t ht hW => ⟨⟨ad, rfl, h0, by rw [ht]; exact hP, va_K.moved hW.alike hK, hD⟩, hS.F ht⟩) hS.2.2 hd
theorem pn_callI {idx q rF2 rC2 rS2 rL2 nL2 : Nat} {y : MethodName} {cc2 : ByteArray} {tab2 : Tb} (hd : decode cc pc = .ok (.invokespecial idx, 3)) (hyn : y.name = "<init>") (hlk : Cond.methodLink own idx y ∈ gl) (him : Cond.instanceMethod y ∈ gl) (hini : Cond.initialized y.cls ∈ gl) (hco : Cond.code y cc2 nL2 none ∈ gl)
    (hy : y.cls ≠ "java/lang/invoke/MethodHandle" ∧ y.cls ≠ "java/lang/invoke/VarHandle" ∧ (parseMethodDescriptor y.desc).map (fun d => d.parameters.length) = some 0) (hR : rF2 + 1 ≤ rF ∧ 8 + (nL2 + 11) + rL2 ≤ rL) (hw : (st.map fun v => v.category).sum ≤ 8) (hck : cok tab.length tab lv st = true) (hn0 : n0 ≤ tab.length) (hc1 : cells + rC2 ≤ rC) (hs1 : slots + rS2 ≤ rS)
    (con : NCon y cc2 nL2 rF2 rC2 rS2 rL2 tab q tab2 zsg) (kk : PN own cc nL rF rC rS rL tabF sgF n0 (pc + 3) lv st tab2 (cells + rC2) (slots + rS2)) : PN own cc nL rF rC rS rL tabF sgF n0 pc lv (.ref q :: st) tab cells slots := by
  intro p l e s m args below meth c dC dI ad0 ad cA A H locs ls hX hA h0 hK hP hD hS h
  have hck : tab.all (eok tab.length) = true ∧ lv.all (fun q => vok tab.length q.2) = true ∧ st.all (vok tab.length) = true := by
    unfold cok at hck
    simp only [Bool.and_eq_true] at hck
    exact ⟨hck.1, hck.2.1, hck.2.2.1⟩
  obtain ⟨k1, k2, k3⟩ := hck
  have hts := hX.1.2.2.2.2.2.2
  have cb := callB_of (R := rmN rF rC rS rL) (rm := rmN rF2 rC2 rS2 rL2) (mc := rC2) (ms := rS2) (index := idx) 0 hts (con_words hco) rfl rfl rfl (hts _ hini) (hts _ hlk) hy hR
  have run := va_runI (As := []) (rest := st.map (cv ad)) (b := ad q) (g := F0 m pc ls ((.ref q :: st).map (cv ad))) (H := H) (locs := locs) (cells := cells) (slots := slots) (below := below) (meth := meth) (e := e) ⟨hX.1.1, hX.1.2.1, hX.1.2.2.1, hX.1.2.2.2.2.1, hts⟩ (con l dC dI ad cA H.size) ⟨cb, hyn, hts _ him⟩ ⟨con_blind, fun U hU hW => ⟨rfl, by rw [hU], by rw [hU]; exact hP, va_K.moved hW.alike hK, hD.weaken (fun _ _ _ _ => trivial)⟩⟩ rfl rfl h.1 rfl (lv_room (by rw [cv_sum]; exact hw)) hd ⟨hc1, hs1⟩
  have hF : ∀ q, va_A (wld tab ad cA zsg) H.size q → A q := by
    intro q h
    rcases h with ⟨k, e, h⟩ | h
    · exact hD.2 k (q, e) h
    · exact hA q (Nat.le_trans hS.1 h)
  intro T hT X
  obtain ⟨v, st₀, t, T', L, hh0, X', hL, e1, e2, ⟨⟨ad2, hv, ha, hP1, hK1, hD1⟩, hzz, hk⟩, stp⟩ := run T hT X
  cases hv
  rw [hh0] at hzz hk
  have key := kk p l e s m args below meth c dC dI ad0 ad2 cA A T'.heap (locs ++ L) ls hX hA (fun k hk => (ha k (Nat.lt_of_lt_of_le hk hn0)).trans (h0 k hk)) hK (by rw [e1]; exact hP1) (hD1.weaken (fun k q _ h => hF q.1 h))
    ⟨Nat.le_trans hS.1 (by rw [e1]; exact hzz), fun q h1 h2 => by rw [e1, hk q (Nat.lt_of_lt_of_le h1 hS.1) (fun z => h2 (hF q z))]; exact hS.2.1 q h1 h2, fun q hq => by
      rcases List.mem_append.mp hq with h | h
      · exact hS.2.2 q h
      · exact hF _ (hL q h)⟩ (by rw [cvlv_ad ha k2]; exact h)
  rw [cvst_ad ha k3] at key
  obtain ⟨t2, a1, b1⟩ := key T' rfl X'
  exact ⟨t2, stp t2 a1, b1⟩
/-- the last call of a constructor: a void method over the finished cells, then the return -/
theorem pn_callRet {q ci N idx rF2 rL2 nL2 : Nat} {y : MethodName} {cc2 : ByteArray} {fk : List (Nat × Nat)} {T : u_T} (hd : decode cc pc = .ok (.invokevirtual idx, 3)) (hd2 : decode cc (pc + 3) = .ok (.return_, 1)) (ht : tab[q]? = some (.inr (ci, fk))) (hcl : vwCl[ci]? = some (y.cls, T, N)) (hlk : Cond.methodLink own idx y ∈ gl) (him : Cond.instanceMethod y ∈ gl) (hse : Cond.selects y.cls y y ∈ gl) (hini : Cond.initialized y.cls ∈ gl) (hco : Cond.code y cc2 nL2 none ∈ gl)
    (hy : y.cls ≠ "java/lang/invoke/MethodHandle" ∧ y.cls ≠ "java/lang/invoke/VarHandle" ∧ (parseMethodDescriptor y.desc).map (fun d => d.parameters.length) = some 0) (hR : rF2 + 1 ≤ rF ∧ 8 + (nL2 + 11) + rL2 ≤ rL) (htF : tab = tabF) (hc1 : cells = rC) (hs1 : slots = rS)
    (con : Con tab y cc2 nL2 none rF2 rL2 [.ref q] zsg (PoV sgF)) : PN own cc nL rF rC rS rL tabF sgF n0 pc lv [.ref q] tab cells slots := by
  intro p l e s m args below meth c dC dI ad0 ad cA A H locs ls hX hA h0 hK hP hD hS h
  subst htF; subst hc1; subst hs1
  have hts := hX.1.2.2.2.2.2.2
  have hlocks : meth.locks = false := hX.1.2.2.2.2.2.1
  have cb := callB_of (R := rmN rF cells slots rL) (rm := rmOf rF2 rL2) (mc := 0) (ms := 0) (index := idx) 0 hts (con_words hco) rfl rfl rfl (hts _ hini) (hts _ hlk) hy hR
  have run := va_runV (As := []) (rest := []) (b := ad q) (C := y.cls) (g := F0 m pc ls [.ref (ad q)]) (H := H) (locs := locs) (cells := cells) (slots := slots) (below := below) (meth := meth) (e := e) ⟨hX.1.1, hX.1.2.1, hX.1.2.2.1, hX.1.2.2.2.2.1, hts⟩ (con l dC dI ad cA H.size) ⟨cb, hts _ him, hts _ hse⟩ ⟨con_blind, va_recv hK hP hcl (wld_get ht), fun U hU hW => ⟨rfl, by rw [hU], by rw [hU]; exact hP, va_K.moved hW.alike hK, hD.weaken (fun _ _ _ _ => trivial)⟩⟩ rfl rfl h.1 rfl (lv_room (Nat.zero_le 8)) hd ⟨Nat.le_refl _, Nat.le_refl _⟩
  have hF : ∀ q, va_A (wld tab ad cA zsg) H.size q → A q := by
    intro q h
    rcases h with ⟨k, e, h⟩ | h
    · exact hD.2 k (q, e) h
    · exact hA q (Nat.le_trans hS.1 h)
  intro T0 hT X
  obtain ⟨v, st₀, t, T', L, hh0, X', hL, e1, e2, ⟨⟨v2, sg2, hv, ⟨hp1, hp2⟩, hP1, hK1, hD1⟩, hzz, hk⟩, stp⟩ := run T0 hT X
  subst hp1; subst hp2
  cases hv
  rw [hh0] at hzz hk
  have hS2 : va_S A s.heap T'.heap (locs ++ L) := ⟨Nat.le_trans hS.1 (by rw [e1]; exact hzz), fun q h1 h2 => by rw [e1, hk q (Nat.lt_of_lt_of_le h1 hS.1) (fun z => h2 (hF q z))]; exact hS.2.1 q h1 h2, fun q hq => by
      rcases List.mem_append.mp hq with h | h
      · exact hS.2.2 q h
      · exact hF _ (hL q h)⟩
  obtain ⟨t2, a1, b1⟩ := W.vret (p := p) (l := l) (e := e) (R := rmN rF cells slots rL) (s := s) (m := m) (args := args) (below := below) (meth := meth) (c := c) (H := T'.heap) (locs := locs ++ L) (cells := cells) (slots := slots) (Qc := nQ tab sg2 n0 ad0 dC dI cA A) (free := A) (pc := pc + 3) (ls := ls) hX.1.1 hX.1.2.1 hX.1.2.2.2.1 (fun t' ht' hW => ⟨⟨ad, rfl, h0, by rw [ht', e1]; exact hP1, va_K.moved hW.alike hK, hD1.weaken (fun k q _ h => hF q.1 h)⟩, hS2.F ht'⟩) hS2.2.2 hd2 hlocks T' rfl X'
  exact ⟨t2, stp t2 a1, b1⟩
end PNR
