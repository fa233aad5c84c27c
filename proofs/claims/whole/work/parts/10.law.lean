/-! THE CLAIM OUT OF ONE WALK OF THE LAW'S BODY. Your part is whole_start (and what it stands on); all else here is the same for every law, but numbers. -/
def R_law : String := "HillWaysLaw"
def lw_P (b : Addr) (xs : List Int32) (args : Array Value) (s : State) : Prop := args = #[.ref b] ∧ s.IntsAt b xs ∧ xs.length ≤ 2048 ∧ (Jvm.Cond.and given_1 narrow_1).before args s = true
def lw_Q (_ : Array Value) (s : State) (o : Outcome) (t : State) : Prop := o = .returned (some (.int 1)) ∧ Framed s o t [] 42 1237
def lw_Z (below : List Frame) (a : Array Value) (s : State) : State → Prop := fun t => ∃ o, t.status = .running ∧ Ended t below o ∧ lw_Q a s o t
/-- the law's own end, with 1 on the stack, nothing written that was there before, its room as the claim has it -/
theorem lw_ret {p : Program} {l : Launch} {e : Env} {s : State} {m : MethodId} {below : List Frame} {meth : Method} {c : Code} {b : Nat} (hx : p.tables.exec = Jvm.exec) (hb : c.code = code) (hr : meth.sig.returnType = ret) (hlocks : meth.locks = false) {pc : Nat} {H : Heap} {ls : Array Slot} (hdg : decode code pc = .ok (.ireturn, 1)) : W p l e room_1 s m #[Value.ref b] below meth c H [] 42 1237 (lw_Z below #[Value.ref b] s) (F0 m pc ls [.int 1]) := by
  intro T hT X
  obtain ⟨fs, hret, hrun, hended, hW, hframe⟩ := X.leave (v := some (.int 1)) (hlocks := hlocks) (fun h => by rw [hr] at h; cases h)
  have hmeth' : T.vm.method? m = some meth := X.method'
  refine ⟨T.setFrames fs, ?_, .returned (some (.int 1)), hrun, hended, rfl, ⟨_, rfl⟩, hW, hframe⟩
  jvm_step X.here [X.here.top, hx, hb, hdg, hmeth', hr, ret, narrow_b1]
  (try refine ⟨rfl, ?_⟩); (try refine ⟨rfl, ?_⟩)
  first | (intro acts; rw [hret _ acts rfl rfl rfl]) | rw [hret _ _ rfl rfl rfl]
  exact Steps.refl _
/-- what holds at the law's entry: the machine, the code, the tables' words (any of lw_tbl by 'hts w (by decide +kernel)'), the script of L ints xs at the cell b, what the Statement gives of the start (any of its parts by flat_of_before) -/
def lw_At (p : Program) (s : State) (m : MethodId) (meth : Method) (c : Code) (b L : Nat) (xs : Nat → Int32) : Prop :=
  p.tables.exec = Jvm.exec ∧ c.code = code ∧ meth.sig.returnType = ret ∧ c.maxLocals = 4 ∧ s.vm.findClass R_law = some m.cls ∧ (∀ w ∈ lw_tbl, w.before #[Value.ref b] s = true) ∧ va_X b L xs s s.heap ∧ b < s.heap.size ∧ meth.locks = false ∧ (Jvm.Cond.and given_1 narrow_1).before #[Value.ref b] s = true

theorem lawn {x n : Int32} : True := trivial
def rad (b a1 a2 : Nat) : Nat → Nat := fun k => match k with
  | 0 => b
  | 1 => a1
  | _ => a2
def apt (w1 w2 : va_W) : Prop := ∀ (i j : Nat) (p q : Nat × va_E), w1[i]? = some p → w2[j]? = some q → p.1 ≠ q.1
theorem apt.symm {w1 w2 : va_W} (h : apt w1 w2) : apt w2 w1 := fun i j p q hp hq e => h j i q p hq hp e.symm
theorem apt_keep {D : va_G} {w1 w2 : va_W} {H H1 : Heap} (h : apt w1 w2) (hP : va_P D vwCl w2 H) (hk : ∀ q : Nat, q < H.size → ¬ va_A w1 H.size q → H1[q]? = H[q]?) : va_P D vwCl w2 H1 := by
  refine hP.kept (fun k q hq => hk q.1 (hP k q hq).lt ?_)
  rintro (⟨k2, e, h2⟩ | h2)
  · exact h k2 k (q.1, e) q h2 hq rfl
  · exact absurd (hP k q hq).lt (Nat.not_lt.mpr h2)
theorem apt_next {D : va_G} {w1 w1' w2 : va_W} {H : Heap} (h : apt w1 w2) (hP : va_P D vwCl w2 H) (hD : va_D (va_A w1 H.size) w1') : apt w1' w2 := by
  intro i j p q hp hq e
  rcases hD.2 i p hp with ⟨k2, e2, h2⟩ | h2
  · exact h k2 j (p.1, e2) q h2 hq e
  · have := (hP j q hq).lt
    rw [e] at h2
    exact absurd this (Nat.not_lt.mpr h2)
def PL (L : Nat) (xs : Nat → Int32) (c m : Sg) (pc : Nat) (lv : List (Nat × Value)) (st : List Value) : Prop :=
  ∀ (p : Program) (l : Launch) (e : Env) (s : State) (mm : MethodId) (below : List Frame) (meth : Method) (cd : Code) (b : Nat) (dC : Nat → ClassId) (dI : Nat → Nat → Nat) (ad1 ad2 : Nat → Nat) (cA : ClassId) (H : Heap) (locs : List Loc) (ls : Array Slot),
    lw_At p s mm meth cd b L xs → va_K (dC, dI) vwCl [(cA, .int)] s → va_P (dC, dI) vwCl (wld tbC ad1 cA c) H → va_P (dC, dI) vwCl (wld tbM ad2 cA m) H → va_D (fun q => s.heap.size ≤ q) (wld tbC ad1 cA c) → va_D (fun q => s.heap.size ≤ q) (wld tbM ad2 cA m) → apt (wld tbC ad1 cA c) (wld tbM ad2 cA m) → va_S (fun q => s.heap.size ≤ q) s.heap H locs → lv_has ls 4 (lv.map (cvl (rad b (ad1 0) (ad2 0)))) →
    W p l e room_1 s mm #[Value.ref b] below meth cd H locs 42 1237 (lw_Z below #[Value.ref b] s) (F0 mm pc ls (st.map (cv (rad b (ad1 0) (ad2 0)))))
section PLR
variable {L : Nat} {xs : Nat → Int32} {c m : Sg} {pc : Nat} {lv : List (Nat × Value)} {st : List Value}
theorem pl_iconst {n : Int} (v : Int32) (hd : decode code pc = .ok (.iconst n, 1)) (hv : Int32.ofInt n = v) (k : PL L xs c m (pc + 1) lv (.int v :: st)) : PL L xs c m pc lv st := by
  intro p l e s mm below meth cd b dC dI ad1 ad2 cA H locs ls C0 hK hP1 hP2 hD1 hD2 hap hS h
  obtain ⟨hx, hb, hr, hml, hown, hts, hX, hbl, hlocks, hgv⟩ := id C0
  exact lv_iconst hx hb hd hv (k p l e s mm below meth cd b dC dI ad1 ad2 cA H locs ls C0 hK hP1 hP2 hD1 hD2 hap hS h)
theorem pl_bipush {n : Int} (v : Int32) (hd : decode code pc = .ok (.bipush n, 2)) (hv : (Int8.ofInt n).toInt32 = v) (k : PL L xs c m (pc + 2) lv (.int v :: st)) : PL L xs c m pc lv st := by
  intro p l e s mm below meth cd b dC dI ad1 ad2 cA H locs ls C0 hK hP1 hP2 hD1 hD2 hap hS h
  obtain ⟨hx, hb, hr, hml, hown, hts, hX, hbl, hlocks, hgv⟩ := id C0
  exact lv_bipush hx hb hd hv (k p l e s mm below meth cd b dC dI ad1 ad2 cA H locs ls C0 hK hP1 hP2 hD1 hD2 hap hS h)
theorem pl_iload_n {k : Fin 4} {i : Nat} {x : Int32} (j : Nat) (hd : decode code pc = .ok (.iload_n k, 1)) (hi : (k : Nat) = i) (hj : lv[j]? = some (i, .int x)) (kk : PL L xs c m (pc + 1) lv (.int x :: st)) : PL L xs c m pc lv st := by
  intro p l e s mm below meth cd b dC dI ad1 ad2 cA H locs ls C0 hK hP1 hP2 hD1 hD2 hap hS h
  obtain ⟨hx, hb, hr, hml, hown, hts, hX, hbl, hlocks, hgv⟩ := id C0
  exact lv_iload_n hx hb hd hi (lv_get h hj) (kk p l e s mm below meth cd b dC dI ad1 ad2 cA H locs ls C0 hK hP1 hP2 hD1 hD2 hap hS h)
theorem pl_aload_n {k : Fin 4} {i : Nat} {x : Nat} (j : Nat) (hd : decode code pc = .ok (.aload_n k, 1)) (hi : (k : Nat) = i) (hj : lv[j]? = some (i, .ref x)) (kk : PL L xs c m (pc + 1) lv (.ref x :: st)) : PL L xs c m pc lv st := by
  intro p l e s mm below meth cd b dC dI ad1 ad2 cA H locs ls C0 hK hP1 hP2 hD1 hD2 hap hS h
  obtain ⟨hx, hb, hr, hml, hown, hts, hX, hbl, hlocks, hgv⟩ := id C0
  exact lv_aload_n hx hb hd hi (lv_get h hj) (kk p l e s mm below meth cd b dC dI ad1 ad2 cA H locs ls C0 hK hP1 hP2 hD1 hD2 hap hS h)
theorem pl_iadd {x y : Int32} (hd : decode code pc = .ok (.iadd, 1)) (k : PL L xs c m (pc + 1) lv (.int (x + y) :: st)) : PL L xs c m pc lv (.int y :: .int x :: st) := by
  intro p l e s mm below meth cd b dC dI ad1 ad2 cA H locs ls C0 hK hP1 hP2 hD1 hD2 hap hS h
  obtain ⟨hx, hb, hr, hml, hown, hts, hX, hbl, hlocks, hgv⟩ := id C0
  exact lv_iadd hx hb hd (k p l e s mm below meth cd b dC dI ad1 ad2 cA H locs ls C0 hK hP1 hP2 hD1 hD2 hap hS h)
theorem pl_isub {x y : Int32} (hd : decode code pc = .ok (.isub, 1)) (k : PL L xs c m (pc + 1) lv (.int (x - y) :: st)) : PL L xs c m pc lv (.int y :: .int x :: st) := by
  intro p l e s mm below meth cd b dC dI ad1 ad2 cA H locs ls C0 hK hP1 hP2 hD1 hD2 hap hS h
  obtain ⟨hx, hb, hr, hml, hown, hts, hX, hbl, hlocks, hgv⟩ := id C0
  exact lv_isub hx hb hd (k p l e s mm below meth cd b dC dI ad1 ad2 cA H locs ls C0 hK hP1 hP2 hD1 hD2 hap hS h)
theorem pl_iand {x y : Int32} (hd : decode code pc = .ok (.iand, 1)) (k : PL L xs c m (pc + 1) lv (.int (x &&& y) :: st)) : PL L xs c m pc lv (.int y :: .int x :: st) := by
  intro p l e s mm below meth cd b dC dI ad1 ad2 cA H locs ls C0 hK hP1 hP2 hD1 hD2 hap hS h
  obtain ⟨hx, hb, hr, hml, hown, hts, hX, hbl, hlocks, hgv⟩ := id C0
  exact lv_iand hx hb hd (k p l e s mm below meth cd b dC dI ad1 ad2 cA H locs ls C0 hK hP1 hP2 hD1 hD2 hap hS h)
theorem pl_lcmp {x y : Int64} (hd : decode code pc = .ok (.lcmp, 1)) (k : PL L xs c m (pc + 1) lv (.int (lg_cmp x y) :: st)) : PL L xs c m pc lv (.long y :: .long x :: st) := by
  intro p l e s mm below meth cd b dC dI ad1 ad2 cA H locs ls C0 hK hP1 hP2 hD1 hD2 hap hS h
  obtain ⟨hx, hb, hr, hml, hown, hts, hX, hbl, hlocks, hgv⟩ := id C0
  exact W.lcmp hx hb hd (k p l e s mm below meth cd b dC dI ad1 ad2 cA H locs ls C0 hK hP1 hP2 hD1 hD2 hap hS h)
theorem pl_sld {i : Int32} (hd : decode code pc = .ok (.iaload, 1)) (hi : vp_in i L) (k : PL L xs c m (pc + 1) lv (.int (xs i.toNatClampNeg) :: st)) : PL L xs c m pc lv (.int i :: .ref 0 :: st) := by
  intro p l e s mm below meth cd b dC dI ad1 ad2 cA H locs ls C0 hK hP1 hP2 hD1 hD2 hap hS h
  obtain ⟨hx, hb, hr, hml, hown, hts, hX, hbl, hlocks, hgv⟩ := id C0
  exact va_sld (A := fun q => s.heap.size ≤ q) hx hb hX hbl (Nat.not_le.mpr hbl) hS hi hd (k p l e s mm below meth cd b dC dI ad1 ad2 cA H locs ls C0 hK hP1 hP2 hD1 hD2 hap hS h)
theorem pl_slen (hd : decode code pc = .ok (.arraylength, 1)) (k : PL L xs c m (pc + 1) lv (.int (Int32.ofNat L) :: st)) : PL L xs c m pc lv (.ref 0 :: st) := by
  intro p l e s mm below meth cd b dC dI ad1 ad2 cA H locs ls C0 hK hP1 hP2 hD1 hD2 hap hS h
  obtain ⟨hx, hb, hr, hml, hown, hts, hX, hbl, hlocks, hgv⟩ := id C0
  exact va_slen (A := fun q => s.heap.size ≤ q) hx hb hX hbl (Nat.not_le.mpr hbl) hS hd (k p l e s mm below meth cd b dC dI ad1 ad2 cA H locs ls C0 hK hP1 hP2 hD1 hD2 hap hS h)
theorem pl_icmp_eq {x y : Int32} {off : Int} (tgt : Nat) (hd : decode code pc = .ok (.if_icmp .eq off, 3)) (ht : (pc : Int) + off = (tgt : Int)) (kt : x = y → PL L xs c m tgt lv st) (kf : ¬ x = y → PL L xs c m (pc + 3) lv st) : PL L xs c m pc lv (.int y :: .int x :: st) := by
  intro p l e s mm below meth cd b dC dI ad1 ad2 cA H locs ls C0 hK hP1 hP2 hD1 hD2 hap hS h
  obtain ⟨hx, hb, hr, hml, hown, hts, hX, hbl, hlocks, hgv⟩ := id C0
  exact lv_icmp_eq hx hb hd ht (fun q => kt q p l e s mm below meth cd b dC dI ad1 ad2 cA H locs ls C0 hK hP1 hP2 hD1 hD2 hap hS h) (fun q => kf q p l e s mm below meth cd b dC dI ad1 ad2 cA H locs ls C0 hK hP1 hP2 hD1 hD2 hap hS h)
theorem pl_icmp_gt {x y : Int32} {off : Int} (tgt : Nat) (hd : decode code pc = .ok (.if_icmp .gt off, 3)) (ht : (pc : Int) + off = (tgt : Int)) (kt : y < x → PL L xs c m tgt lv st) (kf : ¬ y < x → PL L xs c m (pc + 3) lv st) : PL L xs c m pc lv (.int y :: .int x :: st) := by
  intro p l e s mm below meth cd b dC dI ad1 ad2 cA H locs ls C0 hK hP1 hP2 hD1 hD2 hap hS h
  obtain ⟨hx, hb, hr, hml, hown, hts, hX, hbl, hlocks, hgv⟩ := id C0
  exact lv_icmp_gt hx hb hd ht (fun q => kt q p l e s mm below meth cd b dC dI ad1 ad2 cA H locs ls C0 hK hP1 hP2 hD1 hD2 hap hS h) (fun q => kf q p l e s mm below meth cd b dC dI ad1 ad2 cA H locs ls C0 hK hP1 hP2 hD1 hD2 hap hS h)
theorem pl_if_eq {x : Int32} {off : Int} (tgt : Nat) (hd : decode code pc = .ok (.ifCond .eq off, 3)) (ht : (pc : Int) + off = (tgt : Int)) (kt : x = 0 → PL L xs c m tgt lv st) (kf : ¬ x = 0 → PL L xs c m (pc + 3) lv st) : PL L xs c m pc lv (.int x :: st) := by
  intro p l e s mm below meth cd b dC dI ad1 ad2 cA H locs ls C0 hK hP1 hP2 hD1 hD2 hap hS h
  obtain ⟨hx, hb, hr, hml, hown, hts, hX, hbl, hlocks, hgv⟩ := id C0
  exact lv_if_eq hx hb hd ht (fun q => kt q p l e s mm below meth cd b dC dI ad1 ad2 cA H locs ls C0 hK hP1 hP2 hD1 hD2 hap hS h) (fun q => kf q p l e s mm below meth cd b dC dI ad1 ad2 cA H locs ls C0 hK hP1 hP2 hD1 hD2 hap hS h)
theorem pl_goto {off : Int} (tgt : Nat) (hd : decode code pc = .ok (.goto off, 3)) (ht : (pc : Int) + off = (tgt : Int)) (k : PL L xs c m tgt lv st) : PL L xs c m pc lv st := by
  intro p l e s mm below meth cd b dC dI ad1 ad2 cA H locs ls C0 hK hP1 hP2 hD1 hD2 hap hS h
  obtain ⟨hx, hb, hr, hml, hown, hts, hX, hbl, hlocks, hgv⟩ := id C0
  exact lv_goto hx hb hd ht (k p l e s mm below meth cd b dC dI ad1 ad2 cA H locs ls C0 hK hP1 hP2 hD1 hD2 hap hS h)
theorem pl_tableIn {dflt lo hi : Int} {offs : Array Int} {len : Nat} {x : Int32} {off : Int} (tgt : Nat) (hd : decode code pc = .ok (.tableswitch dflt lo hi offs, len)) (h1 : ¬ x.toInt < lo) (h2 : ¬ hi < x.toInt) (ho : offs[(x.toInt - lo).toNat]? = some off) (ht : (pc : Int) + off = (tgt : Int)) (k : PL L xs c m tgt lv st) : PL L xs c m pc lv (.int x :: st) := by
  intro p l e s mm below meth cd b dC dI ad1 ad2 cA H locs ls C0 hK hP1 hP2 hD1 hD2 hap hS h
  obtain ⟨hx, hb, hr, hml, hown, hts, hX, hbl, hlocks, hgv⟩ := id C0
  exact lv_tableIn hx hb hd h1 h2 ho ht (k p l e s mm below meth cd b dC dI ad1 ad2 cA H locs ls C0 hK hP1 hP2 hD1 hD2 hap hS h)
theorem pl_tableOut {dflt lo hi : Int} {offs : Array Int} {len : Nat} {x : Int32} (tgt : Nat) (hd : decode code pc = .ok (.tableswitch dflt lo hi offs, len)) (hn : x.toInt < lo ∨ hi < x.toInt) (ht : (pc : Int) + dflt = (tgt : Int)) (k : PL L xs c m tgt lv st) : PL L xs c m pc lv (.int x :: st) := by
  intro p l e s mm below meth cd b dC dI ad1 ad2 cA H locs ls C0 hK hP1 hP2 hD1 hD2 hap hS h
  obtain ⟨hx, hb, hr, hml, hown, hts, hX, hbl, hlocks, hgv⟩ := id C0
  exact lv_tableOut hx hb hd hn ht (k p l e s mm below meth cd b dC dI ad1 ad2 cA H locs ls C0 hK hP1 hP2 hD1 hD2 hap hS h)
theorem pl_iinc {i : Nat} {n : Int} {x : Int32} (j : Nat) (v : Int32) (lv2 : List (Nat × Value)) (hd : decode code pc = .ok (.iinc i n, 3)) (hj : lv[j]? = some (i, .int x)) (hv : x + Int32.ofInt n = v) (hn : i < 4) (hl : (i, Value.int v) :: lv.filter (fun q => !(q.1 == i) && !(q.1 + 1 == i && q.2.category == 2)) = lv2) (kk : PL L xs c m (pc + 3) lv2 st) : PL L xs c m pc lv st := by
  intro p l e s mm below meth cd b dC dI ad1 ad2 cA H locs ls C0 hK hP1 hP2 hD1 hD2 hap hS h
  obtain ⟨hx, hb, hr, hml, hown, hts, hX, hbl, hlocks, hgv⟩ := id C0
  refine lv_iinc (v := v) (k := j) (x := x) (lv' := lv2.map (cvl (rad b (ad1 0) (ad2 0)))) hx hb hd h (by rw [List.getElem?_map, hj]; rfl) hv hn ?_ (fun ls h => kk p l e s mm below meth cd b dC dI ad1 ad2 cA H locs ls C0 hK hP1 hP2 hD1 hD2 hap hS h)
  rw [← hl, cvl_filter _ _ _ (fun q => by simp [cvl, cv_cat])]
  rfl
theorem PL.sub {lv2 : List (Nat × Value)} (ks : List Nat) (hl : lv_pick lv ks = lv2) (k : PL L xs c m pc lv2 st) : PL L xs c m pc lv st := by
  intro p l e s mm below meth cd b dC dI ad1 ad2 cA H locs ls C0 hK hP1 hP2 hD1 hD2 hap hS h
  refine k p l e s mm below meth cd b dC dI ad1 ad2 cA H locs ls C0 hK hP1 hP2 hD1 hD2 hap hS (lv_sub h ks ?_)
  rw [← hl]
  unfold lv_pick
  rw [List.map_filterMap]
  congr 1
  funext i
  rw [List.getElem?_map]
theorem pl_ret (hd : decode code pc = .ok (.ireturn, 1)) : PL L xs c m pc lv [.int 1] := by
  intro p l e s mm below meth cd b dC dI ad1 ad2 cA H locs ls C0 hK hP1 hP2 hD1 hD2 hap hS h
  obtain ⟨hx, hb, hr, hml, hown, hts, hX, hbl, hlocks, hgv⟩ := id C0
  exact va_forget hS.2.2 (lw_ret hx hb hr hlocks hd)
theorem pl_callC {N idx : Nat} {y : MethodName} {cc2 : ByteArray} {nL2 : Nat} {rt2 : Option FieldType} {rF2 rL2 : Nat} {T : u_T} {c2 : Sg} {val : Value} (vs : List Value) (hvs : ∀ ad, vs.map (cv ad) = vs) (hval : ∀ ad, cv ad val = val) (hd : decode code pc = .ok (.invokevirtual idx, 3)) (hcl : vwCl[6]? = some (y.cls, T, N)) (hlk : Cond.methodLink R_law idx y ∈ gl) (him : Cond.instanceMethod y ∈ gl) (hse : Cond.selects y.cls y y ∈ gl) (hini : Cond.initialized y.cls ∈ gl) (hco : Cond.code y cc2 nL2 rt2 ∈ gl)
    (hy : y.cls ≠ "java/lang/invoke/MethodHandle" ∧ y.cls ≠ "java/lang/invoke/VarHandle" ∧ (parseMethodDescriptor y.desc).map (fun d => d.parameters.length) = some vs.length) (hR : rF2 + 1 ≤ 9 ∧ 8 + (nL2 + 11) + rL2 ≤ 322) (hw : (st.map fun v => v.category).sum ≤ 8)
    (con : Con tbC y cc2 nL2 rt2 rF2 rL2 (.ref 0 :: vs) c (fun v h => v = some val ∧ h = c2)) (kk : PL L xs c2 m (pc + 3) lv (val :: st)) : PL L xs c m pc lv (vs.reverse ++ .ref 1 :: st) := by
  intro p l e s mm below meth cd b dC dI ad1 ad2 cA H locs ls C0 hK hP1 hP2 hD1 hD2 hap hS h
  obtain ⟨hx, hb, hr, hml, hown, hts, hX, hbl, hlocks, hgv⟩ := id C0
  have htg : ∀ w ∈ gl, w.before #[Value.ref b] s = true := fun w h => hts w (gl_in h)
  have cb := callB_of (R := room_1) (rm := rmOf rF2 rL2) (mc := 0) (ms := 0) (index := idx) vs.length htg (con_words hco) rfl rfl rfl (htg _ hini) (htg _ hlk) hy hR
  have htab : tbC[0]? = some _ := tC0
  have run := va_runV (As := vs) (rest := st.map (cv (rad b (ad1 0) (ad2 0)))) (b := ad1 0) (C := y.cls) (g := F0 mm pc ls ((vs.reverse ++ .ref 1 :: st).map (cv (rad b (ad1 0) (ad2 0))))) (H := H) (locs := locs) (cells := 42) (slots := 1237) (below := below) (meth := meth) (e := e) ⟨hx, hb, hml, hown, htg⟩ (con l dC dI ad1 cA H.size) ⟨cb, htg _ him, htg _ hse⟩ ⟨con_blind, va_recv hK hP1 hcl (wld_get htab), fun U hU hW => ⟨by rw [List.map_cons, hvs]; rfl, by rw [hU], by rw [hU]; exact hP1, va_K.moved hW.alike hK, (hD1).weaken (fun _ _ _ _ => trivial)⟩⟩ rfl rfl h.1 (by rw [List.map_append, List.map_reverse, hvs]; rfl) (lv_room (by rw [cv_sum]; exact hw)) hd ⟨Nat.le_refl _, Nat.le_refl _⟩
  have hF : ∀ q, va_A (wld tbC ad1 cA c) H.size q → s.heap.size ≤ q := by
    intro q h
    rcases h with ⟨k, e, h⟩ | h
    · exact (hD1).2 k (q, e) h
    · exact Nat.le_trans hS.1 h
  intro T0 hT X
  obtain ⟨v, st₀, t, T', Lx, hh0, X', hLx, e1, e2, ⟨⟨v2, sg2, hv, ⟨hp1, hp2⟩, hPn, hKn, hDn⟩, hzz, hk⟩, stp⟩ := run T0 hT X
  subst hp1; subst hp2
  cases hv
  rw [hh0] at hzz hk
  have hPo : va_P (dC, dI) vwCl _ t.heap := apt_keep hap hP2 hk
  have hapn := apt_next hap hP2 hDn
  have key := kk p l e s mm below meth cd b dC dI ad1 ad2 cA t.heap (locs ++ Lx) ls C0 hK hPn hPo (hDn.weaken (fun k q _ h => hF q.1 h)) hD2 hapn ⟨Nat.le_trans hS.1 hzz, fun q h1 h2 => by rw [hk q (Nat.lt_of_lt_of_le h1 hS.1) (fun z => h2 (hF q z))]; exact hS.2.1 q h1 h2, fun q hq => by
      rcases List.mem_append.mp hq with h | h
      · exact hS.2.2 q h
      · exact hF _ (hLx q h)⟩ h
  obtain ⟨t2, a1, b1⟩ := key T' e1 X'
  refine ⟨t2, stp t2 ?_, b1⟩
  rw [show (Option.map (cv ad1) (some val)).toList = [val] by simp [hval]]
  rw [List.map_cons, hval] at a1
  exact a1
theorem pl_callM {N idx : Nat} {y : MethodName} {cc2 : ByteArray} {nL2 : Nat} {rt2 : Option FieldType} {rF2 rL2 : Nat} {T : u_T} {m2 : Sg} {val : Value} (vs : List Value) (hvs : ∀ ad, vs.map (cv ad) = vs) (hval : ∀ ad, cv ad val = val) (hd : decode code pc = .ok (.invokevirtual idx, 3)) (hcl : vwCl[7]? = some (y.cls, T, N)) (hlk : Cond.methodLink R_law idx y ∈ gl) (him : Cond.instanceMethod y ∈ gl) (hse : Cond.selects y.cls y y ∈ gl) (hini : Cond.initialized y.cls ∈ gl) (hco : Cond.code y cc2 nL2 rt2 ∈ gl)
    (hy : y.cls ≠ "java/lang/invoke/MethodHandle" ∧ y.cls ≠ "java/lang/invoke/VarHandle" ∧ (parseMethodDescriptor y.desc).map (fun d => d.parameters.length) = some vs.length) (hR : rF2 + 1 ≤ 9 ∧ 8 + (nL2 + 11) + rL2 ≤ 322) (hw : (st.map fun v => v.category).sum ≤ 8)
    (con : Con tbM y cc2 nL2 rt2 rF2 rL2 (.ref 0 :: vs) m (fun v h => v = some val ∧ h = m2)) (kk : PL L xs c m2 (pc + 3) lv (val :: st)) : PL L xs c m pc lv (vs.reverse ++ .ref 2 :: st) := by
  intro p l e s mm below meth cd b dC dI ad1 ad2 cA H locs ls C0 hK hP1 hP2 hD1 hD2 hap hS h
  obtain ⟨hx, hb, hr, hml, hown, hts, hX, hbl, hlocks, hgv⟩ := id C0
  have htg : ∀ w ∈ gl, w.before #[Value.ref b] s = true := fun w h => hts w (gl_in h)
  have cb := callB_of (R := room_1) (rm := rmOf rF2 rL2) (mc := 0) (ms := 0) (index := idx) vs.length htg (con_words hco) rfl rfl rfl (htg _ hini) (htg _ hlk) hy hR
  have htab : tbM[0]? = some _ := tM0
  have run := va_runV (As := vs) (rest := st.map (cv (rad b (ad1 0) (ad2 0)))) (b := ad2 0) (C := y.cls) (g := F0 mm pc ls ((vs.reverse ++ .ref 2 :: st).map (cv (rad b (ad1 0) (ad2 0))))) (H := H) (locs := locs) (cells := 42) (slots := 1237) (below := below) (meth := meth) (e := e) ⟨hx, hb, hml, hown, htg⟩ (con l dC dI ad2 cA H.size) ⟨cb, htg _ him, htg _ hse⟩ ⟨con_blind, va_recv hK hP2 hcl (wld_get htab), fun U hU hW => ⟨by rw [List.map_cons, hvs]; rfl, by rw [hU], by rw [hU]; exact hP2, va_K.moved hW.alike hK, (hD2).weaken (fun _ _ _ _ => trivial)⟩⟩ rfl rfl h.1 (by rw [List.map_append, List.map_reverse, hvs]; rfl) (lv_room (by rw [cv_sum]; exact hw)) hd ⟨Nat.le_refl _, Nat.le_refl _⟩
  have hF : ∀ q, va_A (wld tbM ad2 cA m) H.size q → s.heap.size ≤ q := by
    intro q h
    rcases h with ⟨k, e, h⟩ | h
    · exact (hD2).2 k (q, e) h
    · exact Nat.le_trans hS.1 h
  intro T0 hT X
  obtain ⟨v, st₀, t, T', Lx, hh0, X', hLx, e1, e2, ⟨⟨v2, sg2, hv, ⟨hp1, hp2⟩, hPn, hKn, hDn⟩, hzz, hk⟩, stp⟩ := run T0 hT X
  subst hp1; subst hp2
  cases hv
  rw [hh0] at hzz hk
  have hPo : va_P (dC, dI) vwCl _ t.heap := apt_keep hap.symm hP1 hk
  have hapn := apt_next hap.symm hP1 hDn
  have key := kk p l e s mm below meth cd b dC dI ad1 ad2 cA t.heap (locs ++ Lx) ls C0 hK hPo hPn hD1 (hDn.weaken (fun k q _ h => hF q.1 h)) hapn.symm ⟨Nat.le_trans hS.1 hzz, fun q h1 h2 => by rw [hk q (Nat.lt_of_lt_of_le h1 hS.1) (fun z => h2 (hF q z))]; exact hS.2.1 q h1 h2, fun q hq => by
      rcases List.mem_append.mp hq with h | h
      · exact hS.2.2 q h
      · exact hF _ (hLx q h)⟩ h
  obtain ⟨t2, a1, b1⟩ := key T' e1 X'
  refine ⟨t2, stp t2 ?_, b1⟩
  rw [show (Option.map (cv ad2) (some val)).toList = [val] by simp [hval]]
  rw [List.map_cons, hval] at a1
  exact a1
end PLR
/-- what is owed of the pure functions: a relation that every call keeps, with like answers -/
def Sim (Rel : Sg → Sg → Prop) : Prop :=
  (∀ (a1 : Int32) c m, Rel c m → ∃ (r : Int32) (c2 : Sg) (m2 : Sg), fX7_letter a1 c = some (r, c2) ∧ fX8_letter a1 m = some (r, m2) ∧ Rel c2 m2) ∧
  (∀ c m, Rel c m → ∃ (r : Int32) (c2 : Sg) (m2 : Sg), fX7_blank  c = some (r, c2) ∧ fX8_blank  m = some (r, m2) ∧ Rel c2 m2) ∧
  (∀ c m, Rel c m → ∃ (r : Int32), fX7_fault  c = some r ∧ fX8_fault  m = some r ∧ Rel c m) ∧
  (∀ c m, Rel c m → ∃ (r : Int32) (c2 : Sg) (m2 : Sg), fX7_way  c = some (r, c2) ∧ fX8_way  m = some (r, m2) ∧ Rel c2 m2) ∧
  (∀ c m, Rel c m → ∃ (r : Int32) (m2 : Sg), fX7_valley  c = some r ∧ fX8_valley  m = some (r, m2) ∧ Rel c m2) ∧
  (∀ (a1 : Int32) c m, Rel c m → ∃ (r : Int32) (c2 : Sg) (m2 : Sg), fX7_drop a1 c = some (r, c2) ∧ fX8_drop a1 m = some (r, m2) ∧ Rel c2 m2) ∧
  (∀ (a1 : Int32) (a2 : Int32) c m, (a2 = 0 ∨ a2 = 1) → Rel c m → ∃ (r : Int32) (c2 : Sg) (m2 : Sg), fX7_exchange a1 a2 c = some (r, c2) ∧ fX8_exchange a1 a2 m = some (r, m2) ∧ Rel c2 m2) ∧
  (∀ (a1 : Int32) (a2 : Int32) (a3 : Int32) c m, Rel c m → ∃ (r : Int32) (c2 : Sg) (m2 : Sg), fX7_tell a1 a2 a3 c = some (r, c2) ∧ fX8_tell a1 a2 a3 m = some (r, m2) ∧ Rel c2 m2) ∧
  (∀ (a1 : Int32) (a2 : Int32) c m, Rel c m → ∃ (r : Int32) (m2 : Sg), fX7_net a1 a2 c = some r ∧ fX8_net a1 a2 m = some (r, m2) ∧ Rel c m2) ∧
  (∀ (a1 : Int32) c m, Rel c m → ∃ (r : Int32) (m2 : Sg), fX7_rank a1 c = some r ∧ fX8_rank a1 m = some (r, m2) ∧ Rel c m2) ∧
  (∀ c m, Rel c m → ∃ (r : Int32) (m2 : Sg), fX7_top  c = some r ∧ fX8_top  m = some (r, m2) ∧ Rel c m2) ∧
  (∀ (a1 : Int32) (a2 : Int32) (a3 : Int32) c m, Rel c m → ∃ (r : Int32) (m2 : Sg), fX7_link a1 a2 a3 c = some r ∧ fX8_link a1 a2 a3 m = some (r, m2) ∧ Rel c m2) ∧
  (∀ (a1 : Int32) c m, Rel c m → ∃ (r : Int32) (m2 : Sg), fX7_contradicted a1 c = some r ∧ fX8_contradicted a1 m = some (r, m2) ∧ Rel c m2) ∧
  (∀ (a1 : Int32) (a2 : Int32) c m, Rel c m → ∃ (r : Int32) (m2 : Sg), fX7_seen a1 a2 c = some r ∧ fX8_seen a1 a2 m = some (r, m2) ∧ Rel c m2) ∧
  (∀ (a1 : Int32) (a2 : Int32) (a3 : Int32) c m, Rel c m → ∃ (r : Int32) (m2 : Sg), fX7_near a1 a2 a3 c = some r ∧ fX8_near a1 a2 a3 m = some (r, m2) ∧ Rel c m2) ∧
  (∀ (a1 : Int32) c m, Rel c m → ∃ (r : Int32) (m2 : Sg), fX7_count a1 c = some r ∧ fX8_count a1 m = some (r, m2) ∧ Rel c m2) ∧
  (∀ c m, Rel c m → ∃ (r : Int64) (m2 : Sg), fX7_digest  c = some r ∧ fX8_digest  m = some (r, m2) ∧ Rel c m2)
theorem mL_13 : Cond.methodLink R_law 13 yX7_letter ∈ gl := tb 280 (by decide +kernel) rfl
theorem mL_17 : Cond.methodLink R_law 17 yX8_letter ∈ gl := tb 546 (by decide +kernel) rfl
theorem mL_18 : Cond.methodLink R_law 18 yX7_blank ∈ gl := tb 288 (by decide +kernel) rfl
theorem mL_22 : Cond.methodLink R_law 22 yX8_blank ∈ gl := tb 553 (by decide +kernel) rfl
theorem mL_23 : Cond.methodLink R_law 23 yX7_fault ∈ gl := tb 292 (by decide +kernel) rfl
theorem mL_26 : Cond.methodLink R_law 26 yX8_fault ∈ gl := tb 557 (by decide +kernel) rfl
theorem mL_27 : Cond.methodLink R_law 27 yX7_way ∈ gl := tb 304 (by decide +kernel) rfl
theorem mL_30 : Cond.methodLink R_law 30 yX8_way ∈ gl := tb 569 (by decide +kernel) rfl
theorem mL_31 : Cond.methodLink R_law 31 yX7_valley ∈ gl := tb 317 (by decide +kernel) rfl
theorem mL_34 : Cond.methodLink R_law 34 yX8_valley ∈ gl := tb 700 (by decide +kernel) rfl
theorem mL_35 : Cond.methodLink R_law 35 yX7_drop ∈ gl := tb 326 (by decide +kernel) rfl
theorem mL_38 : Cond.methodLink R_law 38 yX8_drop ∈ gl := tb 577 (by decide +kernel) rfl
theorem mL_39 : Cond.methodLink R_law 39 yX7_exchange ∈ gl := tb 339 (by decide +kernel) rfl
theorem mL_43 : Cond.methodLink R_law 43 yX8_exchange ∈ gl := tb 581 (by decide +kernel) rfl
theorem mL_44 : Cond.methodLink R_law 44 yX7_tell ∈ gl := tb 347 (by decide +kernel) rfl
theorem mL_48 : Cond.methodLink R_law 48 yX8_tell ∈ gl := tb 588 (by decide +kernel) rfl
theorem mL_49 : Cond.methodLink R_law 49 yX7_net ∈ gl := tb 357 (by decide +kernel) rfl
theorem mL_53 : Cond.methodLink R_law 53 yX8_net ∈ gl := tb 598 (by decide +kernel) rfl
theorem mL_54 : Cond.methodLink R_law 54 yX7_rank ∈ gl := tb 365 (by decide +kernel) rfl
theorem mL_57 : Cond.methodLink R_law 57 yX8_rank ∈ gl := tb 664 (by decide +kernel) rfl
theorem mL_58 : Cond.methodLink R_law 58 yX7_top ∈ gl := tb 369 (by decide +kernel) rfl
theorem mL_61 : Cond.methodLink R_law 61 yX8_top ∈ gl := tb 672 (by decide +kernel) rfl
theorem mL_62 : Cond.methodLink R_law 62 yX7_link ∈ gl := tb 373 (by decide +kernel) rfl
theorem mL_65 : Cond.methodLink R_law 65 yX8_link ∈ gl := tb 680 (by decide +kernel) rfl
theorem mL_66 : Cond.methodLink R_law 66 yX7_contradicted ∈ gl := tb 377 (by decide +kernel) rfl
theorem mL_69 : Cond.methodLink R_law 69 yX8_contradicted ∈ gl := tb 688 (by decide +kernel) rfl
theorem mL_70 : Cond.methodLink R_law 70 yX7_seen ∈ gl := tb 392 (by decide +kernel) rfl
theorem mL_73 : Cond.methodLink R_law 73 yX8_seen ∈ gl := tb 708 (by decide +kernel) rfl
theorem mL_74 : Cond.methodLink R_law 74 yX7_near ∈ gl := tb 397 (by decide +kernel) rfl
theorem mL_77 : Cond.methodLink R_law 77 yX8_near ∈ gl := tb 720 (by decide +kernel) rfl
theorem mL_78 : Cond.methodLink R_law 78 yX7_count ∈ gl := tb 410 (by decide +kernel) rfl
theorem mL_81 : Cond.methodLink R_law 81 yX8_count ∈ gl := tb 735 (by decide +kernel) rfl
theorem mL_82 : Cond.methodLink R_law 82 yX7_digest ∈ gl := tb 434 (by decide +kernel) rfl
theorem mL_86 : Cond.methodLink R_law 86 yX8_digest ∈ gl := tb 751 (by decide +kernel) rfl
theorem lg_cmp_self (r : Int64) : lg_cmp r r = 0 := by
  unfold lg_cmp
  simp
theorem law_gt {L a : Nat} (h : L < a + 4) (ha : a < 4096) : Int32.ofNat L - 4 < nI a := by
  rw [Int32.lt_iff_toInt_lt, nI_toInt (by omega)]
  have h1 : (Int32.ofNat L - 4).toInt = (L : Int) - 4 := by
    rcases Nat.lt_or_ge L 4 with q | q
    · rcases (show L = 0 ∨ L = 1 ∨ L = 2 ∨ L = 3 by omega) with rfl | rfl | rfl | rfl <;> decide
    · obtain ⟨k, rfl⟩ : ∃ k, L = k + 4 := ⟨L - 4, by omega⟩
      have : Int32.ofNat (k + 4) - 4 = nI k := by
        show nI (k + 4) - 4 = nI k
        rw [← nI_add]
        show nI k + nI 4 - nI 4 = nI k
        rw [Int32.add_sub_cancel]
      rw [this, nI_toInt (by omega)]
      omega
  rw [h1]
  omega
set_option maxRecDepth 100000 in
set_option maxHeartbeats 4000000 in
theorem law_loop {Rel : Sg → Sg → Prop} (S : Sim Rel) {L : Nat} {xs : Nat → Int32} (hL : L ≤ 2048) : ∀ (n j : Nat) (x3 : Int32) (c m : Sg), 4 * j ≤ L + 3 → L + 4 < 4 * (j + n) → x3 = nI (4 * j) → Rel c m → PL L xs c m 18 [(0, .ref 0), (1, .ref 1), (2, .ref 2), (3, .int x3)] [] := by
  obtain ⟨S0, S1, S2, S3, S4, S5, S6, S7, S8, S9, S10, S11, S12, S13, S14, S15, S16⟩ := S
  intro n
  induction n with
  | zero => intro j x3 c m h1 h2; omega
  | succ n ih =>
    intro j x3 c m hj hn ex hR
    refine pl_iload_n 3 dL_law_18 rfl rfl ?_
    refine pl_aload_n 0 dL_law_19 rfl rfl ?_
    refine pl_slen dL_law_20 ?_
    refine pl_iconst (4 : Int32) dL_law_21 (by decide) ?_
    refine pl_isub dL_law_22 ?_
    refine pl_icmp_gt 560 dL_law_23 (by decide) (fun _ => ?_) (fun hc => ?_)
    · refine pl_iconst (1 : Int32) dL_law_560 (by decide) ?_
      exact pl_ret dL_law_561
    · have hlt : 4 * j + 4 ≤ L := by
        rcases Nat.lt_or_ge L (4 * j + 4) with q | q
        · exact absurd (by rw [ex]; exact law_gt q (by omega)) hc
        · exact q
      have h0 : vp_in x3 L := by rw [ex]; exact vp_in_nI (by omega) (by omega)
      have h1 : vp_in (x3 + (1 : Int32)) L := by rw [ex, show (1 : Int32) = nI 1 from rfl, nI_add]; exact vp_in_nI (by omega) (by omega)
      have h2 : vp_in (x3 + (2 : Int32)) L := by rw [ex, show (2 : Int32) = nI 2 from rfl, nI_add]; exact vp_in_nI (by omega) (by omega)
      have h3 : vp_in (x3 + (3 : Int32)) L := by rw [ex, show (3 : Int32) = nI 3 from rfl, nI_add]; exact vp_in_nI (by omega) (by omega)
      have next : ∀ c2 m2 : Sg, Rel c2 m2 → PL L xs c2 m2 554 [(0, .ref 0), (1, .ref 1), (2, .ref 2), (3, .int x3)] [] := by
        intro c2 m2 hrel
        refine pl_iinc 3 (x3 + 4) [(3, .int (x3 + 4)), (0, .ref 0), (1, .ref 1), (2, .ref 2)] dL_law_554 rfl rfl (by decide) rfl ?_
        refine pl_goto 18 dL_law_557 (by decide) ?_
        refine PL.sub (lv2 := [(0, .ref 0), (1, .ref 1), (2, .ref 2), (3, .int (x3 + 4))]) [1, 2, 3, 0] rfl ?_
        exact ih (j + 1) (x3 + 4) c2 m2 (by omega) (by omega) (by rw [ex, show (4 : Int32) = nI 4 from rfl, nI_add]; congr 1) hrel
      refine pl_aload_n 0 dL_law_26 rfl rfl ?_
      refine pl_iload_n 3 dL_law_27 rfl rfl ?_
      refine pl_sld dL_law_28 h0 ?_
      refine pl_bipush (31 : Int32) dL_law_29 (by decide) ?_
      refine pl_iand dL_law_31 ?_
      generalize xs (Int32.toNatClampNeg x3) &&& (31 : Int32) = op
      by_cases o0 : op = (0 : Int32)
      · refine pl_tableIn (off := 84) 116 dL_law_32 (by rw [o0]; decide) (by rw [o0]; decide) (by rw [o0]; rfl) (by decide) ?_
        obtain ⟨r, c2, m2, hc, hm, hrel⟩ := S0 (xs (Int32.toNatClampNeg (x3 + (1 : Int32)))) c m hR
        refine pl_aload_n 1 dL_law_116 rfl rfl ?_
        refine pl_aload_n 0 dL_law_117 rfl rfl ?_
        refine pl_iload_n 3 dL_law_118 rfl rfl ?_
        refine pl_iconst (1 : Int32) dL_law_119 (by decide) ?_
        refine pl_iadd dL_law_120 ?_
        refine pl_sld dL_law_121 h1 ?_
        refine pl_callC (c2 := c2) (val := .int r) [.int (xs (Int32.toNatClampNeg (x3 + (1 : Int32))))] (st := []) (fun _ => rfl) (fun _ => rfl) dL_law_122 rfl mL_13 imX7_letter seX7_letter inRX7 coX7_letter hyX7_letter (by decide) (Nat.le_of_ble_eq_true rfl) (conX7_letter hc) ?_
        refine pl_aload_n 2 dL_law_125 rfl rfl ?_
        refine pl_aload_n 0 dL_law_126 rfl rfl ?_
        refine pl_iload_n 3 dL_law_127 rfl rfl ?_
        refine pl_iconst (1 : Int32) dL_law_128 (by decide) ?_
        refine pl_iadd dL_law_129 ?_
        refine pl_sld dL_law_130 h1 ?_
        refine pl_callM (m2 := m2) (val := .int r) [.int (xs (Int32.toNatClampNeg (x3 + (1 : Int32))))] (st := [.int r]) (fun _ => rfl) (fun _ => rfl) dL_law_131 rfl mL_17 imX8_letter seX8_letter inRX8 coX8_letter hyX8_letter (by decide) (Nat.le_of_ble_eq_true rfl) (conX8_letter hm) ?_
        refine pl_icmp_eq 554 dL_law_134 (by decide) (fun _ => ?_) (fun q => absurd rfl q)
        exact next _ _ hrel
      · skip
        by_cases o1 : op = (1 : Int32)
        · refine pl_tableIn (off := 107) 139 dL_law_32 (by rw [o1]; decide) (by rw [o1]; decide) (by rw [o1]; rfl) (by decide) ?_
          obtain ⟨r, c2, m2, hc, hm, hrel⟩ := S1  c m hR
          refine pl_aload_n 1 dL_law_139 rfl rfl ?_
          refine pl_callC (c2 := c2) (val := .int r) [] (st := []) (fun _ => rfl) (fun _ => rfl) dL_law_140 rfl mL_18 imX7_blank seX7_blank inRX7 coX7_blank hyX7_blank (by decide) (Nat.le_of_ble_eq_true rfl) (conX7_blank hc) ?_
          refine pl_aload_n 2 dL_law_143 rfl rfl ?_
          refine pl_callM (m2 := m2) (val := .int r) [] (st := [.int r]) (fun _ => rfl) (fun _ => rfl) dL_law_144 rfl mL_22 imX8_blank seX8_blank inRX8 coX8_blank hyX8_blank (by decide) (Nat.le_of_ble_eq_true rfl) (conX8_blank hm) ?_
          refine pl_icmp_eq 554 dL_law_147 (by decide) (fun _ => ?_) (fun q => absurd rfl q)
          exact next _ _ hrel
        · skip
          by_cases o2 : op = (2 : Int32)
          · refine pl_tableIn (off := 120) 152 dL_law_32 (by rw [o2]; decide) (by rw [o2]; decide) (by rw [o2]; rfl) (by decide) ?_
            obtain ⟨r, hc, hm, hrel⟩ := S2  c m hR
            refine pl_aload_n 1 dL_law_152 rfl rfl ?_
            refine pl_callC (c2 := c) (val := .int r) [] (st := []) (fun _ => rfl) (fun _ => rfl) dL_law_153 rfl mL_23 imX7_fault seX7_fault inRX7 coX7_fault hyX7_fault (by decide) (Nat.le_of_ble_eq_true rfl) (conX7_fault hc) ?_
            refine pl_aload_n 2 dL_law_156 rfl rfl ?_
            refine pl_callM (m2 := m) (val := .int r) [] (st := [.int r]) (fun _ => rfl) (fun _ => rfl) dL_law_157 rfl mL_26 imX8_fault seX8_fault inRX8 coX8_fault hyX8_fault (by decide) (Nat.le_of_ble_eq_true rfl) (conX8_fault hm) ?_
            refine pl_icmp_eq 554 dL_law_160 (by decide) (fun _ => ?_) (fun q => absurd rfl q)
            exact next _ _ hrel
          · skip
            by_cases o3 : op = (3 : Int32)
            · refine pl_tableIn (off := 133) 165 dL_law_32 (by rw [o3]; decide) (by rw [o3]; decide) (by rw [o3]; rfl) (by decide) ?_
              obtain ⟨r, c2, m2, hc, hm, hrel⟩ := S3  c m hR
              refine pl_aload_n 1 dL_law_165 rfl rfl ?_
              refine pl_callC (c2 := c2) (val := .int r) [] (st := []) (fun _ => rfl) (fun _ => rfl) dL_law_166 rfl mL_27 imX7_way seX7_way inRX7 coX7_way hyX7_way (by decide) (Nat.le_of_ble_eq_true rfl) (conX7_way hc) ?_
              refine pl_aload_n 2 dL_law_169 rfl rfl ?_
              refine pl_callM (m2 := m2) (val := .int r) [] (st := [.int r]) (fun _ => rfl) (fun _ => rfl) dL_law_170 rfl mL_30 imX8_way seX8_way inRX8 coX8_way hyX8_way (by decide) (Nat.le_of_ble_eq_true rfl) (conX8_way hm) ?_
              refine pl_icmp_eq 554 dL_law_173 (by decide) (fun _ => ?_) (fun q => absurd rfl q)
              exact next _ _ hrel
            · skip
              by_cases o4 : op = (4 : Int32)
              · refine pl_tableIn (off := 146) 178 dL_law_32 (by rw [o4]; decide) (by rw [o4]; decide) (by rw [o4]; rfl) (by decide) ?_
                obtain ⟨r, m2, hc, hm, hrel⟩ := S4  c m hR
                refine pl_aload_n 1 dL_law_178 rfl rfl ?_
                refine pl_callC (c2 := c) (val := .int r) [] (st := []) (fun _ => rfl) (fun _ => rfl) dL_law_179 rfl mL_31 imX7_valley seX7_valley inRX7 coX7_valley hyX7_valley (by decide) (Nat.le_of_ble_eq_true rfl) (conX7_valley hc) ?_
                refine pl_aload_n 2 dL_law_182 rfl rfl ?_
                refine pl_callM (m2 := m2) (val := .int r) [] (st := [.int r]) (fun _ => rfl) (fun _ => rfl) dL_law_183 rfl mL_34 imX8_valley seX8_valley inRX8 coX8_valley hyX8_valley (by decide) (Nat.le_of_ble_eq_true rfl) (conX8_valley hm) ?_
                refine pl_icmp_eq 554 dL_law_186 (by decide) (fun _ => ?_) (fun q => absurd rfl q)
                exact next _ _ hrel
              · skip
                by_cases o5 : op = (5 : Int32)
                · refine pl_tableIn (off := 159) 191 dL_law_32 (by rw [o5]; decide) (by rw [o5]; decide) (by rw [o5]; rfl) (by decide) ?_
                  obtain ⟨r, c2, m2, hc, hm, hrel⟩ := S5 (xs (Int32.toNatClampNeg (x3 + (1 : Int32)))) c m hR
                  refine pl_aload_n 1 dL_law_191 rfl rfl ?_
                  refine pl_aload_n 0 dL_law_192 rfl rfl ?_
                  refine pl_iload_n 3 dL_law_193 rfl rfl ?_
                  refine pl_iconst (1 : Int32) dL_law_194 (by decide) ?_
                  refine pl_iadd dL_law_195 ?_
                  refine pl_sld dL_law_196 h1 ?_
                  refine pl_callC (c2 := c2) (val := .int r) [.int (xs (Int32.toNatClampNeg (x3 + (1 : Int32))))] (st := []) (fun _ => rfl) (fun _ => rfl) dL_law_197 rfl mL_35 imX7_drop seX7_drop inRX7 coX7_drop hyX7_drop (by decide) (Nat.le_of_ble_eq_true rfl) (conX7_drop hc) ?_
                  refine pl_aload_n 2 dL_law_200 rfl rfl ?_
                  refine pl_aload_n 0 dL_law_201 rfl rfl ?_
                  refine pl_iload_n 3 dL_law_202 rfl rfl ?_
                  refine pl_iconst (1 : Int32) dL_law_203 (by decide) ?_
                  refine pl_iadd dL_law_204 ?_
                  refine pl_sld dL_law_205 h1 ?_
                  refine pl_callM (m2 := m2) (val := .int r) [.int (xs (Int32.toNatClampNeg (x3 + (1 : Int32))))] (st := [.int r]) (fun _ => rfl) (fun _ => rfl) dL_law_206 rfl mL_38 imX8_drop seX8_drop inRX8 coX8_drop hyX8_drop (by decide) (Nat.le_of_ble_eq_true rfl) (conX8_drop hm) ?_
                  refine pl_icmp_eq 554 dL_law_209 (by decide) (fun _ => ?_) (fun q => absurd rfl q)
                  exact next _ _ hrel
                · skip
                  by_cases o6 : op = (6 : Int32)
                  · refine pl_tableIn (off := 182) 214 dL_law_32 (by rw [o6]; decide) (by rw [o6]; decide) (by rw [o6]; rfl) (by decide) ?_
                    by_cases hz : xs (Int32.toNatClampNeg (x3 + (2 : Int32))) = 0
                    · skip
                      obtain ⟨r, c2, m2, hc, hm, hrel⟩ := S6 (xs (Int32.toNatClampNeg (x3 + (1 : Int32)))) (0 : Int32) c m (Or.inl rfl) hR
                      refine pl_aload_n 1 dL_law_214 rfl rfl ?_
                      refine pl_aload_n 0 dL_law_215 rfl rfl ?_
                      refine pl_iload_n 3 dL_law_216 rfl rfl ?_
                      refine pl_iconst (1 : Int32) dL_law_217 (by decide) ?_
                      refine pl_iadd dL_law_218 ?_
                      refine pl_sld dL_law_219 h1 ?_
                      refine pl_aload_n 0 dL_law_220 rfl rfl ?_
                      refine pl_iload_n 3 dL_law_221 rfl rfl ?_
                      refine pl_iconst (2 : Int32) dL_law_222 (by decide) ?_
                      refine pl_iadd dL_law_223 ?_
                      refine pl_sld dL_law_224 h2 ?_
                      refine pl_if_eq 232 dL_law_225 (by decide) (fun _ => ?_) (fun q => absurd hz q)
                      refine pl_iconst (0 : Int32) dL_law_232 (by decide) ?_
                      refine pl_callC (c2 := c2) (val := .int r) [.int (xs (Int32.toNatClampNeg (x3 + (1 : Int32)))), .int (0 : Int32)] (st := []) (fun _ => rfl) (fun _ => rfl) dL_law_233 rfl mL_39 imX7_exchange seX7_exchange inRX7 coX7_exchange hyX7_exchange (by decide) (Nat.le_of_ble_eq_true rfl) (conX7_exchange hc) ?_
                      refine pl_aload_n 2 dL_law_236 rfl rfl ?_
                      refine pl_aload_n 0 dL_law_237 rfl rfl ?_
                      refine pl_iload_n 3 dL_law_238 rfl rfl ?_
                      refine pl_iconst (1 : Int32) dL_law_239 (by decide) ?_
                      refine pl_iadd dL_law_240 ?_
                      refine pl_sld dL_law_241 h1 ?_
                      refine pl_aload_n 0 dL_law_242 rfl rfl ?_
                      refine pl_iload_n 3 dL_law_243 rfl rfl ?_
                      refine pl_iconst (2 : Int32) dL_law_244 (by decide) ?_
                      refine pl_iadd dL_law_245 ?_
                      refine pl_sld dL_law_246 h2 ?_
                      refine pl_if_eq 254 dL_law_247 (by decide) (fun _ => ?_) (fun q => absurd hz q)
                      refine pl_iconst (0 : Int32) dL_law_254 (by decide) ?_
                      refine pl_callM (m2 := m2) (val := .int r) [.int (xs (Int32.toNatClampNeg (x3 + (1 : Int32)))), .int (0 : Int32)] (st := [.int r]) (fun _ => rfl) (fun _ => rfl) dL_law_255 rfl mL_43 imX8_exchange seX8_exchange inRX8 coX8_exchange hyX8_exchange (by decide) (Nat.le_of_ble_eq_true rfl) (conX8_exchange hm) ?_
                      refine pl_icmp_eq 554 dL_law_258 (by decide) (fun _ => ?_) (fun q => absurd rfl q)
                      exact next _ _ hrel
                    · skip
                      obtain ⟨r, c2, m2, hc, hm, hrel⟩ := S6 (xs (Int32.toNatClampNeg (x3 + (1 : Int32)))) (1 : Int32) c m (Or.inr rfl) hR
                      refine pl_aload_n 1 dL_law_214 rfl rfl ?_
                      refine pl_aload_n 0 dL_law_215 rfl rfl ?_
                      refine pl_iload_n 3 dL_law_216 rfl rfl ?_
                      refine pl_iconst (1 : Int32) dL_law_217 (by decide) ?_
                      refine pl_iadd dL_law_218 ?_
                      refine pl_sld dL_law_219 h1 ?_
                      refine pl_aload_n 0 dL_law_220 rfl rfl ?_
                      refine pl_iload_n 3 dL_law_221 rfl rfl ?_
                      refine pl_iconst (2 : Int32) dL_law_222 (by decide) ?_
                      refine pl_iadd dL_law_223 ?_
                      refine pl_sld dL_law_224 h2 ?_
                      refine pl_if_eq 232 dL_law_225 (by decide) (fun q => absurd q hz) (fun _ => ?_)
                      refine pl_iconst (1 : Int32) dL_law_228 (by decide) ?_
                      refine pl_goto 233 dL_law_229 (by decide) ?_
                      refine pl_callC (c2 := c2) (val := .int r) [.int (xs (Int32.toNatClampNeg (x3 + (1 : Int32)))), .int (1 : Int32)] (st := []) (fun _ => rfl) (fun _ => rfl) dL_law_233 rfl mL_39 imX7_exchange seX7_exchange inRX7 coX7_exchange hyX7_exchange (by decide) (Nat.le_of_ble_eq_true rfl) (conX7_exchange hc) ?_
                      refine pl_aload_n 2 dL_law_236 rfl rfl ?_
                      refine pl_aload_n 0 dL_law_237 rfl rfl ?_
                      refine pl_iload_n 3 dL_law_238 rfl rfl ?_
                      refine pl_iconst (1 : Int32) dL_law_239 (by decide) ?_
                      refine pl_iadd dL_law_240 ?_
                      refine pl_sld dL_law_241 h1 ?_
                      refine pl_aload_n 0 dL_law_242 rfl rfl ?_
                      refine pl_iload_n 3 dL_law_243 rfl rfl ?_
                      refine pl_iconst (2 : Int32) dL_law_244 (by decide) ?_
                      refine pl_iadd dL_law_245 ?_
                      refine pl_sld dL_law_246 h2 ?_
                      refine pl_if_eq 254 dL_law_247 (by decide) (fun q => absurd q hz) (fun _ => ?_)
                      refine pl_iconst (1 : Int32) dL_law_250 (by decide) ?_
                      refine pl_goto 255 dL_law_251 (by decide) ?_
                      refine pl_callM (m2 := m2) (val := .int r) [.int (xs (Int32.toNatClampNeg (x3 + (1 : Int32)))), .int (1 : Int32)] (st := [.int r]) (fun _ => rfl) (fun _ => rfl) dL_law_255 rfl mL_43 imX8_exchange seX8_exchange inRX8 coX8_exchange hyX8_exchange (by decide) (Nat.le_of_ble_eq_true rfl) (conX8_exchange hm) ?_
                      refine pl_icmp_eq 554 dL_law_258 (by decide) (fun _ => ?_) (fun q => absurd rfl q)
                      exact next _ _ hrel
                  · skip
                    by_cases o7 : op = (7 : Int32)
                    · refine pl_tableIn (off := 231) 263 dL_law_32 (by rw [o7]; decide) (by rw [o7]; decide) (by rw [o7]; rfl) (by decide) ?_
                      obtain ⟨r, c2, m2, hc, hm, hrel⟩ := S7 (xs (Int32.toNatClampNeg (x3 + (1 : Int32)))) (xs (Int32.toNatClampNeg (x3 + (2 : Int32)))) (xs (Int32.toNatClampNeg (x3 + (3 : Int32)))) c m hR
                      refine pl_aload_n 1 dL_law_263 rfl rfl ?_
                      refine pl_aload_n 0 dL_law_264 rfl rfl ?_
                      refine pl_iload_n 3 dL_law_265 rfl rfl ?_
                      refine pl_iconst (1 : Int32) dL_law_266 (by decide) ?_
                      refine pl_iadd dL_law_267 ?_
                      refine pl_sld dL_law_268 h1 ?_
                      refine pl_aload_n 0 dL_law_269 rfl rfl ?_
                      refine pl_iload_n 3 dL_law_270 rfl rfl ?_
                      refine pl_iconst (2 : Int32) dL_law_271 (by decide) ?_
                      refine pl_iadd dL_law_272 ?_
                      refine pl_sld dL_law_273 h2 ?_
                      refine pl_aload_n 0 dL_law_274 rfl rfl ?_
                      refine pl_iload_n 3 dL_law_275 rfl rfl ?_
                      refine pl_iconst (3 : Int32) dL_law_276 (by decide) ?_
                      refine pl_iadd dL_law_277 ?_
                      refine pl_sld dL_law_278 h3 ?_
                      refine pl_callC (c2 := c2) (val := .int r) [.int (xs (Int32.toNatClampNeg (x3 + (1 : Int32)))), .int (xs (Int32.toNatClampNeg (x3 + (2 : Int32)))), .int (xs (Int32.toNatClampNeg (x3 + (3 : Int32))))] (st := []) (fun _ => rfl) (fun _ => rfl) dL_law_279 rfl mL_44 imX7_tell seX7_tell inRX7 coX7_tell hyX7_tell (by decide) (Nat.le_of_ble_eq_true rfl) (conX7_tell hc) ?_
                      refine pl_aload_n 2 dL_law_282 rfl rfl ?_
                      refine pl_aload_n 0 dL_law_283 rfl rfl ?_
                      refine pl_iload_n 3 dL_law_284 rfl rfl ?_
                      refine pl_iconst (1 : Int32) dL_law_285 (by decide) ?_
                      refine pl_iadd dL_law_286 ?_
                      refine pl_sld dL_law_287 h1 ?_
                      refine pl_aload_n 0 dL_law_288 rfl rfl ?_
                      refine pl_iload_n 3 dL_law_289 rfl rfl ?_
                      refine pl_iconst (2 : Int32) dL_law_290 (by decide) ?_
                      refine pl_iadd dL_law_291 ?_
                      refine pl_sld dL_law_292 h2 ?_
                      refine pl_aload_n 0 dL_law_293 rfl rfl ?_
                      refine pl_iload_n 3 dL_law_294 rfl rfl ?_
                      refine pl_iconst (3 : Int32) dL_law_295 (by decide) ?_
                      refine pl_iadd dL_law_296 ?_
                      refine pl_sld dL_law_297 h3 ?_
                      refine pl_callM (m2 := m2) (val := .int r) [.int (xs (Int32.toNatClampNeg (x3 + (1 : Int32)))), .int (xs (Int32.toNatClampNeg (x3 + (2 : Int32)))), .int (xs (Int32.toNatClampNeg (x3 + (3 : Int32))))] (st := [.int r]) (fun _ => rfl) (fun _ => rfl) dL_law_298 rfl mL_48 imX8_tell seX8_tell inRX8 coX8_tell hyX8_tell (by decide) (Nat.le_of_ble_eq_true rfl) (conX8_tell hm) ?_
                      refine pl_icmp_eq 554 dL_law_301 (by decide) (fun _ => ?_) (fun q => absurd rfl q)
                      exact next _ _ hrel
                    · skip
                      by_cases o8 : op = (8 : Int32)
                      · refine pl_tableIn (off := 274) 306 dL_law_32 (by rw [o8]; decide) (by rw [o8]; decide) (by rw [o8]; rfl) (by decide) ?_
                        obtain ⟨r, m2, hc, hm, hrel⟩ := S8 (xs (Int32.toNatClampNeg (x3 + (1 : Int32)))) (xs (Int32.toNatClampNeg (x3 + (2 : Int32)))) c m hR
                        refine pl_aload_n 1 dL_law_306 rfl rfl ?_
                        refine pl_aload_n 0 dL_law_307 rfl rfl ?_
                        refine pl_iload_n 3 dL_law_308 rfl rfl ?_
                        refine pl_iconst (1 : Int32) dL_law_309 (by decide) ?_
                        refine pl_iadd dL_law_310 ?_
                        refine pl_sld dL_law_311 h1 ?_
                        refine pl_aload_n 0 dL_law_312 rfl rfl ?_
                        refine pl_iload_n 3 dL_law_313 rfl rfl ?_
                        refine pl_iconst (2 : Int32) dL_law_314 (by decide) ?_
                        refine pl_iadd dL_law_315 ?_
                        refine pl_sld dL_law_316 h2 ?_
                        refine pl_callC (c2 := c) (val := .int r) [.int (xs (Int32.toNatClampNeg (x3 + (1 : Int32)))), .int (xs (Int32.toNatClampNeg (x3 + (2 : Int32))))] (st := []) (fun _ => rfl) (fun _ => rfl) dL_law_317 rfl mL_49 imX7_net seX7_net inRX7 coX7_net hyX7_net (by decide) (Nat.le_of_ble_eq_true rfl) (conX7_net hc) ?_
                        refine pl_aload_n 2 dL_law_320 rfl rfl ?_
                        refine pl_aload_n 0 dL_law_321 rfl rfl ?_
                        refine pl_iload_n 3 dL_law_322 rfl rfl ?_
                        refine pl_iconst (1 : Int32) dL_law_323 (by decide) ?_
                        refine pl_iadd dL_law_324 ?_
                        refine pl_sld dL_law_325 h1 ?_
                        refine pl_aload_n 0 dL_law_326 rfl rfl ?_
                        refine pl_iload_n 3 dL_law_327 rfl rfl ?_
                        refine pl_iconst (2 : Int32) dL_law_328 (by decide) ?_
                        refine pl_iadd dL_law_329 ?_
                        refine pl_sld dL_law_330 h2 ?_
                        refine pl_callM (m2 := m2) (val := .int r) [.int (xs (Int32.toNatClampNeg (x3 + (1 : Int32)))), .int (xs (Int32.toNatClampNeg (x3 + (2 : Int32))))] (st := [.int r]) (fun _ => rfl) (fun _ => rfl) dL_law_331 rfl mL_53 imX8_net seX8_net inRX8 coX8_net hyX8_net (by decide) (Nat.le_of_ble_eq_true rfl) (conX8_net hm) ?_
                        refine pl_icmp_eq 554 dL_law_334 (by decide) (fun _ => ?_) (fun q => absurd rfl q)
                        exact next _ _ hrel
                      · skip
                        by_cases o9 : op = (9 : Int32)
                        · refine pl_tableIn (off := 307) 339 dL_law_32 (by rw [o9]; decide) (by rw [o9]; decide) (by rw [o9]; rfl) (by decide) ?_
                          obtain ⟨r, m2, hc, hm, hrel⟩ := S9 (xs (Int32.toNatClampNeg (x3 + (1 : Int32)))) c m hR
                          refine pl_aload_n 1 dL_law_339 rfl rfl ?_
                          refine pl_aload_n 0 dL_law_340 rfl rfl ?_
                          refine pl_iload_n 3 dL_law_341 rfl rfl ?_
                          refine pl_iconst (1 : Int32) dL_law_342 (by decide) ?_
                          refine pl_iadd dL_law_343 ?_
                          refine pl_sld dL_law_344 h1 ?_
                          refine pl_callC (c2 := c) (val := .int r) [.int (xs (Int32.toNatClampNeg (x3 + (1 : Int32))))] (st := []) (fun _ => rfl) (fun _ => rfl) dL_law_345 rfl mL_54 imX7_rank seX7_rank inRX7 coX7_rank hyX7_rank (by decide) (Nat.le_of_ble_eq_true rfl) (conX7_rank hc) ?_
                          refine pl_aload_n 2 dL_law_348 rfl rfl ?_
                          refine pl_aload_n 0 dL_law_349 rfl rfl ?_
                          refine pl_iload_n 3 dL_law_350 rfl rfl ?_
                          refine pl_iconst (1 : Int32) dL_law_351 (by decide) ?_
                          refine pl_iadd dL_law_352 ?_
                          refine pl_sld dL_law_353 h1 ?_
                          refine pl_callM (m2 := m2) (val := .int r) [.int (xs (Int32.toNatClampNeg (x3 + (1 : Int32))))] (st := [.int r]) (fun _ => rfl) (fun _ => rfl) dL_law_354 rfl mL_57 imX8_rank seX8_rank inRX8 coX8_rank hyX8_rank (by decide) (Nat.le_of_ble_eq_true rfl) (conX8_rank hm) ?_
                          refine pl_icmp_eq 554 dL_law_357 (by decide) (fun _ => ?_) (fun q => absurd rfl q)
                          exact next _ _ hrel
                        · skip
                          by_cases o10 : op = (10 : Int32)
                          · refine pl_tableIn (off := 330) 362 dL_law_32 (by rw [o10]; decide) (by rw [o10]; decide) (by rw [o10]; rfl) (by decide) ?_
                            obtain ⟨r, m2, hc, hm, hrel⟩ := S10  c m hR
                            refine pl_aload_n 1 dL_law_362 rfl rfl ?_
                            refine pl_callC (c2 := c) (val := .int r) [] (st := []) (fun _ => rfl) (fun _ => rfl) dL_law_363 rfl mL_58 imX7_top seX7_top inRX7 coX7_top hyX7_top (by decide) (Nat.le_of_ble_eq_true rfl) (conX7_top hc) ?_
                            refine pl_aload_n 2 dL_law_366 rfl rfl ?_
                            refine pl_callM (m2 := m2) (val := .int r) [] (st := [.int r]) (fun _ => rfl) (fun _ => rfl) dL_law_367 rfl mL_61 imX8_top seX8_top inRX8 coX8_top hyX8_top (by decide) (Nat.le_of_ble_eq_true rfl) (conX8_top hm) ?_
                            refine pl_icmp_eq 554 dL_law_370 (by decide) (fun _ => ?_) (fun q => absurd rfl q)
                            exact next _ _ hrel
                          · skip
                            by_cases o11 : op = (11 : Int32)
                            · refine pl_tableIn (off := 343) 375 dL_law_32 (by rw [o11]; decide) (by rw [o11]; decide) (by rw [o11]; rfl) (by decide) ?_
                              obtain ⟨r, m2, hc, hm, hrel⟩ := S11 (xs (Int32.toNatClampNeg (x3 + (1 : Int32)))) (xs (Int32.toNatClampNeg (x3 + (2 : Int32)))) (xs (Int32.toNatClampNeg (x3 + (3 : Int32)))) c m hR
                              refine pl_aload_n 1 dL_law_375 rfl rfl ?_
                              refine pl_aload_n 0 dL_law_376 rfl rfl ?_
                              refine pl_iload_n 3 dL_law_377 rfl rfl ?_
                              refine pl_iconst (1 : Int32) dL_law_378 (by decide) ?_
                              refine pl_iadd dL_law_379 ?_
                              refine pl_sld dL_law_380 h1 ?_
                              refine pl_aload_n 0 dL_law_381 rfl rfl ?_
                              refine pl_iload_n 3 dL_law_382 rfl rfl ?_
                              refine pl_iconst (2 : Int32) dL_law_383 (by decide) ?_
                              refine pl_iadd dL_law_384 ?_
                              refine pl_sld dL_law_385 h2 ?_
                              refine pl_aload_n 0 dL_law_386 rfl rfl ?_
                              refine pl_iload_n 3 dL_law_387 rfl rfl ?_
                              refine pl_iconst (3 : Int32) dL_law_388 (by decide) ?_
                              refine pl_iadd dL_law_389 ?_
                              refine pl_sld dL_law_390 h3 ?_
                              refine pl_callC (c2 := c) (val := .int r) [.int (xs (Int32.toNatClampNeg (x3 + (1 : Int32)))), .int (xs (Int32.toNatClampNeg (x3 + (2 : Int32)))), .int (xs (Int32.toNatClampNeg (x3 + (3 : Int32))))] (st := []) (fun _ => rfl) (fun _ => rfl) dL_law_391 rfl mL_62 imX7_link seX7_link inRX7 coX7_link hyX7_link (by decide) (Nat.le_of_ble_eq_true rfl) (conX7_link hc) ?_
                              refine pl_aload_n 2 dL_law_394 rfl rfl ?_
                              refine pl_aload_n 0 dL_law_395 rfl rfl ?_
                              refine pl_iload_n 3 dL_law_396 rfl rfl ?_
                              refine pl_iconst (1 : Int32) dL_law_397 (by decide) ?_
                              refine pl_iadd dL_law_398 ?_
                              refine pl_sld dL_law_399 h1 ?_
                              refine pl_aload_n 0 dL_law_400 rfl rfl ?_
                              refine pl_iload_n 3 dL_law_401 rfl rfl ?_
                              refine pl_iconst (2 : Int32) dL_law_402 (by decide) ?_
                              refine pl_iadd dL_law_403 ?_
                              refine pl_sld dL_law_404 h2 ?_
                              refine pl_aload_n 0 dL_law_405 rfl rfl ?_
                              refine pl_iload_n 3 dL_law_406 rfl rfl ?_
                              refine pl_iconst (3 : Int32) dL_law_407 (by decide) ?_
                              refine pl_iadd dL_law_408 ?_
                              refine pl_sld dL_law_409 h3 ?_
                              refine pl_callM (m2 := m2) (val := .int r) [.int (xs (Int32.toNatClampNeg (x3 + (1 : Int32)))), .int (xs (Int32.toNatClampNeg (x3 + (2 : Int32)))), .int (xs (Int32.toNatClampNeg (x3 + (3 : Int32))))] (st := [.int r]) (fun _ => rfl) (fun _ => rfl) dL_law_410 rfl mL_65 imX8_link seX8_link inRX8 coX8_link hyX8_link (by decide) (Nat.le_of_ble_eq_true rfl) (conX8_link hm) ?_
                              refine pl_icmp_eq 554 dL_law_413 (by decide) (fun _ => ?_) (fun q => absurd rfl q)
                              exact next _ _ hrel
                            · skip
                              by_cases o12 : op = (12 : Int32)
                              · refine pl_tableIn (off := 386) 418 dL_law_32 (by rw [o12]; decide) (by rw [o12]; decide) (by rw [o12]; rfl) (by decide) ?_
                                obtain ⟨r, m2, hc, hm, hrel⟩ := S12 (xs (Int32.toNatClampNeg (x3 + (1 : Int32)))) c m hR
                                refine pl_aload_n 1 dL_law_418 rfl rfl ?_
                                refine pl_aload_n 0 dL_law_419 rfl rfl ?_
                                refine pl_iload_n 3 dL_law_420 rfl rfl ?_
                                refine pl_iconst (1 : Int32) dL_law_421 (by decide) ?_
                                refine pl_iadd dL_law_422 ?_
                                refine pl_sld dL_law_423 h1 ?_
                                refine pl_callC (c2 := c) (val := .int r) [.int (xs (Int32.toNatClampNeg (x3 + (1 : Int32))))] (st := []) (fun _ => rfl) (fun _ => rfl) dL_law_424 rfl mL_66 imX7_contradicted seX7_contradicted inRX7 coX7_contradicted hyX7_contradicted (by decide) (Nat.le_of_ble_eq_true rfl) (conX7_contradicted hc) ?_
                                refine pl_aload_n 2 dL_law_427 rfl rfl ?_
                                refine pl_aload_n 0 dL_law_428 rfl rfl ?_
                                refine pl_iload_n 3 dL_law_429 rfl rfl ?_
                                refine pl_iconst (1 : Int32) dL_law_430 (by decide) ?_
                                refine pl_iadd dL_law_431 ?_
                                refine pl_sld dL_law_432 h1 ?_
                                refine pl_callM (m2 := m2) (val := .int r) [.int (xs (Int32.toNatClampNeg (x3 + (1 : Int32))))] (st := [.int r]) (fun _ => rfl) (fun _ => rfl) dL_law_433 rfl mL_69 imX8_contradicted seX8_contradicted inRX8 coX8_contradicted hyX8_contradicted (by decide) (Nat.le_of_ble_eq_true rfl) (conX8_contradicted hm) ?_
                                refine pl_icmp_eq 554 dL_law_436 (by decide) (fun _ => ?_) (fun q => absurd rfl q)
                                exact next _ _ hrel
                              · skip
                                by_cases o13 : op = (13 : Int32)
                                · refine pl_tableIn (off := 409) 441 dL_law_32 (by rw [o13]; decide) (by rw [o13]; decide) (by rw [o13]; rfl) (by decide) ?_
                                  obtain ⟨r, m2, hc, hm, hrel⟩ := S13 (xs (Int32.toNatClampNeg (x3 + (1 : Int32)))) (xs (Int32.toNatClampNeg (x3 + (2 : Int32)))) c m hR
                                  refine pl_aload_n 1 dL_law_441 rfl rfl ?_
                                  refine pl_aload_n 0 dL_law_442 rfl rfl ?_
                                  refine pl_iload_n 3 dL_law_443 rfl rfl ?_
                                  refine pl_iconst (1 : Int32) dL_law_444 (by decide) ?_
                                  refine pl_iadd dL_law_445 ?_
                                  refine pl_sld dL_law_446 h1 ?_
                                  refine pl_aload_n 0 dL_law_447 rfl rfl ?_
                                  refine pl_iload_n 3 dL_law_448 rfl rfl ?_
                                  refine pl_iconst (2 : Int32) dL_law_449 (by decide) ?_
                                  refine pl_iadd dL_law_450 ?_
                                  refine pl_sld dL_law_451 h2 ?_
                                  refine pl_callC (c2 := c) (val := .int r) [.int (xs (Int32.toNatClampNeg (x3 + (1 : Int32)))), .int (xs (Int32.toNatClampNeg (x3 + (2 : Int32))))] (st := []) (fun _ => rfl) (fun _ => rfl) dL_law_452 rfl mL_70 imX7_seen seX7_seen inRX7 coX7_seen hyX7_seen (by decide) (Nat.le_of_ble_eq_true rfl) (conX7_seen hc) ?_
                                  refine pl_aload_n 2 dL_law_455 rfl rfl ?_
                                  refine pl_aload_n 0 dL_law_456 rfl rfl ?_
                                  refine pl_iload_n 3 dL_law_457 rfl rfl ?_
                                  refine pl_iconst (1 : Int32) dL_law_458 (by decide) ?_
                                  refine pl_iadd dL_law_459 ?_
                                  refine pl_sld dL_law_460 h1 ?_
                                  refine pl_aload_n 0 dL_law_461 rfl rfl ?_
                                  refine pl_iload_n 3 dL_law_462 rfl rfl ?_
                                  refine pl_iconst (2 : Int32) dL_law_463 (by decide) ?_
                                  refine pl_iadd dL_law_464 ?_
                                  refine pl_sld dL_law_465 h2 ?_
                                  refine pl_callM (m2 := m2) (val := .int r) [.int (xs (Int32.toNatClampNeg (x3 + (1 : Int32)))), .int (xs (Int32.toNatClampNeg (x3 + (2 : Int32))))] (st := [.int r]) (fun _ => rfl) (fun _ => rfl) dL_law_466 rfl mL_73 imX8_seen seX8_seen inRX8 coX8_seen hyX8_seen (by decide) (Nat.le_of_ble_eq_true rfl) (conX8_seen hm) ?_
                                  refine pl_icmp_eq 554 dL_law_469 (by decide) (fun _ => ?_) (fun q => absurd rfl q)
                                  exact next _ _ hrel
                                · skip
                                  by_cases o14 : op = (14 : Int32)
                                  · refine pl_tableIn (off := 442) 474 dL_law_32 (by rw [o14]; decide) (by rw [o14]; decide) (by rw [o14]; rfl) (by decide) ?_
                                    obtain ⟨r, m2, hc, hm, hrel⟩ := S14 (xs (Int32.toNatClampNeg (x3 + (1 : Int32)))) (xs (Int32.toNatClampNeg (x3 + (2 : Int32)))) (xs (Int32.toNatClampNeg (x3 + (3 : Int32)))) c m hR
                                    refine pl_aload_n 1 dL_law_474 rfl rfl ?_
                                    refine pl_aload_n 0 dL_law_475 rfl rfl ?_
                                    refine pl_iload_n 3 dL_law_476 rfl rfl ?_
                                    refine pl_iconst (1 : Int32) dL_law_477 (by decide) ?_
                                    refine pl_iadd dL_law_478 ?_
                                    refine pl_sld dL_law_479 h1 ?_
                                    refine pl_aload_n 0 dL_law_480 rfl rfl ?_
                                    refine pl_iload_n 3 dL_law_481 rfl rfl ?_
                                    refine pl_iconst (2 : Int32) dL_law_482 (by decide) ?_
                                    refine pl_iadd dL_law_483 ?_
                                    refine pl_sld dL_law_484 h2 ?_
                                    refine pl_aload_n 0 dL_law_485 rfl rfl ?_
                                    refine pl_iload_n 3 dL_law_486 rfl rfl ?_
                                    refine pl_iconst (3 : Int32) dL_law_487 (by decide) ?_
                                    refine pl_iadd dL_law_488 ?_
                                    refine pl_sld dL_law_489 h3 ?_
                                    refine pl_callC (c2 := c) (val := .int r) [.int (xs (Int32.toNatClampNeg (x3 + (1 : Int32)))), .int (xs (Int32.toNatClampNeg (x3 + (2 : Int32)))), .int (xs (Int32.toNatClampNeg (x3 + (3 : Int32))))] (st := []) (fun _ => rfl) (fun _ => rfl) dL_law_490 rfl mL_74 imX7_near seX7_near inRX7 coX7_near hyX7_near (by decide) (Nat.le_of_ble_eq_true rfl) (conX7_near hc) ?_
                                    refine pl_aload_n 2 dL_law_493 rfl rfl ?_
                                    refine pl_aload_n 0 dL_law_494 rfl rfl ?_
                                    refine pl_iload_n 3 dL_law_495 rfl rfl ?_
                                    refine pl_iconst (1 : Int32) dL_law_496 (by decide) ?_
                                    refine pl_iadd dL_law_497 ?_
                                    refine pl_sld dL_law_498 h1 ?_
                                    refine pl_aload_n 0 dL_law_499 rfl rfl ?_
                                    refine pl_iload_n 3 dL_law_500 rfl rfl ?_
                                    refine pl_iconst (2 : Int32) dL_law_501 (by decide) ?_
                                    refine pl_iadd dL_law_502 ?_
                                    refine pl_sld dL_law_503 h2 ?_
                                    refine pl_aload_n 0 dL_law_504 rfl rfl ?_
                                    refine pl_iload_n 3 dL_law_505 rfl rfl ?_
                                    refine pl_iconst (3 : Int32) dL_law_506 (by decide) ?_
                                    refine pl_iadd dL_law_507 ?_
                                    refine pl_sld dL_law_508 h3 ?_
                                    refine pl_callM (m2 := m2) (val := .int r) [.int (xs (Int32.toNatClampNeg (x3 + (1 : Int32)))), .int (xs (Int32.toNatClampNeg (x3 + (2 : Int32)))), .int (xs (Int32.toNatClampNeg (x3 + (3 : Int32))))] (st := [.int r]) (fun _ => rfl) (fun _ => rfl) dL_law_509 rfl mL_77 imX8_near seX8_near inRX8 coX8_near hyX8_near (by decide) (Nat.le_of_ble_eq_true rfl) (conX8_near hm) ?_
                                    refine pl_icmp_eq 554 dL_law_512 (by decide) (fun _ => ?_) (fun q => absurd rfl q)
                                    exact next _ _ hrel
                                  · skip
                                    by_cases o15 : op = (15 : Int32)
                                    · refine pl_tableIn (off := 485) 517 dL_law_32 (by rw [o15]; decide) (by rw [o15]; decide) (by rw [o15]; rfl) (by decide) ?_
                                      obtain ⟨r, m2, hc, hm, hrel⟩ := S15 (xs (Int32.toNatClampNeg (x3 + (1 : Int32)))) c m hR
                                      refine pl_aload_n 1 dL_law_517 rfl rfl ?_
                                      refine pl_aload_n 0 dL_law_518 rfl rfl ?_
                                      refine pl_iload_n 3 dL_law_519 rfl rfl ?_
                                      refine pl_iconst (1 : Int32) dL_law_520 (by decide) ?_
                                      refine pl_iadd dL_law_521 ?_
                                      refine pl_sld dL_law_522 h1 ?_
                                      refine pl_callC (c2 := c) (val := .int r) [.int (xs (Int32.toNatClampNeg (x3 + (1 : Int32))))] (st := []) (fun _ => rfl) (fun _ => rfl) dL_law_523 rfl mL_78 imX7_count seX7_count inRX7 coX7_count hyX7_count (by decide) (Nat.le_of_ble_eq_true rfl) (conX7_count hc) ?_
                                      refine pl_aload_n 2 dL_law_526 rfl rfl ?_
                                      refine pl_aload_n 0 dL_law_527 rfl rfl ?_
                                      refine pl_iload_n 3 dL_law_528 rfl rfl ?_
                                      refine pl_iconst (1 : Int32) dL_law_529 (by decide) ?_
                                      refine pl_iadd dL_law_530 ?_
                                      refine pl_sld dL_law_531 h1 ?_
                                      refine pl_callM (m2 := m2) (val := .int r) [.int (xs (Int32.toNatClampNeg (x3 + (1 : Int32))))] (st := [.int r]) (fun _ => rfl) (fun _ => rfl) dL_law_532 rfl mL_81 imX8_count seX8_count inRX8 coX8_count hyX8_count (by decide) (Nat.le_of_ble_eq_true rfl) (conX8_count hm) ?_
                                      refine pl_icmp_eq 554 dL_law_535 (by decide) (fun _ => ?_) (fun q => absurd rfl q)
                                      exact next _ _ hrel
                                    · skip
                                      by_cases o16 : op = (16 : Int32)
                                      · refine pl_tableIn (off := 508) 540 dL_law_32 (by rw [o16]; decide) (by rw [o16]; decide) (by rw [o16]; rfl) (by decide) ?_
                                        obtain ⟨r, m2, hc, hm, hrel⟩ := S16  c m hR
                                        refine pl_aload_n 1 dL_law_540 rfl rfl ?_
                                        refine pl_callC (c2 := c) (val := .long r) [] (st := []) (fun _ => rfl) (fun _ => rfl) dL_law_541 rfl mL_82 imX7_digest seX7_digest inRX7 coX7_digest hyX7_digest (by decide) (Nat.le_of_ble_eq_true rfl) (conX7_digest hc) ?_
                                        refine pl_aload_n 2 dL_law_544 rfl rfl ?_
                                        refine pl_callM (m2 := m2) (val := .long r) [] (st := [.long r]) (fun _ => rfl) (fun _ => rfl) dL_law_545 rfl mL_86 imX8_digest seX8_digest inRX8 coX8_digest hyX8_digest (by decide) (Nat.le_of_ble_eq_true rfl) (conX8_digest hm) ?_
                                        refine pl_lcmp dL_law_548 ?_
                                        refine pl_if_eq 554 dL_law_549 (by decide) (fun _ => ?_) (fun q => absurd (lg_cmp_self r) q)
                                        exact next _ _ hrel
                                      · skip
                                        refine pl_tableOut 554 dL_law_32 (by have := lv_neT o0 (a := 0) (by decide); have := lv_neT o1 (a := 1) (by decide); have := lv_neT o2 (a := 2) (by decide); have := lv_neT o3 (a := 3) (by decide); have := lv_neT o4 (a := 4) (by decide); have := lv_neT o5 (a := 5) (by decide); have := lv_neT o6 (a := 6) (by decide); have := lv_neT o7 (a := 7) (by decide); have := lv_neT o8 (a := 8) (by decide); have := lv_neT o9 (a := 9) (by decide); have := lv_neT o10 (a := 10) (by decide); have := lv_neT o11 (a := 11) (by decide); have := lv_neT o12 (a := 12) (by decide); have := lv_neT o13 (a := 13) (by decide); have := lv_neT o14 (a := 14) (by decide); have := lv_neT o15 (a := 15) (by decide); have := lv_neT o16 (a := 16) (by decide); omega) (by decide) ?_
                                        exact next _ _ hR
