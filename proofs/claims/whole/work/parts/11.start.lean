set_option maxRecDepth 100000 in
set_option maxHeartbeats 1000000 in
theorem law_whole {Rel : Sg → Sg → Prop} (S : Sim Rel) {c0 : Sg} (hc0 : fX7_refresh zsg = some c0) (hR0 : Rel c0 zsg) {p : Program} {e : Env} {s : State} {m : MethodId} {below : List Frame} {meth : Method} {c : Code} (l : Launch) {b L : Nat} {xs : Nat → Int32} (hL : L ≤ 2048) (C0 : lw_At p s m meth c b L xs) : W p l e room_1 s m #[Value.ref b] below meth c s.heap [] 0 0 (lw_Z below #[Value.ref b] s) (entryFrame m ([Value.ref b] : List Value).toArray 4) := by
  obtain ⟨hx, hb, hr, hml, hown, hts0, hX, hbl, hlocks, hgv⟩ := id C0
  have hts : ∀ w ∈ gl, w.before #[Value.ref b] s = true := fun w h => hts0 w (gl_in h)
  have hA : ∀ q : Nat, s.heap.size ≤ q → (fun q : Nat => s.heap.size ≤ q) q := fun _ h => h
  obtain ⟨c00, iS0, hKn0⟩ := u_known (C := RX1) (T := TX1) (N := 6) (n := 6) hts wiRX1 (hts _ is_RX1)
  obtain ⟨c1, iS1, hKn1⟩ := u_known (C := RX2) (T := TX2) (N := 3) (n := 3) hts wiRX2 (hts _ is_RX2)
  obtain ⟨c2, iS2, hKn2⟩ := u_known (C := RX3) (T := TX3) (N := 4) (n := 4) hts wiRX3 (hts _ is_RX3)
  obtain ⟨c3, iS3, hKn3⟩ := u_known (C := RX4) (T := TX4) (N := 2) (n := 2) hts wiRX4 (hts _ is_RX4)
  obtain ⟨c4, iS4, hKn4⟩ := u_known (C := RX5) (T := TX5) (N := 3) (n := 3) hts wiRX5 (hts _ is_RX5)
  obtain ⟨c5, iS5, hKn5⟩ := u_known (C := RX6) (T := TX6) (N := 5) (n := 5) hts wiRX6 (hts _ is_RX6)
  obtain ⟨c6, iS6, hKn6⟩ := u_known (C := RX7) (T := TX7) (N := 9) (n := 9) hts wiRX7 (hts _ is_RX7)
  obtain ⟨c7, iS7, hKn7⟩ := u_known (C := RX8) (T := TX8) (N := 25) (n := 25) hts wiRX8 (hts _ is_RX8)
  obtain ⟨dC, dI, hKc⟩ : ∃ (dC : Nat → ClassId) (dI : Nat → Nat → Nat), ∀ (k : Nat) (q : vw_C), vwCl[k]? = some q → u_Kn s q.1 q.2.1 q.2.2 (dC k) (dI k) := by
    refine ⟨fun k => match k with | 0 => c00 | 1 => c1 | 2 => c2 | 3 => c3 | 4 => c4 | 5 => c5 | 6 => c6 | _ => c7, fun k => match k with | 0 => iS0 | 1 => iS1 | 2 => iS2 | 3 => iS3 | 4 => iS4 | 5 => iS5 | 6 => iS6 | _ => iS7, ?_⟩
    intro k q hq
    match k, hq with
    | 0, hq => cases hq; exact hKn0
    | 1, hq => cases hq; exact hKn1
    | 2, hq => cases hq; exact hKn2
    | 3, hq => cases hq; exact hKn3
    | 4, hq => cases hq; exact hKn4
    | 5, hq => cases hq; exact hKn5
    | 6, hq => cases hq; exact hKn6
    | 7, hq => cases hq; exact hKn7
    | k + 8, hq => simp [vwCl] at hq
  obtain ⟨cA, hKA⟩ : ∃ cA : ClassId, va_K (dC, dI) vwCl [(cA, .int)] s := by
    obtain ⟨cA, kA, comp, h1, h2, h3⟩ := Cond.arrayClass_spec (hts _ acI)
    refine ⟨cA, hKc, fun k q hq => ?_⟩
    have hz : k < 1 := (List.getElem?_eq_some_iff.mp hq).1
    rw [show k = 0 by omega] at hq
    cases hq
    exact ⟨fun n z => ⟨fun k h => (by cases h), kA, h2, comp, h3⟩, h1⟩
  have hS : va_S (fun q : Nat => s.heap.size ≤ q) s.heap s.heap [] := va_S.rf
  have hP : va_P (dC, dI) vwCl [] s.heap := fun k q h => by simp at h
  have hD : va_D (fun q : Nat => s.heap.size ≤ q) [] := ⟨fun i j p q h => by simp at h, fun k q h => by simp at h⟩
  have hl := lv_entry ([.ref b]) (n := 4) (Nat.le_of_ble_eq_true rfl)
  rw [lg_entry_eq]
  generalize (lg_sl ([.ref b]) ++ List.replicate (4 - (lg_sl ([.ref b])).length) Slot.unset).toArray = ls at hl ⊢
  have hl : lv_has ls 4 [(0, .ref b)] := hl
  refine va_new (ci := 6) (fs := [.null, .null, .null, .null, .null, .null, .null, .int 0, .int 0]) (C := RX7) (T := TX7) (N := 9) hx hb hts wiRX7 tyX7 tyX7_ok hown (hts _ cl_RL_7) (hts _ is_RX7) (hts _ inRX7) hKA hP hD hS hA rfl (by decide +kernel) (Nat.le_of_ble_eq_true rfl) (Nat.le_of_ble_eq_true rfl) dL_law_0 (fun q1 H1 hP1 hD1 hS1 => ?_)
  have hP1 : va_P (dC, dI) vwCl (wld [.inr (6, [(3, 0), (3, 0), (3, 0), (3, 0), (3, 0), (3, 0), (3, 0), (1, 0), (1, 0)])] (fun _ => q1) cA zsg) H1 := hP1
  have hD1 : va_D (fun q : Nat => s.heap.size ≤ q) (wld [.inr (6, [(3, 0), (3, 0), (3, 0), (3, 0), (3, 0), (3, 0), (3, 0), (1, 0), (1, 0)])] (fun _ => q1) cA zsg) := hD1
  refine lv_dup hx hb dL_law_3 rfl ?_
  have cb1 := callB_of (R := room_1) (rm := rmN 6 25 669 132) (mc := 25) (ms := 669) (index := 9) 0 hts (con_words coX7_init) rfl rfl rfl (hts _ inRX7) (hts _ ml_RL_9) hyX7_init (by decide)
  have run1 := va_runI (As := []) (rest := [.ref q1]) (b := q1) (g := F0 m 4 ls [.ref q1, .ref q1]) (H := H1) (locs := []) (cells := 1) (slots := 9) (below := below) (meth := meth) (e := e) ⟨hx, hb, hml, hown, hts⟩ (ncX7_init hc0 l dC dI (fun _ => q1) cA H1.size) ⟨cb1, rfl, hts _ imX7_init⟩ ⟨con_blind, fun U hU hW => ⟨rfl, by rw [hU], by rw [hU]; exact hP1, va_K.moved hW.alike hKA, (hD1).weaken (fun _ _ _ _ => trivial)⟩⟩ rfl rfl hl.1 rfl (lv_room (Nat.le_of_ble_eq_true rfl)) dL_law_4 ⟨Nat.le_of_ble_eq_true rfl, Nat.le_of_ble_eq_true rfl⟩
  intro T1 hT1 X1
  obtain ⟨v1, sx1, t1, U1, L1, hh1, Y1, hL1, e11, e21, ⟨⟨ad1, hv1, ha1, hPc, hKx1, hDc⟩, hz1, hk1⟩, stp1⟩ := run1 T1 hT1 X1
  cases hv1
  rw [hh1] at hz1 hk1
  have hF1 : ∀ q, va_A (wld [.inr (6, [(3, 0), (3, 0), (3, 0), (3, 0), (3, 0), (3, 0), (3, 0), (1, 0), (1, 0)])] (fun _ => q1) cA zsg) H1.size q → s.heap.size ≤ q := by
    intro q h
    rcases h with ⟨k, e, h⟩ | h
    · exact hD1.2 k (q, e) h
    · exact Nat.le_trans hS1.1 h
  have hDcx : va_D (fun q : Nat => s.heap.size ≤ q) (wld tbC ad1 cA c0) := hDc.weaken (fun k q _ h => hF1 q.1 h)
  have hS2 : va_S (fun q : Nat => s.heap.size ≤ q) s.heap t1.heap ([] ++ L1) := ⟨Nat.le_trans hS1.1 hz1, fun q h1 h2 => by rw [hk1 q (Nat.lt_of_lt_of_le h1 hS1.1) (fun z => h2 (hF1 q z))]; exact hS1.2.1 q h1 h2, fun q hq => hF1 _ (hL1 q (by simpa using hq))⟩
  have ha10 : ad1 0 = q1 := ha1 0 (by decide)
  have key : W p l e room_1 s m #[Value.ref b] below meth c t1.heap ([] ++ L1) 26 678 (lw_Z below #[Value.ref b] s) (F0 m 7 ls [.ref q1]) := by
    refine lv_astore_n (lv' := [(1, .ref q1), (0, .ref b)]) hx hb dL_law_7 rfl hl (by decide) rfl (fun ls hl => ?_)
    refine va_new (ci := 7) (fs := [.int 0, .null, .int 0, .null, .null, .int 0, .null, .int 0, .int 0, .null, .null, .null, .null, .int 0, .null, .int 0, .null, .int 0, .null, .null, .null, .null, .int 0, .null, .long 0]) (C := RX8) (T := TX8) (N := 25) hx hb hts wiRX8 tyX8 tyX8_ok hown (hts _ cl_RL_10) (hts _ is_RX8) (hts _ inRX8) hKA hPc hDcx hS2 hA rfl (by decide +kernel) (Nat.le_of_ble_eq_true rfl) (Nat.le_of_ble_eq_true rfl) dL_law_8 (fun q2 H3 hP3 hD3 hS3 => ?_)
    have hPc3 : va_P (dC, dI) vwCl (wld tbC ad1 cA c0) H3 := fun k q hq => hP3 k q (by rw [List.getElem?_append_left (List.getElem?_eq_some_iff.mp hq).1]; exact hq)
    have hw2 : wld [.inr (7, [(1, 0), (3, 0), (1, 0), (3, 0), (3, 0), (1, 0), (3, 0), (1, 0), (1, 0), (3, 0), (3, 0), (3, 0), (3, 0), (1, 0), (3, 0), (1, 0), (3, 0), (1, 0), (3, 0), (3, 0), (3, 0), (3, 0), (1, 0), (3, 0), (2, 0)])] (fun _ => q2) cA zsg = [(q2, .inr (7, [.int 0, .null, .int 0, .null, .null, .int 0, .null, .int 0, .int 0, .null, .null, .null, .null, .int 0, .null, .int 0, .null, .int 0, .null, .null, .null, .null, .int 0, .null, .long 0]))] := by simp [wld, cel, fv, rd, rdL, zsg, List.mapIdx_cons]
    have hlen : (wld tbC ad1 cA c0).length = 26 := by unfold wld; rw [List.length_mapIdx]; rfl
    have hget : ∀ (k : Nat) (q : Nat × va_E), (wld [.inr (7, [(1, 0), (3, 0), (1, 0), (3, 0), (3, 0), (1, 0), (3, 0), (1, 0), (1, 0), (3, 0), (3, 0), (3, 0), (3, 0), (1, 0), (3, 0), (1, 0), (3, 0), (1, 0), (3, 0), (3, 0), (3, 0), (3, 0), (1, 0), (3, 0), (2, 0)])] (fun _ => q2) cA zsg)[k]? = some q → (wld tbC ad1 cA c0 ++ [(q2, .inr (7, [.int 0, .null, .int 0, .null, .null, .int 0, .null, .int 0, .int 0, .null, .null, .null, .null, .int 0, .null, .int 0, .null, .int 0, .null, .null, .null, .null, .int 0, .null, .long 0]))])[26 + k]? = some q := by
      intro k q hq
      rw [hw2] at hq
      rw [List.getElem?_append_right (by omega), hlen, Nat.add_sub_cancel_left]
      exact hq
    have hPm3 : va_P (dC, dI) vwCl (wld [.inr (7, [(1, 0), (3, 0), (1, 0), (3, 0), (3, 0), (1, 0), (3, 0), (1, 0), (1, 0), (3, 0), (3, 0), (3, 0), (3, 0), (1, 0), (3, 0), (1, 0), (3, 0), (1, 0), (3, 0), (3, 0), (3, 0), (3, 0), (1, 0), (3, 0), (2, 0)])] (fun _ => q2) cA zsg) H3 := fun k q hq => hP3 (26 + k) q (hget k q hq)
    have hDm3 : va_D (fun q : Nat => s.heap.size ≤ q) (wld [.inr (7, [(1, 0), (3, 0), (1, 0), (3, 0), (3, 0), (1, 0), (3, 0), (1, 0), (1, 0), (3, 0), (3, 0), (3, 0), (3, 0), (1, 0), (3, 0), (1, 0), (3, 0), (1, 0), (3, 0), (3, 0), (3, 0), (3, 0), (1, 0), (3, 0), (2, 0)])] (fun _ => q2) cA zsg) := ⟨fun i j p q hp hq e => by
      have := hD3.1 (26 + i) (26 + j) p q (hget i p hp) (hget j q hq) e
      omega, fun k q hq => hD3.2 (26 + k) q (hget k q hq)⟩
    have hap3 : apt (wld [.inr (7, [(1, 0), (3, 0), (1, 0), (3, 0), (3, 0), (1, 0), (3, 0), (1, 0), (1, 0), (3, 0), (3, 0), (3, 0), (3, 0), (1, 0), (3, 0), (1, 0), (3, 0), (1, 0), (3, 0), (3, 0), (3, 0), (3, 0), (1, 0), (3, 0), (2, 0)])] (fun _ => q2) cA zsg) (wld tbC ad1 cA c0) := by
      intro i j p q hp hq e
      have hj := (List.getElem?_eq_some_iff.mp hq).1
      have := hD3.1 (26 + i) j p q (hget i p hp) (by rw [List.getElem?_append_left hj]; exact hq) e
      omega
    refine lv_dup hx hb dL_law_11 rfl ?_
    have cb2 := callB_of (R := room_1) (rm := rmN 1 15 534 12) (mc := 15) (ms := 534) (index := 12) 0 hts (con_words coX8_init) rfl rfl rfl (hts _ inRX8) (hts _ ml_RL_12) hyX8_init (by decide)
    have run2 := va_runI (As := []) (rest := [.ref q2]) (b := q2) (g := F0 m 12 ls [.ref q2, .ref q2]) (H := H3) (locs := [] ++ L1) (cells := 27) (slots := 703) (below := below) (meth := meth) (e := e) ⟨hx, hb, hml, hown, hts⟩ (ncX8_init l dC dI (fun _ => q2) cA H3.size) ⟨cb2, rfl, hts _ imX8_init⟩ ⟨con_blind, fun U hU hW => ⟨rfl, by rw [hU], by rw [hU]; exact hPm3, va_K.moved hW.alike hKA, (hDm3).weaken (fun _ _ _ _ => trivial)⟩⟩ rfl rfl hl.1 rfl (lv_room (Nat.le_of_ble_eq_true rfl)) dL_law_12 ⟨Nat.le_of_ble_eq_true rfl, Nat.le_of_ble_eq_true rfl⟩
    intro T2 hT2 X2
    obtain ⟨v2, sx2, t2, U2, L2, hh2, Y2, hL2, e12, e22, ⟨⟨ad2, hv2, ha2, hPm, hKx2, hDm⟩, hz2, hk2⟩, stp2⟩ := run2 T2 hT2 X2
    cases hv2
    rw [hh2] at hz2 hk2
    have hF2 : ∀ q, va_A (wld [.inr (7, [(1, 0), (3, 0), (1, 0), (3, 0), (3, 0), (1, 0), (3, 0), (1, 0), (1, 0), (3, 0), (3, 0), (3, 0), (3, 0), (1, 0), (3, 0), (1, 0), (3, 0), (1, 0), (3, 0), (3, 0), (3, 0), (3, 0), (1, 0), (3, 0), (2, 0)])] (fun _ => q2) cA zsg) H3.size q → s.heap.size ≤ q := by
      intro q h
      rcases h with ⟨k, e, h⟩ | h
      · exact hDm3.2 k (q, e) h
      · exact Nat.le_trans hS3.1 h
    have hPc4 : va_P (dC, dI) vwCl (wld tbC ad1 cA c0) t2.heap := apt_keep hap3 hPc3 hk2
    have hap4 : apt (wld tbM ad2 cA zsg) (wld tbC ad1 cA c0) := apt_next hap3 hPc3 hDm
    have hDmx : va_D (fun q : Nat => s.heap.size ≤ q) (wld tbM ad2 cA zsg) := hDm.weaken (fun k q _ h => hF2 q.1 h)
    have hS4 : va_S (fun q : Nat => s.heap.size ≤ q) s.heap t2.heap (([] ++ L1) ++ L2) := ⟨Nat.le_trans hS3.1 hz2, fun q h1 h2 => by rw [hk2 q (Nat.lt_of_lt_of_le h1 hS3.1) (fun z => h2 (hF2 q z))]; exact hS3.2.1 q h1 h2, fun q hq => by
      rcases List.mem_append.mp hq with h | h
      · exact hS3.2.2 q h
      · exact hF2 _ (hL2 q h)⟩
    have ha20 : ad2 0 = q2 := ha2 0 (by decide)
    have key2 : W p l e room_1 s m #[Value.ref b] below meth c t2.heap (([] ++ L1) ++ L2) 42 1237 (lw_Z below #[Value.ref b] s) (F0 m 15 ls [.ref q2]) := by
      refine lv_astore_n (lv' := [(2, .ref q2), (1, .ref q1), (0, .ref b)]) hx hb dL_law_15 rfl hl (by decide) rfl (fun ls hl => ?_)
      refine lv_iconst (v := 0) hx hb dL_law_16 (by decide) ?_
      refine lv_istore_n (lv' := [(3, .int 0), (2, .ref q2), (1, .ref q1), (0, .ref b)]) hx hb dL_law_17 rfl hl (by decide) rfl (fun ls hl => ?_)
      subst ha10; subst ha20
      exact law_loop S (xs := xs) hL (L + 5) 0 0 c0 zsg (by omega) (by omega) nI_0.symm hR0 p l e s m below meth c b dC dI ad1 ad2 cA t2.heap _ ls C0 hKA hPc4 hPm hDcx hDmx hap4.symm hS4 (lv_sub hl [3, 2, 1, 0] rfl)
    obtain ⟨tf, a1, b1⟩ := key2 U2 e12 Y2
    exact ⟨tf, stp2 tf a1, b1⟩
  obtain ⟨tf, a1, b1⟩ := key U1 e11 Y1
  exact ⟨tf, stp1 tf a1, b1⟩
