set_option maxRecDepth 100000 in
set_option maxHeartbeats 400000 in
theorem conX4_append {sg : Sg} {a1 : Int32} {oM : Sg} (h : fX4_append a1 sg = some oM) : Con tbC yX4_append cX4_append 2 none 0 0 [.ref 1, .int a1] sg (PoV oM) := by
  refine Con.of (by decide) (Nat.le_of_ble_eq_true rfl) ?_
  show PW tbC RX4 cX4_append 2 none 0 0 (PoV oM) 0 [(0, .ref 1), (1, .int a1)] [] sg
  have hs := h
  unfold fX4_append at hs
  have J32 : ∀ (sg : Sg), fX4_append_J32 sg = some oM → PW tbC RX4 cX4_append 2 none 0 0 (PoV oM) 32 [] [] sg := by
    intro sg hs
    unfold fX4_append_J32 at hs
    have hr := Option.some.inj hs
    exact pw_return dX4_append_32 rfl ⟨rfl, hr⟩
  refine pw_aload_n 0 dX4_append_0 rfl rfl ?_
  refine pw_geti 1 dX4_append_1 clRX4 tC1 (Nat.le_of_ble_eq_true rfl) fRX4_15 rfl ?_
  refine pw_bipush (6 : Int32) dX4_append_4 (by decide) ?_
  refine pw_icmp_ge 32 dX4_append_6 (by decide) (fun c_4 => ?_) (fun c_4 => ?_)
  · rw [if_pos c_4] at hs
    exact PW.sub (lv' := []) [] rfl (J32 sg hs)
  · rw [if_neg c_4] at hs
    refine pw_aload_n 0 dX4_append_9 rfl rfl ?_
    refine pw_getr 0 dX4_append_10 clRX4 tC1 (Nat.le_of_ble_eq_true rfl) fRX4_9 rfl ?_
    refine pw_aload_n 0 dX4_append_13 rfl rfl ?_
    refine pw_geti 1 dX4_append_14 clRX4 tC1 (Nat.le_of_ble_eq_true rfl) fRX4_15 rfl ?_
    refine pw_iload_n 1 dX4_append_17 rfl rfl ?_
    refine pw_bipush (48 : Int32) dX4_append_18 (by decide) ?_
    refine pw_isub dX4_append_20 ?_
    obtain ⟨h_1, hs⟩ := gd_some hs
    refine pw_iastore dX4_append_21 tC2 (inb_in h_1) ?_
    refine pw_sg (fun sg_2 e_sg_2 => ?_)
    replace hs := lt_use hs e_sg_2
    refine pw_aload_n 0 dX4_append_22 rfl rfl ?_
    refine pw_dup dX4_append_23 rfl ?_
    refine pw_geti 1 dX4_append_24 clRX4 tC1 (Nat.le_of_ble_eq_true rfl) fRX4_15 rfl ?_
    refine pw_iconst (1 : Int32) dX4_append_27 (by decide) ?_
    refine pw_iadd dX4_append_28 ?_
    refine pw_puti 1 (fty := .int) dX4_append_29 clRX4 tC1 (Nat.le_of_ble_eq_true rfl) fRX4_15 rfl rfl (by decide +kernel) rfl rfl ?_
    refine pw_sg (fun sg_3 e_sg_3 => ?_)
    replace hs := lt_use hs e_sg_3
    exact PW.sub (lv' := []) [] rfl (J32 sg_3 hs)
set_option maxRecDepth 100000 in
set_option maxHeartbeats 400000 in
theorem conX7_letter {sg : Sg} {a1 : Int32} {oM : Int32 × Sg} (h : fX7_letter a1 sg = some oM) : Con tbC yX7_letter cX7_letter 2 (some .int) 1 21 [.ref 0, .int a1] sg (PoI oM.1 oM.2) := by
  refine Con.of (by decide) (Nat.le_of_ble_eq_true rfl) ?_
  show PW tbC RX7 cX7_letter 2 (some .int) 1 21 (PoI oM.1 oM.2) 0 [(0, .ref 0), (1, .int a1)] [] sg
  have hs := h
  unfold fX7_letter at hs
  have J12 : ∀ (sg : Sg), fX7_letter_J12 sg = some oM → PW tbC RX7 cX7_letter 2 (some .int) 1 21 (PoI oM.1 oM.2) 12 [] [] sg := by
    intro sg hs
    unfold fX7_letter_J12 at hs
    refine pw_sipush (-1002 : Int32) dX7_letter_12 (by decide) ?_
    have hr := Option.some.inj hs
    exact pw_ireturn dX7_letter_15 rfl ⟨by rw [← hr], by rw [← hr]⟩
  refine pw_iload_n 1 dX7_letter_0 rfl rfl ?_
  refine pw_bipush (32 : Int32) dX7_letter_1 (by decide) ?_
  refine pw_icmp_lt 12 dX7_letter_3 (by decide) (fun c_5 => ?_) (fun c_5 => ?_)
  · rw [if_pos c_5] at hs
    exact PW.sub (lv' := []) [] rfl (J12 sg hs)
  · rw [if_neg c_5] at hs
    refine pw_iload_n 1 dX7_letter_6 rfl rfl ?_
    refine pw_bipush (126 : Int32) dX7_letter_7 (by decide) ?_
    refine pw_icmp_le 16 dX7_letter_9 (by decide) (fun c_4 => ?_) (fun c_4 => ?_)
    · rw [if_pos c_4] at hs
      refine pw_aload_n 0 dX7_letter_16 rfl rfl ?_
      refine pw_getr 0 dX7_letter_17 clRX7 tC0 (Nat.le_of_ble_eq_true rfl) fRX7_10 rfl ?_
      refine pw_geti 1 dX7_letter_20 clRX4 tC1 (Nat.le_of_ble_eq_true rfl) fRX7_65 rfl ?_
      refine pw_bipush (6 : Int32) dX7_letter_23 (by decide) ?_
      refine pw_icmp_lt 32 dX7_letter_25 (by decide) (fun c_3 => ?_) (fun c_3 => ?_)
      · rw [if_pos c_3] at hs
        refine pw_aload_n 0 dX7_letter_32 rfl rfl ?_
        refine pw_getr 0 dX7_letter_33 clRX7 tC0 (Nat.le_of_ble_eq_true rfl) fRX7_10 rfl ?_
        refine pw_iload_n 1 dX7_letter_36 rfl rfl ?_
        obtain ⟨sg_2, hc_1, hs⟩ := Option.bind_eq_some_iff.mp hs
        refine pw_callVv [.int a1] (st := []) dX7_letter_37 tC1 rfl mRX7_68 imX4_append seX4_append inRX4 coX4_append hyX4_append (by decide) (Nat.le_of_ble_eq_true rfl) (conX4_append hc_1) ?_
        refine pw_aload_n 0 dX7_letter_40 rfl rfl ?_
        refine pw_getr 0 dX7_letter_41 clRX7 tC0 (Nat.le_of_ble_eq_true rfl) fRX7_10 rfl ?_
        refine pw_geti 1 dX7_letter_44 clRX4 tC1 (Nat.le_of_ble_eq_true rfl) fRX7_65 rfl ?_
        have hr := Option.some.inj hs
        exact pw_ireturn dX7_letter_47 rfl ⟨by rw [← hr], by rw [← hr]⟩
      · rw [if_neg c_3] at hs
        refine pw_sipush (-1004 : Int32) dX7_letter_28 (by decide) ?_
        have hr := Option.some.inj hs
        exact pw_ireturn dX7_letter_31 rfl ⟨by rw [← hr], by rw [← hr]⟩
    · rw [if_neg c_4] at hs
      exact PW.sub (lv' := []) [] rfl (J12 sg hs)
set_option maxRecDepth 100000 in
set_option maxHeartbeats 400000 in
theorem conX7_blank {sg : Sg}  {oM : Int32 × Sg} (h : fX7_blank  sg = some oM) : Con tbC yX7_blank cX7_blank 2 (some .int) 0 0 [.ref 0] sg (PoI oM.1 oM.2) := by
  refine Con.of (by decide) (Nat.le_of_ble_eq_true rfl) ?_
  show PW tbC RX7 cX7_blank 2 (some .int) 0 0 (PoI oM.1 oM.2) 0 [(0, .ref 0)] [] sg
  have hs := h
  unfold fX7_blank at hs
  refine pw_aload_n 0 dX7_blank_0 rfl rfl ?_
  refine pw_getr 0 dX7_blank_1 clRX7 tC0 (Nat.le_of_ble_eq_true rfl) fRX7_10 rfl ?_
  refine pw_geti 1 dX7_blank_4 clRX4 tC1 (Nat.le_of_ble_eq_true rfl) fRX7_65 rfl ?_
  refine pw_istore_n [(1, .int (rd sg 1 1)), (0, .ref 0)] dX7_blank_7 rfl (Nat.le_of_ble_eq_true rfl) rfl ?_
  refine pw_aload_n 1 dX7_blank_8 rfl rfl ?_
  refine pw_getr 0 dX7_blank_9 clRX7 tC0 (Nat.le_of_ble_eq_true rfl) fRX7_10 rfl ?_
  refine pw_iconst (0 : Int32) dX7_blank_12 (by decide) ?_
  refine pw_puti 1 (fty := .int) dX7_blank_13 clRX4 tC1 (Nat.le_of_ble_eq_true rfl) fRX7_65 rfl rfl (by decide +kernel) rfl rfl ?_
  refine pw_sg (fun sg_1 e_sg_1 => ?_)
  replace hs := lt_use hs e_sg_1
  refine pw_iload_n 0 dX7_blank_16 rfl rfl ?_
  have hr := Option.some.inj hs
  exact pw_ireturn dX7_blank_17 rfl ⟨by rw [← hr], by rw [← hr]⟩
set_option maxRecDepth 100000 in
set_option maxHeartbeats 400000 in
theorem conX0_isNet {tab : Tb} {sg : Sg} {a0 : Int32} {oM : Int32} (h : fX0_isNet a0 = some oM) : Con tab yX0_isNet cX0_isNet 1 (some .boolean) 0 0 [.int a0] sg (PoI oM sg) := by
  refine Con.of (by decide) (Nat.le_of_ble_eq_true rfl) ?_
  show PW tab RX0 cX0_isNet 1 (some .boolean) 0 0 (PoI oM sg) 0 [(0, .int a0)] [] sg
  have hs := h
  unfold fX0_isNet at hs
  have J15 : ∀ (s0 : Int32), fX0_isNet_J15 s0 = some oM → PW tab RX0 cX0_isNet 1 (some .boolean) 0 0 (PoI oM sg) 15 [] [.int s0] sg := by
    intro s0 hs
    unfold fX0_isNet_J15 at hs
    obtain ⟨h_3, hs⟩ := gd_some hs
    have hr := Option.some.inj hs
    exact pw_zreturn dX0_isNet_15 rfl (zb_ok h_3) ⟨by rw [hr], rfl⟩
  have J14 : fX0_isNet_J14  = some oM → PW tab RX0 cX0_isNet 1 (some .boolean) 0 0 (PoI oM sg) 14 [] [] sg := by
    intro  hs
    unfold fX0_isNet_J14 at hs
    refine pw_iconst (0 : Int32) dX0_isNet_14 (by decide) ?_
    exact PW.sub (lv' := []) [] rfl (J15 (0 : Int32) hs)
  refine pw_iload_n 0 dX0_isNet_0 rfl rfl ?_
  refine pw_if_lt 14 dX0_isNet_1 (by decide) (fun c_2 => ?_) (fun c_2 => ?_)
  · rw [if_pos c_2] at hs
    exact PW.sub (lv' := []) [] rfl (J14  hs)
  · rw [if_neg c_2] at hs
    refine pw_iload_n 0 dX0_isNet_4 rfl rfl ?_
    refine pw_bipush (8 : Int32) dX0_isNet_5 (by decide) ?_
    refine pw_icmp_ge 14 dX0_isNet_7 (by decide) (fun c_1 => ?_) (fun c_1 => ?_)
    · rw [if_pos c_1] at hs
      exact PW.sub (lv' := []) [] rfl (J14  hs)
    · rw [if_neg c_1] at hs
      refine pw_iconst (1 : Int32) dX0_isNet_10 (by decide) ?_
      refine pw_goto 15 dX0_isNet_11 (by decide) ?_
      exact PW.sub (lv' := []) [] rfl (J15 (1 : Int32) hs)
set_option maxRecDepth 100000 in
set_option maxHeartbeats 400000 in
theorem conX0_has {tab : Tb} {sg : Sg} {a0 : Int32} {a1 : Int32} {oM : Int32} (h : fX0_has a0 a1 = some oM) : Con tab yX0_has cX0_has 2 (some .boolean) 0 0 [.int a0, .int a1] sg (PoI oM sg) := by
  refine Con.of (by decide) (Nat.le_of_ble_eq_true rfl) ?_
  show PW tab RX0 cX0_has 2 (some .boolean) 0 0 (PoI oM sg) 0 [(0, .int a0), (1, .int a1)] [] sg
  have hs := h
  unfold fX0_has at hs
  have J14 : ∀ (s0 : Int32), fX0_has_J14 s0 = some oM → PW tab RX0 cX0_has 2 (some .boolean) 0 0 (PoI oM sg) 14 [] [.int s0] sg := by
    intro s0 hs
    unfold fX0_has_J14 at hs
    obtain ⟨h_2, hs⟩ := gd_some hs
    have hr := Option.some.inj hs
    exact pw_zreturn dX0_has_14 rfl (zb_ok h_2) ⟨by rw [hr], rfl⟩
  refine pw_iload_n 0 dX0_has_0 rfl rfl ?_
  refine pw_iload_n 1 dX0_has_1 rfl rfl ?_
  refine pw_ishr dX0_has_2 ?_
  refine pw_iconst (1 : Int32) dX0_has_3 (by decide) ?_
  refine pw_iand dX0_has_4 ?_
  refine pw_iconst (1 : Int32) dX0_has_5 (by decide) ?_
  refine pw_icmp_ne 13 dX0_has_6 (by decide) (fun c_1 => ?_) (fun c_1 => ?_)
  · rw [if_neg c_1] at hs
    refine pw_iconst (0 : Int32) dX0_has_13 (by decide) ?_
    exact PW.sub (lv' := []) [] rfl (J14 (0 : Int32) hs)
  · rw [if_pos c_1] at hs
    refine pw_iconst (1 : Int32) dX0_has_9 (by decide) ?_
    refine pw_goto 14 dX0_has_10 (by decide) ?_
    exact PW.sub (lv' := []) [] rfl (J14 (1 : Int32) hs)
set_option maxRecDepth 100000 in
set_option maxHeartbeats 400000 in
theorem conX4_firstFault {sg : Sg}  {oM : Int32} (h : fX4_firstFault  sg = some oM) : Con tbC yX4_firstFault cX4_firstFault 4 (some .int) 1 21 [.ref 1] sg (PoI oM sg) := by
  refine Con.of (by decide) (Nat.le_of_ble_eq_true rfl) ?_
  show PW tbC RX4 cX4_firstFault 4 (some .int) 1 21 (PoI oM sg) 0 [(0, .ref 1)] [] sg
  have hs := h
  unfold fX4_firstFault at hs
  refine pw_iconst (0 : Int32) dX4_firstFault_0 (by decide) ?_
  refine pw_istore_n [(1, .int (0 : Int32)), (0, .ref 1)] dX4_firstFault_1 rfl (Nat.le_of_ble_eq_true rfl) rfl ?_
  refine pw_iconst (0 : Int32) dX4_firstFault_2 (by decide) ?_
  refine pw_istore_n [(2, .int (0 : Int32)), (1, .int (0 : Int32)), (0, .ref 1)] dX4_firstFault_3 rfl (Nat.le_of_ble_eq_true rfl) rfl ?_
  obtain ⟨u, hL, hs⟩ := Option.bind_eq_some_iff.mp hs
  refine PW.sub [2, 1, 0] (lv' := [(0, .ref 1), (1, .int (0 : Int32)), (2, .int (0 : Int32))]) rfl ?_
  refine lpO_pw (T := Int32 × Int32) (X := fun t => PW tbC RX4 cX4_firstFault 4 (some .int) 1 21 (PoI oM sg) 4 [(0, .ref 1), (1, .int t.1), (2, .int t.2)] [] sg) (E := fun t => PW tbC RX4 cX4_firstFault 4 (some .int) 1 21 (PoI oM sg) 48 [(0, .ref 1), (1, .int t.1), (2, .int t.2)] [] sg) (PR := fun r => r = oM) (step := (fun t => fX4_firstFault_L4 sg t.1 t.2)) ?_ 300 ((0 : Int32), (0 : Int32)) u hL ?_ ?_
  · intro t oL hs hE hR hC
    obtain ⟨a1, a2⟩ := t
    replace hs : fX4_firstFault_L4 sg a1 a2 = some oL := hs
    show PW tbC RX4 cX4_firstFault 4 (some .int) 1 21 (PoI oM sg) 4 [(0, .ref 1), (1, .int a1), (2, .int a2)] [] sg
    unfold fX4_firstFault_L4 at hs
    have J34 : ∀ (a2 : Int32), fX4_firstFault_L4_J34 a2 sg = some oL → PW tbC RX4 cX4_firstFault 4 (some .int) 1 21 (PoI oM sg) 34 [(2, .int a2)] [] sg := by
      intro a2 hs
      unfold fX4_firstFault_L4_J34 at hs
      refine pw_iload_n 0 dX4_firstFault_34 rfl rfl ?_
      have hr := hR _ (Option.some.inj hs).symm
      exact pw_ireturn dX4_firstFault_35 rfl ⟨by rw [hr], rfl⟩
    refine pw_iload_n 2 dX4_firstFault_4 rfl rfl ?_
    refine pw_aload_n 0 dX4_firstFault_5 rfl rfl ?_
    refine pw_geti 1 dX4_firstFault_6 clRX4 tC1 (Nat.le_of_ble_eq_true rfl) fRX4_15 rfl ?_
    refine pw_icmp_ge 48 dX4_firstFault_9 (by decide) (fun c_10 => ?_) (fun c_10 => ?_)
    · rw [if_pos c_10] at hs
      exact PW.sub (lv' := [(0, .ref 1), (1, .int a1), (2, .int a2)]) [0, 1, 2] rfl (hE (a1, a2) (Option.some.inj hs).symm)
    · rw [if_neg c_10] at hs
      refine pw_aload_n 0 dX4_firstFault_12 rfl rfl ?_
      refine pw_getr 0 dX4_firstFault_13 clRX4 tC1 (Nat.le_of_ble_eq_true rfl) fRX4_9 rfl ?_
      refine pw_iload_n 2 dX4_firstFault_16 rfl rfl ?_
      obtain ⟨h_1, hs⟩ := gd_some hs
      refine pw_iaload dX4_firstFault_17 tC2 (inb_in h_1) ?_
      refine pw_topi (fun a3_2 e_a3_2 => ?_)
      replace hs := lt_use hs e_a3_2
      refine pw_istore_n [(3, .int a3_2), (0, .ref 1), (1, .int a1), (2, .int a2)] dX4_firstFault_18 rfl (Nat.le_of_ble_eq_true rfl) rfl ?_
      refine pw_iload_n 0 dX4_firstFault_19 rfl rfl ?_
      obtain ⟨r_4, hc_3, hs⟩ := Option.bind_eq_some_iff.mp hs
      refine pw_callSi [.int a3_2] (st := []) dX4_firstFault_20 mRX4_19 stX0_isNet inRX0 coX0_isNet hyX0_isNet (by decide) (Nat.le_of_ble_eq_true rfl) (conX0_isNet hc_3) ?_
      refine pw_if_eq 34 dX4_firstFault_23 (by decide) (fun c_9 => ?_) (fun c_9 => ?_)
      · rw [if_pos c_9] at hs
        exact PW.sub (lv' := [(2, .int a2)]) [3] rfl (J34 a2 hs)
      · rw [if_neg c_9] at hs
        refine pw_iload_n 2 dX4_firstFault_26 rfl rfl ?_
        refine pw_iload_n 0 dX4_firstFault_27 rfl rfl ?_
        obtain ⟨r_6, hc_5, hs⟩ := Option.bind_eq_some_iff.mp hs
        refine pw_callSi [.int a1, .int a3_2] (st := []) dX4_firstFault_28 mRX4_25 stX0_has inRX0 coX0_has hyX0_has (by decide) (Nat.le_of_ble_eq_true rfl) (conX0_has hc_5) ?_
        refine pw_if_eq 36 dX4_firstFault_31 (by decide) (fun c_8 => ?_) (fun c_8 => ?_)
        · rw [if_pos c_8] at hs
          refine pw_iload_n 2 dX4_firstFault_36 rfl rfl ?_
          refine pw_iconst (1 : Int32) dX4_firstFault_37 (by decide) ?_
          refine pw_iload_n 0 dX4_firstFault_38 rfl rfl ?_
          refine pw_ishl dX4_firstFault_39 ?_
          refine pw_ior dX4_firstFault_40 ?_
          refine pw_topi (fun a1_7 e_a1_7 => ?_)
          replace hs := lt_use hs e_a1_7
          refine pw_istore_n [(1, .int a1_7), (3, .int a3_2), (0, .ref 1), (2, .int a2)] dX4_firstFault_41 rfl (Nat.le_of_ble_eq_true rfl) rfl ?_
          refine pw_iinc 3 (a2 + 1) [(2, .int (a2 + 1)), (1, .int a1_7), (3, .int a3_2), (0, .ref 1)] dX4_firstFault_42 rfl rfl (Nat.le_of_ble_eq_true rfl) rfl ?_
          refine pw_goto 4 dX4_firstFault_45 (by decide) ?_
          exact PW.sub (lv' := [(0, .ref 1), (1, .int a1_7), (2, .int (a2 + 1))]) [3, 1, 0] rfl (hC (a1_7, (a2 + 1)) (Option.some.inj hs).symm)
        · rw [if_neg c_8] at hs
          exact PW.sub (lv' := [(2, .int a2)]) [3] rfl (J34 a2 hs)
  · intro t hu
    subst hu
    obtain ⟨a1_11, a2_12⟩ := t
    replace hs : fX4_firstFault_E48 a1_11 a2_12 sg = some oM := hs
    show PW tbC RX4 cX4_firstFault 4 (some .int) 1 21 (PoI oM sg) 48 [(0, .ref 1), (1, .int a1_11), (2, .int a2_12)] [] sg
    unfold fX4_firstFault_E48 at hs
    refine pw_aload_n 0 dX4_firstFault_48 rfl rfl ?_
    refine pw_geti 1 dX4_firstFault_49 clRX4 tC1 (Nat.le_of_ble_eq_true rfl) fRX4_15 rfl ?_
    have hr := Option.some.inj hs
    exact pw_ireturn dX4_firstFault_52 rfl ⟨by rw [hr], rfl⟩
  · intro r hu
    subst hu
    exact Option.some.inj hs
set_option maxRecDepth 100000 in
set_option maxHeartbeats 400000 in
theorem conX7_fault {sg : Sg}  {oM : Int32} (h : fX7_fault  sg = some oM) : Con tbC yX7_fault cX7_fault 1 (some .int) 2 44 [.ref 0] sg (PoI oM sg) := by
  refine Con.of (by decide) (Nat.le_of_ble_eq_true rfl) ?_
  show PW tbC RX7 cX7_fault 1 (some .int) 2 44 (PoI oM sg) 0 [(0, .ref 0)] [] sg
  have hs := h
  unfold fX7_fault at hs
  refine pw_aload_n 0 dX7_fault_0 rfl rfl ?_
  refine pw_getr 0 dX7_fault_1 clRX7 tC0 (Nat.le_of_ble_eq_true rfl) fRX7_10 rfl ?_
  obtain ⟨r_2, hc_1, hs⟩ := Option.bind_eq_some_iff.mp hs
  refine pw_callVi [] (st := []) dX7_fault_4 tC1 rfl mRX7_72 imX4_firstFault seX4_firstFault inRX4 coX4_firstFault hyX4_firstFault (by decide) (Nat.le_of_ble_eq_true rfl) (conX4_firstFault hc_1) ?_
  have hr := Option.some.inj hs
  exact pw_ireturn dX7_fault_7 rfl ⟨by rw [hr], rfl⟩
set_option maxRecDepth 100000 in
set_option maxHeartbeats 400000 in
theorem conX4_isWay {sg : Sg}  {oM : Int32} (h : fX4_isWay  sg = some oM) : Con tbC yX4_isWay cX4_isWay 1 (some .boolean) 2 44 [.ref 1] sg (PoI oM sg) := by
  refine Con.of (by decide) (Nat.le_of_ble_eq_true rfl) ?_
  show PW tbC RX4 cX4_isWay 1 (some .boolean) 2 44 (PoI oM sg) 0 [(0, .ref 1)] [] sg
  have hs := h
  unfold fX4_isWay at hs
  have J24 : ∀ (s0 : Int32), fX4_isWay_J24 s0 sg = some oM → PW tbC RX4 cX4_isWay 1 (some .boolean) 2 44 (PoI oM sg) 24 [] [.int s0] sg := by
    intro s0 hs
    unfold fX4_isWay_J24 at hs
    obtain ⟨h_5, hs⟩ := gd_some hs
    have hr := Option.some.inj hs
    exact pw_zreturn dX4_isWay_24 rfl (zb_ok h_5) ⟨by rw [hr], rfl⟩
  have J23 : fX4_isWay_J23 sg = some oM → PW tbC RX4 cX4_isWay 1 (some .boolean) 2 44 (PoI oM sg) 23 [] [] sg := by
    intro  hs
    unfold fX4_isWay_J23 at hs
    refine pw_iconst (0 : Int32) dX4_isWay_23 (by decide) ?_
    exact PW.sub (lv' := []) [] rfl (J24 (0 : Int32) hs)
  refine pw_aload_n 0 dX4_isWay_0 rfl rfl ?_
  refine pw_geti 1 dX4_isWay_1 clRX4 tC1 (Nat.le_of_ble_eq_true rfl) fRX4_15 rfl ?_
  refine pw_iconst (2 : Int32) dX4_isWay_4 (by decide) ?_
  refine pw_icmp_lt 23 dX4_isWay_5 (by decide) (fun c_4 => ?_) (fun c_4 => ?_)
  · rw [if_pos c_4] at hs
    exact PW.sub (lv' := []) [] rfl (J23  hs)
  · rw [if_neg c_4] at hs
    refine pw_aload_n 0 dX4_isWay_8 rfl rfl ?_
    obtain ⟨r_2, hc_1, hs⟩ := Option.bind_eq_some_iff.mp hs
    refine pw_callVi [] (st := []) dX4_isWay_9 tC1 rfl mRX4_29 imX4_firstFault seX4_firstFault inRX4 coX4_firstFault hyX4_firstFault (by decide) (Nat.le_of_ble_eq_true rfl) (conX4_firstFault hc_1) ?_
    refine pw_aload_n 0 dX4_isWay_12 rfl rfl ?_
    refine pw_geti 1 dX4_isWay_13 clRX4 tC1 (Nat.le_of_ble_eq_true rfl) fRX4_15 rfl ?_
    refine pw_icmp_ne 23 dX4_isWay_16 (by decide) (fun c_3 => ?_) (fun c_3 => ?_)
    · rw [if_neg c_3] at hs
      exact PW.sub (lv' := []) [] rfl (J23  hs)
    · rw [if_pos c_3] at hs
      refine pw_iconst (1 : Int32) dX4_isWay_19 (by decide) ?_
      refine pw_goto 24 dX4_isWay_20 (by decide) ?_
      exact PW.sub (lv' := []) [] rfl (J24 (1 : Int32) hs)
set_option maxRecDepth 100000 in
set_option maxHeartbeats 400000 in
theorem conX6_add_1 {sg : Sg}  {oM : Sg} (h : fX6_add_1  sg = some oM) : Con tbC yX6_add cX6_add 3 none 0 0 [.ref 3, .ref 1] sg (PoV oM) := by
  refine Con.of (by decide) (Nat.le_of_ble_eq_true rfl) ?_
  show PW tbC RX6 cX6_add 3 none 0 0 (PoV oM) 0 [(0, .ref 3), (1, .ref 1)] [] sg
  have hs := h
  unfold fX6_add_1 at hs
  refine pw_aload_n 0 dX6_add_0 rfl rfl ?_
  refine pw_geti 4 dX6_add_1 clRX6 tC3 (Nat.le_of_ble_eq_true rfl) fRX6_24 rfl ?_
  refine pw_bipush (12 : Int32) dX6_add_4 (by decide) ?_
  refine pw_icmp_lt 10 dX6_add_6 (by decide) (fun c_10 => ?_) (fun c_10 => ?_)
  · rw [if_pos c_10] at hs
    refine pw_iconst (0 : Int32) dX6_add_10 (by decide) ?_
    refine pw_istore_n [(2, .int (0 : Int32)), (0, .ref 3), (1, .ref 1)] dX6_add_11 rfl (Nat.le_of_ble_eq_true rfl) rfl ?_
    obtain ⟨t, hL, hs⟩ := Option.bind_eq_some_iff.mp hs
    refine PW.sub [1, 2, 0] (lv' := [(0, .ref 3), (1, .ref 1), (2, .int (0 : Int32))]) rfl ?_
    refine lpS_pw (T := Int32 × Sg) (X := fun t => PW tbC RX6 cX6_add 3 none 0 0 (PoV oM) 12 [(0, .ref 3), (1, .ref 1), (2, .int t.1)] [] t.2) (E := fun t => PW tbC RX6 cX6_add 3 none 0 0 (PoV oM) 46 [(0, .ref 3), (1, .ref 1), (2, .int t.1)] [] t.2) (step := (fun t => fX6_add_1_L12 t.1 t.2)) ?_ 300 ((0 : Int32), sg) t hL ?_
    · intro t oL hs hE hC
      obtain ⟨a2, sg⟩ := t
      replace hs : fX6_add_1_L12 a2 sg = some oL := hs
      show PW tbC RX6 cX6_add 3 none 0 0 (PoV oM) 12 [(0, .ref 3), (1, .ref 1), (2, .int a2)] [] sg
      unfold fX6_add_1_L12 at hs
      refine pw_iload_n 2 dX6_add_12 rfl rfl ?_
      refine pw_aload_n 1 dX6_add_13 rfl rfl ?_
      refine pw_geti 1 dX6_add_14 clRX4 tC1 (Nat.le_of_ble_eq_true rfl) fRX6_28 rfl ?_
      refine pw_icmp_ge 46 dX6_add_17 (by decide) (fun c_4 => ?_) (fun c_4 => ?_)
      · rw [if_pos c_4] at hs
        exact PW.sub (lv' := [(0, .ref 3), (1, .ref 1), (2, .int a2)]) [0, 1, 2] rfl (hE (a2, sg) (Option.some.inj hs).symm)
      · rw [if_neg c_4] at hs
        refine pw_aload_n 0 dX6_add_20 rfl rfl ?_
        refine pw_getr 0 dX6_add_21 clRX6 tC3 (Nat.le_of_ble_eq_true rfl) fRX6_9 rfl ?_
        refine pw_aload_n 0 dX6_add_24 rfl rfl ?_
        refine pw_geti 4 dX6_add_25 clRX6 tC3 (Nat.le_of_ble_eq_true rfl) fRX6_24 rfl ?_
        refine pw_bipush (6 : Int32) dX6_add_28 (by decide) ?_
        refine pw_imul dX6_add_30 ?_
        refine pw_iload_n 2 dX6_add_31 rfl rfl ?_
        refine pw_iadd dX6_add_32 ?_
        refine pw_aload_n 1 dX6_add_33 rfl rfl ?_
        refine pw_getr 0 dX6_add_34 clRX4 tC1 (Nat.le_of_ble_eq_true rfl) fRX6_33 rfl ?_
        refine pw_iload_n 2 dX6_add_37 rfl rfl ?_
        obtain ⟨h_1, hs⟩ := gd_some hs
        refine pw_iaload dX6_add_38 tC2 (inb_in h_1) ?_
        obtain ⟨h_2, hs⟩ := gd_some hs
        refine pw_iastore dX6_add_39 tC4 (inb_in h_2) ?_
        refine pw_sg (fun sg_3 e_sg_3 => ?_)
        replace hs := lt_use hs e_sg_3
        refine pw_iinc 2 (a2 + 1) [(2, .int (a2 + 1)), (0, .ref 3), (1, .ref 1)] dX6_add_40 rfl rfl (Nat.le_of_ble_eq_true rfl) rfl ?_
        refine pw_goto 12 dX6_add_43 (by decide) ?_
        exact PW.sub (lv' := [(0, .ref 3), (1, .ref 1), (2, .int (a2 + 1))]) [1, 2, 0] rfl (hC ((a2 + 1), sg_3) (Option.some.inj hs).symm)
    · skip
      obtain ⟨a2_5, sg_6⟩ := t
      replace hs : fX6_add_1_E46 a2_5 sg_6 = some oM := hs
      show PW tbC RX6 cX6_add 3 none 0 0 (PoV oM) 46 [(0, .ref 3), (1, .ref 1), (2, .int a2_5)] [] sg_6
      unfold fX6_add_1_E46 at hs
      refine pw_aload_n 0 dX6_add_46 rfl rfl ?_
      refine pw_getr 1 dX6_add_47 clRX6 tC3 (Nat.le_of_ble_eq_true rfl) fRX6_15 rfl ?_
      refine pw_aload_n 0 dX6_add_50 rfl rfl ?_
      refine pw_geti 4 dX6_add_51 clRX6 tC3 (Nat.le_of_ble_eq_true rfl) fRX6_24 rfl ?_
      refine pw_aload_n 1 dX6_add_54 rfl rfl ?_
      refine pw_geti 1 dX6_add_55 clRX4 tC1 (Nat.le_of_ble_eq_true rfl) fRX6_28 rfl ?_
      obtain ⟨h_7, hs⟩ := gd_some hs
      refine pw_iastore dX6_add_58 tC5 (inb_in h_7) ?_
      refine pw_sg (fun sg_8 e_sg_8 => ?_)
      replace hs := lt_use hs e_sg_8
      refine pw_aload_n 0 dX6_add_59 rfl rfl ?_
      refine pw_dup dX6_add_60 rfl ?_
      refine pw_geti 4 dX6_add_61 clRX6 tC3 (Nat.le_of_ble_eq_true rfl) fRX6_24 rfl ?_
      refine pw_iconst (1 : Int32) dX6_add_64 (by decide) ?_
      refine pw_iadd dX6_add_65 ?_
      refine pw_puti 4 (fty := .int) dX6_add_66 clRX6 tC3 (Nat.le_of_ble_eq_true rfl) fRX6_24 rfl rfl (by decide +kernel) rfl rfl ?_
      refine pw_sg (fun sg_9 e_sg_9 => ?_)
      replace hs := lt_use hs e_sg_9
      have hr := Option.some.inj hs
      exact pw_return dX6_add_69 rfl ⟨rfl, hr⟩
  · rw [if_neg c_10] at hs
    have hr := Option.some.inj hs
    exact pw_return dX6_add_9 rfl ⟨rfl, hr⟩
set_option maxRecDepth 100000 in
set_option maxHeartbeats 400000 in
theorem conX6_cutOut {sg : Sg} {a1 : Int32} {oM : Sg} (h : fX6_cutOut a1 sg = some oM) : Con tbC yX6_cutOut cX6_cutOut 6 none 1 21 [.ref 3, .int a1] sg (PoV oM) := by
  refine Con.of (by decide) (Nat.le_of_ble_eq_true rfl) ?_
  show PW tbC RX6 cX6_cutOut 6 none 1 21 (PoV oM) 0 [(0, .ref 3), (1, .int a1)] [] sg
  have hs := h
  unfold fX6_cutOut at hs
  refine pw_iconst (0 : Int32) dX6_cutOut_0 (by decide) ?_
  refine pw_istore_n [(2, .int (0 : Int32)), (0, .ref 3), (1, .int a1)] dX6_cutOut_1 rfl (Nat.le_of_ble_eq_true rfl) rfl ?_
  obtain ⟨t, hL, hs⟩ := Option.bind_eq_some_iff.mp hs
  refine PW.sub [1, 2, 0] (lv' := [(0, .ref 3), (1, .int a1), (2, .int (0 : Int32))]) rfl ?_
  refine lpS_pw (T := Int32 × Sg) (X := fun t => PW tbC RX6 cX6_cutOut 6 none 1 21 (PoV oM) 2 [(0, .ref 3), (1, .int a1), (2, .int t.1)] [] t.2) (E := fun t => PW tbC RX6 cX6_cutOut 6 none 1 21 (PoV oM) 84 [(0, .ref 3), (1, .int a1), (2, .int t.1)] [] t.2) (step := (fun t => fX6_cutOut_L2 a1 t.1 t.2)) ?_ 300 ((0 : Int32), sg) t hL ?_
  · intro t oL hs hE hC
    obtain ⟨a2, sg⟩ := t
    replace hs : fX6_cutOut_L2 a1 a2 sg = some oL := hs
    show PW tbC RX6 cX6_cutOut 6 none 1 21 (PoV oM) 2 [(0, .ref 3), (1, .int a1), (2, .int a2)] [] sg
    unfold fX6_cutOut_L2 at hs
    refine pw_iload_n 2 dX6_cutOut_2 rfl rfl ?_
    refine pw_aload_n 0 dX6_cutOut_3 rfl rfl ?_
    refine pw_geti 4 dX6_cutOut_4 clRX6 tC3 (Nat.le_of_ble_eq_true rfl) fRX6_24 rfl ?_
    refine pw_icmp_ge 84 dX6_cutOut_7 (by decide) (fun c_15 => ?_) (fun c_15 => ?_)
    · rw [if_pos c_15] at hs
      exact PW.sub (lv' := [(0, .ref 3), (1, .int a1), (2, .int a2)]) [0, 1, 2] rfl (hE (a2, sg) (Option.some.inj hs).symm)
    · rw [if_neg c_15] at hs
      refine pw_iconst (0 : Int32) dX6_cutOut_10 (by decide) ?_
      refine pw_istore_n [(3, .int (0 : Int32)), (0, .ref 3), (1, .int a1), (2, .int a2)] dX6_cutOut_11 rfl (Nat.le_of_ble_eq_true rfl) rfl ?_
      refine pw_iconst (0 : Int32) dX6_cutOut_12 (by decide) ?_
      refine pw_istore [(4, .int (0 : Int32)), (3, .int (0 : Int32)), (0, .ref 3), (1, .int a1), (2, .int a2)] dX6_cutOut_13 (Nat.le_of_ble_eq_true rfl) rfl ?_
      obtain ⟨t, hL, hs⟩ := Option.bind_eq_some_iff.mp hs
      refine PW.sub [2, 3, 4, 1, 0] (lv' := [(0, .ref 3), (1, .int a1), (2, .int a2), (3, .int (0 : Int32)), (4, .int (0 : Int32))]) rfl ?_
      refine lpS_pw (T := Int32 × Int32 × Sg) (X := fun t => PW tbC RX6 cX6_cutOut 6 none 1 21 (PoV oM) 15 [(0, .ref 3), (1, .int a1), (2, .int a2), (3, .int t.1), (4, .int t.2.1)] [] t.2.2) (E := fun t => PW tbC RX6 cX6_cutOut 6 none 1 21 (PoV oM) 71 [(0, .ref 3), (1, .int a1), (2, .int a2), (3, .int t.1), (4, .int t.2.1)] [] t.2.2) (step := (fun t => fX6_cutOut_L15 a1 a2 t.1 t.2.1 t.2.2)) ?_ 300 ((0 : Int32), (0 : Int32), sg) t hL ?_
      · intro t oL hs hE hC
        obtain ⟨a3, a4, sg⟩ := t
        replace hs : fX6_cutOut_L15 a1 a2 a3 a4 sg = some oL := hs
        show PW tbC RX6 cX6_cutOut 6 none 1 21 (PoV oM) 15 [(0, .ref 3), (1, .int a1), (2, .int a2), (3, .int a3), (4, .int a4)] [] sg
        unfold fX6_cutOut_L15 at hs
        have J65 : ∀ (a3 : Int32) (a4 : Int32) (sg : Sg), fX6_cutOut_L15_J65 a1 a2 a3 a4 sg = some oL → PW tbC RX6 cX6_cutOut 6 none 1 21 (PoV oM) 65 [(0, .ref 3), (1, .int a1), (2, .int a2), (3, .int a3), (4, .int a4)] [] sg := by
          intro a3 a4 sg hs
          unfold fX6_cutOut_L15_J65 at hs
          refine pw_iinc 4 (a4 + 1) [(4, .int (a4 + 1)), (0, .ref 3), (1, .int a1), (2, .int a2), (3, .int a3)] dX6_cutOut_65 rfl rfl (Nat.le_of_ble_eq_true rfl) rfl ?_
          refine pw_goto 15 dX6_cutOut_68 (by decide) ?_
          exact PW.sub (lv' := [(0, .ref 3), (1, .int a1), (2, .int a2), (3, .int a3), (4, .int (a4 + 1))]) [1, 2, 3, 4, 0] rfl (hC (a3, (a4 + 1), sg) (Option.some.inj hs).symm)
        refine pw_iload 4 dX6_cutOut_15 rfl ?_
        refine pw_aload_n 0 dX6_cutOut_17 rfl rfl ?_
        refine pw_getr 1 dX6_cutOut_18 clRX6 tC3 (Nat.le_of_ble_eq_true rfl) fRX6_15 rfl ?_
        refine pw_iload_n 2 dX6_cutOut_21 rfl rfl ?_
        obtain ⟨h_1, hs⟩ := gd_some hs
        refine pw_iaload dX6_cutOut_22 tC5 (inb_in h_1) ?_
        refine pw_icmp_ge 71 dX6_cutOut_23 (by decide) (fun c_9 => ?_) (fun c_9 => ?_)
        · rw [if_pos c_9] at hs
          exact PW.sub (lv' := [(0, .ref 3), (1, .int a1), (2, .int a2), (3, .int a3), (4, .int a4)]) [0, 1, 2, 3, 4] rfl (hE (a3, a4, sg) (Option.some.inj hs).symm)
        · rw [if_neg c_9] at hs
          refine pw_aload_n 0 dX6_cutOut_26 rfl rfl ?_
          refine pw_getr 0 dX6_cutOut_27 clRX6 tC3 (Nat.le_of_ble_eq_true rfl) fRX6_9 rfl ?_
          refine pw_iload_n 2 dX6_cutOut_30 rfl rfl ?_
          refine pw_bipush (6 : Int32) dX6_cutOut_31 (by decide) ?_
          refine pw_imul dX6_cutOut_33 ?_
          refine pw_iload 4 dX6_cutOut_34 rfl ?_
          refine pw_iadd dX6_cutOut_36 ?_
          obtain ⟨h_2, hs⟩ := gd_some hs
          refine pw_iaload dX6_cutOut_37 tC4 (inb_in h_2) ?_
          refine pw_topi (fun a5_3 e_a5_3 => ?_)
          replace hs := lt_use hs e_a5_3
          refine pw_istore [(5, .int a5_3), (0, .ref 3), (1, .int a1), (2, .int a2), (3, .int a3), (4, .int a4)] dX6_cutOut_38 (Nat.le_of_ble_eq_true rfl) rfl ?_
          refine pw_iload_n 2 dX6_cutOut_40 rfl rfl ?_
          refine pw_iload 0 dX6_cutOut_41 rfl ?_
          obtain ⟨r_5, hc_4, hs⟩ := Option.bind_eq_some_iff.mp hs
          refine pw_callSi [.int a1, .int a5_3] (st := []) dX6_cutOut_43 mRX6_38 stX0_has inRX0 coX0_has hyX0_has (by decide) (Nat.le_of_ble_eq_true rfl) (conX0_has hc_4) ?_
          refine pw_if_ne 65 dX6_cutOut_46 (by decide) (fun c_8 => ?_) (fun c_8 => ?_)
          · rw [if_neg c_8] at hs
            exact PW.sub (lv' := [(0, .ref 3), (1, .int a1), (2, .int a2), (3, .int a3), (4, .int a4)]) [1, 2, 3, 4, 5] rfl (J65 a3 a4 sg hs)
          · rw [if_pos c_8] at hs
            refine pw_aload_n 1 dX6_cutOut_49 rfl rfl ?_
            refine pw_getr 2 dX6_cutOut_50 clRX6 tC3 (Nat.le_of_ble_eq_true rfl) fRX6_18 rfl ?_
            refine pw_iload_n 3 dX6_cutOut_53 rfl rfl ?_
            refine pw_bipush (6 : Int32) dX6_cutOut_54 (by decide) ?_
            refine pw_imul dX6_cutOut_56 ?_
            refine pw_iload_n 4 dX6_cutOut_57 rfl rfl ?_
            refine pw_iadd dX6_cutOut_58 ?_
            refine pw_iload 0 dX6_cutOut_59 rfl ?_
            obtain ⟨h_6, hs⟩ := gd_some hs
            refine pw_iastore dX6_cutOut_61 tC6 (inb_in h_6) ?_
            refine pw_sg (fun sg_7 e_sg_7 => ?_)
            replace hs := lt_use hs e_sg_7
            refine pw_iinc 4 (a3 + 1) [(3, .int (a3 + 1)), (5, .int a5_3), (0, .ref 3), (1, .int a1), (2, .int a2), (4, .int a4)] dX6_cutOut_62 rfl rfl (Nat.le_of_ble_eq_true rfl) rfl ?_
            exact PW.sub (lv' := [(0, .ref 3), (1, .int a1), (2, .int a2), (3, .int (a3 + 1)), (4, .int a4)]) [2, 3, 4, 0, 5] rfl (J65 (a3 + 1) a4 sg_7 hs)
      · skip
        obtain ⟨a3_10, a4_11, sg_12⟩ := t
        replace hs : fX6_cutOut_L2_E71 a1 a2 a3_10 a4_11 sg_12 = some oL := hs
        show PW tbC RX6 cX6_cutOut 6 none 1 21 (PoV oM) 71 [(0, .ref 3), (1, .int a1), (2, .int a2), (3, .int a3_10), (4, .int a4_11)] [] sg_12
        unfold fX6_cutOut_L2_E71 at hs
        refine pw_aload_n 0 dX6_cutOut_71 rfl rfl ?_
        refine pw_getr 3 dX6_cutOut_72 clRX6 tC3 (Nat.le_of_ble_eq_true rfl) fRX6_21 rfl ?_
        refine pw_iload_n 2 dX6_cutOut_75 rfl rfl ?_
        refine pw_iload_n 3 dX6_cutOut_76 rfl rfl ?_
        obtain ⟨h_13, hs⟩ := gd_some hs
        refine pw_iastore dX6_cutOut_77 tC7 (inb_in h_13) ?_
        refine pw_sg (fun sg_14 e_sg_14 => ?_)
        replace hs := lt_use hs e_sg_14
        refine pw_iinc 2 (a2 + 1) [(2, .int (a2 + 1)), (0, .ref 3), (1, .int a1), (3, .int a3_10), (4, .int a4_11)] dX6_cutOut_78 rfl rfl (Nat.le_of_ble_eq_true rfl) rfl ?_
        refine pw_goto 2 dX6_cutOut_81 (by decide) ?_
        exact PW.sub (lv' := [(0, .ref 3), (1, .int a1), (2, .int (a2 + 1))]) [1, 2, 0] rfl (hC ((a2 + 1), sg_14) (Option.some.inj hs).symm)
  · skip
    obtain ⟨a2_16, sg_17⟩ := t
    replace hs : fX6_cutOut_E84 a1 a2_16 sg_17 = some oM := hs
    show PW tbC RX6 cX6_cutOut 6 none 1 21 (PoV oM) 84 [(0, .ref 3), (1, .int a1), (2, .int a2_16)] [] sg_17
    unfold fX6_cutOut_E84 at hs
    have hr := Option.some.inj hs
    exact pw_return dX6_cutOut_84 rfl ⟨rfl, hr⟩
set_option maxRecDepth 100000 in
set_option maxHeartbeats 400000 in
theorem conX1_clear {sg : Sg}  {oM : Sg} (h : fX1_clear  sg = some oM) : Con tbC yX1_clear cX1_clear 2 none 0 0 [.ref 8] sg (PoV oM) := by
  refine Con.of (by decide) (Nat.le_of_ble_eq_true rfl) ?_
  show PW tbC RX1 cX1_clear 2 none 0 0 (PoV oM) 0 [(0, .ref 8)] [] sg
  have hs := h
  unfold fX1_clear at hs
  refine pw_aload_n 0 dX1_clear_0 rfl rfl ?_
  refine pw_iconst (0 : Int32) dX1_clear_1 (by decide) ?_
  refine pw_puti 5 (fty := .int) dX1_clear_2 clRX1 tC8 (Nat.le_of_ble_eq_true rfl) fRX1_27 rfl rfl (by decide +kernel) rfl rfl ?_
  refine pw_sg (fun sg_1 e_sg_1 => ?_)
  replace hs := lt_use hs e_sg_1
  refine pw_iconst (0 : Int32) dX1_clear_5 (by decide) ?_
  refine pw_istore_n [(1, .int (0 : Int32)), (0, .ref 8)] dX1_clear_6 rfl (Nat.le_of_ble_eq_true rfl) rfl ?_
  obtain ⟨t, hL, hs⟩ := Option.bind_eq_some_iff.mp hs
  refine PW.sub [1, 0] (lv' := [(0, .ref 8), (1, .int (0 : Int32))]) rfl ?_
  refine lpS_pw (T := Int32 × Sg) (X := fun t => PW tbC RX1 cX1_clear 2 none 0 0 (PoV oM) 7 [(0, .ref 8), (1, .int t.1)] [] t.2) (E := fun t => PW tbC RX1 cX1_clear 2 none 0 0 (PoV oM) 33 [(0, .ref 8), (1, .int t.1)] [] t.2) (step := (fun t => fX1_clear_L7 t.1 t.2)) ?_ 300 ((0 : Int32), sg_1) t hL ?_
  · intro t oL hs hE hC
    obtain ⟨a1, sg⟩ := t
    replace hs : fX1_clear_L7 a1 sg = some oL := hs
    show PW tbC RX1 cX1_clear 2 none 0 0 (PoV oM) 7 [(0, .ref 8), (1, .int a1)] [] sg
    unfold fX1_clear_L7 at hs
    refine pw_iload_n 1 dX1_clear_7 rfl rfl ?_
    refine pw_bipush (8 : Int32) dX1_clear_8 (by decide) ?_
    refine pw_icmp_ge 33 dX1_clear_10 (by decide) (fun c_6 => ?_) (fun c_6 => ?_)
    · rw [if_pos c_6] at hs
      exact PW.sub (lv' := [(0, .ref 8), (1, .int a1)]) [0, 1] rfl (hE (a1, sg) (Option.some.inj hs).symm)
    · rw [if_neg c_6] at hs
      refine pw_aload_n 0 dX1_clear_13 rfl rfl ?_
      refine pw_getr 0 dX1_clear_14 clRX1 tC8 (Nat.le_of_ble_eq_true rfl) fRX1_9 rfl ?_
      refine pw_iload_n 1 dX1_clear_17 rfl rfl ?_
      refine pw_iconst (0 : Int32) dX1_clear_18 (by decide) ?_
      obtain ⟨h_2, hs⟩ := gd_some hs
      refine pw_iastore dX1_clear_19 tC9 (inb_in h_2) ?_
      refine pw_sg (fun sg_3 e_sg_3 => ?_)
      replace hs := lt_use hs e_sg_3
      refine pw_aload_n 0 dX1_clear_20 rfl rfl ?_
      refine pw_getr 1 dX1_clear_21 clRX1 tC8 (Nat.le_of_ble_eq_true rfl) fRX1_15 rfl ?_
      refine pw_iload_n 1 dX1_clear_24 rfl rfl ?_
      refine pw_iconst (0 : Int32) dX1_clear_25 (by decide) ?_
      obtain ⟨h_4, hs⟩ := gd_some hs
      refine pw_iastore dX1_clear_26 tC10 (inb_in h_4) ?_
      refine pw_sg (fun sg_5 e_sg_5 => ?_)
      replace hs := lt_use hs e_sg_5
      refine pw_iinc 1 (a1 + 1) [(1, .int (a1 + 1)), (0, .ref 8)] dX1_clear_27 rfl rfl (Nat.le_of_ble_eq_true rfl) rfl ?_
      refine pw_goto 7 dX1_clear_30 (by decide) ?_
      exact PW.sub (lv' := [(0, .ref 8), (1, .int (a1 + 1))]) [1, 0] rfl (hC ((a1 + 1), sg_5) (Option.some.inj hs).symm)
  · skip
    obtain ⟨a1_7, sg_8⟩ := t
    replace hs : fX1_clear_E33 a1_7 sg_8 = some oM := hs
    show PW tbC RX1 cX1_clear 2 none 0 0 (PoV oM) 33 [(0, .ref 8), (1, .int a1_7)] [] sg_8
    unfold fX1_clear_E33 at hs
    refine pw_iconst (0 : Int32) dX1_clear_33 (by decide) ?_
    refine pw_istore_n [(1, .int (0 : Int32)), (0, .ref 8)] dX1_clear_34 rfl (Nat.le_of_ble_eq_true rfl) rfl ?_
    obtain ⟨t, hL, hs⟩ := Option.bind_eq_some_iff.mp hs
    refine PW.sub [1, 0] (lv' := [(0, .ref 8), (1, .int (0 : Int32))]) rfl ?_
    refine lpS_pw (T := Int32 × Sg) (X := fun t => PW tbC RX1 cX1_clear 2 none 0 0 (PoV oM) 35 [(0, .ref 8), (1, .int t.1)] [] t.2) (E := fun t => PW tbC RX1 cX1_clear 2 none 0 0 (PoV oM) 54 [(0, .ref 8), (1, .int t.1)] [] t.2) (step := (fun t => fX1_clear_L35 t.1 t.2)) ?_ 300 ((0 : Int32), sg_8) t hL ?_
    · intro t oL hs hE hC
      obtain ⟨a1_7, sg_8⟩ := t
      replace hs : fX1_clear_L35 a1_7 sg_8 = some oL := hs
      show PW tbC RX1 cX1_clear 2 none 0 0 (PoV oM) 35 [(0, .ref 8), (1, .int a1_7)] [] sg_8
      unfold fX1_clear_L35 at hs
      refine pw_iload_n 1 dX1_clear_35 rfl rfl ?_
      refine pw_bipush (64 : Int32) dX1_clear_36 (by decide) ?_
      refine pw_icmp_ge 54 dX1_clear_38 (by decide) (fun c_11 => ?_) (fun c_11 => ?_)
      · rw [if_pos c_11] at hs
        exact PW.sub (lv' := [(0, .ref 8), (1, .int a1_7)]) [0, 1] rfl (hE (a1_7, sg_8) (Option.some.inj hs).symm)
      · rw [if_neg c_11] at hs
        refine pw_aload_n 0 dX1_clear_41 rfl rfl ?_
        refine pw_getr 4 dX1_clear_42 clRX1 tC8 (Nat.le_of_ble_eq_true rfl) fRX1_24 rfl ?_
        refine pw_iload_n 1 dX1_clear_45 rfl rfl ?_
        refine pw_iconst (0 : Int32) dX1_clear_46 (by decide) ?_
        obtain ⟨h_9, hs⟩ := gd_some hs
        refine pw_iastore dX1_clear_47 tC13 (inb_in h_9) ?_
        refine pw_sg (fun sg_10 e_sg_10 => ?_)
        replace hs := lt_use hs e_sg_10
        refine pw_iinc 1 (a1_7 + 1) [(1, .int (a1_7 + 1)), (0, .ref 8)] dX1_clear_48 rfl rfl (Nat.le_of_ble_eq_true rfl) rfl ?_
        refine pw_goto 35 dX1_clear_51 (by decide) ?_
        exact PW.sub (lv' := [(0, .ref 8), (1, .int (a1_7 + 1))]) [1, 0] rfl (hC ((a1_7 + 1), sg_10) (Option.some.inj hs).symm)
    · skip
      obtain ⟨a1_12, sg_13⟩ := t
      replace hs : fX1_clear_E54 a1_12 sg_13 = some oM := hs
      show PW tbC RX1 cX1_clear 2 none 0 0 (PoV oM) 54 [(0, .ref 8), (1, .int a1_12)] [] sg_13
      unfold fX1_clear_E54 at hs
      have hr := Option.some.inj hs
      exact pw_return dX1_clear_54 rfl ⟨rfl, hr⟩
set_option maxRecDepth 100000 in
set_option maxHeartbeats 400000 in
theorem conX1_join {sg : Sg} {a1 : Int32} {a2 : Int32} {oM : Sg} (h : fX1_join a1 a2 sg = some oM) : Con tbC yX1_join cX1_join 3 none 0 0 [.ref 8, .int a1, .int a2] sg (PoV oM) := by
  refine Con.of (by decide) (Nat.le_of_ble_eq_true rfl) ?_
  show PW tbC RX1 cX1_join 3 none 0 0 (PoV oM) 0 [(0, .ref 8), (1, .int a1), (2, .int a2)] [] sg
  have hs := h
  unfold fX1_join at hs
  refine pw_aload_n 0 dX1_join_0 rfl rfl ?_
  refine pw_getr 0 dX1_join_1 clRX1 tC8 (Nat.le_of_ble_eq_true rfl) fRX1_9 rfl ?_
  refine pw_iload_n 1 dX1_join_4 rfl rfl ?_
  refine pw_dup2 dX1_join_5 rfl rfl ?_
  obtain ⟨h_1, hs⟩ := gd_some hs
  refine pw_iaload dX1_join_6 tC9 (inb_in h_1) ?_
  refine pw_iconst (1 : Int32) dX1_join_7 (by decide) ?_
  refine pw_iload_n 2 dX1_join_8 rfl rfl ?_
  refine pw_ishl dX1_join_9 ?_
  refine pw_ior dX1_join_10 ?_
  obtain ⟨h_2, hs⟩ := gd_some hs
  refine pw_iastore dX1_join_11 tC9 (inb_in h_2) ?_
  refine pw_sg (fun sg_3 e_sg_3 => ?_)
  replace hs := lt_use hs e_sg_3
  refine pw_aload_n 0 dX1_join_12 rfl rfl ?_
  refine pw_getr 0 dX1_join_13 clRX1 tC8 (Nat.le_of_ble_eq_true rfl) fRX1_9 rfl ?_
  refine pw_iload_n 2 dX1_join_16 rfl rfl ?_
  refine pw_dup2 dX1_join_17 rfl rfl ?_
  obtain ⟨h_4, hs⟩ := gd_some hs
  refine pw_iaload dX1_join_18 tC9 (inb_in h_4) ?_
  refine pw_iconst (1 : Int32) dX1_join_19 (by decide) ?_
  refine pw_iload_n 1 dX1_join_20 rfl rfl ?_
  refine pw_ishl dX1_join_21 ?_
  refine pw_ior dX1_join_22 ?_
  obtain ⟨h_5, hs⟩ := gd_some hs
  refine pw_iastore dX1_join_23 tC9 (inb_in h_5) ?_
  refine pw_sg (fun sg_6 e_sg_6 => ?_)
  replace hs := lt_use hs e_sg_6
  refine pw_aload_n 0 dX1_join_24 rfl rfl ?_
  refine pw_getr 4 dX1_join_25 clRX1 tC8 (Nat.le_of_ble_eq_true rfl) fRX1_24 rfl ?_
  refine pw_iload_n 1 dX1_join_28 rfl rfl ?_
  refine pw_bipush (8 : Int32) dX1_join_29 (by decide) ?_
  refine pw_imul dX1_join_31 ?_
  refine pw_iload_n 2 dX1_join_32 rfl rfl ?_
  refine pw_iadd dX1_join_33 ?_
  refine pw_dup2 dX1_join_34 rfl rfl ?_
  obtain ⟨h_7, hs⟩ := gd_some hs
  refine pw_iaload dX1_join_35 tC13 (inb_in h_7) ?_
  refine pw_iconst (1 : Int32) dX1_join_36 (by decide) ?_
  refine pw_iadd dX1_join_37 ?_
  obtain ⟨h_8, hs⟩ := gd_some hs
  refine pw_iastore dX1_join_38 tC13 (inb_in h_8) ?_
  refine pw_sg (fun sg_9 e_sg_9 => ?_)
  replace hs := lt_use hs e_sg_9
  refine pw_aload_n 0 dX1_join_39 rfl rfl ?_
  refine pw_getr 4 dX1_join_40 clRX1 tC8 (Nat.le_of_ble_eq_true rfl) fRX1_24 rfl ?_
  refine pw_iload_n 2 dX1_join_43 rfl rfl ?_
  refine pw_bipush (8 : Int32) dX1_join_44 (by decide) ?_
  refine pw_imul dX1_join_46 ?_
  refine pw_iload_n 1 dX1_join_47 rfl rfl ?_
  refine pw_iadd dX1_join_48 ?_
  refine pw_dup2 dX1_join_49 rfl rfl ?_
  obtain ⟨h_10, hs⟩ := gd_some hs
  refine pw_iaload dX1_join_50 tC13 (inb_in h_10) ?_
  refine pw_iconst (1 : Int32) dX1_join_51 (by decide) ?_
  refine pw_iadd dX1_join_52 ?_
  obtain ⟨h_11, hs⟩ := gd_some hs
  refine pw_iastore dX1_join_53 tC13 (inb_in h_11) ?_
  refine pw_sg (fun sg_12 e_sg_12 => ?_)
  replace hs := lt_use hs e_sg_12
  have hr := Option.some.inj hs
  exact pw_return dX1_join_54 rfl ⟨rfl, hr⟩
set_option maxRecDepth 100000 in
set_option maxHeartbeats 400000 in
theorem conX1_readRow_6 {sg : Sg} {a2 : Int32} {a3 : Int32} {oM : Sg} (h : fX1_readRow_6 a2 a3 sg = some oM) : Con tbC yX1_readRow cX1_readRow 6 none 1 22 [.ref 8, .ref 6, .int a2, .int a3] sg (PoV oM) := by
  refine Con.of (by decide) (Nat.le_of_ble_eq_true rfl) ?_
  show PW tbC RX1 cX1_readRow 6 none 1 22 (PoV oM) 0 [(0, .ref 8), (1, .ref 6), (2, .int a2), (3, .int a3)] [] sg
  have hs := h
  unfold fX1_readRow_6 at hs
  refine pw_iload_n 2 dX1_readRow_0 rfl rfl ?_
  refine pw_iload_n 3 dX1_readRow_1 rfl rfl ?_
  refine pw_iadd dX1_readRow_2 ?_
  refine pw_iconst (1 : Int32) dX1_readRow_3 (by decide) ?_
  refine pw_isub dX1_readRow_4 ?_
  refine pw_topi (fun a4_1 e_a4_1 => ?_)
  replace hs := lt_use hs e_a4_1
  refine pw_istore [(4, .int a4_1), (0, .ref 8), (1, .ref 6), (2, .int a2), (3, .int a3)] dX1_readRow_5 (Nat.le_of_ble_eq_true rfl) rfl ?_
  refine pw_iload_n 3 dX1_readRow_7 rfl rfl ?_
  refine pw_istore [(5, .int a2), (4, .int a4_1), (0, .ref 8), (1, .ref 6), (2, .int a2), (3, .int a3)] dX1_readRow_8 (Nat.le_of_ble_eq_true rfl) rfl ?_
  obtain ⟨t, hL, hs⟩ := Option.bind_eq_some_iff.mp hs
  refine PW.sub [2, 3, 4, 1, 0] (lv' := [(0, .ref 8), (1, .ref 6), (2, .int a2), (4, .int a4_1), (5, .int a2)]) rfl ?_
  refine lpS_pw (T := Int32 × Sg) (X := fun t => PW tbC RX1 cX1_readRow 6 none 1 22 (PoV oM) 10 [(0, .ref 8), (1, .ref 6), (2, .int a2), (4, .int a4_1), (5, .int t.1)] [] t.2) (E := fun t => PW tbC RX1 cX1_readRow 6 none 1 22 (PoV oM) 38 [(0, .ref 8), (1, .ref 6), (2, .int a2), (4, .int a4_1), (5, .int t.1)] [] t.2) (step := (fun t => fX1_readRow_6_L10 a2 a4_1 t.1 t.2)) ?_ 300 (a2, sg) t hL ?_
  · intro t oL hs hE hC
    obtain ⟨a5, sg⟩ := t
    replace hs : fX1_readRow_6_L10 a2 a4_1 a5 sg = some oL := hs
    show PW tbC RX1 cX1_readRow 6 none 1 22 (PoV oM) 10 [(0, .ref 8), (1, .ref 6), (2, .int a2), (4, .int a4_1), (5, .int a5)] [] sg
    unfold fX1_readRow_6_L10 at hs
    refine pw_iload 4 dX1_readRow_10 rfl ?_
    refine pw_iload 3 dX1_readRow_12 rfl ?_
    refine pw_icmp_gt 38 dX1_readRow_14 (by decide) (fun c_4 => ?_) (fun c_4 => ?_)
    · rw [if_pos c_4] at hs
      exact PW.sub (lv' := [(0, .ref 8), (1, .ref 6), (2, .int a2), (4, .int a4_1), (5, .int a5)]) [0, 1, 2, 3, 4] rfl (hE (a5, sg) (Option.some.inj hs).symm)
    · rw [if_neg c_4] at hs
      refine pw_aload_n 0 dX1_readRow_17 rfl rfl ?_
      refine pw_dup dX1_readRow_18 rfl ?_
      refine pw_geti 5 dX1_readRow_19 clRX1 tC8 (Nat.le_of_ble_eq_true rfl) fRX1_27 rfl ?_
      refine pw_iconst (1 : Int32) dX1_readRow_22 (by decide) ?_
      refine pw_aload_n 1 dX1_readRow_23 rfl rfl ?_
      refine pw_iload 4 dX1_readRow_24 rfl ?_
      obtain ⟨h_2, hs⟩ := gd_some hs
      refine pw_iaload dX1_readRow_26 tC6 (inb_in h_2) ?_
      refine pw_ishl dX1_readRow_27 ?_
      refine pw_ior dX1_readRow_28 ?_
      refine pw_puti 5 (fty := .int) dX1_readRow_29 clRX1 tC8 (Nat.le_of_ble_eq_true rfl) fRX1_27 rfl rfl (by decide +kernel) rfl rfl ?_
      refine pw_sg (fun sg_3 e_sg_3 => ?_)
      replace hs := lt_use hs e_sg_3
      refine pw_iinc 4 (a5 + 1) [(5, .int (a5 + 1)), (0, .ref 8), (1, .ref 6), (2, .int a2), (4, .int a4_1)] dX1_readRow_32 rfl rfl (Nat.le_of_ble_eq_true rfl) rfl ?_
      refine pw_goto 10 dX1_readRow_35 (by decide) ?_
      exact PW.sub (lv' := [(0, .ref 8), (1, .ref 6), (2, .int a2), (4, .int a4_1), (5, .int (a5 + 1))]) [1, 2, 3, 4, 0] rfl (hC ((a5 + 1), sg_3) (Option.some.inj hs).symm)
  · skip
    obtain ⟨a5_5, sg_6⟩ := t
    replace hs : fX1_readRow_6_E38 a2 a4_1 a5_5 sg_6 = some oM := hs
    show PW tbC RX1 cX1_readRow 6 none 1 22 (PoV oM) 38 [(0, .ref 8), (1, .ref 6), (2, .int a2), (4, .int a4_1), (5, .int a5_5)] [] sg_6
    unfold fX1_readRow_6_E38 at hs
    refine pw_iload_n 2 dX1_readRow_38 rfl rfl ?_
    refine pw_istore [(5, .int a2), (0, .ref 8), (1, .ref 6), (2, .int a2), (4, .int a4_1)] dX1_readRow_39 (Nat.le_of_ble_eq_true rfl) rfl ?_
    obtain ⟨t, hL, hs⟩ := Option.bind_eq_some_iff.mp hs
    refine PW.sub [1, 2, 3, 4, 0] (lv' := [(0, .ref 8), (1, .ref 6), (2, .int a2), (4, .int a4_1), (5, .int a2)]) rfl ?_
    refine lpS_pw (T := Int32 × Sg) (X := fun t => PW tbC RX1 cX1_readRow 6 none 1 22 (PoV oM) 41 [(0, .ref 8), (1, .ref 6), (2, .int a2), (4, .int a4_1), (5, .int t.1)] [] t.2) (E := fun t => PW tbC RX1 cX1_readRow 6 none 1 22 (PoV oM) 68 [(0, .ref 8), (1, .ref 6), (2, .int a2), (4, .int a4_1), (5, .int t.1)] [] t.2) (step := (fun t => fX1_readRow_6_L41 a2 a4_1 t.1 t.2)) ?_ 300 (a2, sg_6) t hL ?_
    · intro t oL hs hE hC
      obtain ⟨a5_5, sg_6⟩ := t
      replace hs : fX1_readRow_6_L41 a2 a4_1 a5_5 sg_6 = some oL := hs
      show PW tbC RX1 cX1_readRow 6 none 1 22 (PoV oM) 41 [(0, .ref 8), (1, .ref 6), (2, .int a2), (4, .int a4_1), (5, .int a5_5)] [] sg_6
      unfold fX1_readRow_6_L41 at hs
      refine pw_iload 4 dX1_readRow_41 rfl ?_
      refine pw_iload 3 dX1_readRow_43 rfl ?_
      refine pw_icmp_ge 68 dX1_readRow_45 (by decide) (fun c_11 => ?_) (fun c_11 => ?_)
      · rw [if_pos c_11] at hs
        exact PW.sub (lv' := [(0, .ref 8), (1, .ref 6), (2, .int a2), (4, .int a4_1), (5, .int a5_5)]) [0, 1, 2, 3, 4] rfl (hE (a5_5, sg_6) (Option.some.inj hs).symm)
      · rw [if_neg c_11] at hs
        refine pw_aload_n 0 dX1_readRow_48 rfl rfl ?_
        refine pw_aload_n 1 dX1_readRow_49 rfl rfl ?_
        refine pw_iload 4 dX1_readRow_50 rfl ?_
        obtain ⟨h_7, hs⟩ := gd_some hs
        refine pw_iaload dX1_readRow_52 tC6 (inb_in h_7) ?_
        refine pw_aload_n 1 dX1_readRow_53 rfl rfl ?_
        refine pw_iload 4 dX1_readRow_54 rfl ?_
        refine pw_iconst (1 : Int32) dX1_readRow_56 (by decide) ?_
        refine pw_iadd dX1_readRow_57 ?_
        obtain ⟨h_8, hs⟩ := gd_some hs
        refine pw_iaload dX1_readRow_58 tC6 (inb_in h_8) ?_
        obtain ⟨sg_10, hc_9, hs⟩ := Option.bind_eq_some_iff.mp hs
        refine pw_callVv [.int (rd sg_6 6 (Int32.toNatClampNeg a5_5)), .int (rd sg_6 6 (Int32.toNatClampNeg (a5_5 + (1 : Int32))))] (st := []) dX1_readRow_59 tC8 rfl mRX1_55 imX1_join seX1_join inRX1 coX1_join hyX1_join (by decide) (Nat.le_of_ble_eq_true rfl) (conX1_join hc_9) ?_
        refine pw_iinc 4 (a5_5 + 1) [(5, .int (a5_5 + 1)), (0, .ref 8), (1, .ref 6), (2, .int a2), (4, .int a4_1)] dX1_readRow_62 rfl rfl (Nat.le_of_ble_eq_true rfl) rfl ?_
        refine pw_goto 41 dX1_readRow_65 (by decide) ?_
        exact PW.sub (lv' := [(0, .ref 8), (1, .ref 6), (2, .int a2), (4, .int a4_1), (5, .int (a5_5 + 1))]) [1, 2, 3, 4, 0] rfl (hC ((a5_5 + 1), sg_10) (Option.some.inj hs).symm)
    · skip
      obtain ⟨a5_12, sg_13⟩ := t
      replace hs : fX1_readRow_6_E68 a2 a4_1 a5_12 sg_13 = some oM := hs
      show PW tbC RX1 cX1_readRow 6 none 1 22 (PoV oM) 68 [(0, .ref 8), (1, .ref 6), (2, .int a2), (4, .int a4_1), (5, .int a5_12)] [] sg_13
      unfold fX1_readRow_6_E68 at hs
      refine pw_iload_n 2 dX1_readRow_68 rfl rfl ?_
      refine pw_iconst (1 : Int32) dX1_readRow_69 (by decide) ?_
      refine pw_iadd dX1_readRow_70 ?_
      refine pw_istore [(5, .int (a2 + (1 : Int32))), (0, .ref 8), (1, .ref 6), (2, .int a2), (4, .int a4_1)] dX1_readRow_71 (Nat.le_of_ble_eq_true rfl) rfl ?_
      obtain ⟨t, hL, hs⟩ := Option.bind_eq_some_iff.mp hs
      refine PW.sub [1, 2, 4, 0] (lv' := [(0, .ref 8), (1, .ref 6), (4, .int a4_1), (5, .int (a2 + (1 : Int32)))]) rfl ?_
      refine lpS_pw (T := Int32 × Sg) (X := fun t => PW tbC RX1 cX1_readRow 6 none 1 22 (PoV oM) 73 [(0, .ref 8), (1, .ref 6), (4, .int a4_1), (5, .int t.1)] [] t.2) (E := fun t => PW tbC RX1 cX1_readRow 6 none 1 22 (PoV oM) 115 [(0, .ref 8), (1, .ref 6), (4, .int a4_1), (5, .int t.1)] [] t.2) (step := (fun t => fX1_readRow_6_L73 a4_1 t.1 t.2)) ?_ 300 ((a2 + (1 : Int32)), sg_13) t hL ?_
      · intro t oL hs hE hC
        obtain ⟨a5_12, sg_13⟩ := t
        replace hs : fX1_readRow_6_L73 a4_1 a5_12 sg_13 = some oL := hs
        show PW tbC RX1 cX1_readRow 6 none 1 22 (PoV oM) 73 [(0, .ref 8), (1, .ref 6), (4, .int a4_1), (5, .int a5_12)] [] sg_13
        unfold fX1_readRow_6_L73 at hs
        refine pw_iload 3 dX1_readRow_73 rfl ?_
        refine pw_iload 2 dX1_readRow_75 rfl ?_
        refine pw_icmp_ge 115 dX1_readRow_77 (by decide) (fun c_20 => ?_) (fun c_20 => ?_)
        · rw [if_pos c_20] at hs
          exact PW.sub (lv' := [(0, .ref 8), (1, .ref 6), (4, .int a4_1), (5, .int a5_12)]) [0, 1, 2, 3] rfl (hE (a5_12, sg_13) (Option.some.inj hs).symm)
        · rw [if_neg c_20] at hs
          refine pw_aload_n 0 dX1_readRow_80 rfl rfl ?_
          refine pw_getr 1 dX1_readRow_81 clRX1 tC8 (Nat.le_of_ble_eq_true rfl) fRX1_15 rfl ?_
          refine pw_aload_n 1 dX1_readRow_84 rfl rfl ?_
          refine pw_iload 3 dX1_readRow_85 rfl ?_
          obtain ⟨h_14, hs⟩ := gd_some hs
          refine pw_iaload dX1_readRow_87 tC6 (inb_in h_14) ?_
          refine pw_dup2 dX1_readRow_88 rfl rfl ?_
          obtain ⟨h_15, hs⟩ := gd_some hs
          refine pw_iaload dX1_readRow_89 tC10 (inb_in h_15) ?_
          refine pw_iconst (1 : Int32) dX1_readRow_90 (by decide) ?_
          refine pw_aload_n 1 dX1_readRow_91 rfl rfl ?_
          refine pw_iload 3 dX1_readRow_92 rfl ?_
          refine pw_iconst (1 : Int32) dX1_readRow_94 (by decide) ?_
          refine pw_isub dX1_readRow_95 ?_
          obtain ⟨h_16, hs⟩ := gd_some hs
          refine pw_iaload dX1_readRow_96 tC6 (inb_in h_16) ?_
          refine pw_ishl dX1_readRow_97 ?_
          refine pw_iconst (1 : Int32) dX1_readRow_98 (by decide) ?_
          refine pw_aload_n 1 dX1_readRow_99 rfl rfl ?_
          refine pw_iload 3 dX1_readRow_100 rfl ?_
          refine pw_iconst (1 : Int32) dX1_readRow_102 (by decide) ?_
          refine pw_iadd dX1_readRow_103 ?_
          obtain ⟨h_17, hs⟩ := gd_some hs
          refine pw_iaload dX1_readRow_104 tC6 (inb_in h_17) ?_
          refine pw_ishl dX1_readRow_105 ?_
          refine pw_ior dX1_readRow_106 ?_
          refine pw_ior dX1_readRow_107 ?_
          obtain ⟨h_18, hs⟩ := gd_some hs
          refine pw_iastore dX1_readRow_108 tC10 (inb_in h_18) ?_
          refine pw_sg (fun sg_19 e_sg_19 => ?_)
          replace hs := lt_use hs e_sg_19
          refine pw_iinc 3 (a5_12 + 1) [(5, .int (a5_12 + 1)), (0, .ref 8), (1, .ref 6), (4, .int a4_1)] dX1_readRow_109 rfl rfl (Nat.le_of_ble_eq_true rfl) rfl ?_
          refine pw_goto 73 dX1_readRow_112 (by decide) ?_
          exact PW.sub (lv' := [(0, .ref 8), (1, .ref 6), (4, .int a4_1), (5, .int (a5_12 + 1))]) [1, 2, 3, 0] rfl (hC ((a5_12 + 1), sg_19) (Option.some.inj hs).symm)
      · skip
        obtain ⟨a5_21, sg_22⟩ := t
        replace hs : fX1_readRow_6_E115 a4_1 a5_21 sg_22 = some oM := hs
        show PW tbC RX1 cX1_readRow 6 none 1 22 (PoV oM) 115 [(0, .ref 8), (1, .ref 6), (4, .int a4_1), (5, .int a5_21)] [] sg_22
        unfold fX1_readRow_6_E115 at hs
        have hr := Option.some.inj hs
        exact pw_return dX1_readRow_115 rfl ⟨rfl, hr⟩
set_option maxRecDepth 100000 in
set_option maxHeartbeats 400000 in
theorem conX1_read_3 {sg : Sg}  {oM : Sg} (h : fX1_read_3  sg = some oM) : Con tbC yX1_read cX1_read 3 none 2 47 [.ref 8, .ref 3] sg (PoV oM) := by
  refine Con.of (by decide) (Nat.le_of_ble_eq_true rfl) ?_
  show PW tbC RX1 cX1_read 3 none 2 47 (PoV oM) 0 [(0, .ref 8), (1, .ref 3)] [] sg
  have hs := h
  unfold fX1_read_3 at hs
  refine pw_aload_n 0 dX1_read_0 rfl rfl ?_
  obtain ⟨sg_2, hc_1, hs⟩ := Option.bind_eq_some_iff.mp hs
  refine pw_callVv [] (st := []) dX1_read_1 tC8 rfl mRX1_31 imX1_clear seX1_clear inRX1 coX1_clear hyX1_clear (by decide) (Nat.le_of_ble_eq_true rfl) (conX1_clear hc_1) ?_
  refine pw_iconst (0 : Int32) dX1_read_4 (by decide) ?_
  refine pw_istore_n [(2, .int (0 : Int32)), (0, .ref 8), (1, .ref 3)] dX1_read_5 rfl (Nat.le_of_ble_eq_true rfl) rfl ?_
  obtain ⟨t, hL, hs⟩ := Option.bind_eq_some_iff.mp hs
  refine PW.sub [1, 2, 0] (lv' := [(0, .ref 8), (1, .ref 3), (2, .int (0 : Int32))]) rfl ?_
  refine lpS_pw (T := Int32 × Sg) (X := fun t => PW tbC RX1 cX1_read 3 none 2 47 (PoV oM) 6 [(0, .ref 8), (1, .ref 3), (2, .int t.1)] [] t.2) (E := fun t => PW tbC RX1 cX1_read 3 none 2 47 (PoV oM) 38 [(0, .ref 8), (1, .ref 3), (2, .int t.1)] [] t.2) (step := (fun t => fX1_read_3_L6 t.1 t.2)) ?_ 300 ((0 : Int32), sg_2) t hL ?_
  · intro t oL hs hE hC
    obtain ⟨a2, sg⟩ := t
    replace hs : fX1_read_3_L6 a2 sg = some oL := hs
    show PW tbC RX1 cX1_read 3 none 2 47 (PoV oM) 6 [(0, .ref 8), (1, .ref 3), (2, .int a2)] [] sg
    unfold fX1_read_3_L6 at hs
    refine pw_iload_n 2 dX1_read_6 rfl rfl ?_
    refine pw_aload_n 1 dX1_read_7 rfl rfl ?_
    refine pw_geti 4 dX1_read_8 clRX6 tC3 (Nat.le_of_ble_eq_true rfl) fRX1_34 rfl ?_
    refine pw_icmp_ge 38 dX1_read_11 (by decide) (fun c_6 => ?_) (fun c_6 => ?_)
    · rw [if_pos c_6] at hs
      exact PW.sub (lv' := [(0, .ref 8), (1, .ref 3), (2, .int a2)]) [0, 1, 2] rfl (hE (a2, sg) (Option.some.inj hs).symm)
    · rw [if_neg c_6] at hs
      refine pw_aload_n 0 dX1_read_14 rfl rfl ?_
      refine pw_aload_n 1 dX1_read_15 rfl rfl ?_
      refine pw_getr 2 dX1_read_16 clRX6 tC3 (Nat.le_of_ble_eq_true rfl) fRX1_39 rfl ?_
      refine pw_iload_n 2 dX1_read_19 rfl rfl ?_
      refine pw_bipush (6 : Int32) dX1_read_20 (by decide) ?_
      refine pw_imul dX1_read_22 ?_
      refine pw_aload_n 1 dX1_read_23 rfl rfl ?_
      refine pw_getr 3 dX1_read_24 clRX6 tC3 (Nat.le_of_ble_eq_true rfl) fRX1_42 rfl ?_
      refine pw_iload_n 2 dX1_read_27 rfl rfl ?_
      obtain ⟨h_3, hs⟩ := gd_some hs
      refine pw_iaload dX1_read_28 tC7 (inb_in h_3) ?_
      obtain ⟨sg_5, hc_4, hs⟩ := Option.bind_eq_some_iff.mp hs
      refine pw_callVv [.ref 6, .int (a2 * (6 : Int32)), .int (rd sg 7 (Int32.toNatClampNeg a2))] (st := []) dX1_read_29 tC8 rfl mRX1_45 imX1_readRow seX1_readRow inRX1 coX1_readRow hyX1_readRow (by decide) (Nat.le_of_ble_eq_true rfl) (conX1_readRow_6 hc_4) ?_
      refine pw_iinc 2 (a2 + 1) [(2, .int (a2 + 1)), (0, .ref 8), (1, .ref 3)] dX1_read_32 rfl rfl (Nat.le_of_ble_eq_true rfl) rfl ?_
      refine pw_goto 6 dX1_read_35 (by decide) ?_
      exact PW.sub (lv' := [(0, .ref 8), (1, .ref 3), (2, .int (a2 + 1))]) [1, 2, 0] rfl (hC ((a2 + 1), sg_5) (Option.some.inj hs).symm)
  · skip
    obtain ⟨a2_7, sg_8⟩ := t
    replace hs : fX1_read_3_E38 a2_7 sg_8 = some oM := hs
    show PW tbC RX1 cX1_read 3 none 2 47 (PoV oM) 38 [(0, .ref 8), (1, .ref 3), (2, .int a2_7)] [] sg_8
    unfold fX1_read_3_E38 at hs
    refine pw_iconst (0 : Int32) dX1_read_38 (by decide) ?_
    refine pw_istore_n [(2, .int (0 : Int32)), (0, .ref 8), (1, .ref 3)] dX1_read_39 rfl (Nat.le_of_ble_eq_true rfl) rfl ?_
    obtain ⟨t, hL, hs⟩ := Option.bind_eq_some_iff.mp hs
    refine PW.sub [1, 0] (lv' := [(0, .ref 8), (2, .int (0 : Int32))]) rfl ?_
    refine lpS_pw (T := Int32 × Sg) (X := fun t => PW tbC RX1 cX1_read 3 none 2 47 (PoV oM) 40 [(0, .ref 8), (2, .int t.1)] [] t.2) (E := fun t => PW tbC RX1 cX1_read 3 none 2 47 (PoV oM) 82 [(0, .ref 8), (2, .int t.1)] [] t.2) (step := (fun t => fX1_read_3_L40 t.1 t.2)) ?_ 300 ((0 : Int32), sg_8) t hL ?_
    · intro t oL hs hE hC
      obtain ⟨a2_7, sg_8⟩ := t
      replace hs : fX1_read_3_L40 a2_7 sg_8 = some oL := hs
      show PW tbC RX1 cX1_read 3 none 2 47 (PoV oM) 40 [(0, .ref 8), (2, .int a2_7)] [] sg_8
      unfold fX1_read_3_L40 at hs
      refine pw_iload_n 1 dX1_read_40 rfl rfl ?_
      refine pw_bipush (8 : Int32) dX1_read_41 (by decide) ?_
      refine pw_icmp_ge 82 dX1_read_43 (by decide) (fun c_19 => ?_) (fun c_19 => ?_)
      · rw [if_pos c_19] at hs
        exact PW.sub (lv' := [(0, .ref 8), (2, .int a2_7)]) [0, 1] rfl (hE (a2_7, sg_8) (Option.some.inj hs).symm)
      · rw [if_neg c_19] at hs
        refine pw_aload_n 0 dX1_read_46 rfl rfl ?_
        refine pw_getr 2 dX1_read_47 clRX1 tC8 (Nat.le_of_ble_eq_true rfl) fRX1_18 rfl ?_
        refine pw_iload_n 1 dX1_read_50 rfl rfl ?_
        refine pw_aload_n 0 dX1_read_51 rfl rfl ?_
        refine pw_getr 0 dX1_read_52 clRX1 tC8 (Nat.le_of_ble_eq_true rfl) fRX1_9 rfl ?_
        refine pw_iload_n 1 dX1_read_55 rfl rfl ?_
        obtain ⟨h_9, hs⟩ := gd_some hs
        refine pw_iaload dX1_read_56 tC9 (inb_in h_9) ?_
        obtain ⟨r_11, hc_10, hs⟩ := Option.bind_eq_some_iff.mp hs
        refine pw_callSi [.int (rd sg_8 9 (Int32.toNatClampNeg a2_7))] (st := [.int a2_7, .ref 11]) dX1_read_57 mRX1_49 stJ6_bitCount_0f7a4 inRJ6 coJ6_bitCount_0f7a4 hyJ6_bitCount_0f7a4 (by decide) (Nat.le_of_ble_eq_true rfl) (conJ6_bitCount_0f7a4 hc_10) ?_
        obtain ⟨h_12, hs⟩ := gd_some hs
        refine pw_iastore dX1_read_60 tC11 (inb_in h_12) ?_
        refine pw_sg (fun sg_13 e_sg_13 => ?_)
        replace hs := lt_use hs e_sg_13
        refine pw_aload_n 0 dX1_read_61 rfl rfl ?_
        refine pw_getr 3 dX1_read_62 clRX1 tC8 (Nat.le_of_ble_eq_true rfl) fRX1_21 rfl ?_
        refine pw_iload_n 1 dX1_read_65 rfl rfl ?_
        refine pw_aload_n 0 dX1_read_66 rfl rfl ?_
        refine pw_getr 1 dX1_read_67 clRX1 tC8 (Nat.le_of_ble_eq_true rfl) fRX1_15 rfl ?_
        refine pw_iload_n 1 dX1_read_70 rfl rfl ?_
        obtain ⟨h_14, hs⟩ := gd_some hs
        refine pw_iaload dX1_read_71 tC10 (inb_in h_14) ?_
        obtain ⟨r_16, hc_15, hs⟩ := Option.bind_eq_some_iff.mp hs
        refine pw_callSi [.int (rd sg_13 10 (Int32.toNatClampNeg a2_7))] (st := [.int a2_7, .ref 12]) dX1_read_72 mRX1_49 stJ6_bitCount_0f7a4 inRJ6 coJ6_bitCount_0f7a4 hyJ6_bitCount_0f7a4 (by decide) (Nat.le_of_ble_eq_true rfl) (conJ6_bitCount_0f7a4 hc_15) ?_
        obtain ⟨h_17, hs⟩ := gd_some hs
        refine pw_iastore dX1_read_75 tC12 (inb_in h_17) ?_
        refine pw_sg (fun sg_18 e_sg_18 => ?_)
        replace hs := lt_use hs e_sg_18
        refine pw_iinc 1 (a2_7 + 1) [(2, .int (a2_7 + 1)), (0, .ref 8)] dX1_read_76 rfl rfl (Nat.le_of_ble_eq_true rfl) rfl ?_
        refine pw_goto 40 dX1_read_79 (by decide) ?_
        exact PW.sub (lv' := [(0, .ref 8), (2, .int (a2_7 + 1))]) [1, 0] rfl (hC ((a2_7 + 1), sg_18) (Option.some.inj hs).symm)
    · skip
      obtain ⟨a2_20, sg_21⟩ := t
      replace hs : fX1_read_3_E82 a2_20 sg_21 = some oM := hs
      show PW tbC RX1 cX1_read 3 none 2 47 (PoV oM) 82 [(0, .ref 8), (2, .int a2_20)] [] sg_21
      unfold fX1_read_3_E82 at hs
      have hr := Option.some.inj hs
      exact pw_return dX1_read_82 rfl ⟨rfl, hr⟩
set_option maxRecDepth 100000 in
set_option maxHeartbeats 400000 in
theorem conX3_isAhead_8 {sg : Sg} {a1 : Int32} {a2 : Int32} {oM : Int32} (h : fX3_isAhead_8 a1 a2 sg = some oM) : Con tbC yX3_isAhead cX3_isAhead 3 (some .boolean) 0 0 [.ref 8, .int a1, .int a2] sg (PoI oM sg) := by
  refine Con.of (by decide) (Nat.le_of_ble_eq_true rfl) ?_
  show PW tbC RX3 cX3_isAhead 3 (some .boolean) 0 0 (PoI oM sg) 0 [(0, .ref 8), (1, .int a1), (2, .int a2)] [] sg
  have hs := h
  unfold fX3_isAhead_8 at hs
  have J82 : ∀ (s0 : Int32), fX3_isAhead_8_J82 s0 sg = some oM → PW tbC RX3 cX3_isAhead 3 (some .boolean) 0 0 (PoI oM sg) 82 [] [.int s0] sg := by
    intro s0 hs
    unfold fX3_isAhead_8_J82 at hs
    obtain ⟨h_16, hs⟩ := gd_some hs
    have hr := Option.some.inj hs
    exact pw_zreturn dX3_isAhead_82 rfl (zb_ok h_16) ⟨by rw [hr], rfl⟩
  have J71 : ∀ (s0 : Int32), fX3_isAhead_8_J71 s0 sg = some oM → PW tbC RX3 cX3_isAhead 3 (some .boolean) 0 0 (PoI oM sg) 71 [] [.int s0] sg := by
    intro s0 hs
    unfold fX3_isAhead_8_J71 at hs
    obtain ⟨h_15, hs⟩ := gd_some hs
    have hr := Option.some.inj hs
    exact pw_zreturn dX3_isAhead_71 rfl (zb_ok h_15) ⟨by rw [hr], rfl⟩
  have J35 : ∀ (s0 : Int32), fX3_isAhead_8_J35 s0 sg = some oM → PW tbC RX3 cX3_isAhead 3 (some .boolean) 0 0 (PoI oM sg) 35 [] [.int s0] sg := by
    intro s0 hs
    unfold fX3_isAhead_8_J35 at hs
    obtain ⟨h_14, hs⟩ := gd_some hs
    have hr := Option.some.inj hs
    exact pw_zreturn dX3_isAhead_35 rfl (zb_ok h_14) ⟨by rw [hr], rfl⟩
  refine pw_aload_n 0 dX3_isAhead_0 rfl rfl ?_
  refine pw_getr 3 dX3_isAhead_1 clRX1 tC8 (Nat.le_of_ble_eq_true rfl) fRX3_53 rfl ?_
  refine pw_iload_n 1 dX3_isAhead_4 rfl rfl ?_
  obtain ⟨h_1, hs⟩ := gd_some hs
  refine pw_iaload dX3_isAhead_5 tC12 (inb_in h_1) ?_
  refine pw_aload_n 0 dX3_isAhead_6 rfl rfl ?_
  refine pw_getr 3 dX3_isAhead_7 clRX1 tC8 (Nat.le_of_ble_eq_true rfl) fRX3_53 rfl ?_
  refine pw_iload_n 2 dX3_isAhead_10 rfl rfl ?_
  obtain ⟨h_2, hs⟩ := gd_some hs
  refine pw_iaload dX3_isAhead_11 tC12 (inb_in h_2) ?_
  refine pw_icmp_eq 36 dX3_isAhead_12 (by decide) (fun c_13 => ?_) (fun c_13 => ?_)
  · rw [if_pos c_13] at hs
    refine pw_aload_n 0 dX3_isAhead_36 rfl rfl ?_
    refine pw_getr 2 dX3_isAhead_37 clRX1 tC8 (Nat.le_of_ble_eq_true rfl) fRX3_56 rfl ?_
    refine pw_iload_n 1 dX3_isAhead_40 rfl rfl ?_
    obtain ⟨h_3, hs⟩ := gd_some hs
    refine pw_iaload dX3_isAhead_41 tC11 (inb_in h_3) ?_
    refine pw_aload_n 0 dX3_isAhead_42 rfl rfl ?_
    refine pw_getr 2 dX3_isAhead_43 clRX1 tC8 (Nat.le_of_ble_eq_true rfl) fRX3_56 rfl ?_
    refine pw_iload_n 2 dX3_isAhead_46 rfl rfl ?_
    obtain ⟨h_4, hs⟩ := gd_some hs
    refine pw_iaload dX3_isAhead_47 tC11 (inb_in h_4) ?_
    refine pw_icmp_eq 72 dX3_isAhead_48 (by decide) (fun c_9 => ?_) (fun c_9 => ?_)
    · rw [if_pos c_9] at hs
      refine pw_iload_n 1 dX3_isAhead_72 rfl rfl ?_
      refine pw_iload_n 2 dX3_isAhead_73 rfl rfl ?_
      refine pw_icmp_ge 81 dX3_isAhead_74 (by decide) (fun c_5 => ?_) (fun c_5 => ?_)
      · rw [if_pos c_5] at hs
        refine pw_iconst (0 : Int32) dX3_isAhead_81 (by decide) ?_
        exact PW.sub (lv' := []) [] rfl (J82 (0 : Int32) hs)
      · rw [if_neg c_5] at hs
        refine pw_iconst (1 : Int32) dX3_isAhead_77 (by decide) ?_
        refine pw_goto 82 dX3_isAhead_78 (by decide) ?_
        exact PW.sub (lv' := []) [] rfl (J82 (1 : Int32) hs)
    · rw [if_neg c_9] at hs
      refine pw_aload_n 0 dX3_isAhead_51 rfl rfl ?_
      refine pw_getr 2 dX3_isAhead_52 clRX1 tC8 (Nat.le_of_ble_eq_true rfl) fRX3_56 rfl ?_
      refine pw_iload_n 1 dX3_isAhead_55 rfl rfl ?_
      obtain ⟨h_6, hs⟩ := gd_some hs
      refine pw_iaload dX3_isAhead_56 tC11 (inb_in h_6) ?_
      refine pw_aload_n 0 dX3_isAhead_57 rfl rfl ?_
      refine pw_getr 2 dX3_isAhead_58 clRX1 tC8 (Nat.le_of_ble_eq_true rfl) fRX3_56 rfl ?_
      refine pw_iload_n 2 dX3_isAhead_61 rfl rfl ?_
      obtain ⟨h_7, hs⟩ := gd_some hs
      refine pw_iaload dX3_isAhead_62 tC11 (inb_in h_7) ?_
      refine pw_icmp_le 70 dX3_isAhead_63 (by decide) (fun c_8 => ?_) (fun c_8 => ?_)
      · rw [if_pos c_8] at hs
        refine pw_iconst (0 : Int32) dX3_isAhead_70 (by decide) ?_
        exact PW.sub (lv' := []) [] rfl (J71 (0 : Int32) hs)
      · rw [if_neg c_8] at hs
        refine pw_iconst (1 : Int32) dX3_isAhead_66 (by decide) ?_
        refine pw_goto 71 dX3_isAhead_67 (by decide) ?_
        exact PW.sub (lv' := []) [] rfl (J71 (1 : Int32) hs)
  · rw [if_neg c_13] at hs
    refine pw_aload_n 0 dX3_isAhead_15 rfl rfl ?_
    refine pw_getr 3 dX3_isAhead_16 clRX1 tC8 (Nat.le_of_ble_eq_true rfl) fRX3_53 rfl ?_
    refine pw_iload_n 1 dX3_isAhead_19 rfl rfl ?_
    obtain ⟨h_10, hs⟩ := gd_some hs
    refine pw_iaload dX3_isAhead_20 tC12 (inb_in h_10) ?_
    refine pw_aload_n 0 dX3_isAhead_21 rfl rfl ?_
    refine pw_getr 3 dX3_isAhead_22 clRX1 tC8 (Nat.le_of_ble_eq_true rfl) fRX3_53 rfl ?_
    refine pw_iload_n 2 dX3_isAhead_25 rfl rfl ?_
    obtain ⟨h_11, hs⟩ := gd_some hs
    refine pw_iaload dX3_isAhead_26 tC12 (inb_in h_11) ?_
    refine pw_icmp_le 34 dX3_isAhead_27 (by decide) (fun c_12 => ?_) (fun c_12 => ?_)
    · rw [if_pos c_12] at hs
      refine pw_iconst (0 : Int32) dX3_isAhead_34 (by decide) ?_
      exact PW.sub (lv' := []) [] rfl (J35 (0 : Int32) hs)
    · rw [if_neg c_12] at hs
      refine pw_iconst (1 : Int32) dX3_isAhead_30 (by decide) ?_
      refine pw_goto 35 dX3_isAhead_31 (by decide) ?_
      exact PW.sub (lv' := []) [] rfl (J35 (1 : Int32) hs)
set_option maxRecDepth 100000 in
set_option maxHeartbeats 400000 in
theorem conX3_countAhead_8 {sg : Sg} {a1 : Int32} {oM : Int32} (h : fX3_countAhead_8 a1 sg = some oM) : Con tbC yX3_countAhead cX3_countAhead 4 (some .int) 1 22 [.ref 8, .int a1] sg (PoI oM sg) := by
  refine Con.of (by decide) (Nat.le_of_ble_eq_true rfl) ?_
  show PW tbC RX3 cX3_countAhead 4 (some .int) 1 22 (PoI oM sg) 0 [(0, .ref 8), (1, .int a1)] [] sg
  have hs := h
  unfold fX3_countAhead_8 at hs
  refine pw_iconst (0 : Int32) dX3_countAhead_0 (by decide) ?_
  refine pw_istore_n [(2, .int (0 : Int32)), (0, .ref 8), (1, .int a1)] dX3_countAhead_1 rfl (Nat.le_of_ble_eq_true rfl) rfl ?_
  refine pw_iconst (0 : Int32) dX3_countAhead_2 (by decide) ?_
  refine pw_istore_n [(3, .int (0 : Int32)), (2, .int (0 : Int32)), (0, .ref 8), (1, .int a1)] dX3_countAhead_3 rfl (Nat.le_of_ble_eq_true rfl) rfl ?_
  obtain ⟨t, hL, hs⟩ := Option.bind_eq_some_iff.mp hs
  refine PW.sub [2, 3, 1, 0] (lv' := [(0, .ref 8), (1, .int a1), (2, .int (0 : Int32)), (3, .int (0 : Int32))]) rfl ?_
  refine lpS_pw (T := Int32 × Int32) (X := fun t => PW tbC RX3 cX3_countAhead 4 (some .int) 1 22 (PoI oM sg) 4 [(0, .ref 8), (1, .int a1), (2, .int t.1), (3, .int t.2)] [] sg) (E := fun t => PW tbC RX3 cX3_countAhead 4 (some .int) 1 22 (PoI oM sg) 39 [(0, .ref 8), (1, .int a1), (2, .int t.1), (3, .int t.2)] [] sg) (step := (fun t => fX3_countAhead_8_L4 a1 sg t.1 t.2)) ?_ 300 ((0 : Int32), (0 : Int32)) t hL ?_
  · intro t oL hs hE hC
    obtain ⟨a2, a3⟩ := t
    replace hs : fX3_countAhead_8_L4 a1 sg a2 a3 = some oL := hs
    show PW tbC RX3 cX3_countAhead 4 (some .int) 1 22 (PoI oM sg) 4 [(0, .ref 8), (1, .int a1), (2, .int a2), (3, .int a3)] [] sg
    unfold fX3_countAhead_8_L4 at hs
    have J33 : ∀ (a2 : Int32) (a3 : Int32), fX3_countAhead_8_L4_J33 a1 a2 a3 sg = some oL → PW tbC RX3 cX3_countAhead 4 (some .int) 1 22 (PoI oM sg) 33 [(0, .ref 8), (1, .int a1), (2, .int a2), (3, .int a3)] [] sg := by
      intro a2 a3 hs
      unfold fX3_countAhead_8_L4_J33 at hs
      refine pw_iinc 3 (a3 + 1) [(3, .int (a3 + 1)), (0, .ref 8), (1, .int a1), (2, .int a2)] dX3_countAhead_33 rfl rfl (Nat.le_of_ble_eq_true rfl) rfl ?_
      refine pw_goto 4 dX3_countAhead_36 (by decide) ?_
      exact PW.sub (lv' := [(0, .ref 8), (1, .int a1), (2, .int a2), (3, .int (a3 + 1))]) [1, 2, 3, 0] rfl (hC (a2, (a3 + 1)) (Option.some.inj hs).symm)
    refine pw_iload_n 3 dX3_countAhead_4 rfl rfl ?_
    refine pw_bipush (8 : Int32) dX3_countAhead_5 (by decide) ?_
    refine pw_icmp_ge 39 dX3_countAhead_7 (by decide) (fun c_7 => ?_) (fun c_7 => ?_)
    · rw [if_pos c_7] at hs
      exact PW.sub (lv' := [(0, .ref 8), (1, .int a1), (2, .int a2), (3, .int a3)]) [0, 1, 2, 3] rfl (hE (a2, a3) (Option.some.inj hs).symm)
    · rw [if_neg c_7] at hs
      refine pw_aload_n 0 dX3_countAhead_10 rfl rfl ?_
      refine pw_geti 5 dX3_countAhead_11 clRX1 tC8 (Nat.le_of_ble_eq_true rfl) fRX3_25 rfl ?_
      refine pw_iload_n 3 dX3_countAhead_14 rfl rfl ?_
      obtain ⟨r_2, hc_1, hs⟩ := Option.bind_eq_some_iff.mp hs
      refine pw_callSi [.int (rd sg 8 5), .int a3] (st := []) dX3_countAhead_15 mRX3_36 stX0_has inRX0 coX0_has hyX0_has (by decide) (Nat.le_of_ble_eq_true rfl) (conX0_has hc_1) ?_
      refine pw_if_eq 33 dX3_countAhead_18 (by decide) (fun c_6 => ?_) (fun c_6 => ?_)
      · rw [if_pos c_6] at hs
        exact PW.sub (lv' := [(0, .ref 8), (1, .int a1), (2, .int a2), (3, .int a3)]) [0, 1, 2, 3] rfl (J33 a2 a3 hs)
      · rw [if_neg c_6] at hs
        refine pw_aload_n 0 dX3_countAhead_21 rfl rfl ?_
        refine pw_iload_n 3 dX3_countAhead_22 rfl rfl ?_
        refine pw_iload_n 1 dX3_countAhead_23 rfl rfl ?_
        obtain ⟨r_4, hc_3, hs⟩ := Option.bind_eq_some_iff.mp hs
        refine pw_callSi [.ref 8, .int a3, .int a1] (st := []) dX3_countAhead_24 mRX3_49 stX3_isAhead inRX3 coX3_isAhead hyX3_isAhead (by decide) (Nat.le_of_ble_eq_true rfl) (conX3_isAhead_8 hc_3) ?_
        refine pw_if_eq 33 dX3_countAhead_27 (by decide) (fun c_5 => ?_) (fun c_5 => ?_)
        · rw [if_pos c_5] at hs
          exact PW.sub (lv' := [(0, .ref 8), (1, .int a1), (2, .int a2), (3, .int a3)]) [0, 1, 2, 3] rfl (J33 a2 a3 hs)
        · rw [if_neg c_5] at hs
          refine pw_iinc 2 (a2 + 1) [(2, .int (a2 + 1)), (0, .ref 8), (1, .int a1), (3, .int a3)] dX3_countAhead_30 rfl rfl (Nat.le_of_ble_eq_true rfl) rfl ?_
          exact PW.sub (lv' := [(0, .ref 8), (1, .int a1), (2, .int (a2 + 1)), (3, .int a3)]) [1, 2, 0, 3] rfl (J33 (a2 + 1) a3 hs)
  · skip
    obtain ⟨a2_8, a3_9⟩ := t
    replace hs : fX3_countAhead_8_E39 a1 a2_8 a3_9 sg = some oM := hs
    show PW tbC RX3 cX3_countAhead 4 (some .int) 1 22 (PoI oM sg) 39 [(0, .ref 8), (1, .int a1), (2, .int a2_8), (3, .int a3_9)] [] sg
    unfold fX3_countAhead_8_E39 at hs
    refine pw_iload_n 2 dX3_countAhead_39 rfl rfl ?_
    have hr := Option.some.inj hs
    exact pw_ireturn dX3_countAhead_40 rfl ⟨by rw [hr], rfl⟩
set_option maxRecDepth 100000 in
set_option maxHeartbeats 400000 in
theorem conX3_isAllLinked_8 {sg : Sg} {a1 : Int32} {oM : Int32} (h : fX3_isAllLinked_8 a1 sg = some oM) : Con tbC yX3_isAllLinked cX3_isAllLinked 4 (some .boolean) 1 21 [.ref 8, .int a1] sg (PoI oM sg) := by
  refine Con.of (by decide) (Nat.le_of_ble_eq_true rfl) ?_
  show PW tbC RX3 cX3_isAllLinked 4 (some .boolean) 1 21 (PoI oM sg) 0 [(0, .ref 8), (1, .int a1)] [] sg
  have hs := h
  unfold fX3_isAllLinked_8 at hs
  refine pw_iconst (0 : Int32) dX3_isAllLinked_0 (by decide) ?_
  refine pw_istore_n [(2, .int (0 : Int32)), (0, .ref 8), (1, .int a1)] dX3_isAllLinked_1 rfl (Nat.le_of_ble_eq_true rfl) rfl ?_
  obtain ⟨u, hL, hs⟩ := Option.bind_eq_some_iff.mp hs
  refine PW.sub [1, 2, 0] (lv' := [(0, .ref 8), (1, .int a1), (2, .int (0 : Int32))]) rfl ?_
  refine lpO_pw (T := Int32) (X := fun t => PW tbC RX3 cX3_isAllLinked 4 (some .boolean) 1 21 (PoI oM sg) 2 [(0, .ref 8), (1, .int a1), (2, .int t)] [] sg) (E := fun t => PW tbC RX3 cX3_isAllLinked 4 (some .boolean) 1 21 (PoI oM sg) 45 [(0, .ref 8), (1, .int a1), (2, .int t)] [] sg) (PR := fun r => r = oM) (step := (fun t => fX3_isAllLinked_8_L2 a1 sg t)) ?_ 300 (0 : Int32) u hL ?_ ?_
  · intro t oL hs hE hR hC
    obtain ⟨a2, rfl⟩ : ∃ z, z = t := ⟨t, rfl⟩
    replace hs : fX3_isAllLinked_8_L2 a1 sg a2 = some oL := hs
    show PW tbC RX3 cX3_isAllLinked 4 (some .boolean) 1 21 (PoI oM sg) 2 [(0, .ref 8), (1, .int a1), (2, .int a2)] [] sg
    unfold fX3_isAllLinked_8_L2 at hs
    have J39 : ∀ (a2 : Int32), fX3_isAllLinked_8_L2_J39 a1 a2 sg = some oL → PW tbC RX3 cX3_isAllLinked 4 (some .boolean) 1 21 (PoI oM sg) 39 [(0, .ref 8), (1, .int a1), (2, .int a2)] [] sg := by
      intro a2 hs
      unfold fX3_isAllLinked_8_L2_J39 at hs
      refine pw_iinc 2 (a2 + 1) [(2, .int (a2 + 1)), (0, .ref 8), (1, .int a1)] dX3_isAllLinked_39 rfl rfl (Nat.le_of_ble_eq_true rfl) rfl ?_
      refine pw_goto 2 dX3_isAllLinked_42 (by decide) ?_
      exact PW.sub (lv' := [(0, .ref 8), (1, .int a1), (2, .int (a2 + 1))]) [1, 2, 0] rfl (hC (a2 + 1) (Option.some.inj hs).symm)
    refine pw_iload_n 2 dX3_isAllLinked_2 rfl rfl ?_
    refine pw_bipush (8 : Int32) dX3_isAllLinked_3 (by decide) ?_
    refine pw_icmp_ge 45 dX3_isAllLinked_5 (by decide) (fun c_7 => ?_) (fun c_7 => ?_)
    · rw [if_pos c_7] at hs
      exact PW.sub (lv' := [(0, .ref 8), (1, .int a1), (2, .int a2)]) [0, 1, 2] rfl (hE a2 (Option.some.inj hs).symm)
    · rw [if_neg c_7] at hs
      refine pw_iload_n 1 dX3_isAllLinked_8 rfl rfl ?_
      refine pw_iconst (1 : Int32) dX3_isAllLinked_9 (by decide) ?_
      refine pw_iload_n 2 dX3_isAllLinked_10 rfl rfl ?_
      refine pw_ishl dX3_isAllLinked_11 ?_
      refine pw_iconst (-1 : Int32) dX3_isAllLinked_12 (by decide) ?_
      refine pw_ixor dX3_isAllLinked_13 ?_
      refine pw_iand dX3_isAllLinked_14 ?_
      refine pw_topi (fun a3_1 e_a3_1 => ?_)
      replace hs := lt_use hs e_a3_1
      refine pw_istore_n [(3, .int a3_1), (0, .ref 8), (1, .int a1), (2, .int a2)] dX3_isAllLinked_15 rfl (Nat.le_of_ble_eq_true rfl) rfl ?_
      refine pw_iload_n 2 dX3_isAllLinked_16 rfl rfl ?_
      refine pw_iload_n 3 dX3_isAllLinked_17 rfl rfl ?_
      obtain ⟨r_3, hc_2, hs⟩ := Option.bind_eq_some_iff.mp hs
      refine pw_callSi [.int a1, .int a2] (st := []) dX3_isAllLinked_18 mRX3_36 stX0_has inRX0 coX0_has hyX0_has (by decide) (Nat.le_of_ble_eq_true rfl) (conX0_has hc_2) ?_
      refine pw_if_eq 39 dX3_isAllLinked_21 (by decide) (fun c_6 => ?_) (fun c_6 => ?_)
      · rw [if_pos c_6] at hs
        exact PW.sub (lv' := [(0, .ref 8), (1, .int a1), (2, .int a2)]) [1, 2, 3] rfl (J39 a2 hs)
      · rw [if_neg c_6] at hs
        refine pw_iload_n 0 dX3_isAllLinked_24 rfl rfl ?_
        refine pw_aload_n 1 dX3_isAllLinked_25 rfl rfl ?_
        refine pw_getr 0 dX3_isAllLinked_26 clRX1 tC8 (Nat.le_of_ble_eq_true rfl) fRX3_66 rfl ?_
        refine pw_iload_n 3 dX3_isAllLinked_29 rfl rfl ?_
        obtain ⟨h_4, hs⟩ := gd_some hs
        refine pw_iaload dX3_isAllLinked_30 tC9 (inb_in h_4) ?_
        refine pw_iconst (-1 : Int32) dX3_isAllLinked_31 (by decide) ?_
        refine pw_ixor dX3_isAllLinked_32 ?_
        refine pw_iand dX3_isAllLinked_33 ?_
        refine pw_if_eq 39 dX3_isAllLinked_34 (by decide) (fun c_5 => ?_) (fun c_5 => ?_)
        · rw [if_pos c_5] at hs
          exact PW.sub (lv' := [(0, .ref 8), (1, .int a1), (2, .int a2)]) [1, 2, 3] rfl (J39 a2 hs)
        · rw [if_neg c_5] at hs
          refine pw_iconst (0 : Int32) dX3_isAllLinked_37 (by decide) ?_
          have hr := hR _ (Option.some.inj hs).symm
          exact pw_zreturn dX3_isAllLinked_38 rfl rfl ⟨by rw [hr], rfl⟩
  · intro t hu
    subst hu
    obtain ⟨a2_8, rfl⟩ : ∃ z, z = t := ⟨t, rfl⟩
    replace hs : fX3_isAllLinked_8_E45 a1 a2_8 sg = some oM := hs
    show PW tbC RX3 cX3_isAllLinked 4 (some .boolean) 1 21 (PoI oM sg) 45 [(0, .ref 8), (1, .int a1), (2, .int a2_8)] [] sg
    unfold fX3_isAllLinked_8_E45 at hs
    refine pw_iconst (1 : Int32) dX3_isAllLinked_45 (by decide) ?_
    have hr := Option.some.inj hs
    exact pw_zreturn dX3_isAllLinked_46 rfl rfl ⟨by rw [hr], rfl⟩
  · intro r hu
    subst hu
    exact Option.some.inj hs
set_option maxRecDepth 100000 in
set_option maxHeartbeats 400000 in
theorem conX3_degreeSum_8 {sg : Sg} {a1 : Int32} {oM : Int32} (h : fX3_degreeSum_8 a1 sg = some oM) : Con tbC yX3_degreeSum cX3_degreeSum 4 (some .int) 1 21 [.ref 8, .int a1] sg (PoI oM sg) := by
  refine Con.of (by decide) (Nat.le_of_ble_eq_true rfl) ?_
  show PW tbC RX3 cX3_degreeSum 4 (some .int) 1 21 (PoI oM sg) 0 [(0, .ref 8), (1, .int a1)] [] sg
  have hs := h
  unfold fX3_degreeSum_8 at hs
  refine pw_iconst (0 : Int32) dX3_degreeSum_0 (by decide) ?_
  refine pw_istore_n [(2, .int (0 : Int32)), (0, .ref 8), (1, .int a1)] dX3_degreeSum_1 rfl (Nat.le_of_ble_eq_true rfl) rfl ?_
  refine pw_iconst (0 : Int32) dX3_degreeSum_2 (by decide) ?_
  refine pw_istore_n [(3, .int (0 : Int32)), (2, .int (0 : Int32)), (0, .ref 8), (1, .int a1)] dX3_degreeSum_3 rfl (Nat.le_of_ble_eq_true rfl) rfl ?_
  obtain ⟨t, hL, hs⟩ := Option.bind_eq_some_iff.mp hs
  refine PW.sub [2, 3, 1, 0] (lv' := [(0, .ref 8), (1, .int a1), (2, .int (0 : Int32)), (3, .int (0 : Int32))]) rfl ?_
  refine lpS_pw (T := Int32 × Int32) (X := fun t => PW tbC RX3 cX3_degreeSum 4 (some .int) 1 21 (PoI oM sg) 4 [(0, .ref 8), (1, .int a1), (2, .int t.1), (3, .int t.2)] [] sg) (E := fun t => PW tbC RX3 cX3_degreeSum 4 (some .int) 1 21 (PoI oM sg) 37 [(0, .ref 8), (1, .int a1), (2, .int t.1), (3, .int t.2)] [] sg) (step := (fun t => fX3_degreeSum_8_L4 a1 sg t.1 t.2)) ?_ 300 ((0 : Int32), (0 : Int32)) t hL ?_
  · intro t oL hs hE hC
    obtain ⟨a2, a3⟩ := t
    replace hs : fX3_degreeSum_8_L4 a1 sg a2 a3 = some oL := hs
    show PW tbC RX3 cX3_degreeSum 4 (some .int) 1 21 (PoI oM sg) 4 [(0, .ref 8), (1, .int a1), (2, .int a2), (3, .int a3)] [] sg
    unfold fX3_degreeSum_8_L4 at hs
    have J29 : ∀ (a3 : Int32) (s0 : Int32) (s1 : Int32), fX3_degreeSum_8_L4_J29 a1 a3 s0 s1 sg = some oL → PW tbC RX3 cX3_degreeSum 4 (some .int) 1 21 (PoI oM sg) 29 [(0, .ref 8), (1, .int a1), (3, .int a3)] [.int s0, .int s1] sg := by
      intro a3 s0 s1 hs
      unfold fX3_degreeSum_8_L4_J29 at hs
      refine pw_iadd dX3_degreeSum_29 ?_
      refine pw_istore_n [(2, .int (s1 + s0)), (0, .ref 8), (1, .int a1), (3, .int a3)] dX3_degreeSum_30 rfl (Nat.le_of_ble_eq_true rfl) rfl ?_
      refine pw_iinc 3 (a3 + 1) [(3, .int (a3 + 1)), (2, .int (s1 + s0)), (0, .ref 8), (1, .int a1)] dX3_degreeSum_31 rfl rfl (Nat.le_of_ble_eq_true rfl) rfl ?_
      refine pw_goto 4 dX3_degreeSum_34 (by decide) ?_
      exact PW.sub (lv' := [(0, .ref 8), (1, .int a1), (2, .int (s1 + s0)), (3, .int (a3 + 1))]) [2, 3, 1, 0] rfl (hC ((s1 + s0), (a3 + 1)) (Option.some.inj hs).symm)
    refine pw_iload_n 3 dX3_degreeSum_4 rfl rfl ?_
    refine pw_bipush (8 : Int32) dX3_degreeSum_5 (by decide) ?_
    refine pw_icmp_ge 37 dX3_degreeSum_7 (by decide) (fun c_5 => ?_) (fun c_5 => ?_)
    · rw [if_pos c_5] at hs
      exact PW.sub (lv' := [(0, .ref 8), (1, .int a1), (2, .int a2), (3, .int a3)]) [0, 1, 2, 3] rfl (hE (a2, a3) (Option.some.inj hs).symm)
    · rw [if_neg c_5] at hs
      refine pw_iload_n 2 dX3_degreeSum_10 rfl rfl ?_
      refine pw_iload_n 1 dX3_degreeSum_11 rfl rfl ?_
      refine pw_iload_n 3 dX3_degreeSum_12 rfl rfl ?_
      obtain ⟨r_2, hc_1, hs⟩ := Option.bind_eq_some_iff.mp hs
      refine pw_callSi [.int a1, .int a3] (st := [.int a2]) dX3_degreeSum_13 mRX3_36 stX0_has inRX0 coX0_has hyX0_has (by decide) (Nat.le_of_ble_eq_true rfl) (conX0_has hc_1) ?_
      refine pw_if_eq 28 dX3_degreeSum_16 (by decide) (fun c_4 => ?_) (fun c_4 => ?_)
      · rw [if_pos c_4] at hs
        refine pw_iconst (0 : Int32) dX3_degreeSum_28 (by decide) ?_
        exact PW.sub (lv' := [(0, .ref 8), (1, .int a1), (3, .int a3)]) [0, 1, 3] rfl (J29 a3 (0 : Int32) a2 hs)
      · rw [if_neg c_4] at hs
        refine pw_aload_n 0 dX3_degreeSum_19 rfl rfl ?_
        refine pw_getr 2 dX3_degreeSum_20 clRX1 tC8 (Nat.le_of_ble_eq_true rfl) fRX3_56 rfl ?_
        refine pw_iload_n 3 dX3_degreeSum_23 rfl rfl ?_
        obtain ⟨h_3, hs⟩ := gd_some hs
        refine pw_iaload dX3_degreeSum_24 tC11 (inb_in h_3) ?_
        refine pw_goto 29 dX3_degreeSum_25 (by decide) ?_
        exact PW.sub (lv' := [(0, .ref 8), (1, .int a1), (3, .int a3)]) [0, 1, 3] rfl (J29 a3 (rd sg 11 (Int32.toNatClampNeg a3)) a2 hs)
  · skip
    obtain ⟨a2_6, a3_7⟩ := t
    replace hs : fX3_degreeSum_8_E37 a1 a2_6 a3_7 sg = some oM := hs
    show PW tbC RX3 cX3_degreeSum 4 (some .int) 1 21 (PoI oM sg) 37 [(0, .ref 8), (1, .int a1), (2, .int a2_6), (3, .int a3_7)] [] sg
    unfold fX3_degreeSum_8_E37 at hs
    refine pw_iload_n 2 dX3_degreeSum_37 rfl rfl ?_
    have hr := Option.some.inj hs
    exact pw_ireturn dX3_degreeSum_38 rfl ⟨by rw [hr], rfl⟩
set_option maxRecDepth 100000 in
set_option maxHeartbeats 400000 in
theorem conX3_isBetter_8 {sg : Sg} {a1 : Int32} {a2 : Int32} {oM : Int32} (h : fX3_isBetter_8 a1 a2 sg = some oM) : Con tbC yX3_isBetter cX3_isBetter 4 (some .boolean) 2 44 [.ref 8, .int a1, .int a2] sg (PoI oM sg) := by
  refine Con.of (by decide) (Nat.le_of_ble_eq_true rfl) ?_
  show PW tbC RX3 cX3_isBetter 4 (some .boolean) 2 44 (PoI oM sg) 0 [(0, .ref 8), (1, .int a1), (2, .int a2)] [] sg
  have hs := h
  unfold fX3_isBetter_8 at hs
  have J44 : ∀ (s0 : Int32), fX3_isBetter_8_J44 s0 sg = some oM → PW tbC RX3 cX3_isBetter 4 (some .boolean) 2 44 (PoI oM sg) 44 [] [.int s0] sg := by
    intro s0 hs
    unfold fX3_isBetter_8_J44 at hs
    obtain ⟨h_12, hs⟩ := gd_some hs
    have hr := Option.some.inj hs
    exact pw_zreturn dX3_isBetter_44 rfl (zb_ok h_12) ⟨by rw [hr], rfl⟩
  refine pw_iload_n 1 dX3_isBetter_0 rfl rfl ?_
  obtain ⟨r_2, hc_1, hs⟩ := Option.bind_eq_some_iff.mp hs
  refine pw_callSi [.int a1] (st := []) dX3_isBetter_1 mRX3_30 stJ6_bitCount_0f7a4 inRJ6 coJ6_bitCount_0f7a4 hyJ6_bitCount_0f7a4 (by decide) (Nat.le_of_ble_eq_true rfl) (conJ6_bitCount_0f7a4 hc_1) ?_
  refine pw_iload_n 2 dX3_isBetter_4 rfl rfl ?_
  obtain ⟨r_4, hc_3, hs⟩ := Option.bind_eq_some_iff.mp hs
  refine pw_callSi [.int a2] (st := [.int r_2]) dX3_isBetter_5 mRX3_30 stJ6_bitCount_0f7a4 inRJ6 coJ6_bitCount_0f7a4 hyJ6_bitCount_0f7a4 (by decide) (Nat.le_of_ble_eq_true rfl) (conJ6_bitCount_0f7a4 hc_3) ?_
  refine pw_isub dX3_isBetter_8 ?_
  refine pw_istore_n [(3, .int (r_2 - r_4)), (0, .ref 8), (1, .int a1), (2, .int a2)] dX3_isBetter_9 rfl (Nat.le_of_ble_eq_true rfl) rfl ?_
  refine pw_iload_n 0 dX3_isBetter_10 rfl rfl ?_
  refine pw_if_eq 26 dX3_isBetter_11 (by decide) (fun c_11 => ?_) (fun c_11 => ?_)
  · rw [if_pos c_11] at hs
    refine pw_aload_n 1 dX3_isBetter_26 rfl rfl ?_
    refine pw_iload_n 2 dX3_isBetter_27 rfl rfl ?_
    obtain ⟨r_6, hc_5, hs⟩ := Option.bind_eq_some_iff.mp hs
    refine pw_callSi [.ref 8, .int a1] (st := []) dX3_isBetter_28 mRX3_69 stX3_degreeSum inRX3 coX3_degreeSum hyX3_degreeSum (by decide) (Nat.le_of_ble_eq_true rfl) (conX3_degreeSum_8 hc_5) ?_
    refine pw_aload_n 1 dX3_isBetter_31 rfl rfl ?_
    refine pw_iload_n 3 dX3_isBetter_32 rfl rfl ?_
    obtain ⟨r_8, hc_7, hs⟩ := Option.bind_eq_some_iff.mp hs
    refine pw_callSi [.ref 8, .int a2] (st := [.int r_6]) dX3_isBetter_33 mRX3_69 stX3_degreeSum inRX3 coX3_degreeSum hyX3_degreeSum (by decide) (Nat.le_of_ble_eq_true rfl) (conX3_degreeSum_8 hc_7) ?_
    refine pw_icmp_le 43 dX3_isBetter_36 (by decide) (fun c_9 => ?_) (fun c_9 => ?_)
    · rw [if_pos c_9] at hs
      refine pw_iconst (0 : Int32) dX3_isBetter_43 (by decide) ?_
      exact PW.sub (lv' := []) [] rfl (J44 (0 : Int32) hs)
    · rw [if_neg c_9] at hs
      refine pw_iconst (1 : Int32) dX3_isBetter_39 (by decide) ?_
      refine pw_goto 44 dX3_isBetter_40 (by decide) ?_
      exact PW.sub (lv' := []) [] rfl (J44 (1 : Int32) hs)
  · rw [if_neg c_11] at hs
    refine pw_iload_n 0 dX3_isBetter_14 rfl rfl ?_
    refine pw_if_le 22 dX3_isBetter_15 (by decide) (fun c_10 => ?_) (fun c_10 => ?_)
    · rw [if_pos c_10] at hs
      refine pw_iconst (0 : Int32) dX3_isBetter_22 (by decide) ?_
      refine pw_goto 44 dX3_isBetter_23 (by decide) ?_
      exact PW.sub (lv' := []) [] rfl (J44 (0 : Int32) hs)
    · rw [if_neg c_10] at hs
      refine pw_iconst (1 : Int32) dX3_isBetter_18 (by decide) ?_
      refine pw_goto 44 dX3_isBetter_19 (by decide) ?_
      exact PW.sub (lv' := []) [] rfl (J44 (1 : Int32) hs)
set_option maxRecDepth 100000 in
set_option maxHeartbeats 400000 in
theorem conX3_bestSet_8 {sg : Sg} {a1 : Int32} {oM : Int32} (h : fX3_bestSet_8 a1 sg = some oM) : Con tbC yX3_bestSet cX3_bestSet 4 (some .int) 3 67 [.ref 8, .int a1] sg (PoI oM sg) := by
  refine Con.of (by decide) (Nat.le_of_ble_eq_true rfl) ?_
  show PW tbC RX3 cX3_bestSet 4 (some .int) 3 67 (PoI oM sg) 0 [(0, .ref 8), (1, .int a1)] [] sg
  have hs := h
  unfold fX3_bestSet_8 at hs
  refine pw_iconst (1 : Int32) dX3_bestSet_0 (by decide) ?_
  refine pw_iload_n 1 dX3_bestSet_1 rfl rfl ?_
  refine pw_ishl dX3_bestSet_2 ?_
  refine pw_topi (fun a2_1 e_a2_1 => ?_)
  replace hs := lt_use hs e_a2_1
  refine pw_istore_n [(2, .int a2_1), (0, .ref 8), (1, .int a1)] dX3_bestSet_3 rfl (Nat.le_of_ble_eq_true rfl) rfl ?_
  refine pw_iconst (1 : Int32) dX3_bestSet_4 (by decide) ?_
  refine pw_istore_n [(3, .int (1 : Int32)), (2, .int a2_1), (0, .ref 8), (1, .int a1)] dX3_bestSet_5 rfl (Nat.le_of_ble_eq_true rfl) rfl ?_
  obtain ⟨t, hL, hs⟩ := Option.bind_eq_some_iff.mp hs
  refine PW.sub [2, 3, 1, 0] (lv' := [(0, .ref 8), (1, .int a1), (2, .int a2_1), (3, .int (1 : Int32))]) rfl ?_
  refine lpS_pw (T := Int32 × Int32) (X := fun t => PW tbC RX3 cX3_bestSet 4 (some .int) 3 67 (PoI oM sg) 6 [(0, .ref 8), (1, .int a1), (2, .int t.1), (3, .int t.2)] [] sg) (E := fun t => PW tbC RX3 cX3_bestSet 4 (some .int) 3 67 (PoI oM sg) 46 [(0, .ref 8), (1, .int a1), (2, .int t.1), (3, .int t.2)] [] sg) (step := (fun t => fX3_bestSet_8_L6 a1 sg t.1 t.2)) ?_ 300 (a2_1, (1 : Int32)) t hL ?_
  · intro t oL hs hE hC
    obtain ⟨a2, a3⟩ := t
    replace hs : fX3_bestSet_8_L6 a1 sg a2 a3 = some oL := hs
    show PW tbC RX3 cX3_bestSet 4 (some .int) 3 67 (PoI oM sg) 6 [(0, .ref 8), (1, .int a1), (2, .int a2), (3, .int a3)] [] sg
    unfold fX3_bestSet_8_L6 at hs
    have J40 : ∀ (a2 : Int32) (a3 : Int32), fX3_bestSet_8_L6_J40 a1 a2 a3 sg = some oL → PW tbC RX3 cX3_bestSet 4 (some .int) 3 67 (PoI oM sg) 40 [(0, .ref 8), (1, .int a1), (2, .int a2), (3, .int a3)] [] sg := by
      intro a2 a3 hs
      unfold fX3_bestSet_8_L6_J40 at hs
      refine pw_iinc 3 (a3 + 1) [(3, .int (a3 + 1)), (0, .ref 8), (1, .int a1), (2, .int a2)] dX3_bestSet_40 rfl rfl (Nat.le_of_ble_eq_true rfl) rfl ?_
      refine pw_goto 6 dX3_bestSet_43 (by decide) ?_
      exact PW.sub (lv' := [(0, .ref 8), (1, .int a1), (2, .int a2), (3, .int (a3 + 1))]) [1, 2, 3, 0] rfl (hC (a2, (a3 + 1)) (Option.some.inj hs).symm)
    refine pw_iload_n 3 dX3_bestSet_6 rfl rfl ?_
    refine pw_sipush (256 : Int32) dX3_bestSet_7 (by decide) ?_
    refine pw_icmp_ge 46 dX3_bestSet_10 (by decide) (fun c_11 => ?_) (fun c_11 => ?_)
    · rw [if_pos c_11] at hs
      exact PW.sub (lv' := [(0, .ref 8), (1, .int a1), (2, .int a2), (3, .int a3)]) [0, 1, 2, 3] rfl (hE (a2, a3) (Option.some.inj hs).symm)
    · rw [if_neg c_11] at hs
      refine pw_iload_n 3 dX3_bestSet_13 rfl rfl ?_
      refine pw_iload_n 1 dX3_bestSet_14 rfl rfl ?_
      obtain ⟨r_3, hc_2, hs⟩ := Option.bind_eq_some_iff.mp hs
      refine pw_callSi [.int a3, .int a1] (st := []) dX3_bestSet_15 mRX3_36 stX0_has inRX0 coX0_has hyX0_has (by decide) (Nat.le_of_ble_eq_true rfl) (conX0_has hc_2) ?_
      refine pw_if_eq 40 dX3_bestSet_18 (by decide) (fun c_10 => ?_) (fun c_10 => ?_)
      · rw [if_pos c_10] at hs
        exact PW.sub (lv' := [(0, .ref 8), (1, .int a1), (2, .int a2), (3, .int a3)]) [0, 1, 2, 3] rfl (J40 a2 a3 hs)
      · rw [if_neg c_10] at hs
        refine pw_aload_n 0 dX3_bestSet_21 rfl rfl ?_
        refine pw_iload_n 3 dX3_bestSet_22 rfl rfl ?_
        obtain ⟨r_5, hc_4, hs⟩ := Option.bind_eq_some_iff.mp hs
        refine pw_callSi [.ref 8, .int a3] (st := []) dX3_bestSet_23 mRX3_59 stX3_isAllLinked inRX3 coX3_isAllLinked hyX3_isAllLinked (by decide) (Nat.le_of_ble_eq_true rfl) (conX3_isAllLinked_8 hc_4) ?_
        refine pw_if_eq 40 dX3_bestSet_26 (by decide) (fun c_9 => ?_) (fun c_9 => ?_)
        · rw [if_pos c_9] at hs
          exact PW.sub (lv' := [(0, .ref 8), (1, .int a1), (2, .int a2), (3, .int a3)]) [0, 1, 2, 3] rfl (J40 a2 a3 hs)
        · rw [if_neg c_9] at hs
          refine pw_aload_n 0 dX3_bestSet_29 rfl rfl ?_
          refine pw_iload_n 3 dX3_bestSet_30 rfl rfl ?_
          refine pw_iload_n 2 dX3_bestSet_31 rfl rfl ?_
          obtain ⟨r_7, hc_6, hs⟩ := Option.bind_eq_some_iff.mp hs
          refine pw_callSi [.ref 8, .int a3, .int a2] (st := []) dX3_bestSet_32 mRX3_63 stX3_isBetter inRX3 coX3_isBetter hyX3_isBetter (by decide) (Nat.le_of_ble_eq_true rfl) (conX3_isBetter_8 hc_6) ?_
          refine pw_if_eq 40 dX3_bestSet_35 (by decide) (fun c_8 => ?_) (fun c_8 => ?_)
          · rw [if_pos c_8] at hs
            exact PW.sub (lv' := [(0, .ref 8), (1, .int a1), (2, .int a2), (3, .int a3)]) [0, 1, 2, 3] rfl (J40 a2 a3 hs)
          · rw [if_neg c_8] at hs
            refine pw_iload_n 3 dX3_bestSet_38 rfl rfl ?_
            refine pw_istore_n [(2, .int a3), (0, .ref 8), (1, .int a1), (3, .int a3)] dX3_bestSet_39 rfl (Nat.le_of_ble_eq_true rfl) rfl ?_
            exact PW.sub (lv' := [(0, .ref 8), (1, .int a1), (2, .int a3), (3, .int a3)]) [1, 2, 0, 3] rfl (J40 a3 a3 hs)
  · skip
    obtain ⟨a2_12, a3_13⟩ := t
    replace hs : fX3_bestSet_8_E46 a1 a2_12 a3_13 sg = some oM := hs
    show PW tbC RX3 cX3_bestSet 4 (some .int) 3 67 (PoI oM sg) 46 [(0, .ref 8), (1, .int a1), (2, .int a2_12), (3, .int a3_13)] [] sg
    unfold fX3_bestSet_8_E46 at hs
    refine pw_iload_n 2 dX3_bestSet_46 rfl rfl ?_
    have hr := Option.some.inj hs
    exact pw_ireturn dX3_bestSet_47 rfl ⟨by rw [hr], rfl⟩
set_option maxRecDepth 100000 in
set_option maxHeartbeats 400000 in
theorem conX3_read_8 {sg : Sg}  {oM : Sg} (h : fX3_read_8  sg = some oM) : Con tbC yX3_read cX3_read 3 none 4 90 [.ref 14, .ref 8] sg (PoV oM) := by
  refine Con.of (by decide) (Nat.le_of_ble_eq_true rfl) ?_
  show PW tbC RX3 cX3_read 3 none 4 90 (PoV oM) 0 [(0, .ref 14), (1, .ref 8)] [] sg
  have hs := h
  unfold fX3_read_8 at hs
  have J95 : ∀ (s0 : Int32) (sg : Sg), fX3_read_8_J95 s0 sg = some oM → PW tbC RX3 cX3_read 3 none 4 90 (PoV oM) 95 [] [.int s0, .ref 14] sg := by
    intro s0 sg hs
    unfold fX3_read_8_J95 at hs
    refine pw_puti 3 (fty := .int) dX3_read_95 clRX3 tC14 (Nat.le_of_ble_eq_true rfl) fRX3_22 rfl rfl (by decide +kernel) rfl rfl ?_
    refine pw_sg (fun sg_23 e_sg_23 => ?_)
    replace hs := lt_use hs e_sg_23
    have hr := Option.some.inj hs
    exact pw_return dX3_read_98 rfl ⟨rfl, hr⟩
  refine pw_aload_n 0 dX3_read_0 rfl rfl ?_
  refine pw_aload_n 1 dX3_read_1 rfl rfl ?_
  refine pw_geti 5 dX3_read_2 clRX1 tC8 (Nat.le_of_ble_eq_true rfl) fRX3_25 rfl ?_
  obtain ⟨r_2, hc_1, hs⟩ := Option.bind_eq_some_iff.mp hs
  refine pw_callSi [.int (rd sg 8 5)] (st := [.ref 14]) dX3_read_5 mRX3_30 stJ6_bitCount_0f7a4 inRJ6 coJ6_bitCount_0f7a4 hyJ6_bitCount_0f7a4 (by decide) (Nat.le_of_ble_eq_true rfl) (conJ6_bitCount_0f7a4 hc_1) ?_
  refine pw_puti 2 (fty := .int) dX3_read_8 clRX3 tC14 (Nat.le_of_ble_eq_true rfl) fRX3_18 rfl rfl (by decide +kernel) rfl rfl ?_
  refine pw_sg (fun sg_3 e_sg_3 => ?_)
  replace hs := lt_use hs e_sg_3
  refine pw_iconst (0 : Int32) dX3_read_11 (by decide) ?_
  refine pw_istore_n [(2, .int (0 : Int32)), (0, .ref 14), (1, .ref 8)] dX3_read_12 rfl (Nat.le_of_ble_eq_true rfl) rfl ?_
  obtain ⟨t, hL, hs⟩ := Option.bind_eq_some_iff.mp hs
  refine PW.sub [1, 2, 0] (lv' := [(0, .ref 14), (1, .ref 8), (2, .int (0 : Int32))]) rfl ?_
  refine lpS_pw (T := Int32 × Sg) (X := fun t => PW tbC RX3 cX3_read 3 none 4 90 (PoV oM) 13 [(0, .ref 14), (1, .ref 8), (2, .int t.1)] [] t.2) (E := fun t => PW tbC RX3 cX3_read 3 none 4 90 (PoV oM) 73 [(0, .ref 14), (1, .ref 8), (2, .int t.1)] [] t.2) (step := (fun t => fX3_read_8_L13 t.1 t.2)) ?_ 300 ((0 : Int32), sg_3) t hL ?_
  · intro t oL hs hE hC
    obtain ⟨a2, sg⟩ := t
    replace hs : fX3_read_8_L13 a2 sg = some oL := hs
    show PW tbC RX3 cX3_read 3 none 4 90 (PoV oM) 13 [(0, .ref 14), (1, .ref 8), (2, .int a2)] [] sg
    unfold fX3_read_8_L13 at hs
    have J67 : ∀ (a2 : Int32) (sg : Sg), fX3_read_8_L13_J67 a2 sg = some oL → PW tbC RX3 cX3_read 3 none 4 90 (PoV oM) 67 [(0, .ref 14), (1, .ref 8), (2, .int a2)] [] sg := by
      intro a2 sg hs
      unfold fX3_read_8_L13_J67 at hs
      refine pw_iinc 2 (a2 + 1) [(2, .int (a2 + 1)), (0, .ref 14), (1, .ref 8)] dX3_read_67 rfl rfl (Nat.le_of_ble_eq_true rfl) rfl ?_
      refine pw_goto 13 dX3_read_70 (by decide) ?_
      exact PW.sub (lv' := [(0, .ref 14), (1, .ref 8), (2, .int (a2 + 1))]) [1, 2, 0] rfl (hC ((a2 + 1), sg) (Option.some.inj hs).symm)
    have J44 : ∀ (a2 : Int32) (s0 : Int32) (s1 : Int32) (sg : Sg), fX3_read_8_L13_J44 a2 s0 s1 sg = some oL → PW tbC RX3 cX3_read 3 none 4 90 (PoV oM) 44 [(0, .ref 14), (1, .ref 8), (2, .int a2)] [.int s0, .int s1, .ref 16] sg := by
      intro a2 s0 s1 sg hs
      unfold fX3_read_8_L13_J44 at hs
      obtain ⟨h_10, hs⟩ := gd_some hs
      refine pw_iastore dX3_read_44 tC16 (inb_in h_10) ?_
      refine pw_sg (fun sg_11 e_sg_11 => ?_)
      replace hs := lt_use hs e_sg_11
      refine pw_aload_n 0 dX3_read_45 rfl rfl ?_
      refine pw_getr 1 dX3_read_46 clRX3 tC14 (Nat.le_of_ble_eq_true rfl) fRX3_15 rfl ?_
      refine pw_iload_n 2 dX3_read_49 rfl rfl ?_
      obtain ⟨h_12, hs⟩ := gd_some hs
      refine pw_iaload dX3_read_50 tC16 (inb_in h_12) ?_
      refine pw_iconst (-1 : Int32) dX3_read_51 (by decide) ?_
      refine pw_icmp_eq 67 dX3_read_52 (by decide) (fun c_16 => ?_) (fun c_16 => ?_)
      · rw [if_pos c_16] at hs
        exact PW.sub (lv' := [(0, .ref 14), (1, .ref 8), (2, .int a2)]) [0, 1, 2] rfl (J67 a2 sg_11 hs)
      · rw [if_neg c_16] at hs
        refine pw_aload_n 0 dX3_read_55 rfl rfl ?_
        refine pw_getr 0 dX3_read_56 clRX3 tC14 (Nat.le_of_ble_eq_true rfl) fRX3_9 rfl ?_
        refine pw_aload_n 0 dX3_read_59 rfl rfl ?_
        refine pw_getr 1 dX3_read_60 clRX3 tC14 (Nat.le_of_ble_eq_true rfl) fRX3_15 rfl ?_
        refine pw_iload_n 2 dX3_read_63 rfl rfl ?_
        obtain ⟨h_13, hs⟩ := gd_some hs
        refine pw_iaload dX3_read_64 tC16 (inb_in h_13) ?_
        refine pw_iload_n 2 dX3_read_65 rfl rfl ?_
        obtain ⟨h_14, hs⟩ := gd_some hs
        refine pw_iastore dX3_read_66 tC15 (inb_in h_14) ?_
        refine pw_sg (fun sg_15 e_sg_15 => ?_)
        replace hs := lt_use hs e_sg_15
        exact PW.sub (lv' := [(0, .ref 14), (1, .ref 8), (2, .int a2)]) [0, 1, 2] rfl (J67 a2 sg_15 hs)
    refine pw_iload_n 2 dX3_read_13 rfl rfl ?_
    refine pw_bipush (8 : Int32) dX3_read_14 (by decide) ?_
    refine pw_icmp_ge 73 dX3_read_16 (by decide) (fun c_9 => ?_) (fun c_9 => ?_)
    · rw [if_pos c_9] at hs
      exact PW.sub (lv' := [(0, .ref 14), (1, .ref 8), (2, .int a2)]) [0, 1, 2] rfl (hE (a2, sg) (Option.some.inj hs).symm)
    · rw [if_neg c_9] at hs
      refine pw_aload_n 0 dX3_read_19 rfl rfl ?_
      refine pw_getr 1 dX3_read_20 clRX3 tC14 (Nat.le_of_ble_eq_true rfl) fRX3_15 rfl ?_
      refine pw_iload_n 2 dX3_read_23 rfl rfl ?_
      refine pw_aload_n 1 dX3_read_24 rfl rfl ?_
      refine pw_geti 5 dX3_read_25 clRX1 tC8 (Nat.le_of_ble_eq_true rfl) fRX3_25 rfl ?_
      refine pw_iload_n 2 dX3_read_28 rfl rfl ?_
      obtain ⟨r_5, hc_4, hs⟩ := Option.bind_eq_some_iff.mp hs
      refine pw_callSi [.int (rd sg 8 5), .int a2] (st := [.int a2, .ref 16]) dX3_read_29 mRX3_36 stX0_has inRX0 coX0_has hyX0_has (by decide) (Nat.le_of_ble_eq_true rfl) (conX0_has hc_4) ?_
      refine pw_if_eq 43 dX3_read_32 (by decide) (fun c_8 => ?_) (fun c_8 => ?_)
      · rw [if_pos c_8] at hs
        refine pw_iconst (-1 : Int32) dX3_read_43 (by decide) ?_
        exact PW.sub (lv' := [(0, .ref 14), (1, .ref 8), (2, .int a2)]) [0, 1, 2] rfl (J44 a2 (-1 : Int32) a2 sg hs)
      · rw [if_neg c_8] at hs
        refine pw_aload_n 1 dX3_read_35 rfl rfl ?_
        refine pw_iload_n 2 dX3_read_36 rfl rfl ?_
        obtain ⟨r_7, hc_6, hs⟩ := Option.bind_eq_some_iff.mp hs
        refine pw_callSi [.ref 8, .int a2] (st := [.int a2, .ref 16]) dX3_read_37 mRX3_42 stX3_countAhead inRX3 coX3_countAhead hyX3_countAhead (by decide) (Nat.le_of_ble_eq_true rfl) (conX3_countAhead_8 hc_6) ?_
        refine pw_goto 44 dX3_read_40 (by decide) ?_
        exact PW.sub (lv' := [(0, .ref 14), (1, .ref 8), (2, .int a2)]) [0, 1, 2] rfl (J44 a2 r_7 a2 sg hs)
  · skip
    obtain ⟨a2_17, sg_18⟩ := t
    replace hs : fX3_read_8_E73 a2_17 sg_18 = some oM := hs
    show PW tbC RX3 cX3_read 3 none 4 90 (PoV oM) 73 [(0, .ref 14), (1, .ref 8), (2, .int a2_17)] [] sg_18
    unfold fX3_read_8_E73 at hs
    refine pw_aload_n 0 dX3_read_73 rfl rfl ?_
    refine pw_aload_n 0 dX3_read_74 rfl rfl ?_
    refine pw_geti 2 dX3_read_75 clRX3 tC14 (Nat.le_of_ble_eq_true rfl) fRX3_18 rfl ?_
    refine pw_if_ne 85 dX3_read_78 (by decide) (fun c_22 => ?_) (fun c_22 => ?_)
    · rw [if_neg c_22] at hs
      refine pw_aload_n 1 dX3_read_85 rfl rfl ?_
      refine pw_aload_n 0 dX3_read_86 rfl rfl ?_
      refine pw_getr 0 dX3_read_87 clRX3 tC14 (Nat.le_of_ble_eq_true rfl) fRX3_9 rfl ?_
      refine pw_iconst (0 : Int32) dX3_read_90 (by decide) ?_
      obtain ⟨h_19, hs⟩ := gd_some hs
      refine pw_iaload dX3_read_91 tC15 (inb_in h_19) ?_
      obtain ⟨r_21, hc_20, hs⟩ := Option.bind_eq_some_iff.mp hs
      refine pw_callSi [.ref 8, .int (rd sg_18 15 (Int32.toNatClampNeg (0 : Int32)))] (st := [.ref 14]) dX3_read_92 mRX3_46 stX3_bestSet inRX3 coX3_bestSet hyX3_bestSet (by decide) (Nat.le_of_ble_eq_true rfl) (conX3_bestSet_8 hc_20) ?_
      exact PW.sub (lv' := []) [] rfl (J95 r_21 sg_18 hs)
    · rw [if_pos c_22] at hs
      refine pw_iconst (0 : Int32) dX3_read_81 (by decide) ?_
      refine pw_goto 95 dX3_read_82 (by decide) ?_
      exact PW.sub (lv' := []) [] rfl (J95 (0 : Int32) sg_18 hs)
set_option maxRecDepth 100000 in
set_option maxHeartbeats 400000 in
theorem conX3_firstOf_6 {sg : Sg} {a2 : Int32} {a3 : Int32} {oM : Int32} (h : fX3_firstOf_6 a2 a3 sg = some oM) : Con tbC yX3_firstOf cX3_firstOf 6 (some .int) 0 0 [.ref 14, .ref 6, .int a2, .int a3] sg (PoI oM sg) := by
  refine Con.of (by decide) (Nat.le_of_ble_eq_true rfl) ?_
  show PW tbC RX3 cX3_firstOf 6 (some .int) 0 0 (PoI oM sg) 0 [(0, .ref 14), (1, .ref 6), (2, .int a2), (3, .int a3)] [] sg
  have hs := h
  unfold fX3_firstOf_6 at hs
  refine pw_iconst (-1 : Int32) dX3_firstOf_0 (by decide) ?_
  refine pw_istore [(4, .int (-1 : Int32)), (0, .ref 14), (1, .ref 6), (2, .int a2), (3, .int a3)] dX3_firstOf_1 (Nat.le_of_ble_eq_true rfl) rfl ?_
  refine pw_iconst (0 : Int32) dX3_firstOf_3 (by decide) ?_
  refine pw_istore [(5, .int (0 : Int32)), (4, .int (-1 : Int32)), (0, .ref 14), (1, .ref 6), (2, .int a2), (3, .int a3)] dX3_firstOf_4 (Nat.le_of_ble_eq_true rfl) rfl ?_
  obtain ⟨t, hL, hs⟩ := Option.bind_eq_some_iff.mp hs
  refine PW.sub [2, 3, 4, 5, 1, 0] (lv' := [(0, .ref 14), (1, .ref 6), (2, .int a2), (3, .int a3), (4, .int (-1 : Int32)), (5, .int (0 : Int32))]) rfl ?_
  refine lpS_pw (T := Int32 × Int32) (X := fun t => PW tbC RX3 cX3_firstOf 6 (some .int) 0 0 (PoI oM sg) 6 [(0, .ref 14), (1, .ref 6), (2, .int a2), (3, .int a3), (4, .int t.1), (5, .int t.2)] [] sg) (E := fun t => PW tbC RX3 cX3_firstOf 6 (some .int) 0 0 (PoI oM sg) 53 [(0, .ref 14), (1, .ref 6), (2, .int a2), (3, .int a3), (4, .int t.1), (5, .int t.2)] [] sg) (step := (fun t => fX3_firstOf_6_L6 a2 a3 sg t.1 t.2)) ?_ 300 ((-1 : Int32), (0 : Int32)) t hL ?_
  · intro t oL hs hE hC
    obtain ⟨a4, a5⟩ := t
    replace hs : fX3_firstOf_6_L6 a2 a3 sg a4 a5 = some oL := hs
    show PW tbC RX3 cX3_firstOf 6 (some .int) 0 0 (PoI oM sg) 6 [(0, .ref 14), (1, .ref 6), (2, .int a2), (3, .int a3), (4, .int a4), (5, .int a5)] [] sg
    unfold fX3_firstOf_6_L6 at hs
    have J47 : ∀ (a4 : Int32) (a5 : Int32), fX3_firstOf_6_L6_J47 a2 a3 a4 a5 sg = some oL → PW tbC RX3 cX3_firstOf 6 (some .int) 0 0 (PoI oM sg) 47 [(0, .ref 14), (1, .ref 6), (2, .int a2), (3, .int a3), (4, .int a4), (5, .int a5)] [] sg := by
      intro a4 a5 hs
      unfold fX3_firstOf_6_L6_J47 at hs
      refine pw_iinc 5 (a5 + 1) [(5, .int (a5 + 1)), (0, .ref 14), (1, .ref 6), (2, .int a2), (3, .int a3), (4, .int a4)] dX3_firstOf_47 rfl rfl (Nat.le_of_ble_eq_true rfl) rfl ?_
      refine pw_goto 6 dX3_firstOf_50 (by decide) ?_
      exact PW.sub (lv' := [(0, .ref 14), (1, .ref 6), (2, .int a2), (3, .int a3), (4, .int a4), (5, .int (a5 + 1))]) [1, 2, 3, 4, 5, 0] rfl (hC (a4, (a5 + 1)) (Option.some.inj hs).symm)
    have J43 : ∀ (a5 : Int32), fX3_firstOf_6_L6_J43 a2 a3 a5 sg = some oL → PW tbC RX3 cX3_firstOf 6 (some .int) 0 0 (PoI oM sg) 43 [(0, .ref 14), (1, .ref 6), (2, .int a2), (3, .int a3), (5, .int a5)] [] sg := by
      intro a5 hs
      unfold fX3_firstOf_6_L6_J43 at hs
      refine pw_iload 4 dX3_firstOf_43 rfl ?_
      refine pw_istore [(4, .int a5), (0, .ref 14), (1, .ref 6), (2, .int a2), (3, .int a3), (5, .int a5)] dX3_firstOf_45 (Nat.le_of_ble_eq_true rfl) rfl ?_
      exact PW.sub (lv' := [(0, .ref 14), (1, .ref 6), (2, .int a2), (3, .int a3), (4, .int a5), (5, .int a5)]) [1, 2, 3, 4, 0, 5] rfl (J47 a5 a5 hs)
    refine pw_iload 5 dX3_firstOf_6 rfl ?_
    refine pw_iload_n 3 dX3_firstOf_8 rfl rfl ?_
    refine pw_icmp_ge 53 dX3_firstOf_9 (by decide) (fun c_7 => ?_) (fun c_7 => ?_)
    · rw [if_pos c_7] at hs
      exact PW.sub (lv' := [(0, .ref 14), (1, .ref 6), (2, .int a2), (3, .int a3), (4, .int a4), (5, .int a5)]) [0, 1, 2, 3, 4, 5] rfl (hE (a4, a5) (Option.some.inj hs).symm)
    · rw [if_neg c_7] at hs
      refine pw_iload 4 dX3_firstOf_12 rfl ?_
      refine pw_iconst (-1 : Int32) dX3_firstOf_14 (by decide) ?_
      refine pw_icmp_eq 43 dX3_firstOf_15 (by decide) (fun c_6 => ?_) (fun c_6 => ?_)
      · rw [if_pos c_6] at hs
        exact PW.sub (lv' := [(0, .ref 14), (1, .ref 6), (2, .int a2), (3, .int a3), (5, .int a5)]) [0, 1, 2, 3, 5] rfl (J43 a5 hs)
      · rw [if_neg c_6] at hs
        refine pw_aload_n 0 dX3_firstOf_18 rfl rfl ?_
        refine pw_getr 1 dX3_firstOf_19 clRX3 tC14 (Nat.le_of_ble_eq_true rfl) fRX3_15 rfl ?_
        refine pw_aload_n 1 dX3_firstOf_22 rfl rfl ?_
        refine pw_iload_n 2 dX3_firstOf_23 rfl rfl ?_
        refine pw_iload 5 dX3_firstOf_24 rfl ?_
        refine pw_iadd dX3_firstOf_26 ?_
        obtain ⟨h_1, hs⟩ := gd_some hs
        refine pw_iaload dX3_firstOf_27 tC6 (inb_in h_1) ?_
        obtain ⟨h_2, hs⟩ := gd_some hs
        refine pw_iaload dX3_firstOf_28 tC16 (inb_in h_2) ?_
        refine pw_aload_n 0 dX3_firstOf_29 rfl rfl ?_
        refine pw_getr 1 dX3_firstOf_30 clRX3 tC14 (Nat.le_of_ble_eq_true rfl) fRX3_15 rfl ?_
        refine pw_aload_n 1 dX3_firstOf_33 rfl rfl ?_
        refine pw_iload_n 2 dX3_firstOf_34 rfl rfl ?_
        refine pw_iload 4 dX3_firstOf_35 rfl ?_
        refine pw_iadd dX3_firstOf_37 ?_
        obtain ⟨h_3, hs⟩ := gd_some hs
        refine pw_iaload dX3_firstOf_38 tC6 (inb_in h_3) ?_
        obtain ⟨h_4, hs⟩ := gd_some hs
        refine pw_iaload dX3_firstOf_39 tC16 (inb_in h_4) ?_
        refine pw_icmp_ge 47 dX3_firstOf_40 (by decide) (fun c_5 => ?_) (fun c_5 => ?_)
        · rw [if_pos c_5] at hs
          exact PW.sub (lv' := [(0, .ref 14), (1, .ref 6), (2, .int a2), (3, .int a3), (4, .int a4), (5, .int a5)]) [0, 1, 2, 3, 4, 5] rfl (J47 a4 a5 hs)
        · rw [if_neg c_5] at hs
          exact PW.sub (lv' := [(0, .ref 14), (1, .ref 6), (2, .int a2), (3, .int a3), (5, .int a5)]) [0, 1, 2, 3, 5] rfl (J43 a5 hs)
  · skip
    obtain ⟨a4_8, a5_9⟩ := t
    replace hs : fX3_firstOf_6_E53 a2 a3 a4_8 a5_9 sg = some oM := hs
    show PW tbC RX3 cX3_firstOf 6 (some .int) 0 0 (PoI oM sg) 53 [(0, .ref 14), (1, .ref 6), (2, .int a2), (3, .int a3), (4, .int a4_8), (5, .int a5_9)] [] sg
    unfold fX3_firstOf_6_E53 at hs
    refine pw_iload 4 dX3_firstOf_53 rfl ?_
    have hr := Option.some.inj hs
    exact pw_ireturn dX3_firstOf_55 rfl ⟨by rw [hr], rfl⟩
set_option maxRecDepth 100000 in
set_option maxHeartbeats 400000 in
theorem conX2_vote_6_14 {sg : Sg} {a2 : Int32} {a3 : Int32} {oM : Sg} (h : fX2_vote_6_14 a2 a3 sg = some oM) : Con tbC yX2_vote cX2_vote 9 none 1 25 [.ref 17, .ref 6, .int a2, .int a3, .ref 14] sg (PoV oM) := by
  refine Con.of (by decide) (Nat.le_of_ble_eq_true rfl) ?_
  show PW tbC RX2 cX2_vote 9 none 1 25 (PoV oM) 0 [(0, .ref 17), (1, .ref 6), (2, .int a2), (3, .int a3), (4, .ref 14)] [] sg
  have hs := h
  unfold fX2_vote_6_14 at hs
  refine pw_aload 4 dX2_vote_0 rfl ?_
  refine pw_aload_n 1 dX2_vote_2 rfl rfl ?_
  refine pw_iload_n 2 dX2_vote_3 rfl rfl ?_
  refine pw_iload_n 3 dX2_vote_4 rfl rfl ?_
  obtain ⟨r_2, hc_1, hs⟩ := Option.bind_eq_some_iff.mp hs
  refine pw_callVi [.ref 6, .int a2, .int a3] (st := []) dX2_vote_5 tC14 rfl mRX2_57 imX3_firstOf seX3_firstOf inRX3 coX3_firstOf hyX3_firstOf (by decide) (Nat.le_of_ble_eq_true rfl) (conX3_firstOf_6 hc_1) ?_
  refine pw_istore [(5, .int r_2), (0, .ref 17), (1, .ref 6), (2, .int a2), (3, .int a3), (4, .ref 14)] dX2_vote_8 (Nat.le_of_ble_eq_true rfl) rfl ?_
  refine pw_iconst (0 : Int32) dX2_vote_10 (by decide) ?_
  refine pw_istore [(6, .int (0 : Int32)), (5, .int r_2), (0, .ref 17), (1, .ref 6), (2, .int a2), (3, .int a3), (4, .ref 14)] dX2_vote_11 (Nat.le_of_ble_eq_true rfl) rfl ?_
  obtain ⟨t, hL, hs⟩ := Option.bind_eq_some_iff.mp hs
  refine PW.sub [2, 3, 4, 5, 6, 1, 0] (lv' := [(0, .ref 17), (1, .ref 6), (2, .int a2), (3, .int a3), (4, .ref 14), (5, .int r_2), (6, .int (0 : Int32))]) rfl ?_
  refine lpS_pw (T := Int32 × Sg) (X := fun t => PW tbC RX2 cX2_vote 9 none 1 25 (PoV oM) 13 [(0, .ref 17), (1, .ref 6), (2, .int a2), (3, .int a3), (4, .ref 14), (5, .int r_2), (6, .int t.1)] [] t.2) (E := fun t => PW tbC RX2 cX2_vote 9 none 1 25 (PoV oM) 118 [(0, .ref 17), (1, .ref 6), (2, .int a2), (3, .int a3), (4, .ref 14), (5, .int r_2), (6, .int t.1)] [] t.2) (step := (fun t => fX2_vote_6_14_L13 a2 a3 r_2 t.1 t.2)) ?_ 300 ((0 : Int32), sg) t hL ?_
  · intro t oL hs hE hC
    obtain ⟨a6, sg⟩ := t
    replace hs : fX2_vote_6_14_L13 a2 a3 r_2 a6 sg = some oL := hs
    show PW tbC RX2 cX2_vote 9 none 1 25 (PoV oM) 13 [(0, .ref 17), (1, .ref 6), (2, .int a2), (3, .int a3), (4, .ref 14), (5, .int r_2), (6, .int a6)] [] sg
    unfold fX2_vote_6_14_L13 at hs
    have J112 : ∀ (a6 : Int32) (sg : Sg), fX2_vote_6_14_L13_J112 a2 a3 r_2 a6 sg = some oL → PW tbC RX2 cX2_vote 9 none 1 25 (PoV oM) 112 [(0, .ref 17), (1, .ref 6), (2, .int a2), (3, .int a3), (4, .ref 14), (5, .int r_2), (6, .int a6)] [] sg := by
      intro a6 sg hs
      unfold fX2_vote_6_14_L13_J112 at hs
      refine pw_iinc 6 (a6 + 1) [(6, .int (a6 + 1)), (0, .ref 17), (1, .ref 6), (2, .int a2), (3, .int a3), (4, .ref 14), (5, .int r_2)] dX2_vote_112 rfl rfl (Nat.le_of_ble_eq_true rfl) rfl ?_
      refine pw_goto 13 dX2_vote_115 (by decide) ?_
      exact PW.sub (lv' := [(0, .ref 17), (1, .ref 6), (2, .int a2), (3, .int a3), (4, .ref 14), (5, .int r_2), (6, .int (a6 + 1))]) [1, 2, 3, 4, 5, 6, 0] rfl (hC ((a6 + 1), sg) (Option.some.inj hs).symm)
    have J68 : ∀ (a6 : Int32) (a7 : Int32) (a8 : Int32) (sg : Sg), fX2_vote_6_14_L13_J68 a2 a3 r_2 a6 a7 a8 sg = some oL → PW tbC RX2 cX2_vote 9 none 1 25 (PoV oM) 68 [(0, .ref 17), (1, .ref 6), (2, .int a2), (3, .int a3), (4, .ref 14), (5, .int r_2), (6, .int a6), (7, .int a7), (8, .int a8)] [] sg := by
      intro a6 a7 a8 sg hs
      unfold fX2_vote_6_14_L13_J68 at hs
      refine pw_iload 6 dX2_vote_68 rfl ?_
      refine pw_iload 5 dX2_vote_70 rfl ?_
      refine pw_icmp_ge 95 dX2_vote_72 (by decide) (fun c_20 => ?_) (fun c_20 => ?_)
      · rw [if_pos c_20] at hs
        refine pw_aload_n 0 dX2_vote_95 rfl rfl ?_
        refine pw_getr 0 dX2_vote_96 clRX2 tC17 (Nat.le_of_ble_eq_true rfl) fRX2_9 rfl ?_
        refine pw_iload 8 dX2_vote_99 rfl ?_
        refine pw_bipush (8 : Int32) dX2_vote_101 (by decide) ?_
        refine pw_imul dX2_vote_103 ?_
        refine pw_iload 7 dX2_vote_104 rfl ?_
        refine pw_iadd dX2_vote_106 ?_
        refine pw_dup2 dX2_vote_107 rfl rfl ?_
        obtain ⟨h_14, hs⟩ := gd_some hs
        refine pw_iaload dX2_vote_108 tC18 (inb_in h_14) ?_
        refine pw_iconst (1 : Int32) dX2_vote_109 (by decide) ?_
        refine pw_iadd dX2_vote_110 ?_
        obtain ⟨h_15, hs⟩ := gd_some hs
        refine pw_iastore dX2_vote_111 tC18 (inb_in h_15) ?_
        refine pw_sg (fun sg_16 e_sg_16 => ?_)
        replace hs := lt_use hs e_sg_16
        exact PW.sub (lv' := [(0, .ref 17), (1, .ref 6), (2, .int a2), (3, .int a3), (4, .ref 14), (5, .int r_2), (6, .int a6)]) [0, 1, 2, 3, 4, 5, 6] rfl (J112 a6 sg_16 hs)
      · rw [if_neg c_20] at hs
        refine pw_aload_n 0 dX2_vote_75 rfl rfl ?_
        refine pw_getr 0 dX2_vote_76 clRX2 tC17 (Nat.le_of_ble_eq_true rfl) fRX2_9 rfl ?_
        refine pw_iload 7 dX2_vote_79 rfl ?_
        refine pw_bipush (8 : Int32) dX2_vote_81 (by decide) ?_
        refine pw_imul dX2_vote_83 ?_
        refine pw_iload 8 dX2_vote_84 rfl ?_
        refine pw_iadd dX2_vote_86 ?_
        refine pw_dup2 dX2_vote_87 rfl rfl ?_
        obtain ⟨h_17, hs⟩ := gd_some hs
        refine pw_iaload dX2_vote_88 tC18 (inb_in h_17) ?_
        refine pw_iconst (1 : Int32) dX2_vote_89 (by decide) ?_
        refine pw_iadd dX2_vote_90 ?_
        obtain ⟨h_18, hs⟩ := gd_some hs
        refine pw_iastore dX2_vote_91 tC18 (inb_in h_18) ?_
        refine pw_sg (fun sg_19 e_sg_19 => ?_)
        replace hs := lt_use hs e_sg_19
        refine pw_goto 112 dX2_vote_92 (by decide) ?_
        exact PW.sub (lv' := [(0, .ref 17), (1, .ref 6), (2, .int a2), (3, .int a3), (4, .ref 14), (5, .int r_2), (6, .int a6)]) [0, 1, 2, 3, 4, 5, 6] rfl (J112 a6 sg_19 hs)
    refine pw_iload 6 dX2_vote_13 rfl ?_
    refine pw_iconst (1 : Int32) dX2_vote_15 (by decide) ?_
    refine pw_iadd dX2_vote_16 ?_
    refine pw_iload_n 3 dX2_vote_17 rfl rfl ?_
    refine pw_icmp_ge 118 dX2_vote_18 (by decide) (fun c_13 => ?_) (fun c_13 => ?_)
    · rw [if_pos c_13] at hs
      exact PW.sub (lv' := [(0, .ref 17), (1, .ref 6), (2, .int a2), (3, .int a3), (4, .ref 14), (5, .int r_2), (6, .int a6)]) [0, 1, 2, 3, 4, 5, 6] rfl (hE (a6, sg) (Option.some.inj hs).symm)
    · rw [if_neg c_13] at hs
      refine pw_aload_n 1 dX2_vote_21 rfl rfl ?_
      refine pw_iload_n 2 dX2_vote_22 rfl rfl ?_
      refine pw_iload 6 dX2_vote_23 rfl ?_
      refine pw_iadd dX2_vote_25 ?_
      obtain ⟨h_3, hs⟩ := gd_some hs
      refine pw_iaload dX2_vote_26 tC6 (inb_in h_3) ?_
      refine pw_topi (fun a7_4 e_a7_4 => ?_)
      replace hs := lt_use hs e_a7_4
      refine pw_istore [(7, .int a7_4), (0, .ref 17), (1, .ref 6), (2, .int a2), (3, .int a3), (4, .ref 14), (5, .int r_2), (6, .int a6)] dX2_vote_27 (Nat.le_of_ble_eq_true rfl) rfl ?_
      refine pw_aload_n 2 dX2_vote_29 rfl rfl ?_
      refine pw_iload_n 3 dX2_vote_30 rfl rfl ?_
      refine pw_iload 7 dX2_vote_31 rfl ?_
      refine pw_iadd dX2_vote_33 ?_
      refine pw_iconst (1 : Int32) dX2_vote_34 (by decide) ?_
      refine pw_iadd dX2_vote_35 ?_
      obtain ⟨h_5, hs⟩ := gd_some hs
      refine pw_iaload dX2_vote_36 tC6 (inb_in h_5) ?_
      refine pw_topi (fun a8_6 e_a8_6 => ?_)
      replace hs := lt_use hs e_a8_6
      refine pw_istore [(8, .int a8_6), (7, .int a7_4), (0, .ref 17), (1, .ref 6), (2, .int a2), (3, .int a3), (4, .ref 14), (5, .int r_2), (6, .int a6)] dX2_vote_37 (Nat.le_of_ble_eq_true rfl) rfl ?_
      refine pw_aload 6 dX2_vote_39 rfl ?_
      refine pw_geti 3 dX2_vote_41 clRX3 tC14 (Nat.le_of_ble_eq_true rfl) fRX2_48 rfl ?_
      refine pw_iload 1 dX2_vote_44 rfl ?_
      obtain ⟨r_8, hc_7, hs⟩ := Option.bind_eq_some_iff.mp hs
      refine pw_callSi [.int (rd sg 14 3), .int a7_4] (st := []) dX2_vote_46 mRX2_42 stX0_has inRX0 coX0_has hyX0_has (by decide) (Nat.le_of_ble_eq_true rfl) (conX0_has hc_7) ?_
      refine pw_if_eq 68 dX2_vote_49 (by decide) (fun c_12 => ?_) (fun c_12 => ?_)
      · rw [if_pos c_12] at hs
        exact PW.sub (lv' := [(0, .ref 17), (1, .ref 6), (2, .int a2), (3, .int a3), (4, .ref 14), (5, .int r_2), (6, .int a6), (7, .int a7_4), (8, .int a8_6)]) [2, 3, 4, 5, 6, 7, 8, 1, 0] rfl (J68 a6 a7_4 a8_6 sg hs)
      · rw [if_neg c_12] at hs
        refine pw_aload 6 dX2_vote_52 rfl ?_
        refine pw_geti 3 dX2_vote_54 clRX3 tC14 (Nat.le_of_ble_eq_true rfl) fRX2_48 rfl ?_
        refine pw_iload 0 dX2_vote_57 rfl ?_
        obtain ⟨r_10, hc_9, hs⟩ := Option.bind_eq_some_iff.mp hs
        refine pw_callSi [.int (rd sg 14 3), .int a8_6] (st := []) dX2_vote_59 mRX2_42 stX0_has inRX0 coX0_has hyX0_has (by decide) (Nat.le_of_ble_eq_true rfl) (conX0_has hc_9) ?_
        refine pw_if_eq 68 dX2_vote_62 (by decide) (fun c_11 => ?_) (fun c_11 => ?_)
        · rw [if_pos c_11] at hs
          exact PW.sub (lv' := [(0, .ref 17), (1, .ref 6), (2, .int a2), (3, .int a3), (4, .ref 14), (5, .int r_2), (6, .int a6), (7, .int a7_4), (8, .int a8_6)]) [2, 3, 4, 5, 6, 7, 8, 1, 0] rfl (J68 a6 a7_4 a8_6 sg hs)
        · rw [if_neg c_11] at hs
          refine pw_goto 112 dX2_vote_65 (by decide) ?_
          exact PW.sub (lv' := [(0, .ref 17), (1, .ref 6), (2, .int a2), (3, .int a3), (4, .ref 14), (5, .int r_2), (6, .int a6)]) [2, 3, 4, 5, 6, 7, 8] rfl (J112 a6 sg hs)
  · skip
    obtain ⟨a6_21, sg_22⟩ := t
    replace hs : fX2_vote_6_14_E118 a2 a3 r_2 a6_21 sg_22 = some oM := hs
    show PW tbC RX2 cX2_vote 9 none 1 25 (PoV oM) 118 [(0, .ref 17), (1, .ref 6), (2, .int a2), (3, .int a3), (4, .ref 14), (5, .int r_2), (6, .int a6_21)] [] sg_22
    unfold fX2_vote_6_14_E118 at hs
    have hr := Option.some.inj hs
    exact pw_return dX2_vote_118 rfl ⟨rfl, hr⟩
set_option maxRecDepth 100000 in
set_option maxHeartbeats 400000 in
theorem conX2_nameOf {sg : Sg} {a1 : Int32} {a2 : Int32} {a3 : Int32} {oM : Int32} (h : fX2_nameOf a1 a2 a3 sg = some oM) : Con tbC yX2_nameOf cX2_nameOf 5 (some .int) 1 21 [.ref 17, .int a1, .int a2, .int a3] sg (PoI oM sg) := by
  refine Con.of (by decide) (Nat.le_of_ble_eq_true rfl) ?_
  show PW tbC RX2 cX2_nameOf 5 (some .int) 1 21 (PoI oM sg) 0 [(0, .ref 17), (1, .int a1), (2, .int a2), (3, .int a3)] [] sg
  have hs := h
  unfold fX2_nameOf at hs
  have J60 : ∀ (s0 : Int32), fX2_nameOf_J60 s0 sg = some oM → PW tbC RX2 cX2_nameOf 5 (some .int) 1 21 (PoI oM sg) 60 [] [.int s0] sg := by
    intro s0 hs
    unfold fX2_nameOf_J60 at hs
    have hr := Option.some.inj hs
    exact pw_ireturn dX2_nameOf_60 rfl ⟨by rw [hr], rfl⟩
  have J18 : ∀ (a1 : Int32) (a2 : Int32), fX2_nameOf_J18 a1 a2 sg = some oM → PW tbC RX2 cX2_nameOf 5 (some .int) 1 21 (PoI oM sg) 18 [(0, .ref 17), (1, .int a1), (2, .int a2)] [] sg := by
    intro a1 a2 hs
    unfold fX2_nameOf_J18 at hs
    refine pw_aload_n 0 dX2_nameOf_18 rfl rfl ?_
    refine pw_getr 0 dX2_nameOf_19 clRX2 tC17 (Nat.le_of_ble_eq_true rfl) fRX2_9 rfl ?_
    refine pw_iload_n 1 dX2_nameOf_22 rfl rfl ?_
    refine pw_bipush (8 : Int32) dX2_nameOf_23 (by decide) ?_
    refine pw_imul dX2_nameOf_25 ?_
    refine pw_iload_n 2 dX2_nameOf_26 rfl rfl ?_
    refine pw_iadd dX2_nameOf_27 ?_
    obtain ⟨h_7, hs⟩ := gd_some hs
    refine pw_iaload dX2_nameOf_28 tC18 (inb_in h_7) ?_
    refine pw_aload_n 0 dX2_nameOf_29 rfl rfl ?_
    refine pw_getr 0 dX2_nameOf_30 clRX2 tC17 (Nat.le_of_ble_eq_true rfl) fRX2_9 rfl ?_
    refine pw_iload_n 2 dX2_nameOf_33 rfl rfl ?_
    refine pw_bipush (8 : Int32) dX2_nameOf_34 (by decide) ?_
    refine pw_imul dX2_nameOf_36 ?_
    refine pw_iload_n 1 dX2_nameOf_37 rfl rfl ?_
    refine pw_iadd dX2_nameOf_38 ?_
    obtain ⟨h_8, hs⟩ := gd_some hs
    refine pw_iaload dX2_nameOf_39 tC18 (inb_in h_8) ?_
    refine pw_isub dX2_nameOf_40 ?_
    refine pw_topi (fun a4_9 e_a4_9 => ?_)
    replace hs := lt_use hs e_a4_9
    refine pw_istore [(4, .int a4_9), (0, .ref 17), (1, .int a1), (2, .int a2)] dX2_nameOf_41 (Nat.le_of_ble_eq_true rfl) rfl ?_
    refine pw_iload 0 dX2_nameOf_43 rfl ?_
    refine pw_if_ne 50 dX2_nameOf_45 (by decide) (fun c_11 => ?_) (fun c_11 => ?_)
    · rw [if_neg c_11] at hs
      refine pw_iload 0 dX2_nameOf_50 rfl ?_
      refine pw_if_le 59 dX2_nameOf_52 (by decide) (fun c_10 => ?_) (fun c_10 => ?_)
      · rw [if_pos c_10] at hs
        refine pw_iconst (2 : Int32) dX2_nameOf_59 (by decide) ?_
        exact PW.sub (lv' := []) [] rfl (J60 (2 : Int32) hs)
      · rw [if_neg c_10] at hs
        refine pw_iconst (1 : Int32) dX2_nameOf_55 (by decide) ?_
        refine pw_goto 60 dX2_nameOf_56 (by decide) ?_
        exact PW.sub (lv' := []) [] rfl (J60 (1 : Int32) hs)
    · rw [if_pos c_11] at hs
      refine pw_iconst (4 : Int32) dX2_nameOf_48 (by decide) ?_
      have hr := Option.some.inj hs
      exact pw_ireturn dX2_nameOf_49 rfl ⟨by rw [hr], rfl⟩
  refine pw_iload_n 3 dX2_nameOf_0 rfl rfl ?_
  refine pw_iload_n 1 dX2_nameOf_1 rfl rfl ?_
  obtain ⟨r_2, hc_1, hs⟩ := Option.bind_eq_some_iff.mp hs
  refine pw_callSi [.int a3, .int a1] (st := []) dX2_nameOf_2 mRX2_42 stX0_has inRX0 coX0_has hyX0_has (by decide) (Nat.le_of_ble_eq_true rfl) (conX0_has hc_1) ?_
  refine pw_if_eq 18 dX2_nameOf_5 (by decide) (fun c_6 => ?_) (fun c_6 => ?_)
  · rw [if_pos c_6] at hs
    exact PW.sub (lv' := [(0, .ref 17), (1, .int a1), (2, .int a2)]) [0, 1, 2] rfl (J18 a1 a2 hs)
  · rw [if_neg c_6] at hs
    refine pw_iload_n 3 dX2_nameOf_8 rfl rfl ?_
    refine pw_iload_n 2 dX2_nameOf_9 rfl rfl ?_
    obtain ⟨r_4, hc_3, hs⟩ := Option.bind_eq_some_iff.mp hs
    refine pw_callSi [.int a3, .int a2] (st := []) dX2_nameOf_10 mRX2_42 stX0_has inRX0 coX0_has hyX0_has (by decide) (Nat.le_of_ble_eq_true rfl) (conX0_has hc_3) ?_
    refine pw_if_eq 18 dX2_nameOf_13 (by decide) (fun c_5 => ?_) (fun c_5 => ?_)
    · rw [if_pos c_5] at hs
      exact PW.sub (lv' := [(0, .ref 17), (1, .int a1), (2, .int a2)]) [0, 1, 2] rfl (J18 a1 a2 hs)
    · rw [if_neg c_5] at hs
      refine pw_iconst (3 : Int32) dX2_nameOf_16 (by decide) ?_
      have hr := Option.some.inj hs
      exact pw_ireturn dX2_nameOf_17 rfl ⟨by rw [hr], rfl⟩
set_option maxRecDepth 100000 in
set_option maxHeartbeats 400000 in
theorem conX2_read_3_8_14 {sg : Sg}  {oM : Sg} (h : fX2_read_3_8_14  sg = some oM) : Con tbC yX2_read cX2_read 7 none 2 53 [.ref 17, .ref 3, .ref 8, .ref 14] sg (PoV oM) := by
  refine Con.of (by decide) (Nat.le_of_ble_eq_true rfl) ?_
  show PW tbC RX2 cX2_read 7 none 2 53 (PoV oM) 0 [(0, .ref 17), (1, .ref 3), (2, .ref 8), (3, .ref 14)] [] sg
  have hs := h
  unfold fX2_read_3_8_14 at hs
  refine pw_iconst (0 : Int32) dX2_read_0 (by decide) ?_
  refine pw_istore [(4, .int (0 : Int32)), (0, .ref 17), (1, .ref 3), (2, .ref 8), (3, .ref 14)] dX2_read_1 (Nat.le_of_ble_eq_true rfl) rfl ?_
  obtain ⟨t, hL, hs⟩ := Option.bind_eq_some_iff.mp hs
  refine PW.sub [1, 2, 3, 4, 0] (lv' := [(0, .ref 17), (1, .ref 3), (2, .ref 8), (3, .ref 14), (4, .int (0 : Int32))]) rfl ?_
  refine lpS_pw (T := Int32 × Sg) (X := fun t => PW tbC RX2 cX2_read 7 none 2 53 (PoV oM) 3 [(0, .ref 17), (1, .ref 3), (2, .ref 8), (3, .ref 14), (4, .int t.1)] [] t.2) (E := fun t => PW tbC RX2 cX2_read 7 none 2 53 (PoV oM) 24 [(0, .ref 17), (1, .ref 3), (2, .ref 8), (3, .ref 14), (4, .int t.1)] [] t.2) (step := (fun t => fX2_read_3_8_14_L3 t.1 t.2)) ?_ 300 ((0 : Int32), sg) t hL ?_
  · intro t oL hs hE hC
    obtain ⟨a4, sg⟩ := t
    replace hs : fX2_read_3_8_14_L3 a4 sg = some oL := hs
    show PW tbC RX2 cX2_read 7 none 2 53 (PoV oM) 3 [(0, .ref 17), (1, .ref 3), (2, .ref 8), (3, .ref 14), (4, .int a4)] [] sg
    unfold fX2_read_3_8_14_L3 at hs
    refine pw_iload 4 dX2_read_3 rfl ?_
    refine pw_bipush (64 : Int32) dX2_read_5 (by decide) ?_
    refine pw_icmp_ge 24 dX2_read_7 (by decide) (fun c_3 => ?_) (fun c_3 => ?_)
    · rw [if_pos c_3] at hs
      exact PW.sub (lv' := [(0, .ref 17), (1, .ref 3), (2, .ref 8), (3, .ref 14), (4, .int a4)]) [0, 1, 2, 3, 4] rfl (hE (a4, sg) (Option.some.inj hs).symm)
    · rw [if_neg c_3] at hs
      refine pw_aload_n 0 dX2_read_10 rfl rfl ?_
      refine pw_getr 0 dX2_read_11 clRX2 tC17 (Nat.le_of_ble_eq_true rfl) fRX2_9 rfl ?_
      refine pw_iload 4 dX2_read_14 rfl ?_
      refine pw_iconst (0 : Int32) dX2_read_16 (by decide) ?_
      obtain ⟨h_1, hs⟩ := gd_some hs
      refine pw_iastore dX2_read_17 tC18 (inb_in h_1) ?_
      refine pw_sg (fun sg_2 e_sg_2 => ?_)
      replace hs := lt_use hs e_sg_2
      refine pw_iinc 4 (a4 + 1) [(4, .int (a4 + 1)), (0, .ref 17), (1, .ref 3), (2, .ref 8), (3, .ref 14)] dX2_read_18 rfl rfl (Nat.le_of_ble_eq_true rfl) rfl ?_
      refine pw_goto 3 dX2_read_21 (by decide) ?_
      exact PW.sub (lv' := [(0, .ref 17), (1, .ref 3), (2, .ref 8), (3, .ref 14), (4, .int (a4 + 1))]) [1, 2, 3, 4, 0] rfl (hC ((a4 + 1), sg_2) (Option.some.inj hs).symm)
  · skip
    obtain ⟨a4_4, sg_5⟩ := t
    replace hs : fX2_read_3_8_14_E24 a4_4 sg_5 = some oM := hs
    show PW tbC RX2 cX2_read 7 none 2 53 (PoV oM) 24 [(0, .ref 17), (1, .ref 3), (2, .ref 8), (3, .ref 14), (4, .int a4_4)] [] sg_5
    unfold fX2_read_3_8_14_E24 at hs
    refine pw_iconst (0 : Int32) dX2_read_24 (by decide) ?_
    refine pw_istore [(4, .int (0 : Int32)), (0, .ref 17), (1, .ref 3), (2, .ref 8), (3, .ref 14)] dX2_read_25 (Nat.le_of_ble_eq_true rfl) rfl ?_
    obtain ⟨t, hL, hs⟩ := Option.bind_eq_some_iff.mp hs
    refine PW.sub [1, 2, 3, 4, 0] (lv' := [(0, .ref 17), (1, .ref 3), (2, .ref 8), (3, .ref 14), (4, .int (0 : Int32))]) rfl ?_
    refine lpS_pw (T := Int32 × Sg) (X := fun t => PW tbC RX2 cX2_read 7 none 2 53 (PoV oM) 27 [(0, .ref 17), (1, .ref 3), (2, .ref 8), (3, .ref 14), (4, .int t.1)] [] t.2) (E := fun t => PW tbC RX2 cX2_read 7 none 2 53 (PoV oM) 63 [(0, .ref 17), (1, .ref 3), (2, .ref 8), (3, .ref 14), (4, .int t.1)] [] t.2) (step := (fun t => fX2_read_3_8_14_L27 t.1 t.2)) ?_ 300 ((0 : Int32), sg_5) t hL ?_
    · intro t oL hs hE hC
      obtain ⟨a4_4, sg_5⟩ := t
      replace hs : fX2_read_3_8_14_L27 a4_4 sg_5 = some oL := hs
      show PW tbC RX2 cX2_read 7 none 2 53 (PoV oM) 27 [(0, .ref 17), (1, .ref 3), (2, .ref 8), (3, .ref 14), (4, .int a4_4)] [] sg_5
      unfold fX2_read_3_8_14_L27 at hs
      refine pw_iload 4 dX2_read_27 rfl ?_
      refine pw_aload_n 1 dX2_read_29 rfl rfl ?_
      refine pw_geti 4 dX2_read_30 clRX6 tC3 (Nat.le_of_ble_eq_true rfl) fRX2_21 rfl ?_
      refine pw_icmp_ge 63 dX2_read_33 (by decide) (fun c_9 => ?_) (fun c_9 => ?_)
      · rw [if_pos c_9] at hs
        exact PW.sub (lv' := [(0, .ref 17), (1, .ref 3), (2, .ref 8), (3, .ref 14), (4, .int a4_4)]) [0, 1, 2, 3, 4] rfl (hE (a4_4, sg_5) (Option.some.inj hs).symm)
      · rw [if_neg c_9] at hs
        refine pw_aload_n 0 dX2_read_36 rfl rfl ?_
        refine pw_aload_n 1 dX2_read_37 rfl rfl ?_
        refine pw_getr 2 dX2_read_38 clRX6 tC3 (Nat.le_of_ble_eq_true rfl) fRX2_27 rfl ?_
        refine pw_iload 4 dX2_read_41 rfl ?_
        refine pw_bipush (6 : Int32) dX2_read_43 (by decide) ?_
        refine pw_imul dX2_read_45 ?_
        refine pw_aload_n 1 dX2_read_46 rfl rfl ?_
        refine pw_getr 3 dX2_read_47 clRX6 tC3 (Nat.le_of_ble_eq_true rfl) fRX2_30 rfl ?_
        refine pw_iload 4 dX2_read_50 rfl ?_
        obtain ⟨h_6, hs⟩ := gd_some hs
        refine pw_iaload dX2_read_52 tC7 (inb_in h_6) ?_
        refine pw_aload_n 3 dX2_read_53 rfl rfl ?_
        obtain ⟨sg_8, hc_7, hs⟩ := Option.bind_eq_some_iff.mp hs
        refine pw_callVv [.ref 6, .int (a4_4 * (6 : Int32)), .int (rd sg_5 7 (Int32.toNatClampNeg a4_4)), .ref 14] (st := []) dX2_read_54 tC17 rfl mRX2_33 imX2_vote seX2_vote inRX2 coX2_vote hyX2_vote (by decide) (Nat.le_of_ble_eq_true rfl) (conX2_vote_6_14 hc_7) ?_
        refine pw_iinc 4 (a4_4 + 1) [(4, .int (a4_4 + 1)), (0, .ref 17), (1, .ref 3), (2, .ref 8), (3, .ref 14)] dX2_read_57 rfl rfl (Nat.le_of_ble_eq_true rfl) rfl ?_
        refine pw_goto 27 dX2_read_60 (by decide) ?_
        exact PW.sub (lv' := [(0, .ref 17), (1, .ref 3), (2, .ref 8), (3, .ref 14), (4, .int (a4_4 + 1))]) [1, 2, 3, 4, 0] rfl (hC ((a4_4 + 1), sg_8) (Option.some.inj hs).symm)
    · skip
      obtain ⟨a4_10, sg_11⟩ := t
      replace hs : fX2_read_3_8_14_E63 a4_10 sg_11 = some oM := hs
      show PW tbC RX2 cX2_read 7 none 2 53 (PoV oM) 63 [(0, .ref 17), (1, .ref 3), (2, .ref 8), (3, .ref 14), (4, .int a4_10)] [] sg_11
      unfold fX2_read_3_8_14_E63 at hs
      refine pw_iconst (0 : Int32) dX2_read_63 (by decide) ?_
      refine pw_istore [(4, .int (0 : Int32)), (0, .ref 17), (1, .ref 3), (2, .ref 8), (3, .ref 14)] dX2_read_64 (Nat.le_of_ble_eq_true rfl) rfl ?_
      obtain ⟨t, hL, hs⟩ := Option.bind_eq_some_iff.mp hs
      refine PW.sub [1, 3, 4, 0] (lv' := [(0, .ref 17), (2, .ref 8), (3, .ref 14), (4, .int (0 : Int32))]) rfl ?_
      refine lpS_pw (T := Int32 × Sg) (X := fun t => PW tbC RX2 cX2_read 7 none 2 53 (PoV oM) 66 [(0, .ref 17), (2, .ref 8), (3, .ref 14), (4, .int t.1)] [] t.2) (E := fun t => PW tbC RX2 cX2_read 7 none 2 53 (PoV oM) 175 [(0, .ref 17), (2, .ref 8), (3, .ref 14), (4, .int t.1)] [] t.2) (step := (fun t => fX2_read_3_8_14_L66 t.1 t.2)) ?_ 300 ((0 : Int32), sg_11) t hL ?_
      · intro t oL hs hE hC
        obtain ⟨a4_10, sg_11⟩ := t
        replace hs : fX2_read_3_8_14_L66 a4_10 sg_11 = some oL := hs
        show PW tbC RX2 cX2_read 7 none 2 53 (PoV oM) 66 [(0, .ref 17), (2, .ref 8), (3, .ref 14), (4, .int a4_10)] [] sg_11
        unfold fX2_read_3_8_14_L66 at hs
        refine pw_iload 3 dX2_read_66 rfl ?_
        refine pw_bipush (8 : Int32) dX2_read_68 (by decide) ?_
        refine pw_icmp_ge 175 dX2_read_70 (by decide) (fun c_29 => ?_) (fun c_29 => ?_)
        · rw [if_pos c_29] at hs
          exact PW.sub (lv' := [(0, .ref 17), (2, .ref 8), (3, .ref 14), (4, .int a4_10)]) [0, 1, 2, 3] rfl (hE (a4_10, sg_11) (Option.some.inj hs).symm)
        · rw [if_neg c_29] at hs
          refine pw_aload_n 0 dX2_read_73 rfl rfl ?_
          refine pw_getr 2 dX2_read_74 clRX2 tC17 (Nat.le_of_ble_eq_true rfl) fRX2_18 rfl ?_
          refine pw_iload 3 dX2_read_77 rfl ?_
          refine pw_iconst (0 : Int32) dX2_read_79 (by decide) ?_
          obtain ⟨h_12, hs⟩ := gd_some hs
          refine pw_iastore dX2_read_80 tC20 (inb_in h_12) ?_
          refine pw_sg (fun sg_13 e_sg_13 => ?_)
          replace hs := lt_use hs e_sg_13
          refine pw_iconst (0 : Int32) dX2_read_81 (by decide) ?_
          refine pw_istore [(5, .int (0 : Int32)), (0, .ref 17), (2, .ref 8), (3, .ref 14), (4, .int a4_10)] dX2_read_82 (Nat.le_of_ble_eq_true rfl) rfl ?_
          obtain ⟨t, hL, hs⟩ := Option.bind_eq_some_iff.mp hs
          refine PW.sub [1, 2, 3, 4, 0] (lv' := [(0, .ref 17), (2, .ref 8), (3, .ref 14), (4, .int a4_10), (5, .int (0 : Int32))]) rfl ?_
          refine lpS_pw (T := Int32 × Sg) (X := fun t => PW tbC RX2 cX2_read 7 none 2 53 (PoV oM) 84 [(0, .ref 17), (2, .ref 8), (3, .ref 14), (4, .int a4_10), (5, .int t.1)] [] t.2) (E := fun t => PW tbC RX2 cX2_read 7 none 2 53 (PoV oM) 169 [(0, .ref 17), (2, .ref 8), (3, .ref 14), (4, .int a4_10), (5, .int t.1)] [] t.2) (step := (fun t => fX2_read_3_8_14_L84 a4_10 t.1 t.2)) ?_ 300 ((0 : Int32), sg_13) t hL ?_
          · intro t oL hs hE hC
            obtain ⟨a5, sg_11⟩ := t
            replace hs : fX2_read_3_8_14_L84 a4_10 a5 sg_11 = some oL := hs
            show PW tbC RX2 cX2_read 7 none 2 53 (PoV oM) 84 [(0, .ref 17), (2, .ref 8), (3, .ref 14), (4, .int a4_10), (5, .int a5)] [] sg_11
            unfold fX2_read_3_8_14_L84 at hs
            have J161 : ∀ (a5 : Int32) (s0 : Int32) (s1 : Int32) (s2 : Int32) (sg_11 : Sg), fX2_read_3_8_14_L84_J161 a4_10 a5 s0 s1 s2 sg_11 = some oL → PW tbC RX2 cX2_read 7 none 2 53 (PoV oM) 161 [(0, .ref 17), (2, .ref 8), (3, .ref 14), (4, .int a4_10), (5, .int a5)] [.int s0, .int s1, .int s2, .ref 20] sg_11 := by
              intro a5 s0 s1 s2 sg_11 hs
              unfold fX2_read_3_8_14_L84_J161 at hs
              refine pw_ior dX2_read_161 ?_
              obtain ⟨h_25, hs⟩ := gd_some hs
              refine pw_iastore dX2_read_162 tC20 (inb_in h_25) ?_
              refine pw_sg (fun sg_26 e_sg_26 => ?_)
              replace hs := lt_use hs e_sg_26
              refine pw_iinc 4 (a5 + 1) [(5, .int (a5 + 1)), (0, .ref 17), (2, .ref 8), (3, .ref 14), (4, .int a4_10)] dX2_read_163 rfl rfl (Nat.le_of_ble_eq_true rfl) rfl ?_
              refine pw_goto 84 dX2_read_166 (by decide) ?_
              exact PW.sub (lv' := [(0, .ref 17), (2, .ref 8), (3, .ref 14), (4, .int a4_10), (5, .int (a5 + 1))]) [1, 2, 3, 4, 0] rfl (hC ((a5 + 1), sg_26) (Option.some.inj hs).symm)
            have J122 : ∀ (a5 : Int32) (s0 : Int32) (sg_11 : Sg), fX2_read_3_8_14_L84_J122 a4_10 a5 s0 sg_11 = some oL → PW tbC RX2 cX2_read 7 none 2 53 (PoV oM) 122 [(0, .ref 17), (2, .ref 8), (3, .ref 14), (4, .int a4_10), (5, .int a5)] [.int s0] sg_11 := by
              intro a5 s0 sg_11 hs
              unfold fX2_read_3_8_14_L84_J122 at hs
              refine pw_istore [(6, .int s0), (0, .ref 17), (2, .ref 8), (3, .ref 14), (4, .int a4_10), (5, .int a5)] dX2_read_122 (Nat.le_of_ble_eq_true rfl) rfl ?_
              refine pw_aload_n 1 dX2_read_124 rfl rfl ?_
              refine pw_getr 1 dX2_read_125 clRX2 tC17 (Nat.le_of_ble_eq_true rfl) fRX2_15 rfl ?_
              refine pw_iload 4 dX2_read_128 rfl ?_
              refine pw_bipush (8 : Int32) dX2_read_130 (by decide) ?_
              refine pw_imul dX2_read_132 ?_
              refine pw_iload 5 dX2_read_133 rfl ?_
              refine pw_iadd dX2_read_135 ?_
              refine pw_iload 0 dX2_read_136 rfl ?_
              obtain ⟨h_21, hs⟩ := gd_some hs
              refine pw_iastore dX2_read_138 tC19 (inb_in h_21) ?_
              refine pw_sg (fun sg_22 e_sg_22 => ?_)
              replace hs := lt_use hs e_sg_22
              refine pw_aload_n 1 dX2_read_139 rfl rfl ?_
              refine pw_getr 2 dX2_read_140 clRX2 tC17 (Nat.le_of_ble_eq_true rfl) fRX2_18 rfl ?_
              refine pw_iload 4 dX2_read_143 rfl ?_
              refine pw_dup2 dX2_read_145 rfl rfl ?_
              obtain ⟨h_23, hs⟩ := gd_some hs
              refine pw_iaload dX2_read_146 tC20 (inb_in h_23) ?_
              refine pw_iload 0 dX2_read_147 rfl ?_
              refine pw_iconst (2 : Int32) dX2_read_149 (by decide) ?_
              refine pw_icmp_ne 160 dX2_read_150 (by decide) (fun c_24 => ?_) (fun c_24 => ?_)
              · rw [if_neg c_24] at hs
                refine pw_iconst (0 : Int32) dX2_read_160 (by decide) ?_
                exact PW.sub (lv' := [(0, .ref 17), (2, .ref 8), (3, .ref 14), (4, .int a4_10), (5, .int a5)]) [1, 2, 3, 4, 5] rfl (J161 a5 (0 : Int32) (rd sg_22 20 (Int32.toNatClampNeg a4_10)) a4_10 sg_22 hs)
              · rw [if_pos c_24] at hs
                refine pw_iconst (1 : Int32) dX2_read_153 (by decide) ?_
                refine pw_iload 5 dX2_read_154 rfl ?_
                refine pw_ishl dX2_read_156 ?_
                refine pw_goto 161 dX2_read_157 (by decide) ?_
                exact PW.sub (lv' := [(0, .ref 17), (2, .ref 8), (3, .ref 14), (4, .int a4_10), (5, .int a5)]) [1, 2, 3, 4, 5] rfl (J161 a5 ((1 : Int32) <<< (a5 &&& 31)) (rd sg_22 20 (Int32.toNatClampNeg a4_10)) a4_10 sg_22 hs)
            refine pw_iload 4 dX2_read_84 rfl ?_
            refine pw_bipush (8 : Int32) dX2_read_86 (by decide) ?_
            refine pw_icmp_ge 169 dX2_read_88 (by decide) (fun c_20 => ?_) (fun c_20 => ?_)
            · rw [if_pos c_20] at hs
              exact PW.sub (lv' := [(0, .ref 17), (2, .ref 8), (3, .ref 14), (4, .int a4_10), (5, .int a5)]) [0, 1, 2, 3, 4] rfl (hE (a5, sg_11) (Option.some.inj hs).symm)
            · rw [if_neg c_20] at hs
              refine pw_aload_n 1 dX2_read_91 rfl rfl ?_
              refine pw_getr 0 dX2_read_92 clRX1 tC8 (Nat.le_of_ble_eq_true rfl) fRX2_37 rfl ?_
              refine pw_iload 3 dX2_read_95 rfl ?_
              obtain ⟨h_14, hs⟩ := gd_some hs
              refine pw_iaload dX2_read_97 tC9 (inb_in h_14) ?_
              refine pw_iload 4 dX2_read_98 rfl ?_
              obtain ⟨r_16, hc_15, hs⟩ := Option.bind_eq_some_iff.mp hs
              refine pw_callSi [.int (rd sg_11 9 (Int32.toNatClampNeg a4_10)), .int a5] (st := []) dX2_read_100 mRX2_42 stX0_has inRX0 coX0_has hyX0_has (by decide) (Nat.le_of_ble_eq_true rfl) (conX0_has hc_15) ?_
              refine pw_if_eq 121 dX2_read_103 (by decide) (fun c_19 => ?_) (fun c_19 => ?_)
              · rw [if_pos c_19] at hs
                refine pw_iconst (0 : Int32) dX2_read_121 (by decide) ?_
                exact PW.sub (lv' := [(0, .ref 17), (2, .ref 8), (3, .ref 14), (4, .int a4_10), (5, .int a5)]) [0, 1, 2, 3, 4] rfl (J122 a5 (0 : Int32) sg_11 hs)
              · rw [if_neg c_19] at hs
                refine pw_aload_n 0 dX2_read_106 rfl rfl ?_
                refine pw_iload 3 dX2_read_107 rfl ?_
                refine pw_iload 4 dX2_read_109 rfl ?_
                refine pw_aload_n 2 dX2_read_111 rfl rfl ?_
                refine pw_geti 3 dX2_read_112 clRX3 tC14 (Nat.le_of_ble_eq_true rfl) fRX2_48 rfl ?_
                obtain ⟨r_18, hc_17, hs⟩ := Option.bind_eq_some_iff.mp hs
                refine pw_callVi [.int a4_10, .int a5, .int (rd sg_11 14 3)] (st := []) dX2_read_115 tC17 rfl mRX2_53 imX2_nameOf seX2_nameOf inRX2 coX2_nameOf hyX2_nameOf (by decide) (Nat.le_of_ble_eq_true rfl) (conX2_nameOf hc_17) ?_
                refine pw_goto 122 dX2_read_118 (by decide) ?_
                exact PW.sub (lv' := [(0, .ref 17), (2, .ref 8), (3, .ref 14), (4, .int a4_10), (5, .int a5)]) [0, 1, 2, 3, 4] rfl (J122 a5 r_18 sg_11 hs)
          · skip
            obtain ⟨a5_27, sg_28⟩ := t
            replace hs : fX2_read_3_8_14_L66_E169 a4_10 a5_27 sg_28 = some oL := hs
            show PW tbC RX2 cX2_read 7 none 2 53 (PoV oM) 169 [(0, .ref 17), (2, .ref 8), (3, .ref 14), (4, .int a4_10), (5, .int a5_27)] [] sg_28
            unfold fX2_read_3_8_14_L66_E169 at hs
            refine pw_iinc 3 (a4_10 + 1) [(4, .int (a4_10 + 1)), (0, .ref 17), (2, .ref 8), (3, .ref 14), (5, .int a5_27)] dX2_read_169 rfl rfl (Nat.le_of_ble_eq_true rfl) rfl ?_
            refine pw_goto 66 dX2_read_172 (by decide) ?_
            exact PW.sub (lv' := [(0, .ref 17), (2, .ref 8), (3, .ref 14), (4, .int (a4_10 + 1))]) [1, 2, 3, 0] rfl (hC ((a4_10 + 1), sg_28) (Option.some.inj hs).symm)
      · skip
        obtain ⟨a4_30, sg_31⟩ := t
        replace hs : fX2_read_3_8_14_E175 a4_30 sg_31 = some oM := hs
        show PW tbC RX2 cX2_read 7 none 2 53 (PoV oM) 175 [(0, .ref 17), (2, .ref 8), (3, .ref 14), (4, .int a4_30)] [] sg_31
        unfold fX2_read_3_8_14_E175 at hs
        have hr := Option.some.inj hs
        exact pw_return dX2_read_175 rfl ⟨rfl, hr⟩
set_option maxRecDepth 100000 in
set_option maxHeartbeats 400000 in
theorem conX5_settle {sg : Sg} {a1 : Int32} {oM : Int32 × Sg} (h : fX5_settle a1 sg = some oM) : Con tbC yX5_settle cX5_settle 6 (some .boolean) 1 21 [.ref 21, .int a1] sg (PoI oM.1 oM.2) := by
  refine Con.of (by decide) (Nat.le_of_ble_eq_true rfl) ?_
  show PW tbC RX5 cX5_settle 6 (some .boolean) 1 21 (PoI oM.1 oM.2) 0 [(0, .ref 21), (1, .int a1)] [] sg
  have hs := h
  unfold fX5_settle at hs
  refine pw_iconst (0 : Int32) dX5_settle_0 (by decide) ?_
  refine pw_istore_n [(2, .int (0 : Int32)), (0, .ref 21), (1, .int a1)] dX5_settle_1 rfl (Nat.le_of_ble_eq_true rfl) rfl ?_
  refine pw_iconst (0 : Int32) dX5_settle_2 (by decide) ?_
  refine pw_istore_n [(3, .int (0 : Int32)), (2, .int (0 : Int32)), (0, .ref 21), (1, .int a1)] dX5_settle_3 rfl (Nat.le_of_ble_eq_true rfl) rfl ?_
  obtain ⟨t, hL, hs⟩ := Option.bind_eq_some_iff.mp hs
  refine PW.sub [2, 3, 1, 0] (lv' := [(0, .ref 21), (1, .int a1), (2, .int (0 : Int32)), (3, .int (0 : Int32))]) rfl ?_
  refine lpS_pw (T := Int32 × Int32 × Sg) (X := fun t => PW tbC RX5 cX5_settle 6 (some .boolean) 1 21 (PoI oM.1 oM.2) 4 [(0, .ref 21), (1, .int a1), (2, .int t.1), (3, .int t.2.1)] [] t.2.2) (E := fun t => PW tbC RX5 cX5_settle 6 (some .boolean) 1 21 (PoI oM.1 oM.2) 86 [(0, .ref 21), (1, .int a1), (2, .int t.1), (3, .int t.2.1)] [] t.2.2) (step := (fun t => fX5_settle_L4 a1 t.1 t.2.1 t.2.2)) ?_ 300 ((0 : Int32), (0 : Int32), sg) t hL ?_
  · intro t oL hs hE hC
    obtain ⟨a2, a3, sg⟩ := t
    replace hs : fX5_settle_L4 a1 a2 a3 sg = some oL := hs
    show PW tbC RX5 cX5_settle 6 (some .boolean) 1 21 (PoI oM.1 oM.2) 4 [(0, .ref 21), (1, .int a1), (2, .int a2), (3, .int a3)] [] sg
    unfold fX5_settle_L4 at hs
    refine pw_iload_n 3 dX5_settle_4 rfl rfl ?_
    refine pw_bipush (16 : Int32) dX5_settle_5 (by decide) ?_
    refine pw_icmp_ge 86 dX5_settle_7 (by decide) (fun c_16 => ?_) (fun c_16 => ?_)
    · rw [if_pos c_16] at hs
      exact PW.sub (lv' := [(0, .ref 21), (1, .int a1), (2, .int a2), (3, .int a3)]) [0, 1, 2, 3] rfl (hE (a2, a3, sg) (Option.some.inj hs).symm)
    · rw [if_neg c_16] at hs
      refine pw_aload_n 0 dX5_settle_10 rfl rfl ?_
      refine pw_getr 2 dX5_settle_11 clRX5 tC21 (Nat.le_of_ble_eq_true rfl) fRX5_18 rfl ?_
      refine pw_iload_n 3 dX5_settle_14 rfl rfl ?_
      obtain ⟨h_1, hs⟩ := gd_some hs
      refine pw_iaload dX5_settle_15 tC24 (inb_in h_1) ?_
      refine pw_aload_n 0 dX5_settle_16 rfl rfl ?_
      refine pw_getr 1 dX5_settle_17 clRX5 tC21 (Nat.le_of_ble_eq_true rfl) fRX5_15 rfl ?_
      refine pw_iload_n 3 dX5_settle_20 rfl rfl ?_
      obtain ⟨h_2, hs⟩ := gd_some hs
      refine pw_iaload dX5_settle_21 tC23 (inb_in h_2) ?_
      refine pw_iconst (-1 : Int32) dX5_settle_22 (by decide) ?_
      refine pw_ixor dX5_settle_23 ?_
      refine pw_iand dX5_settle_24 ?_
      refine pw_topi (fun a4_3 e_a4_3 => ?_)
      replace hs := lt_use hs e_a4_3
      refine pw_istore [(4, .int a4_3), (0, .ref 21), (1, .int a1), (2, .int a2), (3, .int a3)] dX5_settle_25 (Nat.le_of_ble_eq_true rfl) rfl ?_
      refine pw_iconst (0 : Int32) dX5_settle_27 (by decide) ?_
      refine pw_istore [(5, .int (0 : Int32)), (4, .int a4_3), (0, .ref 21), (1, .int a1), (2, .int a2), (3, .int a3)] dX5_settle_28 (Nat.le_of_ble_eq_true rfl) rfl ?_
      obtain ⟨t, hL, hs⟩ := Option.bind_eq_some_iff.mp hs
      refine PW.sub [2, 3, 5, 1, 4, 0] (lv' := [(0, .ref 21), (1, .int a1), (3, .int a3), (4, .int a4_3), (2, .int a2), (5, .int (0 : Int32))]) rfl ?_
      refine lpS_pw (T := Int32 × Int32 × Sg) (X := fun t => PW tbC RX5 cX5_settle 6 (some .boolean) 1 21 (PoI oM.1 oM.2) 30 [(0, .ref 21), (1, .int a1), (3, .int a3), (4, .int a4_3), (2, .int t.1), (5, .int t.2.1)] [] t.2.2) (E := fun t => PW tbC RX5 cX5_settle 6 (some .boolean) 1 21 (PoI oM.1 oM.2) 68 [(0, .ref 21), (1, .int a1), (3, .int a3), (4, .int a4_3), (2, .int t.1), (5, .int t.2.1)] [] t.2.2) (step := (fun t => fX5_settle_L30 a1 a3 a4_3 t.1 t.2.1 t.2.2)) ?_ 300 (a2, (0 : Int32), sg) t hL ?_
      · intro t oL hs hE hC
        obtain ⟨a2, a5, sg⟩ := t
        replace hs : fX5_settle_L30 a1 a3 a4_3 a2 a5 sg = some oL := hs
        show PW tbC RX5 cX5_settle 6 (some .boolean) 1 21 (PoI oM.1 oM.2) 30 [(0, .ref 21), (1, .int a1), (3, .int a3), (4, .int a4_3), (2, .int a2), (5, .int a5)] [] sg
        unfold fX5_settle_L30 at hs
        have J62 : ∀ (a2 : Int32) (a5 : Int32) (sg : Sg), fX5_settle_L30_J62 a1 a2 a3 a4_3 a5 sg = some oL → PW tbC RX5 cX5_settle 6 (some .boolean) 1 21 (PoI oM.1 oM.2) 62 [(0, .ref 21), (1, .int a1), (2, .int a2), (3, .int a3), (4, .int a4_3), (5, .int a5)] [] sg := by
          intro a2 a5 sg hs
          unfold fX5_settle_L30_J62 at hs
          refine pw_iinc 5 (a5 + 1) [(5, .int (a5 + 1)), (0, .ref 21), (1, .int a1), (2, .int a2), (3, .int a3), (4, .int a4_3)] dX5_settle_62 rfl rfl (Nat.le_of_ble_eq_true rfl) rfl ?_
          refine pw_goto 30 dX5_settle_65 (by decide) ?_
          exact PW.sub (lv' := [(0, .ref 21), (1, .int a1), (3, .int a3), (4, .int a4_3), (2, .int a2), (5, .int (a5 + 1))]) [1, 2, 4, 5, 3, 0] rfl (hC (a2, (a5 + 1), sg) (Option.some.inj hs).symm)
        refine pw_iload 5 dX5_settle_30 rfl ?_
        refine pw_bipush (8 : Int32) dX5_settle_32 (by decide) ?_
        refine pw_icmp_ge 68 dX5_settle_34 (by decide) (fun c_9 => ?_) (fun c_9 => ?_)
        · rw [if_pos c_9] at hs
          exact PW.sub (lv' := [(0, .ref 21), (1, .int a1), (3, .int a3), (4, .int a4_3), (2, .int a2), (5, .int a5)]) [0, 1, 2, 3, 4, 5] rfl (hE (a2, a5, sg) (Option.some.inj hs).symm)
        · rw [if_neg c_9] at hs
          refine pw_iload 3 dX5_settle_37 rfl ?_
          refine pw_iload 5 dX5_settle_39 rfl ?_
          obtain ⟨r_5, hc_4, hs⟩ := Option.bind_eq_some_iff.mp hs
          refine pw_callSi [.int a4_3, .int a5] (st := []) dX5_settle_41 mRX5_38 stX0_has inRX0 coX0_has hyX0_has (by decide) (Nat.le_of_ble_eq_true rfl) (conX0_has hc_4) ?_
          refine pw_if_eq 62 dX5_settle_44 (by decide) (fun c_8 => ?_) (fun c_8 => ?_)
          · rw [if_pos c_8] at hs
            exact PW.sub (lv' := [(0, .ref 21), (1, .int a1), (2, .int a2), (3, .int a3), (4, .int a4_3), (5, .int a5)]) [0, 1, 4, 2, 3, 5] rfl (J62 a2 a5 sg hs)
          · rw [if_neg c_8] at hs
            refine pw_aload_n 0 dX5_settle_47 rfl rfl ?_
            refine pw_getr 0 dX5_settle_48 clRX5 tC21 (Nat.le_of_ble_eq_true rfl) fRX5_11 rfl ?_
            refine pw_iload_n 2 dX5_settle_51 rfl rfl ?_
            refine pw_bipush (8 : Int32) dX5_settle_52 (by decide) ?_
            refine pw_imul dX5_settle_54 ?_
            refine pw_iload 5 dX5_settle_55 rfl ?_
            refine pw_iadd dX5_settle_57 ?_
            refine pw_iload_n 1 dX5_settle_58 rfl rfl ?_
            obtain ⟨h_6, hs⟩ := gd_some hs
            refine pw_iastore dX5_settle_59 tC22 (inb_in h_6) ?_
            refine pw_sg (fun sg_7 e_sg_7 => ?_)
            replace hs := lt_use hs e_sg_7
            refine pw_iconst (1 : Int32) dX5_settle_60 (by decide) ?_
            refine pw_istore_n [(2, .int (1 : Int32)), (0, .ref 21), (1, .int a1), (3, .int a3), (4, .int a4_3), (5, .int a5)] dX5_settle_61 rfl (Nat.le_of_ble_eq_true rfl) rfl ?_
            exact PW.sub (lv' := [(0, .ref 21), (1, .int a1), (2, .int (1 : Int32)), (3, .int a3), (4, .int a4_3), (5, .int a5)]) [1, 2, 0, 3, 4, 5] rfl (J62 (1 : Int32) a5 sg_7 hs)
      · skip
        obtain ⟨a2_10, a5_11, sg_12⟩ := t
        replace hs : fX5_settle_L4_E68 a1 a3 a4_3 a2_10 a5_11 sg_12 = some oL := hs
        show PW tbC RX5 cX5_settle 6 (some .boolean) 1 21 (PoI oM.1 oM.2) 68 [(0, .ref 21), (1, .int a1), (3, .int a3), (4, .int a4_3), (2, .int a2_10), (5, .int a5_11)] [] sg_12
        unfold fX5_settle_L4_E68 at hs
        refine pw_aload_n 0 dX5_settle_68 rfl rfl ?_
        refine pw_getr 1 dX5_settle_69 clRX5 tC21 (Nat.le_of_ble_eq_true rfl) fRX5_15 rfl ?_
        refine pw_iload_n 2 dX5_settle_72 rfl rfl ?_
        refine pw_aload_n 0 dX5_settle_73 rfl rfl ?_
        refine pw_getr 2 dX5_settle_74 clRX5 tC21 (Nat.le_of_ble_eq_true rfl) fRX5_18 rfl ?_
        refine pw_iload_n 2 dX5_settle_77 rfl rfl ?_
        obtain ⟨h_13, hs⟩ := gd_some hs
        refine pw_iaload dX5_settle_78 tC24 (inb_in h_13) ?_
        obtain ⟨h_14, hs⟩ := gd_some hs
        refine pw_iastore dX5_settle_79 tC23 (inb_in h_14) ?_
        refine pw_sg (fun sg_15 e_sg_15 => ?_)
        replace hs := lt_use hs e_sg_15
        refine pw_iinc 2 (a3 + 1) [(3, .int (a3 + 1)), (0, .ref 21), (1, .int a1), (4, .int a4_3), (2, .int a2_10), (5, .int a5_11)] dX5_settle_80 rfl rfl (Nat.le_of_ble_eq_true rfl) rfl ?_
        refine pw_goto 4 dX5_settle_83 (by decide) ?_
        exact PW.sub (lv' := [(0, .ref 21), (1, .int a1), (2, .int a2_10), (3, .int (a3 + 1))]) [1, 2, 4, 0] rfl (hC (a2_10, (a3 + 1), sg_15) (Option.some.inj hs).symm)
  · skip
    obtain ⟨a2_17, a3_18, sg_19⟩ := t
    replace hs : fX5_settle_E86 a1 a2_17 a3_18 sg_19 = some oM := hs
    show PW tbC RX5 cX5_settle 6 (some .boolean) 1 21 (PoI oM.1 oM.2) 86 [(0, .ref 21), (1, .int a1), (2, .int a2_17), (3, .int a3_18)] [] sg_19
    unfold fX5_settle_E86 at hs
    refine pw_iload_n 2 dX5_settle_86 rfl rfl ?_
    obtain ⟨h_20, hs⟩ := gd_some hs
    have hr := Option.some.inj hs
    exact pw_zreturn dX5_settle_87 rfl (zb_ok h_20) ⟨by rw [← hr], by rw [← hr]⟩
set_option maxRecDepth 100000 in
set_option maxHeartbeats 400000 in
theorem conX2_after {tab : Tb} {sg : Sg} {a0 : Int32} {a1 : Int32} {oM : Int32} (h : fX2_after a0 a1 = some oM) : Con tab yX2_after cX2_after 2 (some .int) 0 0 [.int a0, .int a1] sg (PoI oM sg) := by
  refine Con.of (by decide) (Nat.le_of_ble_eq_true rfl) ?_
  show PW tab RX2 cX2_after 2 (some .int) 0 0 (PoI oM sg) 0 [(0, .int a0), (1, .int a1)] [] sg
  have hs := h
  unfold fX2_after at hs
  have J53 : ∀ (s0 : Int32), fX2_after_J53 s0 = some oM → PW tab RX2 cX2_after 2 (some .int) 0 0 (PoI oM sg) 53 [] [.int s0] sg := by
    intro s0 hs
    unfold fX2_after_J53 at hs
    have hr := Option.some.inj hs
    exact pw_ireturn dX2_after_53 rfl ⟨by rw [hr], rfl⟩
  have J41 : ∀ (s0 : Int32), fX2_after_J41 s0 = some oM → PW tab RX2 cX2_after 2 (some .int) 0 0 (PoI oM sg) 41 [] [.int s0] sg := by
    intro s0 hs
    unfold fX2_after_J41 at hs
    have hr := Option.some.inj hs
    exact pw_ireturn dX2_after_41 rfl ⟨by rw [hr], rfl⟩
  refine pw_iload_n 1 dX2_after_0 rfl rfl ?_
  by_cases c_2 : a1 = (1 : Int32)
  · rw [if_pos c_2] at hs
    refine pw_tableIn (off := 31) 32 dX2_after_1 (by rw [c_2]; decide) (by rw [c_2]; decide) (by rw [c_2]; rfl) (by decide) ?_
    refine pw_iload_n 0 dX2_after_32 rfl rfl ?_
    refine pw_if_ne 40 dX2_after_33 (by decide) (fun c_1 => ?_) (fun c_1 => ?_)
    · rw [if_neg c_1] at hs
      refine pw_iconst (-1 : Int32) dX2_after_40 (by decide) ?_
      exact PW.sub (lv' := []) [] rfl (J41 (-1 : Int32) hs)
    · rw [if_pos c_1] at hs
      refine pw_iconst (0 : Int32) dX2_after_36 (by decide) ?_
      refine pw_goto 41 dX2_after_37 (by decide) ?_
      exact PW.sub (lv' := []) [] rfl (J41 (0 : Int32) hs)
  · rw [if_neg c_2] at hs
    by_cases c_3 : a1 = (2 : Int32)
    · rw [if_pos c_3] at hs
      refine pw_tableIn (off := 41) 42 dX2_after_1 (by rw [c_3]; decide) (by rw [c_3]; decide) (by rw [c_3]; rfl) (by decide) ?_
      refine pw_iconst (1 : Int32) dX2_after_42 (by decide) ?_
      have hr := Option.some.inj hs
      exact pw_ireturn dX2_after_43 rfl ⟨by rw [hr], rfl⟩
    · rw [if_neg c_3] at hs
      by_cases c_5 : a1 = (3 : Int32)
      · rw [if_pos c_5] at hs
        refine pw_tableIn (off := 43) 44 dX2_after_1 (by rw [c_5]; decide) (by rw [c_5]; decide) (by rw [c_5]; rfl) (by decide) ?_
        refine pw_iload_n 0 dX2_after_44 rfl rfl ?_
        refine pw_if_ne 52 dX2_after_45 (by decide) (fun c_4 => ?_) (fun c_4 => ?_)
        · rw [if_neg c_4] at hs
          refine pw_iconst (-1 : Int32) dX2_after_52 (by decide) ?_
          exact PW.sub (lv' := []) [] rfl (J53 (-1 : Int32) hs)
        · rw [if_pos c_4] at hs
          refine pw_iconst (1 : Int32) dX2_after_48 (by decide) ?_
          refine pw_goto 53 dX2_after_49 (by decide) ?_
          exact PW.sub (lv' := []) [] rfl (J53 (1 : Int32) hs)
      · rw [if_neg c_5] at hs
        by_cases c_6 : a1 = (4 : Int32)
        · rw [if_pos c_6] at hs
          refine pw_tableIn (off := 53) 54 dX2_after_1 (by rw [c_6]; decide) (by rw [c_6]; decide) (by rw [c_6]; rfl) (by decide) ?_
          refine pw_iload_n 0 dX2_after_54 rfl rfl ?_
          have hr := Option.some.inj hs
          exact pw_ireturn dX2_after_55 rfl ⟨by rw [hr], rfl⟩
        · rw [if_neg c_6] at hs
          refine pw_tableOut 56 dX2_after_1 (by have := lv_neT c_2 (a := 1) (by decide); have := lv_neT c_3 (a := 2) (by decide); have := lv_neT c_5 (a := 3) (by decide); have := lv_neT c_6 (a := 4) (by decide); omega) (by decide) ?_
          refine pw_iconst (-1 : Int32) dX2_after_56 (by decide) ?_
          have hr := Option.some.inj hs
          exact pw_ireturn dX2_after_57 rfl ⟨by rw [hr], rfl⟩
set_option maxRecDepth 100000 in
set_option maxHeartbeats 400000 in
theorem conX5_reachedByOneMore_17 {sg : Sg} {a2 : Int32} {oM : Int32} (h : fX5_reachedByOneMore_17 a2 sg = some oM) : Con tbC yX5_reachedByOneMore cX5_reachedByOneMore 6 (some .int) 1 21 [.ref 21, .ref 17, .int a2] sg (PoI oM sg) := by
  refine Con.of (by decide) (Nat.le_of_ble_eq_true rfl) ?_
  show PW tbC RX5 cX5_reachedByOneMore 6 (some .int) 1 21 (PoI oM sg) 0 [(0, .ref 21), (1, .ref 17), (2, .int a2)] [] sg
  have hs := h
  unfold fX5_reachedByOneMore_17 at hs
  refine pw_iconst (0 : Int32) dX5_reachedByOneMore_0 (by decide) ?_
  refine pw_istore_n [(3, .int (0 : Int32)), (0, .ref 21), (1, .ref 17), (2, .int a2)] dX5_reachedByOneMore_1 rfl (Nat.le_of_ble_eq_true rfl) rfl ?_
  refine pw_iconst (0 : Int32) dX5_reachedByOneMore_2 (by decide) ?_
  refine pw_istore [(4, .int (0 : Int32)), (3, .int (0 : Int32)), (0, .ref 21), (1, .ref 17), (2, .int a2)] dX5_reachedByOneMore_3 (Nat.le_of_ble_eq_true rfl) rfl ?_
  obtain ⟨t, hL, hs⟩ := Option.bind_eq_some_iff.mp hs
  refine PW.sub [2, 3, 4, 1, 0] (lv' := [(0, .ref 21), (1, .ref 17), (2, .int a2), (3, .int (0 : Int32)), (4, .int (0 : Int32))]) rfl ?_
  refine lpS_pw (T := Int32 × Int32) (X := fun t => PW tbC RX5 cX5_reachedByOneMore 6 (some .int) 1 21 (PoI oM sg) 5 [(0, .ref 21), (1, .ref 17), (2, .int a2), (3, .int t.1), (4, .int t.2)] [] sg) (E := fun t => PW tbC RX5 cX5_reachedByOneMore 6 (some .int) 1 21 (PoI oM sg) 64 [(0, .ref 21), (1, .ref 17), (2, .int a2), (3, .int t.1), (4, .int t.2)] [] sg) (step := (fun t => fX5_reachedByOneMore_17_L5 a2 sg t.1 t.2)) ?_ 300 ((0 : Int32), (0 : Int32)) t hL ?_
  · intro t oL hs hE hC
    obtain ⟨a3, a4⟩ := t
    replace hs : fX5_reachedByOneMore_17_L5 a2 sg a3 a4 = some oL := hs
    show PW tbC RX5 cX5_reachedByOneMore 6 (some .int) 1 21 (PoI oM sg) 5 [(0, .ref 21), (1, .ref 17), (2, .int a2), (3, .int a3), (4, .int a4)] [] sg
    unfold fX5_reachedByOneMore_17_L5 at hs
    have J58 : ∀ (a3 : Int32) (a4 : Int32), fX5_reachedByOneMore_17_L5_J58 a2 a3 a4 sg = some oL → PW tbC RX5 cX5_reachedByOneMore 6 (some .int) 1 21 (PoI oM sg) 58 [(0, .ref 21), (1, .ref 17), (2, .int a2), (3, .int a3), (4, .int a4)] [] sg := by
      intro a3 a4 hs
      unfold fX5_reachedByOneMore_17_L5_J58 at hs
      refine pw_iinc 4 (a4 + 1) [(4, .int (a4 + 1)), (0, .ref 21), (1, .ref 17), (2, .int a2), (3, .int a3)] dX5_reachedByOneMore_58 rfl rfl (Nat.le_of_ble_eq_true rfl) rfl ?_
      refine pw_goto 5 dX5_reachedByOneMore_61 (by decide) ?_
      exact PW.sub (lv' := [(0, .ref 21), (1, .ref 17), (2, .int a2), (3, .int a3), (4, .int (a4 + 1))]) [1, 2, 3, 4, 0] rfl (hC (a3, (a4 + 1)) (Option.some.inj hs).symm)
    refine pw_iload 4 dX5_reachedByOneMore_5 rfl ?_
    refine pw_bipush (8 : Int32) dX5_reachedByOneMore_7 (by decide) ?_
    refine pw_icmp_ge 64 dX5_reachedByOneMore_9 (by decide) (fun c_7 => ?_) (fun c_7 => ?_)
    · rw [if_pos c_7] at hs
      exact PW.sub (lv' := [(0, .ref 21), (1, .ref 17), (2, .int a2), (3, .int a3), (4, .int a4)]) [0, 1, 2, 3, 4] rfl (hE (a3, a4) (Option.some.inj hs).symm)
    · rw [if_neg c_7] at hs
      refine pw_iload_n 2 dX5_reachedByOneMore_12 rfl rfl ?_
      refine pw_bipush (8 : Int32) dX5_reachedByOneMore_13 (by decide) ?_
      refine pw_idiv dX5_reachedByOneMore_15 (by decide) ?_
      refine pw_aload_n 1 dX5_reachedByOneMore_16 rfl rfl ?_
      refine pw_getr 1 dX5_reachedByOneMore_17 clRX2 tC17 (Nat.le_of_ble_eq_true rfl) fRX5_29 rfl ?_
      refine pw_iload_n 2 dX5_reachedByOneMore_20 rfl rfl ?_
      refine pw_bipush (8 : Int32) dX5_reachedByOneMore_21 (by decide) ?_
      refine pw_irem dX5_reachedByOneMore_23 (by decide) ?_
      refine pw_bipush (8 : Int32) dX5_reachedByOneMore_24 (by decide) ?_
      refine pw_imul dX5_reachedByOneMore_26 ?_
      refine pw_iload 4 dX5_reachedByOneMore_27 rfl ?_
      refine pw_iadd dX5_reachedByOneMore_29 ?_
      obtain ⟨h_1, hs⟩ := gd_some hs
      refine pw_iaload dX5_reachedByOneMore_30 tC19 (inb_in h_1) ?_
      obtain ⟨r_3, hc_2, hs⟩ := Option.bind_eq_some_iff.mp hs
      refine pw_callSi [.int (a2 / (8 : Int32)), .int (rd sg 19 (Int32.toNatClampNeg (((a2 - a2 / (8 : Int32) * (8 : Int32)) * (8 : Int32)) + a4)))] (st := []) dX5_reachedByOneMore_31 mRX5_34 stX2_after inRX2 coX2_after hyX2_after (by decide) (Nat.le_of_ble_eq_true rfl) (conX2_after hc_2) ?_
      refine pw_istore [(5, .int r_3), (0, .ref 21), (1, .ref 17), (2, .int a2), (3, .int a3), (4, .int a4)] dX5_reachedByOneMore_34 (Nat.le_of_ble_eq_true rfl) rfl ?_
      refine pw_iload 0 dX5_reachedByOneMore_36 rfl ?_
      refine pw_iconst (-1 : Int32) dX5_reachedByOneMore_38 (by decide) ?_
      refine pw_icmp_eq 58 dX5_reachedByOneMore_39 (by decide) (fun c_6 => ?_) (fun c_6 => ?_)
      · rw [if_pos c_6] at hs
        exact PW.sub (lv' := [(0, .ref 21), (1, .ref 17), (2, .int a2), (3, .int a3), (4, .int a4)]) [1, 2, 3, 4, 5] rfl (J58 a3 a4 hs)
      · rw [if_neg c_6] at hs
        refine pw_iload_n 4 dX5_reachedByOneMore_42 rfl rfl ?_
        refine pw_aload_n 1 dX5_reachedByOneMore_43 rfl rfl ?_
        refine pw_getr 1 dX5_reachedByOneMore_44 clRX5 tC21 (Nat.le_of_ble_eq_true rfl) fRX5_15 rfl ?_
        refine pw_iload 0 dX5_reachedByOneMore_47 rfl ?_
        refine pw_bipush (8 : Int32) dX5_reachedByOneMore_49 (by decide) ?_
        refine pw_imul dX5_reachedByOneMore_51 ?_
        refine pw_iload 5 dX5_reachedByOneMore_52 rfl ?_
        refine pw_iadd dX5_reachedByOneMore_54 ?_
        obtain ⟨h_4, hs⟩ := gd_some hs
        refine pw_iaload dX5_reachedByOneMore_55 tC23 (inb_in h_4) ?_
        refine pw_ior dX5_reachedByOneMore_56 ?_
        refine pw_topi (fun a3_5 e_a3_5 => ?_)
        replace hs := lt_use hs e_a3_5
        refine pw_istore_n [(3, .int a3_5), (5, .int r_3), (0, .ref 21), (1, .ref 17), (2, .int a2), (4, .int a4)] dX5_reachedByOneMore_57 rfl (Nat.le_of_ble_eq_true rfl) rfl ?_
        exact PW.sub (lv' := [(0, .ref 21), (1, .ref 17), (2, .int a2), (3, .int a3_5), (4, .int a4)]) [2, 3, 4, 0, 5] rfl (J58 a3_5 a4 hs)
  · skip
    obtain ⟨a3_8, a4_9⟩ := t
    replace hs : fX5_reachedByOneMore_17_E64 a2 a3_8 a4_9 sg = some oM := hs
    show PW tbC RX5 cX5_reachedByOneMore 6 (some .int) 1 21 (PoI oM sg) 64 [(0, .ref 21), (1, .ref 17), (2, .int a2), (3, .int a3_8), (4, .int a4_9)] [] sg
    unfold fX5_reachedByOneMore_17_E64 at hs
    refine pw_iload_n 3 dX5_reachedByOneMore_64 rfl rfl ?_
    have hr := Option.some.inj hs
    exact pw_ireturn dX5_reachedByOneMore_65 rfl ⟨by rw [hr], rfl⟩
set_option maxRecDepth 100000 in
set_option maxHeartbeats 400000 in
theorem conX5_read_17 {sg : Sg} {a2 : Int32} {oM : Sg} (h : fX5_read_17 a2 sg = some oM) : Con tbC yX5_read cX5_read 6 none 2 46 [.ref 21, .ref 17, .int a2] sg (PoV oM) := by
  refine Con.of (by decide) (Nat.le_of_ble_eq_true rfl) ?_
  show PW tbC RX5 cX5_read 6 none 2 46 (PoV oM) 0 [(0, .ref 21), (1, .ref 17), (2, .int a2)] [] sg
  have hs := h
  unfold fX5_read_17 at hs
  refine pw_iconst (0 : Int32) dX5_read_0 (by decide) ?_
  refine pw_istore_n [(3, .int (0 : Int32)), (0, .ref 21), (1, .ref 17), (2, .int a2)] dX5_read_1 rfl (Nat.le_of_ble_eq_true rfl) rfl ?_
  obtain ⟨t, hL, hs⟩ := Option.bind_eq_some_iff.mp hs
  refine PW.sub [1, 2, 3, 0] (lv' := [(0, .ref 21), (1, .ref 17), (2, .int a2), (3, .int (0 : Int32))]) rfl ?_
  refine lpS_pw (T := Int32 × Sg) (X := fun t => PW tbC RX5 cX5_read 6 none 2 46 (PoV oM) 2 [(0, .ref 21), (1, .ref 17), (2, .int a2), (3, .int t.1)] [] t.2) (E := fun t => PW tbC RX5 cX5_read 6 none 2 46 (PoV oM) 22 [(0, .ref 21), (1, .ref 17), (2, .int a2), (3, .int t.1)] [] t.2) (step := (fun t => fX5_read_17_L2 a2 t.1 t.2)) ?_ 300 ((0 : Int32), sg) t hL ?_
  · intro t oL hs hE hC
    obtain ⟨a3, sg⟩ := t
    replace hs : fX5_read_17_L2 a2 a3 sg = some oL := hs
    show PW tbC RX5 cX5_read 6 none 2 46 (PoV oM) 2 [(0, .ref 21), (1, .ref 17), (2, .int a2), (3, .int a3)] [] sg
    unfold fX5_read_17_L2 at hs
    refine pw_iload_n 3 dX5_read_2 rfl rfl ?_
    refine pw_sipush (128 : Int32) dX5_read_3 (by decide) ?_
    refine pw_icmp_ge 22 dX5_read_6 (by decide) (fun c_3 => ?_) (fun c_3 => ?_)
    · rw [if_pos c_3] at hs
      exact PW.sub (lv' := [(0, .ref 21), (1, .ref 17), (2, .int a2), (3, .int a3)]) [0, 1, 2, 3] rfl (hE (a3, sg) (Option.some.inj hs).symm)
    · rw [if_neg c_3] at hs
      refine pw_aload_n 0 dX5_read_9 rfl rfl ?_
      refine pw_getr 0 dX5_read_10 clRX5 tC21 (Nat.le_of_ble_eq_true rfl) fRX5_11 rfl ?_
      refine pw_iload_n 3 dX5_read_13 rfl rfl ?_
      refine pw_iconst (-1 : Int32) dX5_read_14 (by decide) ?_
      obtain ⟨h_1, hs⟩ := gd_some hs
      refine pw_iastore dX5_read_15 tC22 (inb_in h_1) ?_
      refine pw_sg (fun sg_2 e_sg_2 => ?_)
      replace hs := lt_use hs e_sg_2
      refine pw_iinc 3 (a3 + 1) [(3, .int (a3 + 1)), (0, .ref 21), (1, .ref 17), (2, .int a2)] dX5_read_16 rfl rfl (Nat.le_of_ble_eq_true rfl) rfl ?_
      refine pw_goto 2 dX5_read_19 (by decide) ?_
      exact PW.sub (lv' := [(0, .ref 21), (1, .ref 17), (2, .int a2), (3, .int (a3 + 1))]) [1, 2, 3, 0] rfl (hC ((a3 + 1), sg_2) (Option.some.inj hs).symm)
  · skip
    obtain ⟨a3_4, sg_5⟩ := t
    replace hs : fX5_read_17_E22 a2 a3_4 sg_5 = some oM := hs
    show PW tbC RX5 cX5_read 6 none 2 46 (PoV oM) 22 [(0, .ref 21), (1, .ref 17), (2, .int a2), (3, .int a3_4)] [] sg_5
    unfold fX5_read_17_E22 at hs
    refine pw_iconst (0 : Int32) dX5_read_22 (by decide) ?_
    refine pw_istore_n [(3, .int (0 : Int32)), (0, .ref 21), (1, .ref 17), (2, .int a2)] dX5_read_23 rfl (Nat.le_of_ble_eq_true rfl) rfl ?_
    obtain ⟨t, hL, hs⟩ := Option.bind_eq_some_iff.mp hs
    refine PW.sub [1, 2, 3, 0] (lv' := [(0, .ref 21), (1, .ref 17), (2, .int a2), (3, .int (0 : Int32))]) rfl ?_
    refine lpS_pw (T := Int32 × Sg) (X := fun t => PW tbC RX5 cX5_read 6 none 2 46 (PoV oM) 24 [(0, .ref 21), (1, .ref 17), (2, .int a2), (3, .int t.1)] [] t.2) (E := fun t => PW tbC RX5 cX5_read 6 none 2 46 (PoV oM) 57 [(0, .ref 21), (1, .ref 17), (2, .int a2), (3, .int t.1)] [] t.2) (step := (fun t => fX5_read_17_L24 a2 t.1 t.2)) ?_ 300 ((0 : Int32), sg_5) t hL ?_
    · intro t oL hs hE hC
      obtain ⟨a3_4, sg_5⟩ := t
      replace hs : fX5_read_17_L24 a2 a3_4 sg_5 = some oL := hs
      show PW tbC RX5 cX5_read 6 none 2 46 (PoV oM) 24 [(0, .ref 21), (1, .ref 17), (2, .int a2), (3, .int a3_4)] [] sg_5
      unfold fX5_read_17_L24 at hs
      refine pw_iload_n 3 dX5_read_24 rfl rfl ?_
      refine pw_bipush (16 : Int32) dX5_read_25 (by decide) ?_
      refine pw_icmp_ge 57 dX5_read_27 (by decide) (fun c_10 => ?_) (fun c_10 => ?_)
      · rw [if_pos c_10] at hs
        exact PW.sub (lv' := [(0, .ref 21), (1, .ref 17), (2, .int a2), (3, .int a3_4)]) [0, 1, 2, 3] rfl (hE (a3_4, sg_5) (Option.some.inj hs).symm)
      · rw [if_neg c_10] at hs
        refine pw_aload_n 0 dX5_read_30 rfl rfl ?_
        refine pw_getr 1 dX5_read_31 clRX5 tC21 (Nat.le_of_ble_eq_true rfl) fRX5_15 rfl ?_
        refine pw_iload_n 3 dX5_read_34 rfl rfl ?_
        refine pw_iconst (0 : Int32) dX5_read_35 (by decide) ?_
        obtain ⟨h_6, hs⟩ := gd_some hs
        refine pw_iastore dX5_read_36 tC23 (inb_in h_6) ?_
        refine pw_sg (fun sg_7 e_sg_7 => ?_)
        replace hs := lt_use hs e_sg_7
        refine pw_aload_n 0 dX5_read_37 rfl rfl ?_
        refine pw_getr 2 dX5_read_38 clRX5 tC21 (Nat.le_of_ble_eq_true rfl) fRX5_18 rfl ?_
        refine pw_iload_n 3 dX5_read_41 rfl rfl ?_
        refine pw_iload_n 2 dX5_read_42 rfl rfl ?_
        refine pw_iconst (1 : Int32) dX5_read_43 (by decide) ?_
        refine pw_iload_n 3 dX5_read_44 rfl rfl ?_
        refine pw_bipush (8 : Int32) dX5_read_45 (by decide) ?_
        refine pw_irem dX5_read_47 (by decide) ?_
        refine pw_ishl dX5_read_48 ?_
        refine pw_iand dX5_read_49 ?_
        obtain ⟨h_8, hs⟩ := gd_some hs
        refine pw_iastore dX5_read_50 tC24 (inb_in h_8) ?_
        refine pw_sg (fun sg_9 e_sg_9 => ?_)
        replace hs := lt_use hs e_sg_9
        refine pw_iinc 3 (a3_4 + 1) [(3, .int (a3_4 + 1)), (0, .ref 21), (1, .ref 17), (2, .int a2)] dX5_read_51 rfl rfl (Nat.le_of_ble_eq_true rfl) rfl ?_
        refine pw_goto 24 dX5_read_54 (by decide) ?_
        exact PW.sub (lv' := [(0, .ref 21), (1, .ref 17), (2, .int a2), (3, .int (a3_4 + 1))]) [1, 2, 3, 0] rfl (hC ((a3_4 + 1), sg_9) (Option.some.inj hs).symm)
    · skip
      obtain ⟨a3_11, sg_12⟩ := t
      replace hs : fX5_read_17_E57 a2 a3_11 sg_12 = some oM := hs
      show PW tbC RX5 cX5_read 6 none 2 46 (PoV oM) 57 [(0, .ref 21), (1, .ref 17), (2, .int a2), (3, .int a3_11)] [] sg_12
      unfold fX5_read_17_E57 at hs
      refine pw_aload_n 0 dX5_read_57 rfl rfl ?_
      refine pw_iconst (0 : Int32) dX5_read_58 (by decide) ?_
      obtain ⟨⟨r_14, sg_15⟩, hc_13, hs⟩ := Option.bind_eq_some_iff.mp hs
      replace hs := ltP_use hs
      refine pw_callVi [.int (0 : Int32)] (st := []) dX5_read_59 tC21 rfl mRX5_21 imX5_settle seX5_settle inRX5 coX5_settle hyX5_settle (by decide) (Nat.le_of_ble_eq_true rfl) (conX5_settle hc_13) ?_
      refine pw_istore_n [(3, .int r_14), (0, .ref 21), (1, .ref 17), (2, .int a2)] dX5_read_62 rfl (Nat.le_of_ble_eq_true rfl) rfl ?_
      refine pw_iconst (1 : Int32) dX5_read_63 (by decide) ?_
      refine pw_istore [(4, .int (1 : Int32)), (3, .int r_14), (0, .ref 21), (1, .ref 17), (2, .int a2)] dX5_read_64 (Nat.le_of_ble_eq_true rfl) rfl ?_
      obtain ⟨t, hL, hs⟩ := Option.bind_eq_some_iff.mp hs
      refine PW.sub [2, 3, 1, 0] (lv' := [(0, .ref 21), (1, .ref 17), (3, .int r_14), (4, .int (1 : Int32))]) rfl ?_
      refine lpS_pw (T := Int32 × Int32 × Sg) (X := fun t => PW tbC RX5 cX5_read 6 none 2 46 (PoV oM) 66 [(0, .ref 21), (1, .ref 17), (3, .int t.1), (4, .int t.2.1)] [] t.2.2) (E := fun t => PW tbC RX5 cX5_read 6 none 2 46 (PoV oM) 128 [(0, .ref 21), (1, .ref 17), (3, .int t.1), (4, .int t.2.1)] [] t.2.2) (step := (fun t => fX5_read_17_L66 t.1 t.2.1 t.2.2)) ?_ 300 (r_14, (1 : Int32), sg_15) t hL ?_
      · intro t oL hs hE hC
        obtain ⟨a3_11, a4, sg_12⟩ := t
        replace hs : fX5_read_17_L66 a3_11 a4 sg_12 = some oL := hs
        show PW tbC RX5 cX5_read 6 none 2 46 (PoV oM) 66 [(0, .ref 21), (1, .ref 17), (3, .int a3_11), (4, .int a4)] [] sg_12
        unfold fX5_read_17_L66 at hs
        refine pw_iload_n 2 dX5_read_66 rfl rfl ?_
        refine pw_if_eq 128 dX5_read_67 (by decide) (fun c_30 => ?_) (fun c_30 => ?_)
        · rw [if_pos c_30] at hs
          exact PW.sub (lv' := [(0, .ref 21), (1, .ref 17), (3, .int a3_11), (4, .int a4)]) [0, 1, 2, 3] rfl (hE (a3_11, a4, sg_12) (Option.some.inj hs).symm)
        · rw [if_neg c_30] at hs
          refine pw_iload 3 dX5_read_70 rfl ?_
          refine pw_bipush (16 : Int32) dX5_read_72 (by decide) ?_
          refine pw_icmp_ge 128 dX5_read_74 (by decide) (fun c_29 => ?_) (fun c_29 => ?_)
          · rw [if_pos c_29] at hs
            exact PW.sub (lv' := [(0, .ref 21), (1, .ref 17), (3, .int a3_11), (4, .int a4)]) [0, 1, 2, 3] rfl (hE (a3_11, a4, sg_12) (Option.some.inj hs).symm)
          · rw [if_neg c_29] at hs
            refine pw_iconst (0 : Int32) dX5_read_77 (by decide) ?_
            refine pw_istore [(5, .int (0 : Int32)), (0, .ref 21), (1, .ref 17), (3, .int a3_11), (4, .int a4)] dX5_read_78 (Nat.le_of_ble_eq_true rfl) rfl ?_
            obtain ⟨t, hL, hs⟩ := Option.bind_eq_some_iff.mp hs
            refine PW.sub [1, 2, 4, 0] (lv' := [(0, .ref 21), (1, .ref 17), (4, .int a4), (5, .int (0 : Int32))]) rfl ?_
            refine lpS_pw (T := Int32 × Sg) (X := fun t => PW tbC RX5 cX5_read 6 none 2 46 (PoV oM) 80 [(0, .ref 21), (1, .ref 17), (4, .int a4), (5, .int t.1)] [] t.2) (E := fun t => PW tbC RX5 cX5_read 6 none 2 46 (PoV oM) 115 [(0, .ref 21), (1, .ref 17), (4, .int a4), (5, .int t.1)] [] t.2) (step := (fun t => fX5_read_17_L80 a4 t.1 t.2)) ?_ 300 ((0 : Int32), sg_12) t hL ?_
            · intro t oL hs hE hC
              obtain ⟨a5, sg_12⟩ := t
              replace hs : fX5_read_17_L80 a4 a5 sg_12 = some oL := hs
              show PW tbC RX5 cX5_read 6 none 2 46 (PoV oM) 80 [(0, .ref 21), (1, .ref 17), (4, .int a4), (5, .int a5)] [] sg_12
              unfold fX5_read_17_L80 at hs
              refine pw_iload 3 dX5_read_80 rfl ?_
              refine pw_bipush (16 : Int32) dX5_read_82 (by decide) ?_
              refine pw_icmp_ge 115 dX5_read_84 (by decide) (fun c_22 => ?_) (fun c_22 => ?_)
              · rw [if_pos c_22] at hs
                exact PW.sub (lv' := [(0, .ref 21), (1, .ref 17), (4, .int a4), (5, .int a5)]) [0, 1, 2, 3] rfl (hE (a5, sg_12) (Option.some.inj hs).symm)
              · rw [if_neg c_22] at hs
                refine pw_aload_n 0 dX5_read_87 rfl rfl ?_
                refine pw_getr 2 dX5_read_88 clRX5 tC21 (Nat.le_of_ble_eq_true rfl) fRX5_18 rfl ?_
                refine pw_iload 3 dX5_read_91 rfl ?_
                refine pw_aload_n 0 dX5_read_93 rfl rfl ?_
                refine pw_getr 1 dX5_read_94 clRX5 tC21 (Nat.le_of_ble_eq_true rfl) fRX5_15 rfl ?_
                refine pw_iload 3 dX5_read_97 rfl ?_
                obtain ⟨h_17, hs⟩ := gd_some hs
                refine pw_iaload dX5_read_99 tC23 (inb_in h_17) ?_
                refine pw_aload_n 0 dX5_read_100 rfl rfl ?_
                refine pw_aload_n 1 dX5_read_101 rfl rfl ?_
                refine pw_iload 3 dX5_read_102 rfl ?_
                obtain ⟨r_19, hc_18, hs⟩ := Option.bind_eq_some_iff.mp hs
                refine pw_callVi [.ref 17, .int a5] (st := [.int (rd sg_12 23 (Int32.toNatClampNeg a5)), .int a5, .ref 24]) dX5_read_104 tC21 rfl mRX5_25 imX5_reachedByOneMore seX5_reachedByOneMore inRX5 coX5_reachedByOneMore hyX5_reachedByOneMore (by decide) (Nat.le_of_ble_eq_true rfl) (conX5_reachedByOneMore_17 hc_18) ?_
                refine pw_ior dX5_read_107 ?_
                obtain ⟨h_20, hs⟩ := gd_some hs
                refine pw_iastore dX5_read_108 tC24 (inb_in h_20) ?_
                refine pw_sg (fun sg_21 e_sg_21 => ?_)
                replace hs := lt_use hs e_sg_21
                refine pw_iinc 3 (a5 + 1) [(5, .int (a5 + 1)), (0, .ref 21), (1, .ref 17), (4, .int a4)] dX5_read_109 rfl rfl (Nat.le_of_ble_eq_true rfl) rfl ?_
                refine pw_goto 80 dX5_read_112 (by decide) ?_
                exact PW.sub (lv' := [(0, .ref 21), (1, .ref 17), (4, .int a4), (5, .int (a5 + 1))]) [1, 2, 3, 0] rfl (hC ((a5 + 1), sg_21) (Option.some.inj hs).symm)
            · skip
              obtain ⟨a5_23, sg_24⟩ := t
              replace hs : fX5_read_17_L66_E115 a4 a5_23 sg_24 = some oL := hs
              show PW tbC RX5 cX5_read 6 none 2 46 (PoV oM) 115 [(0, .ref 21), (1, .ref 17), (4, .int a4), (5, .int a5_23)] [] sg_24
              unfold fX5_read_17_L66_E115 at hs
              refine pw_aload_n 0 dX5_read_115 rfl rfl ?_
              refine pw_iload 2 dX5_read_116 rfl ?_
              obtain ⟨⟨r_26, sg_27⟩, hc_25, hs⟩ := Option.bind_eq_some_iff.mp hs
              replace hs := ltP_use hs
              refine pw_callVi [.int a4] (st := []) dX5_read_118 tC21 rfl mRX5_21 imX5_settle seX5_settle inRX5 coX5_settle hyX5_settle (by decide) (Nat.le_of_ble_eq_true rfl) (conX5_settle hc_25) ?_
              refine pw_istore_n [(3, .int r_26), (0, .ref 21), (1, .ref 17), (4, .int a4), (5, .int a5_23)] dX5_read_121 rfl (Nat.le_of_ble_eq_true rfl) rfl ?_
              refine pw_iinc 3 (a4 + 1) [(4, .int (a4 + 1)), (3, .int r_26), (0, .ref 21), (1, .ref 17), (5, .int a5_23)] dX5_read_122 rfl rfl (Nat.le_of_ble_eq_true rfl) rfl ?_
              refine pw_goto 66 dX5_read_125 (by decide) ?_
              exact PW.sub (lv' := [(0, .ref 21), (1, .ref 17), (3, .int r_26), (4, .int (a4 + 1))]) [2, 3, 1, 0] rfl (hC (r_26, (a4 + 1), sg_27) (Option.some.inj hs).symm)
      · skip
        obtain ⟨a3_31, a4_32, sg_33⟩ := t
        replace hs : fX5_read_17_E128 a3_31 a4_32 sg_33 = some oM := hs
        show PW tbC RX5 cX5_read 6 none 2 46 (PoV oM) 128 [(0, .ref 21), (1, .ref 17), (3, .int a3_31), (4, .int a4_32)] [] sg_33
        unfold fX5_read_17_E128 at hs
        have hr := Option.some.inj hs
        exact pw_return dX5_read_128 rfl ⟨rfl, hr⟩
set_option maxRecDepth 100000 in
set_option maxHeartbeats 400000 in
theorem conX7_refresh {sg : Sg}  {oM : Sg} (h : fX7_refresh  sg = some oM) : Con tbC yX7_refresh cX7_refresh 1 none 5 112 [.ref 0] sg (PoV oM) := by
  refine Con.of (by decide) (Nat.le_of_ble_eq_true rfl) ?_
  show PW tbC RX7 cX7_refresh 1 none 5 112 (PoV oM) 0 [(0, .ref 0)] [] sg
  have hs := h
  unfold fX7_refresh at hs
  refine pw_aload_n 0 dX7_refresh_0 rfl rfl ?_
  refine pw_getr 1 dX7_refresh_1 clRX7 tC0 (Nat.le_of_ble_eq_true rfl) fRX7_19 rfl ?_
  refine pw_aload_n 0 dX7_refresh_4 rfl rfl ?_
  refine pw_geti 7 dX7_refresh_5 clRX7 tC0 (Nat.le_of_ble_eq_true rfl) fRX7_55 rfl ?_
  obtain ⟨sg_2, hc_1, hs⟩ := Option.bind_eq_some_iff.mp hs
  refine pw_callVv [.int (rd sg 0 7)] (st := []) dX7_refresh_8 tC3 rfl mRX7_194 imX6_cutOut seX6_cutOut inRX6 coX6_cutOut hyX6_cutOut (by decide) (Nat.le_of_ble_eq_true rfl) (conX6_cutOut hc_1) ?_
  refine pw_aload_n 0 dX7_refresh_11 rfl rfl ?_
  refine pw_getr 2 dX7_refresh_12 clRX7 tC0 (Nat.le_of_ble_eq_true rfl) fRX7_26 rfl ?_
  refine pw_aload_n 0 dX7_refresh_15 rfl rfl ?_
  refine pw_getr 1 dX7_refresh_16 clRX7 tC0 (Nat.le_of_ble_eq_true rfl) fRX7_19 rfl ?_
  obtain ⟨sg_4, hc_3, hs⟩ := Option.bind_eq_some_iff.mp hs
  refine pw_callVv [.ref 3] (st := []) dX7_refresh_19 tC8 rfl mRX7_197 imX1_read seX1_read inRX1 coX1_read hyX1_read (by decide) (Nat.le_of_ble_eq_true rfl) (conX1_read_3 hc_3) ?_
  refine pw_aload_n 0 dX7_refresh_22 rfl rfl ?_
  refine pw_getr 3 dX7_refresh_23 clRX7 tC0 (Nat.le_of_ble_eq_true rfl) fRX7_33 rfl ?_
  refine pw_aload_n 0 dX7_refresh_26 rfl rfl ?_
  refine pw_getr 2 dX7_refresh_27 clRX7 tC0 (Nat.le_of_ble_eq_true rfl) fRX7_26 rfl ?_
  obtain ⟨sg_6, hc_5, hs⟩ := Option.bind_eq_some_iff.mp hs
  refine pw_callVv [.ref 8] (st := []) dX7_refresh_30 tC14 rfl mRX7_201 imX3_read seX3_read inRX3 coX3_read hyX3_read (by decide) (Nat.le_of_ble_eq_true rfl) (conX3_read_8 hc_5) ?_
  refine pw_aload_n 0 dX7_refresh_33 rfl rfl ?_
  refine pw_getr 4 dX7_refresh_34 clRX7 tC0 (Nat.le_of_ble_eq_true rfl) fRX7_40 rfl ?_
  refine pw_aload_n 0 dX7_refresh_37 rfl rfl ?_
  refine pw_getr 1 dX7_refresh_38 clRX7 tC0 (Nat.le_of_ble_eq_true rfl) fRX7_19 rfl ?_
  refine pw_aload_n 0 dX7_refresh_41 rfl rfl ?_
  refine pw_getr 2 dX7_refresh_42 clRX7 tC0 (Nat.le_of_ble_eq_true rfl) fRX7_26 rfl ?_
  refine pw_aload_n 0 dX7_refresh_45 rfl rfl ?_
  refine pw_getr 3 dX7_refresh_46 clRX7 tC0 (Nat.le_of_ble_eq_true rfl) fRX7_33 rfl ?_
  obtain ⟨sg_8, hc_7, hs⟩ := Option.bind_eq_some_iff.mp hs
  refine pw_callVv [.ref 3, .ref 8, .ref 14] (st := []) dX7_refresh_49 tC17 rfl mRX7_204 imX2_read seX2_read inRX2 coX2_read hyX2_read (by decide) (Nat.le_of_ble_eq_true rfl) (conX2_read_3_8_14 hc_7) ?_
  refine pw_aload_n 0 dX7_refresh_52 rfl rfl ?_
  refine pw_getr 5 dX7_refresh_53 clRX7 tC0 (Nat.le_of_ble_eq_true rfl) fRX7_47 rfl ?_
  refine pw_aload_n 0 dX7_refresh_56 rfl rfl ?_
  refine pw_getr 4 dX7_refresh_57 clRX7 tC0 (Nat.le_of_ble_eq_true rfl) fRX7_40 rfl ?_
  refine pw_aload_n 0 dX7_refresh_60 rfl rfl ?_
  refine pw_getr 2 dX7_refresh_61 clRX7 tC0 (Nat.le_of_ble_eq_true rfl) fRX7_26 rfl ?_
  refine pw_geti 5 dX7_refresh_64 clRX1 tC8 (Nat.le_of_ble_eq_true rfl) fRX7_207 rfl ?_
  obtain ⟨sg_10, hc_9, hs⟩ := Option.bind_eq_some_iff.mp hs
  refine pw_callVv [.ref 17, .int (rd sg_8 8 5)] (st := []) dX7_refresh_67 tC21 rfl mRX7_210 imX5_read seX5_read inRX5 coX5_read hyX5_read (by decide) (Nat.le_of_ble_eq_true rfl) (conX5_read_17 hc_9) ?_
  have hr := Option.some.inj hs
  exact pw_return dX7_refresh_70 rfl ⟨rfl, hr⟩
set_option maxRecDepth 100000 in
set_option maxHeartbeats 400000 in
theorem conX7_way {sg : Sg}  {oM : Int32 × Sg} (h : fX7_way  sg = some oM) : Con tbC yX7_way cX7_way 1 (some .int) 6 132 [.ref 0] sg (PoI oM.1 oM.2) := by
  refine Con.of (by decide) (Nat.le_of_ble_eq_true rfl) ?_
  show PW tbC RX7 cX7_way 1 (some .int) 6 132 (PoI oM.1 oM.2) 0 [(0, .ref 0)] [] sg
  have hs := h
  unfold fX7_way at hs
  refine pw_aload_n 0 dX7_way_0 rfl rfl ?_
  refine pw_getr 0 dX7_way_1 clRX7 tC0 (Nat.le_of_ble_eq_true rfl) fRX7_10 rfl ?_
  obtain ⟨r_2, hc_1, hs⟩ := Option.bind_eq_some_iff.mp hs
  refine pw_callVi [] (st := []) dX7_way_4 tC1 rfl mRX7_76 imX4_isWay seX4_isWay inRX4 coX4_isWay hyX4_isWay (by decide) (Nat.le_of_ble_eq_true rfl) (conX4_isWay hc_1) ?_
  refine pw_if_ne 14 dX7_way_7 (by decide) (fun c_10 => ?_) (fun c_10 => ?_)
  · rw [if_neg c_10] at hs
    refine pw_aload_n 0 dX7_way_14 rfl rfl ?_
    refine pw_getr 1 dX7_way_15 clRX7 tC0 (Nat.le_of_ble_eq_true rfl) fRX7_19 rfl ?_
    refine pw_geti 4 dX7_way_18 clRX6 tC3 (Nat.le_of_ble_eq_true rfl) fRX7_80 rfl ?_
    refine pw_bipush (12 : Int32) dX7_way_21 (by decide) ?_
    refine pw_icmp_lt 30 dX7_way_23 (by decide) (fun c_9 => ?_) (fun c_9 => ?_)
    · rw [if_pos c_9] at hs
      refine pw_aload_n 0 dX7_way_30 rfl rfl ?_
      refine pw_getr 1 dX7_way_31 clRX7 tC0 (Nat.le_of_ble_eq_true rfl) fRX7_19 rfl ?_
      refine pw_aload_n 0 dX7_way_34 rfl rfl ?_
      refine pw_getr 0 dX7_way_35 clRX7 tC0 (Nat.le_of_ble_eq_true rfl) fRX7_10 rfl ?_
      obtain ⟨sg_4, hc_3, hs⟩ := Option.bind_eq_some_iff.mp hs
      refine pw_callVv [.ref 1] (st := []) dX7_way_38 tC3 rfl mRX7_83 imX6_add seX6_add inRX6 coX6_add hyX6_add (by decide) (Nat.le_of_ble_eq_true rfl) (conX6_add_1 hc_3) ?_
      refine pw_aload_n 0 dX7_way_41 rfl rfl ?_
      refine pw_getr 0 dX7_way_42 clRX7 tC0 (Nat.le_of_ble_eq_true rfl) fRX7_10 rfl ?_
      refine pw_iconst (0 : Int32) dX7_way_45 (by decide) ?_
      refine pw_puti 1 (fty := .int) dX7_way_46 clRX4 tC1 (Nat.le_of_ble_eq_true rfl) fRX7_65 rfl rfl (by decide +kernel) rfl rfl ?_
      refine pw_sg (fun sg_5 e_sg_5 => ?_)
      replace hs := lt_use hs e_sg_5
      refine pw_aload_n 0 dX7_way_49 rfl rfl ?_
      refine pw_dup dX7_way_50 rfl ?_
      refine pw_geti 8 dX7_way_51 clRX7 tC0 (Nat.le_of_ble_eq_true rfl) fRX7_59 rfl ?_
      refine pw_iconst (1 : Int32) dX7_way_54 (by decide) ?_
      refine pw_iadd dX7_way_55 ?_
      refine pw_puti 8 (fty := .int) dX7_way_56 clRX7 tC0 (Nat.le_of_ble_eq_true rfl) fRX7_59 rfl rfl (by decide +kernel) rfl rfl ?_
      refine pw_sg (fun sg_6 e_sg_6 => ?_)
      replace hs := lt_use hs e_sg_6
      refine pw_aload_n 0 dX7_way_59 rfl rfl ?_
      obtain ⟨sg_8, hc_7, hs⟩ := Option.bind_eq_some_iff.mp hs
      refine pw_callVv [] (st := []) dX7_way_60 tC0 rfl mRX7_62 imX7_refresh seX7_refresh inRX7 coX7_refresh hyX7_refresh (by decide) (Nat.le_of_ble_eq_true rfl) (conX7_refresh hc_7) ?_
      refine pw_aload_n 0 dX7_way_63 rfl rfl ?_
      refine pw_getr 1 dX7_way_64 clRX7 tC0 (Nat.le_of_ble_eq_true rfl) fRX7_19 rfl ?_
      refine pw_geti 4 dX7_way_67 clRX6 tC3 (Nat.le_of_ble_eq_true rfl) fRX7_80 rfl ?_
      refine pw_iconst (1 : Int32) dX7_way_70 (by decide) ?_
      refine pw_isub dX7_way_71 ?_
      have hr := Option.some.inj hs
      exact pw_ireturn dX7_way_72 rfl ⟨by rw [← hr], by rw [← hr]⟩
    · rw [if_neg c_9] at hs
      refine pw_sipush (-1004 : Int32) dX7_way_26 (by decide) ?_
      have hr := Option.some.inj hs
      exact pw_ireturn dX7_way_29 rfl ⟨by rw [← hr], by rw [← hr]⟩
  · rw [if_pos c_10] at hs
    refine pw_sipush (-1003 : Int32) dX7_way_10 (by decide) ?_
    have hr := Option.some.inj hs
    exact pw_ireturn dX7_way_13 rfl ⟨by rw [← hr], by rw [← hr]⟩
set_option maxRecDepth 100000 in
set_option maxHeartbeats 400000 in
theorem conX2_firstValley_2 {sg : Sg} {a2 : Int32} {a3 : Int32} {oM : Int32} (h : fX2_firstValley_2 a2 a3 sg = some oM) : Con tbC yX2_firstValley cX2_firstValley 7 (some .int) 1 21 [.ref 17, .ref 2, .int a2, .int a3] sg (PoI oM sg) := by
  refine Con.of (by decide) (Nat.le_of_ble_eq_true rfl) ?_
  show PW tbC RX2 cX2_firstValley 7 (some .int) 1 21 (PoI oM sg) 0 [(0, .ref 17), (1, .ref 2), (2, .int a2), (3, .int a3)] [] sg
  have hs := h
  unfold fX2_firstValley_2 at hs
  refine pw_iconst (0 : Int32) dX2_firstValley_0 (by decide) ?_
  refine pw_istore [(4, .int (0 : Int32)), (0, .ref 17), (1, .ref 2), (2, .int a2), (3, .int a3)] dX2_firstValley_1 (Nat.le_of_ble_eq_true rfl) rfl ?_
  refine pw_iconst (0 : Int32) dX2_firstValley_3 (by decide) ?_
  refine pw_istore [(5, .int (0 : Int32)), (4, .int (0 : Int32)), (0, .ref 17), (1, .ref 2), (2, .int a2), (3, .int a3)] dX2_firstValley_4 (Nat.le_of_ble_eq_true rfl) rfl ?_
  obtain ⟨u, hL, hs⟩ := Option.bind_eq_some_iff.mp hs
  refine PW.sub [2, 3, 4, 5, 1, 0] (lv' := [(0, .ref 17), (1, .ref 2), (2, .int a2), (3, .int a3), (4, .int (0 : Int32)), (5, .int (0 : Int32))]) rfl ?_
  refine lpO_pw (T := Int32 × Int32) (X := fun t => PW tbC RX2 cX2_firstValley 7 (some .int) 1 21 (PoI oM sg) 6 [(0, .ref 17), (1, .ref 2), (2, .int a2), (3, .int a3), (4, .int t.1), (5, .int t.2)] [] sg) (E := fun t => PW tbC RX2 cX2_firstValley 7 (some .int) 1 21 (PoI oM sg) 63 [(0, .ref 17), (1, .ref 2), (2, .int a2), (3, .int a3), (4, .int t.1), (5, .int t.2)] [] sg) (PR := fun r => r = oM) (step := (fun t => fX2_firstValley_2_L6 a2 a3 sg t.1 t.2)) ?_ 300 ((0 : Int32), (0 : Int32)) u hL ?_ ?_
  · intro t oL hs hE hR hC
    obtain ⟨a4, a5⟩ := t
    replace hs : fX2_firstValley_2_L6 a2 a3 sg a4 a5 = some oL := hs
    show PW tbC RX2 cX2_firstValley 7 (some .int) 1 21 (PoI oM sg) 6 [(0, .ref 17), (1, .ref 2), (2, .int a2), (3, .int a3), (4, .int a4), (5, .int a5)] [] sg
    unfold fX2_firstValley_2_L6 at hs
    refine pw_iload 5 dX2_firstValley_6 rfl ?_
    refine pw_iconst (1 : Int32) dX2_firstValley_8 (by decide) ?_
    refine pw_iadd dX2_firstValley_9 ?_
    refine pw_iload_n 3 dX2_firstValley_10 rfl rfl ?_
    refine pw_icmp_ge 63 dX2_firstValley_11 (by decide) (fun c_8 => ?_) (fun c_8 => ?_)
    · rw [if_pos c_8] at hs
      exact PW.sub (lv' := [(0, .ref 17), (1, .ref 2), (2, .int a2), (3, .int a3), (4, .int a4), (5, .int a5)]) [0, 1, 2, 3, 4, 5] rfl (hE (a4, a5) (Option.some.inj hs).symm)
    · rw [if_neg c_8] at hs
      refine pw_aload_n 1 dX2_firstValley_14 rfl rfl ?_
      refine pw_iload_n 2 dX2_firstValley_15 rfl rfl ?_
      refine pw_iload 5 dX2_firstValley_16 rfl ?_
      refine pw_iadd dX2_firstValley_18 ?_
      obtain ⟨h_1, hs⟩ := gd_some hs
      refine pw_iaload dX2_firstValley_19 tC2 (inb_in h_1) ?_
      refine pw_bipush (8 : Int32) dX2_firstValley_20 (by decide) ?_
      refine pw_imul dX2_firstValley_22 ?_
      refine pw_aload_n 1 dX2_firstValley_23 rfl rfl ?_
      refine pw_iload_n 2 dX2_firstValley_24 rfl rfl ?_
      refine pw_iload 5 dX2_firstValley_25 rfl ?_
      refine pw_iadd dX2_firstValley_27 ?_
      refine pw_iconst (1 : Int32) dX2_firstValley_28 (by decide) ?_
      refine pw_iadd dX2_firstValley_29 ?_
      obtain ⟨h_2, hs⟩ := gd_some hs
      refine pw_iaload dX2_firstValley_30 tC2 (inb_in h_2) ?_
      refine pw_iadd dX2_firstValley_31 ?_
      refine pw_topi (fun a6_3 e_a6_3 => ?_)
      replace hs := lt_use hs e_a6_3
      refine pw_istore [(6, .int a6_3), (0, .ref 17), (1, .ref 2), (2, .int a2), (3, .int a3), (4, .int a4), (5, .int a5)] dX2_firstValley_32 (Nat.le_of_ble_eq_true rfl) rfl ?_
      refine pw_iload 5 dX2_firstValley_34 rfl ?_
      refine pw_aload_n 1 dX2_firstValley_36 rfl rfl ?_
      refine pw_getr 1 dX2_firstValley_37 clRX2 tC17 (Nat.le_of_ble_eq_true rfl) fRX2_15 rfl ?_
      refine pw_iload 0 dX2_firstValley_40 rfl ?_
      obtain ⟨h_4, hs⟩ := gd_some hs
      refine pw_iaload dX2_firstValley_42 tC19 (inb_in h_4) ?_
      obtain ⟨r_6, hc_5, hs⟩ := Option.bind_eq_some_iff.mp hs
      refine pw_callSi [.int a4, .int (rd sg 19 (Int32.toNatClampNeg a6_3))] (st := []) dX2_firstValley_43 mRX2_61 stX2_after inRX2 coX2_after hyX2_after (by decide) (Nat.le_of_ble_eq_true rfl) (conX2_after hc_5) ?_
      refine pw_istore [(4, .int r_6), (6, .int a6_3), (0, .ref 17), (1, .ref 2), (2, .int a2), (3, .int a3), (5, .int a5)] dX2_firstValley_46 (Nat.le_of_ble_eq_true rfl) rfl ?_
      refine pw_iload 0 dX2_firstValley_48 rfl ?_
      refine pw_iconst (-1 : Int32) dX2_firstValley_50 (by decide) ?_
      refine pw_icmp_ne 57 dX2_firstValley_51 (by decide) (fun c_7 => ?_) (fun c_7 => ?_)
      · rw [if_neg c_7] at hs
        refine pw_iinc 6 (a5 + 1) [(5, .int (a5 + 1)), (4, .int r_6), (6, .int a6_3), (0, .ref 17), (1, .ref 2), (2, .int a2), (3, .int a3)] dX2_firstValley_57 rfl rfl (Nat.le_of_ble_eq_true rfl) rfl ?_
        refine pw_goto 6 dX2_firstValley_60 (by decide) ?_
        exact PW.sub (lv' := [(0, .ref 17), (1, .ref 2), (2, .int a2), (3, .int a3), (4, .int r_6), (5, .int (a5 + 1))]) [3, 4, 5, 6, 1, 0] rfl (hC (r_6, (a5 + 1)) (Option.some.inj hs).symm)
      · rw [if_pos c_7] at hs
        refine pw_iload 6 dX2_firstValley_54 rfl ?_
        have hr := hR _ (Option.some.inj hs).symm
        exact pw_ireturn dX2_firstValley_56 rfl ⟨by rw [hr], rfl⟩
  · intro t hu
    subst hu
    obtain ⟨a4_9, a5_10⟩ := t
    replace hs : fX2_firstValley_2_E63 a2 a3 a4_9 a5_10 sg = some oM := hs
    show PW tbC RX2 cX2_firstValley 7 (some .int) 1 21 (PoI oM sg) 63 [(0, .ref 17), (1, .ref 2), (2, .int a2), (3, .int a3), (4, .int a4_9), (5, .int a5_10)] [] sg
    unfold fX2_firstValley_2_E63 at hs
    refine pw_iconst (-1 : Int32) dX2_firstValley_63 (by decide) ?_
    have hr := Option.some.inj hs
    exact pw_ireturn dX2_firstValley_64 rfl ⟨by rw [hr], rfl⟩
  · intro r hu
    subst hu
    exact Option.some.inj hs
set_option maxRecDepth 100000 in
set_option maxHeartbeats 400000 in
theorem conX7_valley {sg : Sg}  {oM : Int32} (h : fX7_valley  sg = some oM) : Con tbC yX7_valley cX7_valley 1 (some .int) 3 64 [.ref 0] sg (PoI oM sg) := by
  refine Con.of (by decide) (Nat.le_of_ble_eq_true rfl) ?_
  show PW tbC RX7 cX7_valley 1 (some .int) 3 64 (PoI oM sg) 0 [(0, .ref 0)] [] sg
  have hs := h
  unfold fX7_valley at hs
  have J38 : ∀ (s0 : Int32), fX7_valley_J38 s0 sg = some oM → PW tbC RX7 cX7_valley 1 (some .int) 3 64 (PoI oM sg) 38 [] [.int s0] sg := by
    intro s0 hs
    unfold fX7_valley_J38 at hs
    have hr := Option.some.inj hs
    exact pw_ireturn dX7_valley_38 rfl ⟨by rw [hr], rfl⟩
  refine pw_aload_n 0 dX7_valley_0 rfl rfl ?_
  refine pw_getr 0 dX7_valley_1 clRX7 tC0 (Nat.le_of_ble_eq_true rfl) fRX7_10 rfl ?_
  obtain ⟨r_2, hc_1, hs⟩ := Option.bind_eq_some_iff.mp hs
  refine pw_callVi [] (st := []) dX7_valley_4 tC1 rfl mRX7_76 imX4_isWay seX4_isWay inRX4 coX4_isWay hyX4_isWay (by decide) (Nat.le_of_ble_eq_true rfl) (conX4_isWay hc_1) ?_
  refine pw_if_eq 35 dX7_valley_7 (by decide) (fun c_5 => ?_) (fun c_5 => ?_)
  · rw [if_pos c_5] at hs
    refine pw_sipush (-1003 : Int32) dX7_valley_35 (by decide) ?_
    exact PW.sub (lv' := []) [] rfl (J38 (-1003 : Int32) hs)
  · rw [if_neg c_5] at hs
    refine pw_aload_n 0 dX7_valley_10 rfl rfl ?_
    refine pw_getr 4 dX7_valley_11 clRX7 tC0 (Nat.le_of_ble_eq_true rfl) fRX7_40 rfl ?_
    refine pw_aload_n 0 dX7_valley_14 rfl rfl ?_
    refine pw_getr 0 dX7_valley_15 clRX7 tC0 (Nat.le_of_ble_eq_true rfl) fRX7_10 rfl ?_
    refine pw_getr 0 dX7_valley_18 clRX4 tC1 (Nat.le_of_ble_eq_true rfl) fRX7_87 rfl ?_
    refine pw_iconst (0 : Int32) dX7_valley_21 (by decide) ?_
    refine pw_aload_n 0 dX7_valley_22 rfl rfl ?_
    refine pw_getr 0 dX7_valley_23 clRX7 tC0 (Nat.le_of_ble_eq_true rfl) fRX7_10 rfl ?_
    refine pw_geti 1 dX7_valley_26 clRX4 tC1 (Nat.le_of_ble_eq_true rfl) fRX7_65 rfl ?_
    obtain ⟨r_4, hc_3, hs⟩ := Option.bind_eq_some_iff.mp hs
    refine pw_callVi [.ref 2, .int (0 : Int32), .int (rd sg 1 1)] (st := []) dX7_valley_29 tC17 rfl mRX7_90 imX2_firstValley seX2_firstValley inRX2 coX2_firstValley hyX2_firstValley (by decide) (Nat.le_of_ble_eq_true rfl) (conX2_firstValley_2 hc_3) ?_
    refine pw_goto 38 dX7_valley_32 (by decide) ?_
    exact PW.sub (lv' := []) [] rfl (J38 r_4 hs)
set_option maxRecDepth 100000 in
set_option maxHeartbeats 400000 in
theorem conX6_has {sg : Sg} {a1 : Int32} {oM : Int32} (h : fX6_has a1 sg = some oM) : Con tbC yX6_has cX6_has 2 (some .boolean) 0 0 [.ref 3, .int a1] sg (PoI oM sg) := by
  refine Con.of (by decide) (Nat.le_of_ble_eq_true rfl) ?_
  show PW tbC RX6 cX6_has 2 (some .boolean) 0 0 (PoI oM sg) 0 [(0, .ref 3), (1, .int a1)] [] sg
  have hs := h
  unfold fX6_has at hs
  have J17 : ∀ (s0 : Int32), fX6_has_J17 s0 sg = some oM → PW tbC RX6 cX6_has 2 (some .boolean) 0 0 (PoI oM sg) 17 [] [.int s0] sg := by
    intro s0 hs
    unfold fX6_has_J17 at hs
    obtain ⟨h_3, hs⟩ := gd_some hs
    have hr := Option.some.inj hs
    exact pw_zreturn dX6_has_17 rfl (zb_ok h_3) ⟨by rw [hr], rfl⟩
  have J16 : fX6_has_J16 sg = some oM → PW tbC RX6 cX6_has 2 (some .boolean) 0 0 (PoI oM sg) 16 [] [] sg := by
    intro  hs
    unfold fX6_has_J16 at hs
    refine pw_iconst (0 : Int32) dX6_has_16 (by decide) ?_
    exact PW.sub (lv' := []) [] rfl (J17 (0 : Int32) hs)
  refine pw_iload_n 1 dX6_has_0 rfl rfl ?_
  refine pw_if_lt 16 dX6_has_1 (by decide) (fun c_2 => ?_) (fun c_2 => ?_)
  · rw [if_pos c_2] at hs
    exact PW.sub (lv' := []) [] rfl (J16  hs)
  · rw [if_neg c_2] at hs
    refine pw_iload_n 1 dX6_has_4 rfl rfl ?_
    refine pw_aload_n 0 dX6_has_5 rfl rfl ?_
    refine pw_geti 4 dX6_has_6 clRX6 tC3 (Nat.le_of_ble_eq_true rfl) fRX6_24 rfl ?_
    refine pw_icmp_ge 16 dX6_has_9 (by decide) (fun c_1 => ?_) (fun c_1 => ?_)
    · rw [if_pos c_1] at hs
      exact PW.sub (lv' := []) [] rfl (J16  hs)
    · rw [if_neg c_1] at hs
      refine pw_iconst (1 : Int32) dX6_has_12 (by decide) ?_
      refine pw_goto 17 dX6_has_13 (by decide) ?_
      exact PW.sub (lv' := []) [] rfl (J17 (1 : Int32) hs)
set_option maxRecDepth 100000 in
set_option maxHeartbeats 400000 in
theorem conX6_remove {sg : Sg} {a1 : Int32} {oM : Sg} (h : fX6_remove a1 sg = some oM) : Con tbC yX6_remove cX6_remove 4 none 1 21 [.ref 3, .int a1] sg (PoV oM) := by
  refine Con.of (by decide) (Nat.le_of_ble_eq_true rfl) ?_
  show PW tbC RX6 cX6_remove 4 none 1 21 (PoV oM) 0 [(0, .ref 3), (1, .int a1)] [] sg
  have hs := h
  unfold fX6_remove at hs
  refine pw_aload_n 0 dX6_remove_0 rfl rfl ?_
  refine pw_iload_n 1 dX6_remove_1 rfl rfl ?_
  obtain ⟨r_2, hc_1, hs⟩ := Option.bind_eq_some_iff.mp hs
  refine pw_callVi [.int a1] (st := []) dX6_remove_2 tC3 rfl mRX6_34 imX6_has seX6_has inRX6 coX6_has hyX6_has (by decide) (Nat.le_of_ble_eq_true rfl) (conX6_has hc_1) ?_
  refine pw_if_ne 9 dX6_remove_5 (by decide) (fun c_17 => ?_) (fun c_17 => ?_)
  · rw [if_neg c_17] at hs
    refine pw_iload_n 1 dX6_remove_9 rfl rfl ?_
    refine pw_iconst (1 : Int32) dX6_remove_10 (by decide) ?_
    refine pw_iadd dX6_remove_11 ?_
    refine pw_istore_n [(2, .int (a1 + (1 : Int32))), (0, .ref 3), (1, .int a1)] dX6_remove_12 rfl (Nat.le_of_ble_eq_true rfl) rfl ?_
    obtain ⟨t, hL, hs⟩ := Option.bind_eq_some_iff.mp hs
    refine PW.sub [1, 0] (lv' := [(0, .ref 3), (2, .int (a1 + (1 : Int32)))]) rfl ?_
    refine lpS_pw (T := Int32 × Sg) (X := fun t => PW tbC RX6 cX6_remove 4 none 1 21 (PoV oM) 13 [(0, .ref 3), (2, .int t.1)] [] t.2) (E := fun t => PW tbC RX6 cX6_remove 4 none 1 21 (PoV oM) 83 [(0, .ref 3), (2, .int t.1)] [] t.2) (step := (fun t => fX6_remove_L13 t.1 t.2)) ?_ 300 ((a1 + (1 : Int32)), sg) t hL ?_
    · intro t oL hs hE hC
      obtain ⟨a2, sg⟩ := t
      replace hs : fX6_remove_L13 a2 sg = some oL := hs
      show PW tbC RX6 cX6_remove 4 none 1 21 (PoV oM) 13 [(0, .ref 3), (2, .int a2)] [] sg
      unfold fX6_remove_L13 at hs
      refine pw_iload_n 1 dX6_remove_13 rfl rfl ?_
      refine pw_aload_n 0 dX6_remove_14 rfl rfl ?_
      refine pw_geti 4 dX6_remove_15 clRX6 tC3 (Nat.le_of_ble_eq_true rfl) fRX6_24 rfl ?_
      refine pw_icmp_ge 83 dX6_remove_18 (by decide) (fun c_13 => ?_) (fun c_13 => ?_)
      · rw [if_pos c_13] at hs
        exact PW.sub (lv' := [(0, .ref 3), (2, .int a2)]) [0, 1] rfl (hE (a2, sg) (Option.some.inj hs).symm)
      · rw [if_neg c_13] at hs
        refine pw_iconst (0 : Int32) dX6_remove_21 (by decide) ?_
        refine pw_istore_n [(3, .int (0 : Int32)), (0, .ref 3), (2, .int a2)] dX6_remove_22 rfl (Nat.le_of_ble_eq_true rfl) rfl ?_
        obtain ⟨t, hL, hs⟩ := Option.bind_eq_some_iff.mp hs
        refine PW.sub [1, 2, 0] (lv' := [(0, .ref 3), (2, .int a2), (3, .int (0 : Int32))]) rfl ?_
        refine lpS_pw (T := Int32 × Sg) (X := fun t => PW tbC RX6 cX6_remove 4 none 1 21 (PoV oM) 23 [(0, .ref 3), (2, .int a2), (3, .int t.1)] [] t.2) (E := fun t => PW tbC RX6 cX6_remove 4 none 1 21 (PoV oM) 63 [(0, .ref 3), (2, .int a2), (3, .int t.1)] [] t.2) (step := (fun t => fX6_remove_L23 a2 t.1 t.2)) ?_ 300 ((0 : Int32), sg) t hL ?_
        · intro t oL hs hE hC
          obtain ⟨a3, sg⟩ := t
          replace hs : fX6_remove_L23 a2 a3 sg = some oL := hs
          show PW tbC RX6 cX6_remove 4 none 1 21 (PoV oM) 23 [(0, .ref 3), (2, .int a2), (3, .int a3)] [] sg
          unfold fX6_remove_L23 at hs
          refine pw_iload_n 2 dX6_remove_23 rfl rfl ?_
          refine pw_aload_n 0 dX6_remove_24 rfl rfl ?_
          refine pw_getr 1 dX6_remove_25 clRX6 tC3 (Nat.le_of_ble_eq_true rfl) fRX6_15 rfl ?_
          refine pw_iload_n 1 dX6_remove_28 rfl rfl ?_
          obtain ⟨h_3, hs⟩ := gd_some hs
          refine pw_iaload dX6_remove_29 tC5 (inb_in h_3) ?_
          refine pw_icmp_ge 63 dX6_remove_30 (by decide) (fun c_7 => ?_) (fun c_7 => ?_)
          · rw [if_pos c_7] at hs
            exact PW.sub (lv' := [(0, .ref 3), (2, .int a2), (3, .int a3)]) [0, 1, 2] rfl (hE (a3, sg) (Option.some.inj hs).symm)
          · rw [if_neg c_7] at hs
            refine pw_aload_n 0 dX6_remove_33 rfl rfl ?_
            refine pw_getr 0 dX6_remove_34 clRX6 tC3 (Nat.le_of_ble_eq_true rfl) fRX6_9 rfl ?_
            refine pw_iload_n 1 dX6_remove_37 rfl rfl ?_
            refine pw_iconst (1 : Int32) dX6_remove_38 (by decide) ?_
            refine pw_isub dX6_remove_39 ?_
            refine pw_bipush (6 : Int32) dX6_remove_40 (by decide) ?_
            refine pw_imul dX6_remove_42 ?_
            refine pw_iload_n 2 dX6_remove_43 rfl rfl ?_
            refine pw_iadd dX6_remove_44 ?_
            refine pw_aload_n 0 dX6_remove_45 rfl rfl ?_
            refine pw_getr 0 dX6_remove_46 clRX6 tC3 (Nat.le_of_ble_eq_true rfl) fRX6_9 rfl ?_
            refine pw_iload_n 1 dX6_remove_49 rfl rfl ?_
            refine pw_bipush (6 : Int32) dX6_remove_50 (by decide) ?_
            refine pw_imul dX6_remove_52 ?_
            refine pw_iload_n 2 dX6_remove_53 rfl rfl ?_
            refine pw_iadd dX6_remove_54 ?_
            obtain ⟨h_4, hs⟩ := gd_some hs
            refine pw_iaload dX6_remove_55 tC4 (inb_in h_4) ?_
            obtain ⟨h_5, hs⟩ := gd_some hs
            refine pw_iastore dX6_remove_56 tC4 (inb_in h_5) ?_
            refine pw_sg (fun sg_6 e_sg_6 => ?_)
            replace hs := lt_use hs e_sg_6
            refine pw_iinc 2 (a3 + 1) [(3, .int (a3 + 1)), (0, .ref 3), (2, .int a2)] dX6_remove_57 rfl rfl (Nat.le_of_ble_eq_true rfl) rfl ?_
            refine pw_goto 23 dX6_remove_60 (by decide) ?_
            exact PW.sub (lv' := [(0, .ref 3), (2, .int a2), (3, .int (a3 + 1))]) [1, 2, 0] rfl (hC ((a3 + 1), sg_6) (Option.some.inj hs).symm)
        · skip
          obtain ⟨a3_8, sg_9⟩ := t
          replace hs : fX6_remove_L13_E63 a2 a3_8 sg_9 = some oL := hs
          show PW tbC RX6 cX6_remove 4 none 1 21 (PoV oM) 63 [(0, .ref 3), (2, .int a2), (3, .int a3_8)] [] sg_9
          unfold fX6_remove_L13_E63 at hs
          refine pw_aload_n 0 dX6_remove_63 rfl rfl ?_
          refine pw_getr 1 dX6_remove_64 clRX6 tC3 (Nat.le_of_ble_eq_true rfl) fRX6_15 rfl ?_
          refine pw_iload_n 1 dX6_remove_67 rfl rfl ?_
          refine pw_iconst (1 : Int32) dX6_remove_68 (by decide) ?_
          refine pw_isub dX6_remove_69 ?_
          refine pw_aload_n 0 dX6_remove_70 rfl rfl ?_
          refine pw_getr 1 dX6_remove_71 clRX6 tC3 (Nat.le_of_ble_eq_true rfl) fRX6_15 rfl ?_
          refine pw_iload_n 1 dX6_remove_74 rfl rfl ?_
          obtain ⟨h_10, hs⟩ := gd_some hs
          refine pw_iaload dX6_remove_75 tC5 (inb_in h_10) ?_
          obtain ⟨h_11, hs⟩ := gd_some hs
          refine pw_iastore dX6_remove_76 tC5 (inb_in h_11) ?_
          refine pw_sg (fun sg_12 e_sg_12 => ?_)
          replace hs := lt_use hs e_sg_12
          refine pw_iinc 1 (a2 + 1) [(2, .int (a2 + 1)), (0, .ref 3), (3, .int a3_8)] dX6_remove_77 rfl rfl (Nat.le_of_ble_eq_true rfl) rfl ?_
          refine pw_goto 13 dX6_remove_80 (by decide) ?_
          exact PW.sub (lv' := [(0, .ref 3), (2, .int (a2 + 1))]) [1, 0] rfl (hC ((a2 + 1), sg_12) (Option.some.inj hs).symm)
    · skip
      obtain ⟨a2_14, sg_15⟩ := t
      replace hs : fX6_remove_E83 a2_14 sg_15 = some oM := hs
      show PW tbC RX6 cX6_remove 4 none 1 21 (PoV oM) 83 [(0, .ref 3), (2, .int a2_14)] [] sg_15
      unfold fX6_remove_E83 at hs
      refine pw_aload_n 0 dX6_remove_83 rfl rfl ?_
      refine pw_dup dX6_remove_84 rfl ?_
      refine pw_geti 4 dX6_remove_85 clRX6 tC3 (Nat.le_of_ble_eq_true rfl) fRX6_24 rfl ?_
      refine pw_iconst (1 : Int32) dX6_remove_88 (by decide) ?_
      refine pw_isub dX6_remove_89 ?_
      refine pw_puti 4 (fty := .int) dX6_remove_90 clRX6 tC3 (Nat.le_of_ble_eq_true rfl) fRX6_24 rfl rfl (by decide +kernel) rfl rfl ?_
      refine pw_sg (fun sg_16 e_sg_16 => ?_)
      replace hs := lt_use hs e_sg_16
      have hr := Option.some.inj hs
      exact pw_return dX6_remove_93 rfl ⟨rfl, hr⟩
  · rw [if_pos c_17] at hs
    have hr := Option.some.inj hs
    exact pw_return dX6_remove_8 rfl ⟨rfl, hr⟩
set_option maxRecDepth 100000 in
set_option maxHeartbeats 400000 in
theorem conX7_drop {sg : Sg} {a1 : Int32} {oM : Int32 × Sg} (h : fX7_drop a1 sg = some oM) : Con tbC yX7_drop cX7_drop 2 (some .int) 6 132 [.ref 0, .int a1] sg (PoI oM.1 oM.2) := by
  refine Con.of (by decide) (Nat.le_of_ble_eq_true rfl) ?_
  show PW tbC RX7 cX7_drop 2 (some .int) 6 132 (PoI oM.1 oM.2) 0 [(0, .ref 0), (1, .int a1)] [] sg
  have hs := h
  unfold fX7_drop at hs
  refine pw_aload_n 0 dX7_drop_0 rfl rfl ?_
  refine pw_getr 1 dX7_drop_1 clRX7 tC0 (Nat.le_of_ble_eq_true rfl) fRX7_19 rfl ?_
  refine pw_iload_n 1 dX7_drop_4 rfl rfl ?_
  obtain ⟨r_2, hc_1, hs⟩ := Option.bind_eq_some_iff.mp hs
  refine pw_callVi [.int a1] (st := []) dX7_drop_5 tC3 rfl mRX7_94 imX6_has seX6_has inRX6 coX6_has hyX6_has (by decide) (Nat.le_of_ble_eq_true rfl) (conX6_has hc_1) ?_
  refine pw_if_ne 15 dX7_drop_8 (by decide) (fun c_7 => ?_) (fun c_7 => ?_)
  · rw [if_neg c_7] at hs
    refine pw_aload_n 0 dX7_drop_15 rfl rfl ?_
    refine pw_getr 1 dX7_drop_16 clRX7 tC0 (Nat.le_of_ble_eq_true rfl) fRX7_19 rfl ?_
    refine pw_iload_n 1 dX7_drop_19 rfl rfl ?_
    obtain ⟨sg_4, hc_3, hs⟩ := Option.bind_eq_some_iff.mp hs
    refine pw_callVv [.int a1] (st := []) dX7_drop_20 tC3 rfl mRX7_98 imX6_remove seX6_remove inRX6 coX6_remove hyX6_remove (by decide) (Nat.le_of_ble_eq_true rfl) (conX6_remove hc_3) ?_
    refine pw_aload_n 0 dX7_drop_23 rfl rfl ?_
    obtain ⟨sg_6, hc_5, hs⟩ := Option.bind_eq_some_iff.mp hs
    refine pw_callVv [] (st := []) dX7_drop_24 tC0 rfl mRX7_62 imX7_refresh seX7_refresh inRX7 coX7_refresh hyX7_refresh (by decide) (Nat.le_of_ble_eq_true rfl) (conX7_refresh hc_5) ?_
    refine pw_aload_n 0 dX7_drop_27 rfl rfl ?_
    refine pw_getr 1 dX7_drop_28 clRX7 tC0 (Nat.le_of_ble_eq_true rfl) fRX7_19 rfl ?_
    refine pw_geti 4 dX7_drop_31 clRX6 tC3 (Nat.le_of_ble_eq_true rfl) fRX7_80 rfl ?_
    have hr := Option.some.inj hs
    exact pw_ireturn dX7_drop_34 rfl ⟨by rw [← hr], by rw [← hr]⟩
  · rw [if_pos c_7] at hs
    refine pw_sipush (-1001 : Int32) dX7_drop_11 (by decide) ?_
    have hr := Option.some.inj hs
    exact pw_ireturn dX7_drop_14 rfl ⟨by rw [← hr], by rw [← hr]⟩
set_option maxRecDepth 100000 in
set_option maxHeartbeats 400000 in
theorem conX0_at {tab : Tb} {sg : Sg} {a0 : Int32} {a1 : Int32} {oM : Int32} (h : fX0_at a0 a1 = some oM) : Con tab yX0_at cX0_at 2 (some .int) 0 0 [.int a0, .int a1] sg (PoI oM sg) := by
  refine Con.of (by decide) (Nat.le_of_ble_eq_true rfl) ?_
  show PW tab RX0 cX0_at 2 (some .int) 0 0 (PoI oM sg) 0 [(0, .int a0), (1, .int a1)] [] sg
  have hs := h
  unfold fX0_at at hs
  refine pw_iload_n 0 dX0_at_0 rfl rfl ?_
  refine pw_iload_n 1 dX0_at_1 rfl rfl ?_
  refine pw_ishr dX0_at_2 ?_
  refine pw_iconst (1 : Int32) dX0_at_3 (by decide) ?_
  refine pw_iand dX0_at_4 ?_
  have hr := Option.some.inj hs
  exact pw_ireturn dX0_at_5 rfl ⟨by rw [hr], rfl⟩
set_option maxRecDepth 100000 in
set_option maxHeartbeats 400000 in
theorem conX7_exchange {sg : Sg} {a1 : Int32} {a2 : Int32} {oM : Int32 × Sg} (h : fX7_exchange a1 a2 sg = some oM) : Con tbC yX7_exchange cX7_exchange 4 (some .int) 6 132 [.ref 0, .int a1, .int a2] sg (PoI oM.1 oM.2) := by
  refine Con.of (by decide) (Nat.le_of_ble_eq_true rfl) ?_
  show PW tbC RX7 cX7_exchange 4 (some .int) 6 132 (PoI oM.1 oM.2) 0 [(0, .ref 0), (1, .int a1), (2, .int a2)] [] sg
  have hs := h
  unfold fX7_exchange at hs
  have J46 : ∀ (a3 : Int32) (s0 : Int32) (sg : Sg), fX7_exchange_J46 a3 s0 sg = some oM → PW tbC RX7 cX7_exchange 4 (some .int) 6 132 (PoI oM.1 oM.2) 46 [(0, .ref 0), (3, .int a3)] [.int s0, .ref 0] sg := by
    intro a3 s0 sg hs
    unfold fX7_exchange_J46 at hs
    refine pw_puti 7 (fty := .int) dX7_exchange_46 clRX7 tC0 (Nat.le_of_ble_eq_true rfl) fRX7_55 rfl rfl (by decide +kernel) rfl rfl ?_
    refine pw_sg (fun sg_7 e_sg_7 => ?_)
    replace hs := lt_use hs e_sg_7
    refine pw_aload_n 0 dX7_exchange_49 rfl rfl ?_
    obtain ⟨sg_9, hc_8, hs⟩ := Option.bind_eq_some_iff.mp hs
    refine pw_callVv [] (st := []) dX7_exchange_50 tC0 rfl mRX7_62 imX7_refresh seX7_refresh inRX7 coX7_refresh hyX7_refresh (by decide) (Nat.le_of_ble_eq_true rfl) (conX7_refresh hc_8) ?_
    refine pw_iload_n 1 dX7_exchange_53 rfl rfl ?_
    have hr := Option.some.inj hs
    exact pw_ireturn dX7_exchange_54 rfl ⟨by rw [← hr], by rw [← hr]⟩
  refine pw_iload_n 1 dX7_exchange_0 rfl rfl ?_
  obtain ⟨r_2, hc_1, hs⟩ := Option.bind_eq_some_iff.mp hs
  refine pw_callSi [.int a1] (st := []) dX7_exchange_1 mRX7_101 stX0_isNet inRX0 coX0_isNet hyX0_isNet (by decide) (Nat.le_of_ble_eq_true rfl) (conX0_isNet hc_1) ?_
  refine pw_if_ne 11 dX7_exchange_4 (by decide) (fun c_6 => ?_) (fun c_6 => ?_)
  · rw [if_neg c_6] at hs
    refine pw_aload_n 0 dX7_exchange_11 rfl rfl ?_
    refine pw_geti 7 dX7_exchange_12 clRX7 tC0 (Nat.le_of_ble_eq_true rfl) fRX7_55 rfl ?_
    refine pw_iload_n 1 dX7_exchange_15 rfl rfl ?_
    obtain ⟨r_4, hc_3, hs⟩ := Option.bind_eq_some_iff.mp hs
    refine pw_callSi [.int (rd sg 0 7), .int a1] (st := []) dX7_exchange_16 mRX7_106 stX0_at inRX0 coX0_at hyX0_at (by decide) (Nat.le_of_ble_eq_true rfl) (conX0_at hc_3) ?_
    refine pw_istore_n [(3, .int r_4), (0, .ref 0), (1, .int a1), (2, .int a2)] dX7_exchange_19 rfl (Nat.le_of_ble_eq_true rfl) rfl ?_
    refine pw_aload_n 1 dX7_exchange_20 rfl rfl ?_
    refine pw_iload_n 3 dX7_exchange_21 rfl rfl ?_
    refine pw_if_eq 36 dX7_exchange_22 (by decide) (fun c_5 => ?_) (fun c_5 => ?_)
    · rw [if_pos c_5] at hs
      refine pw_aload_n 1 dX7_exchange_36 rfl rfl ?_
      refine pw_geti 7 dX7_exchange_37 clRX7 tC0 (Nat.le_of_ble_eq_true rfl) fRX7_55 rfl ?_
      refine pw_iconst (1 : Int32) dX7_exchange_40 (by decide) ?_
      refine pw_iload_n 2 dX7_exchange_41 rfl rfl ?_
      refine pw_ishl dX7_exchange_42 ?_
      refine pw_iconst (-1 : Int32) dX7_exchange_43 (by decide) ?_
      refine pw_ixor dX7_exchange_44 ?_
      refine pw_iand dX7_exchange_45 ?_
      exact PW.sub (lv' := [(0, .ref 0), (3, .int r_4)]) [1, 0] rfl (J46 r_4 ((rd sg 0 7) &&& (((1 : Int32) <<< (a1 &&& 31)) ^^^ (-1 : Int32))) sg hs)
    · rw [if_neg c_5] at hs
      refine pw_aload_n 1 dX7_exchange_25 rfl rfl ?_
      refine pw_geti 7 dX7_exchange_26 clRX7 tC0 (Nat.le_of_ble_eq_true rfl) fRX7_55 rfl ?_
      refine pw_iconst (1 : Int32) dX7_exchange_29 (by decide) ?_
      refine pw_iload_n 2 dX7_exchange_30 rfl rfl ?_
      refine pw_ishl dX7_exchange_31 ?_
      refine pw_ior dX7_exchange_32 ?_
      refine pw_goto 46 dX7_exchange_33 (by decide) ?_
      exact PW.sub (lv' := [(0, .ref 0), (3, .int r_4)]) [1, 0] rfl (J46 r_4 ((rd sg 0 7) ||| ((1 : Int32) <<< (a1 &&& 31))) sg hs)
  · rw [if_pos c_6] at hs
    refine pw_sipush (-1001 : Int32) dX7_exchange_7 (by decide) ?_
    have hr := Option.some.inj hs
    exact pw_ireturn dX7_exchange_10 rfl ⟨by rw [← hr], by rw [← hr]⟩
set_option maxRecDepth 100000 in
set_option maxHeartbeats 400000 in
theorem conX7_arePair {tab : Tb} {sg : Sg} {a0 : Int32} {a1 : Int32} {oM : Int32} (h : fX7_arePair a0 a1 = some oM) : Con tab yX7_arePair cX7_arePair 2 (some .boolean) 1 20 [.int a0, .int a1] sg (PoI oM sg) := by
  refine Con.of (by decide) (Nat.le_of_ble_eq_true rfl) ?_
  show PW tab RX7 cX7_arePair 2 (some .boolean) 1 20 (PoI oM sg) 0 [(0, .int a0), (1, .int a1)] [] sg
  have hs := h
  unfold fX7_arePair at hs
  have J24 : ∀ (s0 : Int32), fX7_arePair_J24 s0 = some oM → PW tab RX7 cX7_arePair 2 (some .boolean) 1 20 (PoI oM sg) 24 [] [.int s0] sg := by
    intro s0 hs
    unfold fX7_arePair_J24 at hs
    obtain ⟨h_8, hs⟩ := gd_some hs
    have hr := Option.some.inj hs
    exact pw_zreturn dX7_arePair_24 rfl (zb_ok h_8) ⟨by rw [hr], rfl⟩
  have J23 : fX7_arePair_J23  = some oM → PW tab RX7 cX7_arePair 2 (some .boolean) 1 20 (PoI oM sg) 23 [] [] sg := by
    intro  hs
    unfold fX7_arePair_J23 at hs
    refine pw_iconst (0 : Int32) dX7_arePair_23 (by decide) ?_
    exact PW.sub (lv' := []) [] rfl (J24 (0 : Int32) hs)
  refine pw_iload_n 0 dX7_arePair_0 rfl rfl ?_
  obtain ⟨r_2, hc_1, hs⟩ := Option.bind_eq_some_iff.mp hs
  refine pw_callSi [.int a0] (st := []) dX7_arePair_1 mRX7_101 stX0_isNet inRX0 coX0_isNet hyX0_isNet (by decide) (Nat.le_of_ble_eq_true rfl) (conX0_isNet hc_1) ?_
  refine pw_if_eq 23 dX7_arePair_4 (by decide) (fun c_7 => ?_) (fun c_7 => ?_)
  · rw [if_pos c_7] at hs
    exact PW.sub (lv' := []) [] rfl (J23  hs)
  · rw [if_neg c_7] at hs
    refine pw_iload_n 1 dX7_arePair_7 rfl rfl ?_
    obtain ⟨r_4, hc_3, hs⟩ := Option.bind_eq_some_iff.mp hs
    refine pw_callSi [.int a1] (st := []) dX7_arePair_8 mRX7_101 stX0_isNet inRX0 coX0_isNet hyX0_isNet (by decide) (Nat.le_of_ble_eq_true rfl) (conX0_isNet hc_3) ?_
    refine pw_if_eq 23 dX7_arePair_11 (by decide) (fun c_6 => ?_) (fun c_6 => ?_)
    · rw [if_pos c_6] at hs
      exact PW.sub (lv' := []) [] rfl (J23  hs)
    · rw [if_neg c_6] at hs
      refine pw_iload_n 0 dX7_arePair_14 rfl rfl ?_
      refine pw_iload_n 1 dX7_arePair_15 rfl rfl ?_
      refine pw_icmp_eq 23 dX7_arePair_16 (by decide) (fun c_5 => ?_) (fun c_5 => ?_)
      · rw [if_pos c_5] at hs
        exact PW.sub (lv' := []) [] rfl (J23  hs)
      · rw [if_neg c_5] at hs
        refine pw_iconst (1 : Int32) dX7_arePair_19 (by decide) ?_
        refine pw_goto 24 dX7_arePair_20 (by decide) ?_
        exact PW.sub (lv' := []) [] rfl (J24 (1 : Int32) hs)
set_option maxRecDepth 100000 in
set_option maxHeartbeats 400000 in
theorem conX2_turned {tab : Tb} {sg : Sg} {a0 : Int32} {oM : Int32} (h : fX2_turned a0 = some oM) : Con tab yX2_turned cX2_turned 1 (some .int) 0 0 [.int a0] sg (PoI oM sg) := by
  refine Con.of (by decide) (Nat.le_of_ble_eq_true rfl) ?_
  show PW tab RX2 cX2_turned 1 (some .int) 0 0 (PoI oM sg) 0 [(0, .int a0)] [] sg
  have hs := h
  unfold fX2_turned at hs
  have J17 : ∀ (s0 : Int32), fX2_turned_J17 s0 = some oM → PW tab RX2 cX2_turned 1 (some .int) 0 0 (PoI oM sg) 17 [] [.int s0] sg := by
    intro s0 hs
    unfold fX2_turned_J17 at hs
    have hr := Option.some.inj hs
    exact pw_ireturn dX2_turned_17 rfl ⟨by rw [hr], rfl⟩
  refine pw_iload_n 0 dX2_turned_0 rfl rfl ?_
  refine pw_iconst (1 : Int32) dX2_turned_1 (by decide) ?_
  refine pw_icmp_ne 7 dX2_turned_2 (by decide) (fun c_2 => ?_) (fun c_2 => ?_)
  · rw [if_neg c_2] at hs
    refine pw_iload_n 0 dX2_turned_7 rfl rfl ?_
    refine pw_iconst (2 : Int32) dX2_turned_8 (by decide) ?_
    refine pw_icmp_ne 16 dX2_turned_9 (by decide) (fun c_1 => ?_) (fun c_1 => ?_)
    · rw [if_neg c_1] at hs
      refine pw_iload_n 0 dX2_turned_16 rfl rfl ?_
      exact PW.sub (lv' := []) [] rfl (J17 a0 hs)
    · rw [if_pos c_1] at hs
      refine pw_iconst (1 : Int32) dX2_turned_12 (by decide) ?_
      refine pw_goto 17 dX2_turned_13 (by decide) ?_
      exact PW.sub (lv' := []) [] rfl (J17 (1 : Int32) hs)
  · rw [if_pos c_2] at hs
    refine pw_iconst (2 : Int32) dX2_turned_5 (by decide) ?_
    have hr := Option.some.inj hs
    exact pw_ireturn dX2_turned_6 rfl ⟨by rw [hr], rfl⟩
set_option maxRecDepth 100000 in
set_option maxHeartbeats 400000 in
theorem conX7_tell {sg : Sg} {a1 : Int32} {a2 : Int32} {a3 : Int32} {oM : Int32 × Sg} (h : fX7_tell a1 a2 a3 sg = some oM) : Con tbC yX7_tell cX7_tell 5 (some .int) 2 41 [.ref 0, .int a1, .int a2, .int a3] sg (PoI oM.1 oM.2) := by
  refine Con.of (by decide) (Nat.le_of_ble_eq_true rfl) ?_
  show PW tbC RX7 cX7_tell 5 (some .int) 2 41 (PoI oM.1 oM.2) 0 [(0, .ref 0), (1, .int a1), (2, .int a2), (3, .int a3)] [] sg
  have hs := h
  unfold fX7_tell at hs
  have J21 : ∀ (sg : Sg), fX7_tell_J21 sg = some oM → PW tbC RX7 cX7_tell 5 (some .int) 2 41 (PoI oM.1 oM.2) 21 [] [] sg := by
    intro sg hs
    unfold fX7_tell_J21 at hs
    refine pw_sipush (-1002 : Int32) dX7_tell_21 (by decide) ?_
    have hr := Option.some.inj hs
    exact pw_ireturn dX7_tell_24 rfl ⟨by rw [← hr], by rw [← hr]⟩
  refine pw_iload_n 1 dX7_tell_0 rfl rfl ?_
  refine pw_iload_n 2 dX7_tell_1 rfl rfl ?_
  obtain ⟨r_2, hc_1, hs⟩ := Option.bind_eq_some_iff.mp hs
  refine pw_callSi [.int a1, .int a2] (st := []) dX7_tell_2 mRX7_110 stX7_arePair inRX7 coX7_arePair hyX7_arePair (by decide) (Nat.le_of_ble_eq_true rfl) (conX7_arePair hc_1) ?_
  refine pw_if_ne 12 dX7_tell_5 (by decide) (fun c_13 => ?_) (fun c_13 => ?_)
  · rw [if_neg c_13] at hs
    refine pw_iload_n 3 dX7_tell_12 rfl rfl ?_
    refine pw_if_lt 21 dX7_tell_13 (by decide) (fun c_12 => ?_) (fun c_12 => ?_)
    · rw [if_pos c_12] at hs
      exact PW.sub (lv' := []) [] rfl (J21 sg hs)
    · rw [if_neg c_12] at hs
      refine pw_iload_n 3 dX7_tell_16 rfl rfl ?_
      refine pw_iconst (4 : Int32) dX7_tell_17 (by decide) ?_
      refine pw_icmp_le 25 dX7_tell_18 (by decide) (fun c_11 => ?_) (fun c_11 => ?_)
      · rw [if_pos c_11] at hs
        refine pw_aload_n 0 dX7_tell_25 rfl rfl ?_
        refine pw_getr 6 dX7_tell_26 clRX7 tC0 (Nat.le_of_ble_eq_true rfl) fRX7_51 rfl ?_
        refine pw_iload_n 1 dX7_tell_29 rfl rfl ?_
        refine pw_bipush (8 : Int32) dX7_tell_30 (by decide) ?_
        refine pw_imul dX7_tell_32 ?_
        refine pw_iload_n 2 dX7_tell_33 rfl rfl ?_
        refine pw_iadd dX7_tell_34 ?_
        obtain ⟨h_3, hs⟩ := gd_some hs
        refine pw_iaload dX7_tell_35 tC25 (inb_in h_3) ?_
        refine pw_topi (fun a4_4 e_a4_4 => ?_)
        replace hs := lt_use hs e_a4_4
        refine pw_istore [(4, .int a4_4), (0, .ref 0), (1, .int a1), (2, .int a2), (3, .int a3)] dX7_tell_36 (Nat.le_of_ble_eq_true rfl) rfl ?_
        refine pw_aload_n 1 dX7_tell_38 rfl rfl ?_
        refine pw_getr 6 dX7_tell_39 clRX7 tC0 (Nat.le_of_ble_eq_true rfl) fRX7_51 rfl ?_
        refine pw_iload_n 2 dX7_tell_42 rfl rfl ?_
        refine pw_bipush (8 : Int32) dX7_tell_43 (by decide) ?_
        refine pw_imul dX7_tell_45 ?_
        refine pw_iload_n 3 dX7_tell_46 rfl rfl ?_
        refine pw_iadd dX7_tell_47 ?_
        refine pw_iload_n 4 dX7_tell_48 rfl rfl ?_
        obtain ⟨h_5, hs⟩ := gd_some hs
        refine pw_iastore dX7_tell_49 tC25 (inb_in h_5) ?_
        refine pw_sg (fun sg_6 e_sg_6 => ?_)
        replace hs := lt_use hs e_sg_6
        refine pw_aload_n 1 dX7_tell_50 rfl rfl ?_
        refine pw_getr 6 dX7_tell_51 clRX7 tC0 (Nat.le_of_ble_eq_true rfl) fRX7_51 rfl ?_
        refine pw_iload_n 3 dX7_tell_54 rfl rfl ?_
        refine pw_bipush (8 : Int32) dX7_tell_55 (by decide) ?_
        refine pw_imul dX7_tell_57 ?_
        refine pw_iload_n 2 dX7_tell_58 rfl rfl ?_
        refine pw_iadd dX7_tell_59 ?_
        refine pw_iload_n 4 dX7_tell_60 rfl rfl ?_
        obtain ⟨r_8, hc_7, hs⟩ := Option.bind_eq_some_iff.mp hs
        refine pw_callSi [.int a3] (st := [.int ((a2 * (8 : Int32)) + a1), .ref 25]) dX7_tell_61 mRX7_114 stX2_turned inRX2 coX2_turned hyX2_turned (by decide) (Nat.le_of_ble_eq_true rfl) (conX2_turned hc_7) ?_
        obtain ⟨h_9, hs⟩ := gd_some hs
        refine pw_iastore dX7_tell_64 tC25 (inb_in h_9) ?_
        refine pw_sg (fun sg_10 e_sg_10 => ?_)
        replace hs := lt_use hs e_sg_10
        refine pw_iload 0 dX7_tell_65 rfl ?_
        have hr := Option.some.inj hs
        exact pw_ireturn dX7_tell_67 rfl ⟨by rw [← hr], by rw [← hr]⟩
      · rw [if_neg c_11] at hs
        exact PW.sub (lv' := []) [] rfl (J21 sg hs)
  · rw [if_pos c_13] at hs
    refine pw_sipush (-1001 : Int32) dX7_tell_8 (by decide) ?_
    have hr := Option.some.inj hs
    exact pw_ireturn dX7_tell_11 rfl ⟨by rw [← hr], by rw [← hr]⟩
set_option maxRecDepth 100000 in
set_option maxHeartbeats 400000 in
theorem conX2_cone {sg : Sg} {a1 : Int32} {oM : Int32} (h : fX2_cone a1 sg = some oM) : Con tbC yX2_cone cX2_cone 5 (some .int) 1 21 [.ref 17, .int a1] sg (PoI oM sg) := by
  refine Con.of (by decide) (Nat.le_of_ble_eq_true rfl) ?_
  show PW tbC RX2 cX2_cone 5 (some .int) 1 21 (PoI oM sg) 0 [(0, .ref 17), (1, .int a1)] [] sg
  have hs := h
  unfold fX2_cone at hs
  refine pw_iconst (1 : Int32) dX2_cone_0 (by decide) ?_
  refine pw_iload_n 1 dX2_cone_1 rfl rfl ?_
  refine pw_ishl dX2_cone_2 ?_
  refine pw_topi (fun a2_1 e_a2_1 => ?_)
  replace hs := lt_use hs e_a2_1
  refine pw_istore_n [(2, .int a2_1), (0, .ref 17), (1, .int a1)] dX2_cone_3 rfl (Nat.le_of_ble_eq_true rfl) rfl ?_
  refine pw_iconst (1 : Int32) dX2_cone_4 (by decide) ?_
  refine pw_istore_n [(3, .int (1 : Int32)), (2, .int a2_1), (0, .ref 17), (1, .int a1)] dX2_cone_5 rfl (Nat.le_of_ble_eq_true rfl) rfl ?_
  obtain ⟨t, hL, hs⟩ := Option.bind_eq_some_iff.mp hs
  refine PW.sub [2, 1, 0] (lv' := [(0, .ref 17), (2, .int a2_1), (3, .int (1 : Int32))]) rfl ?_
  refine lpS_pw (T := Int32 × Int32) (X := fun t => PW tbC RX2 cX2_cone 5 (some .int) 1 21 (PoI oM sg) 6 [(0, .ref 17), (2, .int t.1), (3, .int t.2)] [] sg) (E := fun t => PW tbC RX2 cX2_cone 5 (some .int) 1 21 (PoI oM sg) 57 [(0, .ref 17), (2, .int t.1), (3, .int t.2)] [] sg) (step := (fun t => fX2_cone_L6 sg t.1 t.2)) ?_ 300 (a2_1, (1 : Int32)) t hL ?_
  · intro t oL hs hE hC
    obtain ⟨a2, a3⟩ := t
    replace hs : fX2_cone_L6 sg a2 a3 = some oL := hs
    show PW tbC RX2 cX2_cone 5 (some .int) 1 21 (PoI oM sg) 6 [(0, .ref 17), (2, .int a2), (3, .int a3)] [] sg
    unfold fX2_cone_L6 at hs
    refine pw_iload_n 2 dX2_cone_6 rfl rfl ?_
    refine pw_bipush (8 : Int32) dX2_cone_7 (by decide) ?_
    refine pw_icmp_ge 57 dX2_cone_9 (by decide) (fun c_9 => ?_) (fun c_9 => ?_)
    · rw [if_pos c_9] at hs
      exact PW.sub (lv' := [(0, .ref 17), (2, .int a2), (3, .int a3)]) [0, 1, 2] rfl (hE (a2, a3) (Option.some.inj hs).symm)
    · rw [if_neg c_9] at hs
      refine pw_iconst (0 : Int32) dX2_cone_12 (by decide) ?_
      refine pw_istore [(4, .int (0 : Int32)), (0, .ref 17), (2, .int a2), (3, .int a3)] dX2_cone_13 (Nat.le_of_ble_eq_true rfl) rfl ?_
      obtain ⟨t, hL, hs⟩ := Option.bind_eq_some_iff.mp hs
      refine PW.sub [1, 3, 2, 0] (lv' := [(0, .ref 17), (3, .int a3), (2, .int a2), (4, .int (0 : Int32))]) rfl ?_
      refine lpS_pw (T := Int32 × Int32) (X := fun t => PW tbC RX2 cX2_cone 5 (some .int) 1 21 (PoI oM sg) 15 [(0, .ref 17), (3, .int a3), (2, .int t.1), (4, .int t.2)] [] sg) (E := fun t => PW tbC RX2 cX2_cone 5 (some .int) 1 21 (PoI oM sg) 51 [(0, .ref 17), (3, .int a3), (2, .int t.1), (4, .int t.2)] [] sg) (step := (fun t => fX2_cone_L15 a3 sg t.1 t.2)) ?_ 300 (a2, (0 : Int32)) t hL ?_
      · intro t oL hs hE hC
        obtain ⟨a2, a4⟩ := t
        replace hs : fX2_cone_L15 a3 sg a2 a4 = some oL := hs
        show PW tbC RX2 cX2_cone 5 (some .int) 1 21 (PoI oM sg) 15 [(0, .ref 17), (3, .int a3), (2, .int a2), (4, .int a4)] [] sg
        unfold fX2_cone_L15 at hs
        have J43 : ∀ (a4 : Int32) (s0 : Int32) (s1 : Int32), fX2_cone_L15_J43 a3 a4 s0 s1 sg = some oL → PW tbC RX2 cX2_cone 5 (some .int) 1 21 (PoI oM sg) 43 [(0, .ref 17), (3, .int a3), (4, .int a4)] [.int s0, .int s1] sg := by
          intro a4 s0 s1 hs
          unfold fX2_cone_L15_J43 at hs
          refine pw_ior dX2_cone_43 ?_
          refine pw_istore_n [(2, .int (s1 ||| s0)), (0, .ref 17), (3, .int a3), (4, .int a4)] dX2_cone_44 rfl (Nat.le_of_ble_eq_true rfl) rfl ?_
          refine pw_iinc 3 (a4 + 1) [(4, .int (a4 + 1)), (2, .int (s1 ||| s0)), (0, .ref 17), (3, .int a3)] dX2_cone_45 rfl rfl (Nat.le_of_ble_eq_true rfl) rfl ?_
          refine pw_goto 15 dX2_cone_48 (by decide) ?_
          exact PW.sub (lv' := [(0, .ref 17), (3, .int a3), (2, .int (s1 ||| s0)), (4, .int (a4 + 1))]) [2, 3, 1, 0] rfl (hC ((s1 ||| s0), (a4 + 1)) (Option.some.inj hs).symm)
        refine pw_iload 3 dX2_cone_15 rfl ?_
        refine pw_bipush (8 : Int32) dX2_cone_17 (by decide) ?_
        refine pw_icmp_ge 51 dX2_cone_19 (by decide) (fun c_6 => ?_) (fun c_6 => ?_)
        · rw [if_pos c_6] at hs
          exact PW.sub (lv' := [(0, .ref 17), (3, .int a3), (2, .int a2), (4, .int a4)]) [0, 1, 2, 3] rfl (hE (a2, a4) (Option.some.inj hs).symm)
        · rw [if_neg c_6] at hs
          refine pw_iload_n 2 dX2_cone_22 rfl rfl ?_
          refine pw_iload_n 2 dX2_cone_23 rfl rfl ?_
          refine pw_iload 3 dX2_cone_24 rfl ?_
          obtain ⟨r_3, hc_2, hs⟩ := Option.bind_eq_some_iff.mp hs
          refine pw_callSi [.int a2, .int a4] (st := [.int a2]) dX2_cone_26 mRX2_42 stX0_has inRX0 coX0_has hyX0_has (by decide) (Nat.le_of_ble_eq_true rfl) (conX0_has hc_2) ?_
          refine pw_if_eq 42 dX2_cone_29 (by decide) (fun c_5 => ?_) (fun c_5 => ?_)
          · rw [if_pos c_5] at hs
            refine pw_iconst (0 : Int32) dX2_cone_42 (by decide) ?_
            exact PW.sub (lv' := [(0, .ref 17), (3, .int a3), (4, .int a4)]) [0, 1, 3] rfl (J43 a4 (0 : Int32) a2 hs)
          · rw [if_neg c_5] at hs
            refine pw_aload_n 0 dX2_cone_32 rfl rfl ?_
            refine pw_getr 2 dX2_cone_33 clRX2 tC17 (Nat.le_of_ble_eq_true rfl) fRX2_18 rfl ?_
            refine pw_iload 3 dX2_cone_36 rfl ?_
            obtain ⟨h_4, hs⟩ := gd_some hs
            refine pw_iaload dX2_cone_38 tC20 (inb_in h_4) ?_
            refine pw_goto 43 dX2_cone_39 (by decide) ?_
            exact PW.sub (lv' := [(0, .ref 17), (3, .int a3), (4, .int a4)]) [0, 1, 3] rfl (J43 a4 (rd sg 20 (Int32.toNatClampNeg a4)) a2 hs)
      · skip
        obtain ⟨a2_7, a4_8⟩ := t
        replace hs : fX2_cone_L6_E51 a3 a2_7 a4_8 sg = some oL := hs
        show PW tbC RX2 cX2_cone 5 (some .int) 1 21 (PoI oM sg) 51 [(0, .ref 17), (3, .int a3), (2, .int a2_7), (4, .int a4_8)] [] sg
        unfold fX2_cone_L6_E51 at hs
        refine pw_iinc 1 (a3 + 1) [(3, .int (a3 + 1)), (0, .ref 17), (2, .int a2_7), (4, .int a4_8)] dX2_cone_51 rfl rfl (Nat.le_of_ble_eq_true rfl) rfl ?_
        refine pw_goto 6 dX2_cone_54 (by decide) ?_
        exact PW.sub (lv' := [(0, .ref 17), (2, .int a2_7), (3, .int (a3 + 1))]) [1, 2, 0] rfl (hC (a2_7, (a3 + 1)) (Option.some.inj hs).symm)
  · skip
    obtain ⟨a2_10, a3_11⟩ := t
    replace hs : fX2_cone_E57 a2_10 a3_11 sg = some oM := hs
    show PW tbC RX2 cX2_cone 5 (some .int) 1 21 (PoI oM sg) 57 [(0, .ref 17), (2, .int a2_10), (3, .int a3_11)] [] sg
    unfold fX2_cone_E57 at hs
    refine pw_iload_n 1 dX2_cone_57 rfl rfl ?_
    have hr := Option.some.inj hs
    exact pw_ireturn dX2_cone_58 rfl ⟨by rw [hr], rfl⟩
set_option maxRecDepth 100000 in
set_option maxHeartbeats 400000 in
theorem conX7_net {sg : Sg} {a1 : Int32} {a2 : Int32} {oM : Int32} (h : fX7_net a1 a2 sg = some oM) : Con tbC yX7_net cX7_net 3 (some .int) 2 45 [.ref 0, .int a1, .int a2] sg (PoI oM sg) := by
  refine Con.of (by decide) (Nat.le_of_ble_eq_true rfl) ?_
  show PW tbC RX7 cX7_net 3 (some .int) 2 45 (PoI oM sg) 0 [(0, .ref 0), (1, .int a1), (2, .int a2)] [] sg
  have hs := h
  unfold fX7_net at hs
  refine pw_iload_n 1 dX7_net_0 rfl rfl ?_
  obtain ⟨r_2, hc_1, hs⟩ := Option.bind_eq_some_iff.mp hs
  refine pw_callSi [.int a1] (st := []) dX7_net_1 mRX7_101 stX0_isNet inRX0 coX0_isNet hyX0_isNet (by decide) (Nat.le_of_ble_eq_true rfl) (conX0_isNet hc_1) ?_
  refine pw_if_ne 11 dX7_net_4 (by decide) (fun c_18 => ?_) (fun c_18 => ?_)
  · rw [if_neg c_18] at hs
    refine pw_iload_n 2 dX7_net_11 rfl rfl ?_
    by_cases c_4 : a2 = (0 : Int32)
    · rw [if_pos c_4] at hs
      refine pw_tableIn (off := 40) 52 dX7_net_12 (by rw [c_4]; decide) (by rw [c_4]; decide) (by rw [c_4]; rfl) (by decide) ?_
      refine pw_aload_n 0 dX7_net_52 rfl rfl ?_
      refine pw_getr 2 dX7_net_53 clRX7 tC0 (Nat.le_of_ble_eq_true rfl) fRX7_26 rfl ?_
      refine pw_getr 2 dX7_net_56 clRX1 tC8 (Nat.le_of_ble_eq_true rfl) fRX7_118 rfl ?_
      refine pw_iload_n 1 dX7_net_59 rfl rfl ?_
      obtain ⟨h_3, hs⟩ := gd_some hs
      refine pw_iaload dX7_net_60 tC11 (inb_in h_3) ?_
      have hr := Option.some.inj hs
      exact pw_ireturn dX7_net_61 rfl ⟨by rw [hr], rfl⟩
    · rw [if_neg c_4] at hs
      by_cases c_6 : a2 = (1 : Int32)
      · rw [if_pos c_6] at hs
        refine pw_tableIn (off := 50) 62 dX7_net_12 (by rw [c_6]; decide) (by rw [c_6]; decide) (by rw [c_6]; rfl) (by decide) ?_
        refine pw_aload_n 0 dX7_net_62 rfl rfl ?_
        refine pw_getr 2 dX7_net_63 clRX7 tC0 (Nat.le_of_ble_eq_true rfl) fRX7_26 rfl ?_
        refine pw_getr 3 dX7_net_66 clRX1 tC8 (Nat.le_of_ble_eq_true rfl) fRX7_121 rfl ?_
        refine pw_iload_n 1 dX7_net_69 rfl rfl ?_
        obtain ⟨h_5, hs⟩ := gd_some hs
        refine pw_iaload dX7_net_70 tC12 (inb_in h_5) ?_
        have hr := Option.some.inj hs
        exact pw_ireturn dX7_net_71 rfl ⟨by rw [hr], rfl⟩
      · rw [if_neg c_6] at hs
        by_cases c_8 : a2 = (2 : Int32)
        · rw [if_pos c_8] at hs
          refine pw_tableIn (off := 60) 72 dX7_net_12 (by rw [c_8]; decide) (by rw [c_8]; decide) (by rw [c_8]; rfl) (by decide) ?_
          refine pw_aload_n 0 dX7_net_72 rfl rfl ?_
          refine pw_getr 3 dX7_net_73 clRX7 tC0 (Nat.le_of_ble_eq_true rfl) fRX7_33 rfl ?_
          refine pw_getr 1 dX7_net_76 clRX3 tC14 (Nat.le_of_ble_eq_true rfl) fRX7_124 rfl ?_
          refine pw_iload_n 1 dX7_net_79 rfl rfl ?_
          obtain ⟨h_7, hs⟩ := gd_some hs
          refine pw_iaload dX7_net_80 tC16 (inb_in h_7) ?_
          have hr := Option.some.inj hs
          exact pw_ireturn dX7_net_81 rfl ⟨by rw [hr], rfl⟩
        · rw [if_neg c_8] at hs
          by_cases c_11 : a2 = (3 : Int32)
          · rw [if_pos c_11] at hs
            refine pw_tableIn (off := 70) 82 dX7_net_12 (by rw [c_11]; decide) (by rw [c_11]; decide) (by rw [c_11]; rfl) (by decide) ?_
            refine pw_aload_n 0 dX7_net_82 rfl rfl ?_
            refine pw_getr 3 dX7_net_83 clRX7 tC0 (Nat.le_of_ble_eq_true rfl) fRX7_33 rfl ?_
            refine pw_geti 3 dX7_net_86 clRX3 tC14 (Nat.le_of_ble_eq_true rfl) fRX7_127 rfl ?_
            refine pw_iload_n 1 dX7_net_89 rfl rfl ?_
            obtain ⟨r_10, hc_9, hs⟩ := Option.bind_eq_some_iff.mp hs
            refine pw_callSi [.int (rd sg 14 3), .int a1] (st := []) dX7_net_90 mRX7_106 stX0_at inRX0 coX0_at hyX0_at (by decide) (Nat.le_of_ble_eq_true rfl) (conX0_at hc_9) ?_
            have hr := Option.some.inj hs
            exact pw_ireturn dX7_net_93 rfl ⟨by rw [hr], rfl⟩
          · rw [if_neg c_11] at hs
            by_cases c_14 : a2 = (4 : Int32)
            · rw [if_pos c_14] at hs
              refine pw_tableIn (off := 82) 94 dX7_net_12 (by rw [c_14]; decide) (by rw [c_14]; decide) (by rw [c_14]; rfl) (by decide) ?_
              refine pw_aload_n 0 dX7_net_94 rfl rfl ?_
              refine pw_getr 4 dX7_net_95 clRX7 tC0 (Nat.le_of_ble_eq_true rfl) fRX7_40 rfl ?_
              refine pw_iload_n 1 dX7_net_98 rfl rfl ?_
              obtain ⟨r_13, hc_12, hs⟩ := Option.bind_eq_some_iff.mp hs
              refine pw_callVi [.int a1] (st := []) dX7_net_99 tC17 rfl mRX7_130 imX2_cone seX2_cone inRX2 coX2_cone hyX2_cone (by decide) (Nat.le_of_ble_eq_true rfl) (conX2_cone hc_12) ?_
              have hr := Option.some.inj hs
              exact pw_ireturn dX7_net_102 rfl ⟨by rw [hr], rfl⟩
            · rw [if_neg c_14] at hs
              by_cases c_17 : a2 = (5 : Int32)
              · rw [if_pos c_17] at hs
                refine pw_tableIn (off := 91) 103 dX7_net_12 (by rw [c_17]; decide) (by rw [c_17]; decide) (by rw [c_17]; rfl) (by decide) ?_
                refine pw_aload_n 0 dX7_net_103 rfl rfl ?_
                refine pw_geti 7 dX7_net_104 clRX7 tC0 (Nat.le_of_ble_eq_true rfl) fRX7_55 rfl ?_
                refine pw_iload_n 1 dX7_net_107 rfl rfl ?_
                obtain ⟨r_16, hc_15, hs⟩ := Option.bind_eq_some_iff.mp hs
                refine pw_callSi [.int (rd sg 0 7), .int a1] (st := []) dX7_net_108 mRX7_106 stX0_at inRX0 coX0_at hyX0_at (by decide) (Nat.le_of_ble_eq_true rfl) (conX0_at hc_15) ?_
                have hr := Option.some.inj hs
                exact pw_ireturn dX7_net_111 rfl ⟨by rw [hr], rfl⟩
              · rw [if_neg c_17] at hs
                refine pw_tableOut 112 dX7_net_12 (by have := lv_neT c_4 (a := 0) (by decide); have := lv_neT c_6 (a := 1) (by decide); have := lv_neT c_8 (a := 2) (by decide); have := lv_neT c_11 (a := 3) (by decide); have := lv_neT c_14 (a := 4) (by decide); have := lv_neT c_17 (a := 5) (by decide); omega) (by decide) ?_
                refine pw_sipush (-1002 : Int32) dX7_net_112 (by decide) ?_
                have hr := Option.some.inj hs
                exact pw_ireturn dX7_net_115 rfl ⟨by rw [hr], rfl⟩
  · rw [if_pos c_18] at hs
    refine pw_sipush (-1001 : Int32) dX7_net_7 (by decide) ?_
    have hr := Option.some.inj hs
    exact pw_ireturn dX7_net_10 rfl ⟨by rw [hr], rfl⟩
set_option maxRecDepth 100000 in
set_option maxHeartbeats 400000 in
theorem conX7_rank {sg : Sg} {a1 : Int32} {oM : Int32} (h : fX7_rank a1 sg = some oM) : Con tbC yX7_rank cX7_rank 2 (some .int) 0 0 [.ref 0, .int a1] sg (PoI oM sg) := by
  refine Con.of (by decide) (Nat.le_of_ble_eq_true rfl) ?_
  show PW tbC RX7 cX7_rank 2 (some .int) 0 0 (PoI oM sg) 0 [(0, .ref 0), (1, .int a1)] [] sg
  have hs := h
  unfold fX7_rank at hs
  have J28 : ∀ (s0 : Int32), fX7_rank_J28 s0 sg = some oM → PW tbC RX7 cX7_rank 2 (some .int) 0 0 (PoI oM sg) 28 [] [.int s0] sg := by
    intro s0 hs
    unfold fX7_rank_J28 at hs
    have hr := Option.some.inj hs
    exact pw_ireturn dX7_rank_28 rfl ⟨by rw [hr], rfl⟩
  have J27 : fX7_rank_J27 sg = some oM → PW tbC RX7 cX7_rank 2 (some .int) 0 0 (PoI oM sg) 27 [] [] sg := by
    intro  hs
    unfold fX7_rank_J27 at hs
    refine pw_iconst (-1 : Int32) dX7_rank_27 (by decide) ?_
    exact PW.sub (lv' := []) [] rfl (J28 (-1 : Int32) hs)
  refine pw_iload_n 1 dX7_rank_0 rfl rfl ?_
  refine pw_if_lt 27 dX7_rank_1 (by decide) (fun c_3 => ?_) (fun c_3 => ?_)
  · rw [if_pos c_3] at hs
    exact PW.sub (lv' := []) [] rfl (J27  hs)
  · rw [if_neg c_3] at hs
    refine pw_iload_n 1 dX7_rank_4 rfl rfl ?_
    refine pw_aload_n 0 dX7_rank_5 rfl rfl ?_
    refine pw_getr 3 dX7_rank_6 clRX7 tC0 (Nat.le_of_ble_eq_true rfl) fRX7_33 rfl ?_
    refine pw_geti 2 dX7_rank_9 clRX3 tC14 (Nat.le_of_ble_eq_true rfl) fRX7_133 rfl ?_
    refine pw_icmp_ge 27 dX7_rank_12 (by decide) (fun c_2 => ?_) (fun c_2 => ?_)
    · rw [if_pos c_2] at hs
      exact PW.sub (lv' := []) [] rfl (J27  hs)
    · rw [if_neg c_2] at hs
      refine pw_aload_n 0 dX7_rank_15 rfl rfl ?_
      refine pw_getr 3 dX7_rank_16 clRX7 tC0 (Nat.le_of_ble_eq_true rfl) fRX7_33 rfl ?_
      refine pw_getr 0 dX7_rank_19 clRX3 tC14 (Nat.le_of_ble_eq_true rfl) fRX7_134 rfl ?_
      refine pw_iload_n 1 dX7_rank_22 rfl rfl ?_
      obtain ⟨h_1, hs⟩ := gd_some hs
      refine pw_iaload dX7_rank_23 tC15 (inb_in h_1) ?_
      refine pw_goto 28 dX7_rank_24 (by decide) ?_
      exact PW.sub (lv' := []) [] rfl (J28 (rd sg 15 (Int32.toNatClampNeg a1)) hs)
set_option maxRecDepth 100000 in
set_option maxHeartbeats 400000 in
theorem conX7_top {sg : Sg}  {oM : Int32} (h : fX7_top  sg = some oM) : Con tbC yX7_top cX7_top 1 (some .int) 0 0 [.ref 0] sg (PoI oM sg) := by
  refine Con.of (by decide) (Nat.le_of_ble_eq_true rfl) ?_
  show PW tbC RX7 cX7_top 1 (some .int) 0 0 (PoI oM sg) 0 [(0, .ref 0)] [] sg
  have hs := h
  unfold fX7_top at hs
  refine pw_aload_n 0 dX7_top_0 rfl rfl ?_
  refine pw_getr 3 dX7_top_1 clRX7 tC0 (Nat.le_of_ble_eq_true rfl) fRX7_33 rfl ?_
  refine pw_geti 3 dX7_top_4 clRX3 tC14 (Nat.le_of_ble_eq_true rfl) fRX7_127 rfl ?_
  have hr := Option.some.inj hs
  exact pw_ireturn dX7_top_7 rfl ⟨by rw [hr], rfl⟩
set_option maxRecDepth 100000 in
set_option maxHeartbeats 400000 in
theorem conX7_link {sg : Sg} {a1 : Int32} {a2 : Int32} {a3 : Int32} {oM : Int32} (h : fX7_link a1 a2 a3 sg = some oM) : Con tbC yX7_link cX7_link 4 (some .int) 2 41 [.ref 0, .int a1, .int a2, .int a3] sg (PoI oM sg) := by
  refine Con.of (by decide) (Nat.le_of_ble_eq_true rfl) ?_
  show PW tbC RX7 cX7_link 4 (some .int) 2 41 (PoI oM sg) 0 [(0, .ref 0), (1, .int a1), (2, .int a2), (3, .int a3)] [] sg
  have hs := h
  unfold fX7_link at hs
  refine pw_iload_n 1 dX7_link_0 rfl rfl ?_
  refine pw_iload_n 2 dX7_link_1 rfl rfl ?_
  obtain ⟨r_2, hc_1, hs⟩ := Option.bind_eq_some_iff.mp hs
  refine pw_callSi [.int a1, .int a2] (st := []) dX7_link_2 mRX7_110 stX7_arePair inRX7 coX7_arePair hyX7_arePair (by decide) (Nat.le_of_ble_eq_true rfl) (conX7_arePair hc_1) ?_
  refine pw_if_ne 12 dX7_link_5 (by decide) (fun c_13 => ?_) (fun c_13 => ?_)
  · rw [if_neg c_13] at hs
    refine pw_iload_n 3 dX7_link_12 rfl rfl ?_
    by_cases c_4 : a3 = (0 : Int32)
    · rw [if_pos c_4] at hs
      refine pw_tableIn (off := 35) 48 dX7_link_13 (by rw [c_4]; decide) (by rw [c_4]; decide) (by rw [c_4]; rfl) (by decide) ?_
      refine pw_aload_n 0 dX7_link_48 rfl rfl ?_
      refine pw_getr 4 dX7_link_49 clRX7 tC0 (Nat.le_of_ble_eq_true rfl) fRX7_40 rfl ?_
      refine pw_getr 1 dX7_link_52 clRX2 tC17 (Nat.le_of_ble_eq_true rfl) fRX7_137 rfl ?_
      refine pw_iload_n 1 dX7_link_55 rfl rfl ?_
      refine pw_bipush (8 : Int32) dX7_link_56 (by decide) ?_
      refine pw_imul dX7_link_58 ?_
      refine pw_iload_n 2 dX7_link_59 rfl rfl ?_
      refine pw_iadd dX7_link_60 ?_
      obtain ⟨h_3, hs⟩ := gd_some hs
      refine pw_iaload dX7_link_61 tC19 (inb_in h_3) ?_
      have hr := Option.some.inj hs
      exact pw_ireturn dX7_link_62 rfl ⟨by rw [hr], rfl⟩
    · rw [if_neg c_4] at hs
      by_cases c_6 : a3 = (1 : Int32)
      · rw [if_pos c_6] at hs
        refine pw_tableIn (off := 50) 63 dX7_link_13 (by rw [c_6]; decide) (by rw [c_6]; decide) (by rw [c_6]; rfl) (by decide) ?_
        refine pw_aload_n 0 dX7_link_63 rfl rfl ?_
        refine pw_getr 4 dX7_link_64 clRX7 tC0 (Nat.le_of_ble_eq_true rfl) fRX7_40 rfl ?_
        refine pw_getr 0 dX7_link_67 clRX2 tC17 (Nat.le_of_ble_eq_true rfl) fRX7_140 rfl ?_
        refine pw_iload_n 1 dX7_link_70 rfl rfl ?_
        refine pw_bipush (8 : Int32) dX7_link_71 (by decide) ?_
        refine pw_imul dX7_link_73 ?_
        refine pw_iload_n 2 dX7_link_74 rfl rfl ?_
        refine pw_iadd dX7_link_75 ?_
        obtain ⟨h_5, hs⟩ := gd_some hs
        refine pw_iaload dX7_link_76 tC18 (inb_in h_5) ?_
        have hr := Option.some.inj hs
        exact pw_ireturn dX7_link_77 rfl ⟨by rw [hr], rfl⟩
      · rw [if_neg c_6] at hs
        by_cases c_8 : a3 = (2 : Int32)
        · rw [if_pos c_8] at hs
          refine pw_tableIn (off := 65) 78 dX7_link_13 (by rw [c_8]; decide) (by rw [c_8]; decide) (by rw [c_8]; rfl) (by decide) ?_
          refine pw_aload_n 0 dX7_link_78 rfl rfl ?_
          refine pw_getr 4 dX7_link_79 clRX7 tC0 (Nat.le_of_ble_eq_true rfl) fRX7_40 rfl ?_
          refine pw_getr 0 dX7_link_82 clRX2 tC17 (Nat.le_of_ble_eq_true rfl) fRX7_140 rfl ?_
          refine pw_iload_n 2 dX7_link_85 rfl rfl ?_
          refine pw_bipush (8 : Int32) dX7_link_86 (by decide) ?_
          refine pw_imul dX7_link_88 ?_
          refine pw_iload_n 1 dX7_link_89 rfl rfl ?_
          refine pw_iadd dX7_link_90 ?_
          obtain ⟨h_7, hs⟩ := gd_some hs
          refine pw_iaload dX7_link_91 tC18 (inb_in h_7) ?_
          have hr := Option.some.inj hs
          exact pw_ireturn dX7_link_92 rfl ⟨by rw [hr], rfl⟩
        · rw [if_neg c_8] at hs
          by_cases c_10 : a3 = (3 : Int32)
          · rw [if_pos c_10] at hs
            refine pw_tableIn (off := 80) 93 dX7_link_13 (by rw [c_10]; decide) (by rw [c_10]; decide) (by rw [c_10]; rfl) (by decide) ?_
            refine pw_aload_n 0 dX7_link_93 rfl rfl ?_
            refine pw_getr 2 dX7_link_94 clRX7 tC0 (Nat.le_of_ble_eq_true rfl) fRX7_26 rfl ?_
            refine pw_getr 4 dX7_link_97 clRX1 tC8 (Nat.le_of_ble_eq_true rfl) fRX7_143 rfl ?_
            refine pw_iload_n 1 dX7_link_100 rfl rfl ?_
            refine pw_bipush (8 : Int32) dX7_link_101 (by decide) ?_
            refine pw_imul dX7_link_103 ?_
            refine pw_iload_n 2 dX7_link_104 rfl rfl ?_
            refine pw_iadd dX7_link_105 ?_
            obtain ⟨h_9, hs⟩ := gd_some hs
            refine pw_iaload dX7_link_106 tC13 (inb_in h_9) ?_
            have hr := Option.some.inj hs
            exact pw_ireturn dX7_link_107 rfl ⟨by rw [hr], rfl⟩
          · rw [if_neg c_10] at hs
            by_cases c_12 : a3 = (4 : Int32)
            · rw [if_pos c_12] at hs
              refine pw_tableIn (off := 95) 108 dX7_link_13 (by rw [c_12]; decide) (by rw [c_12]; decide) (by rw [c_12]; rfl) (by decide) ?_
              refine pw_aload_n 0 dX7_link_108 rfl rfl ?_
              refine pw_getr 6 dX7_link_109 clRX7 tC0 (Nat.le_of_ble_eq_true rfl) fRX7_51 rfl ?_
              refine pw_iload_n 1 dX7_link_112 rfl rfl ?_
              refine pw_bipush (8 : Int32) dX7_link_113 (by decide) ?_
              refine pw_imul dX7_link_115 ?_
              refine pw_iload_n 2 dX7_link_116 rfl rfl ?_
              refine pw_iadd dX7_link_117 ?_
              obtain ⟨h_11, hs⟩ := gd_some hs
              refine pw_iaload dX7_link_118 tC25 (inb_in h_11) ?_
              have hr := Option.some.inj hs
              exact pw_ireturn dX7_link_119 rfl ⟨by rw [hr], rfl⟩
            · rw [if_neg c_12] at hs
              refine pw_tableOut 120 dX7_link_13 (by have := lv_neT c_4 (a := 0) (by decide); have := lv_neT c_6 (a := 1) (by decide); have := lv_neT c_8 (a := 2) (by decide); have := lv_neT c_10 (a := 3) (by decide); have := lv_neT c_12 (a := 4) (by decide); omega) (by decide) ?_
              refine pw_sipush (-1002 : Int32) dX7_link_120 (by decide) ?_
              have hr := Option.some.inj hs
              exact pw_ireturn dX7_link_123 rfl ⟨by rw [hr], rfl⟩
  · rw [if_pos c_13] at hs
    refine pw_sipush (-1001 : Int32) dX7_link_8 (by decide) ?_
    have hr := Option.some.inj hs
    exact pw_ireturn dX7_link_11 rfl ⟨by rw [hr], rfl⟩
set_option maxRecDepth 100000 in
set_option maxHeartbeats 400000 in
theorem conX2_lesserVotes {sg : Sg} {a1 : Int32} {a2 : Int32} {oM : Int32} (h : fX2_lesserVotes a1 a2 sg = some oM) : Con tbC yX2_lesserVotes cX2_lesserVotes 3 (some .int) 1 21 [.ref 17, .int a1, .int a2] sg (PoI oM sg) := by
  refine Con.of (by decide) (Nat.le_of_ble_eq_true rfl) ?_
  show PW tbC RX2 cX2_lesserVotes 3 (some .int) 1 21 (PoI oM sg) 0 [(0, .ref 17), (1, .int a1), (2, .int a2)] [] sg
  have hs := h
  unfold fX2_lesserVotes at hs
  refine pw_aload_n 0 dX2_lesserVotes_0 rfl rfl ?_
  refine pw_getr 0 dX2_lesserVotes_1 clRX2 tC17 (Nat.le_of_ble_eq_true rfl) fRX2_9 rfl ?_
  refine pw_iload_n 1 dX2_lesserVotes_4 rfl rfl ?_
  refine pw_bipush (8 : Int32) dX2_lesserVotes_5 (by decide) ?_
  refine pw_imul dX2_lesserVotes_7 ?_
  refine pw_iload_n 2 dX2_lesserVotes_8 rfl rfl ?_
  refine pw_iadd dX2_lesserVotes_9 ?_
  obtain ⟨h_1, hs⟩ := gd_some hs
  refine pw_iaload dX2_lesserVotes_10 tC18 (inb_in h_1) ?_
  refine pw_aload_n 0 dX2_lesserVotes_11 rfl rfl ?_
  refine pw_getr 0 dX2_lesserVotes_12 clRX2 tC17 (Nat.le_of_ble_eq_true rfl) fRX2_9 rfl ?_
  refine pw_iload_n 2 dX2_lesserVotes_15 rfl rfl ?_
  refine pw_bipush (8 : Int32) dX2_lesserVotes_16 (by decide) ?_
  refine pw_imul dX2_lesserVotes_18 ?_
  refine pw_iload_n 1 dX2_lesserVotes_19 rfl rfl ?_
  refine pw_iadd dX2_lesserVotes_20 ?_
  obtain ⟨h_2, hs⟩ := gd_some hs
  refine pw_iaload dX2_lesserVotes_21 tC18 (inb_in h_2) ?_
  refine pw_mmin dX2_lesserVotes_22 mRX2_68 stJ9_min_7cf53 inRJ9 coJ9_min_7cf53 (Nat.le_of_ble_eq_true rfl) (Nat.le_of_ble_eq_true rfl) ?_
  have hr := Option.some.inj hs
  exact pw_ireturn dX2_lesserVotes_25 rfl ⟨by rw [hr], rfl⟩
set_option maxRecDepth 100000 in
set_option maxHeartbeats 400000 in
theorem conX2_contradictedAt {sg : Sg} {a1 : Int32} {oM : Int32} (h : fX2_contradictedAt a1 sg = some oM) : Con tbC yX2_contradictedAt cX2_contradictedAt 6 (some .int) 2 43 [.ref 17, .int a1] sg (PoI oM sg) := by
  refine Con.of (by decide) (Nat.le_of_ble_eq_true rfl) ?_
  show PW tbC RX2 cX2_contradictedAt 6 (some .int) 2 43 (PoI oM sg) 0 [(0, .ref 17), (1, .int a1)] [] sg
  have hs := h
  unfold fX2_contradictedAt at hs
  refine pw_iconst (0 : Int32) dX2_contradictedAt_0 (by decide) ?_
  refine pw_istore_n [(2, .int (0 : Int32)), (0, .ref 17), (1, .int a1)] dX2_contradictedAt_1 rfl (Nat.le_of_ble_eq_true rfl) rfl ?_
  refine pw_bipush (12 : Int32) dX2_contradictedAt_2 (by decide) ?_
  refine pw_istore_n [(3, .int (12 : Int32)), (2, .int (0 : Int32)), (0, .ref 17), (1, .int a1)] dX2_contradictedAt_4 rfl (Nat.le_of_ble_eq_true rfl) rfl ?_
  obtain ⟨u, hL, hs⟩ := Option.bind_eq_some_iff.mp hs
  refine PW.sub [2, 3, 1, 0] (lv' := [(0, .ref 17), (1, .int a1), (2, .int (0 : Int32)), (3, .int (12 : Int32))]) rfl ?_
  refine lpO_pw (T := Int32 × Int32) (X := fun t => PW tbC RX2 cX2_contradictedAt 6 (some .int) 2 43 (PoI oM sg) 5 [(0, .ref 17), (1, .int a1), (2, .int t.1), (3, .int t.2)] [] sg) (E := fun t => PW tbC RX2 cX2_contradictedAt 6 (some .int) 2 43 (PoI oM sg) 82 [(0, .ref 17), (1, .int a1), (2, .int t.1), (3, .int t.2)] [] sg) (PR := fun r => r = oM) (step := (fun t => fX2_contradictedAt_L5 a1 sg t.1 t.2)) ?_ 300 ((0 : Int32), (12 : Int32)) u hL ?_ ?_
  · intro t oL hs hE hR hC
    obtain ⟨a2, a3⟩ := t
    replace hs : fX2_contradictedAt_L5 a1 sg a2 a3 = some oL := hs
    show PW tbC RX2 cX2_contradictedAt 6 (some .int) 2 43 (PoI oM sg) 5 [(0, .ref 17), (1, .int a1), (2, .int a2), (3, .int a3)] [] sg
    unfold fX2_contradictedAt_L5 at hs
    refine pw_iload_n 3 dX2_contradictedAt_5 rfl rfl ?_
    refine pw_if_le 82 dX2_contradictedAt_6 (by decide) (fun c_11 => ?_) (fun c_11 => ?_)
    · rw [if_pos c_11] at hs
      exact PW.sub (lv' := [(0, .ref 17), (1, .int a1), (2, .int a2), (3, .int a3)]) [0, 1, 2, 3] rfl (hE (a2, a3) (Option.some.inj hs).symm)
    · rw [if_neg c_11] at hs
      refine pw_iconst (0 : Int32) dX2_contradictedAt_9 (by decide) ?_
      refine pw_istore [(4, .int (0 : Int32)), (0, .ref 17), (1, .int a1), (2, .int a2), (3, .int a3)] dX2_contradictedAt_10 (Nat.le_of_ble_eq_true rfl) rfl ?_
      obtain ⟨u, hL, hs⟩ := Option.bind_eq_some_iff.mp hs
      refine PW.sub [1, 2, 4, 3, 0] (lv' := [(0, .ref 17), (1, .int a1), (3, .int a3), (2, .int a2), (4, .int (0 : Int32))]) rfl ?_
      refine lpO_pw (T := Int32 × Int32) (X := fun t => PW tbC RX2 cX2_contradictedAt 6 (some .int) 2 43 (PoI oM sg) 12 [(0, .ref 17), (1, .int a1), (3, .int a3), (2, .int t.1), (4, .int t.2)] [] sg) (E := fun t => PW tbC RX2 cX2_contradictedAt 6 (some .int) 2 43 (PoI oM sg) 76 [(0, .ref 17), (1, .int a1), (3, .int a3), (2, .int t.1), (4, .int t.2)] [] sg) (PR := fun r => r = oM) (step := (fun t => fX2_contradictedAt_L12 a1 a3 sg t.1 t.2)) ?_ 300 (a2, (0 : Int32)) u hL ?_ ?_
      · intro t oL hs hE hR hC
        obtain ⟨a2, a4⟩ := t
        replace hs : fX2_contradictedAt_L12 a1 a3 sg a2 a4 = some oL := hs
        show PW tbC RX2 cX2_contradictedAt 6 (some .int) 2 43 (PoI oM sg) 12 [(0, .ref 17), (1, .int a1), (3, .int a3), (2, .int a2), (4, .int a4)] [] sg
        unfold fX2_contradictedAt_L12 at hs
        refine pw_iload 4 dX2_contradictedAt_12 rfl ?_
        refine pw_bipush (8 : Int32) dX2_contradictedAt_14 (by decide) ?_
        refine pw_icmp_ge 76 dX2_contradictedAt_16 (by decide) (fun c_8 => ?_) (fun c_8 => ?_)
        · rw [if_pos c_8] at hs
          exact PW.sub (lv' := [(0, .ref 17), (1, .int a1), (3, .int a3), (2, .int a2), (4, .int a4)]) [0, 1, 2, 3, 4] rfl (hE (a2, a4) (Option.some.inj hs).symm)
        · rw [if_neg c_8] at hs
          refine pw_iload 4 dX2_contradictedAt_19 rfl ?_
          refine pw_iconst (1 : Int32) dX2_contradictedAt_21 (by decide) ?_
          refine pw_iadd dX2_contradictedAt_22 ?_
          refine pw_istore [(5, .int (a4 + (1 : Int32))), (0, .ref 17), (1, .int a1), (3, .int a3), (2, .int a2), (4, .int a4)] dX2_contradictedAt_23 (Nat.le_of_ble_eq_true rfl) rfl ?_
          obtain ⟨u, hL, hs⟩ := Option.bind_eq_some_iff.mp hs
          refine PW.sub [1, 2, 3, 5, 4, 0] (lv' := [(0, .ref 17), (1, .int a1), (3, .int a3), (4, .int a4), (2, .int a2), (5, .int (a4 + (1 : Int32)))]) rfl ?_
          refine lpO_pw (T := Int32 × Int32) (X := fun t => PW tbC RX2 cX2_contradictedAt 6 (some .int) 2 43 (PoI oM sg) 25 [(0, .ref 17), (1, .int a1), (3, .int a3), (4, .int a4), (2, .int t.1), (5, .int t.2)] [] sg) (E := fun t => PW tbC RX2 cX2_contradictedAt 6 (some .int) 2 43 (PoI oM sg) 70 [(0, .ref 17), (1, .int a1), (3, .int a3), (4, .int a4), (2, .int t.1), (5, .int t.2)] [] sg) (PR := fun r => r = oM) (step := (fun t => fX2_contradictedAt_L25 a1 a3 a4 sg t.1 t.2)) ?_ 300 (a2, (a4 + (1 : Int32))) u hL ?_ ?_
          · intro t oL hs hE hR hC
            obtain ⟨a2, a5⟩ := t
            replace hs : fX2_contradictedAt_L25 a1 a3 a4 sg a2 a5 = some oL := hs
            show PW tbC RX2 cX2_contradictedAt 6 (some .int) 2 43 (PoI oM sg) 25 [(0, .ref 17), (1, .int a1), (3, .int a3), (4, .int a4), (2, .int a2), (5, .int a5)] [] sg
            unfold fX2_contradictedAt_L25 at hs
            have J64 : ∀ (a2 : Int32) (a5 : Int32), fX2_contradictedAt_L25_J64 a1 a2 a3 a4 a5 sg = some oL → PW tbC RX2 cX2_contradictedAt 6 (some .int) 2 43 (PoI oM sg) 64 [(0, .ref 17), (1, .int a1), (2, .int a2), (3, .int a3), (4, .int a4), (5, .int a5)] [] sg := by
              intro a2 a5 hs
              unfold fX2_contradictedAt_L25_J64 at hs
              refine pw_iinc 5 (a5 + 1) [(5, .int (a5 + 1)), (0, .ref 17), (1, .int a1), (2, .int a2), (3, .int a3), (4, .int a4)] dX2_contradictedAt_64 rfl rfl (Nat.le_of_ble_eq_true rfl) rfl ?_
              refine pw_goto 25 dX2_contradictedAt_67 (by decide) ?_
              exact PW.sub (lv' := [(0, .ref 17), (1, .int a1), (3, .int a3), (4, .int a4), (2, .int a2), (5, .int (a5 + 1))]) [1, 2, 4, 5, 3, 0] rfl (hC (a2, (a5 + 1)) (Option.some.inj hs).symm)
            refine pw_iload 5 dX2_contradictedAt_25 rfl ?_
            refine pw_bipush (8 : Int32) dX2_contradictedAt_27 (by decide) ?_
            refine pw_icmp_ge 70 dX2_contradictedAt_29 (by decide) (fun c_5 => ?_) (fun c_5 => ?_)
            · rw [if_pos c_5] at hs
              exact PW.sub (lv' := [(0, .ref 17), (1, .int a1), (3, .int a3), (4, .int a4), (2, .int a2), (5, .int a5)]) [0, 1, 2, 3, 4, 5] rfl (hE (a2, a5) (Option.some.inj hs).symm)
            · rw [if_neg c_5] at hs
              refine pw_aload_n 0 dX2_contradictedAt_32 rfl rfl ?_
              refine pw_iload 3 dX2_contradictedAt_33 rfl ?_
              refine pw_iload 5 dX2_contradictedAt_35 rfl ?_
              obtain ⟨r_2, hc_1, hs⟩ := Option.bind_eq_some_iff.mp hs
              refine pw_callVi [.int a4, .int a5] (st := []) dX2_contradictedAt_37 tC17 rfl mRX2_65 imX2_lesserVotes seX2_lesserVotes inRX2 coX2_lesserVotes hyX2_lesserVotes (by decide) (Nat.le_of_ble_eq_true rfl) (conX2_lesserVotes hc_1) ?_
              refine pw_iload_n 2 dX2_contradictedAt_40 rfl rfl ?_
              refine pw_icmp_eq 47 dX2_contradictedAt_41 (by decide) (fun c_4 => ?_) (fun c_4 => ?_)
              · rw [if_pos c_4] at hs
                refine pw_iload_n 4 dX2_contradictedAt_47 rfl rfl ?_
                refine pw_iload_n 1 dX2_contradictedAt_48 rfl rfl ?_
                refine pw_icmp_ne 61 dX2_contradictedAt_49 (by decide) (fun c_3 => ?_) (fun c_3 => ?_)
                · rw [if_neg c_3] at hs
                  refine pw_iinc 4 (a2 + 1) [(2, .int (a2 + 1)), (0, .ref 17), (1, .int a1), (3, .int a3), (4, .int a4), (5, .int a5)] dX2_contradictedAt_61 rfl rfl (Nat.le_of_ble_eq_true rfl) rfl ?_
                  exact PW.sub (lv' := [(0, .ref 17), (1, .int a1), (2, .int (a2 + 1)), (3, .int a3), (4, .int a4), (5, .int a5)]) [1, 2, 0, 3, 4, 5] rfl (J64 (a2 + 1) a5 hs)
                · rw [if_pos c_3] at hs
                  refine pw_iload 3 dX2_contradictedAt_52 rfl ?_
                  refine pw_bipush (8 : Int32) dX2_contradictedAt_54 (by decide) ?_
                  refine pw_imul dX2_contradictedAt_56 ?_
                  refine pw_iload 5 dX2_contradictedAt_57 rfl ?_
                  refine pw_iadd dX2_contradictedAt_59 ?_
                  have hr := hR _ (Option.some.inj hs).symm
                  exact pw_ireturn dX2_contradictedAt_60 rfl ⟨by rw [hr], rfl⟩
              · rw [if_neg c_4] at hs
                refine pw_goto 64 dX2_contradictedAt_44 (by decide) ?_
                exact PW.sub (lv' := [(0, .ref 17), (1, .int a1), (2, .int a2), (3, .int a3), (4, .int a4), (5, .int a5)]) [0, 1, 4, 2, 3, 5] rfl (J64 a2 a5 hs)
          · intro t hu
            subst hu
            obtain ⟨a2_6, a5_7⟩ := t
            replace hs : fX2_contradictedAt_L12_E70 a1 a3 a4 a2_6 a5_7 sg = some oL := hs
            show PW tbC RX2 cX2_contradictedAt 6 (some .int) 2 43 (PoI oM sg) 70 [(0, .ref 17), (1, .int a1), (3, .int a3), (4, .int a4), (2, .int a2_6), (5, .int a5_7)] [] sg
            unfold fX2_contradictedAt_L12_E70 at hs
            refine pw_iinc 3 (a4 + 1) [(4, .int (a4 + 1)), (0, .ref 17), (1, .int a1), (3, .int a3), (2, .int a2_6), (5, .int a5_7)] dX2_contradictedAt_70 rfl rfl (Nat.le_of_ble_eq_true rfl) rfl ?_
            refine pw_goto 12 dX2_contradictedAt_73 (by decide) ?_
            exact PW.sub (lv' := [(0, .ref 17), (1, .int a1), (3, .int a3), (2, .int a2_6), (4, .int (a4 + 1))]) [1, 2, 3, 4, 0] rfl (hC (a2_6, (a4 + 1)) (Option.some.inj hs).symm)
          · intro r hu
            subst hu
            exact hR _ (Option.some.inj hs).symm
      · intro t hu
        subst hu
        obtain ⟨a2_9, a4_10⟩ := t
        replace hs : fX2_contradictedAt_L5_E76 a1 a3 a2_9 a4_10 sg = some oL := hs
        show PW tbC RX2 cX2_contradictedAt 6 (some .int) 2 43 (PoI oM sg) 76 [(0, .ref 17), (1, .int a1), (3, .int a3), (2, .int a2_9), (4, .int a4_10)] [] sg
        unfold fX2_contradictedAt_L5_E76 at hs
        refine pw_iinc 2 (a3 + -1) [(3, .int (a3 + -1)), (0, .ref 17), (1, .int a1), (2, .int a2_9), (4, .int a4_10)] dX2_contradictedAt_76 rfl rfl (Nat.le_of_ble_eq_true rfl) rfl ?_
        refine pw_goto 5 dX2_contradictedAt_79 (by decide) ?_
        exact PW.sub (lv' := [(0, .ref 17), (1, .int a1), (2, .int a2_9), (3, .int (a3 + -1))]) [1, 2, 3, 0] rfl (hC (a2_9, (a3 + -1)) (Option.some.inj hs).symm)
      · intro r hu
        subst hu
        exact hR _ (Option.some.inj hs).symm
  · intro t hu
    subst hu
    obtain ⟨a2_12, a3_13⟩ := t
    replace hs : fX2_contradictedAt_E82 a1 a2_12 a3_13 sg = some oM := hs
    show PW tbC RX2 cX2_contradictedAt 6 (some .int) 2 43 (PoI oM sg) 82 [(0, .ref 17), (1, .int a1), (2, .int a2_12), (3, .int a3_13)] [] sg
    unfold fX2_contradictedAt_E82 at hs
    refine pw_iconst (-1 : Int32) dX2_contradictedAt_82 (by decide) ?_
    have hr := Option.some.inj hs
    exact pw_ireturn dX2_contradictedAt_83 rfl ⟨by rw [hr], rfl⟩
  · intro r hu
    subst hu
    exact Option.some.inj hs
set_option maxRecDepth 100000 in
set_option maxHeartbeats 400000 in
theorem conX7_contradicted {sg : Sg} {a1 : Int32} {oM : Int32} (h : fX7_contradicted a1 sg = some oM) : Con tbC yX7_contradicted cX7_contradicted 2 (some .int) 3 68 [.ref 0, .int a1] sg (PoI oM sg) := by
  refine Con.of (by decide) (Nat.le_of_ble_eq_true rfl) ?_
  show PW tbC RX7 cX7_contradicted 2 (some .int) 3 68 (PoI oM sg) 0 [(0, .ref 0), (1, .int a1)] [] sg
  have hs := h
  unfold fX7_contradicted at hs
  have J16 : ∀ (s0 : Int32), fX7_contradicted_J16 s0 sg = some oM → PW tbC RX7 cX7_contradicted 2 (some .int) 3 68 (PoI oM sg) 16 [] [.int s0] sg := by
    intro s0 hs
    unfold fX7_contradicted_J16 at hs
    have hr := Option.some.inj hs
    exact pw_ireturn dX7_contradicted_16 rfl ⟨by rw [hr], rfl⟩
  refine pw_iload_n 1 dX7_contradicted_0 rfl rfl ?_
  refine pw_if_ge 8 dX7_contradicted_1 (by decide) (fun c_3 => ?_) (fun c_3 => ?_)
  · rw [if_pos c_3] at hs
    refine pw_aload_n 0 dX7_contradicted_8 rfl rfl ?_
    refine pw_getr 4 dX7_contradicted_9 clRX7 tC0 (Nat.le_of_ble_eq_true rfl) fRX7_40 rfl ?_
    refine pw_iload_n 1 dX7_contradicted_12 rfl rfl ?_
    obtain ⟨r_2, hc_1, hs⟩ := Option.bind_eq_some_iff.mp hs
    refine pw_callVi [.int a1] (st := []) dX7_contradicted_13 tC17 rfl mRX7_146 imX2_contradictedAt seX2_contradictedAt inRX2 coX2_contradictedAt hyX2_contradictedAt (by decide) (Nat.le_of_ble_eq_true rfl) (conX2_contradictedAt hc_1) ?_
    exact PW.sub (lv' := []) [] rfl (J16 r_2 hs)
  · rw [if_neg c_3] at hs
    refine pw_iconst (-1 : Int32) dX7_contradicted_4 (by decide) ?_
    refine pw_goto 16 dX7_contradicted_5 (by decide) ?_
    exact PW.sub (lv' := []) [] rfl (J16 (-1 : Int32) hs)
set_option maxRecDepth 100000 in
set_option maxHeartbeats 400000 in
theorem conX2_firstValley_6 {sg : Sg} {a2 : Int32} {a3 : Int32} {oM : Int32} (h : fX2_firstValley_6 a2 a3 sg = some oM) : Con tbC yX2_firstValley cX2_firstValley 7 (some .int) 1 21 [.ref 17, .ref 6, .int a2, .int a3] sg (PoI oM sg) := by
  refine Con.of (by decide) (Nat.le_of_ble_eq_true rfl) ?_
  show PW tbC RX2 cX2_firstValley 7 (some .int) 1 21 (PoI oM sg) 0 [(0, .ref 17), (1, .ref 6), (2, .int a2), (3, .int a3)] [] sg
  have hs := h
  unfold fX2_firstValley_6 at hs
  refine pw_iconst (0 : Int32) dX2_firstValley_0 (by decide) ?_
  refine pw_istore [(4, .int (0 : Int32)), (0, .ref 17), (1, .ref 6), (2, .int a2), (3, .int a3)] dX2_firstValley_1 (Nat.le_of_ble_eq_true rfl) rfl ?_
  refine pw_iconst (0 : Int32) dX2_firstValley_3 (by decide) ?_
  refine pw_istore [(5, .int (0 : Int32)), (4, .int (0 : Int32)), (0, .ref 17), (1, .ref 6), (2, .int a2), (3, .int a3)] dX2_firstValley_4 (Nat.le_of_ble_eq_true rfl) rfl ?_
  obtain ⟨u, hL, hs⟩ := Option.bind_eq_some_iff.mp hs
  refine PW.sub [2, 3, 4, 5, 1, 0] (lv' := [(0, .ref 17), (1, .ref 6), (2, .int a2), (3, .int a3), (4, .int (0 : Int32)), (5, .int (0 : Int32))]) rfl ?_
  refine lpO_pw (T := Int32 × Int32) (X := fun t => PW tbC RX2 cX2_firstValley 7 (some .int) 1 21 (PoI oM sg) 6 [(0, .ref 17), (1, .ref 6), (2, .int a2), (3, .int a3), (4, .int t.1), (5, .int t.2)] [] sg) (E := fun t => PW tbC RX2 cX2_firstValley 7 (some .int) 1 21 (PoI oM sg) 63 [(0, .ref 17), (1, .ref 6), (2, .int a2), (3, .int a3), (4, .int t.1), (5, .int t.2)] [] sg) (PR := fun r => r = oM) (step := (fun t => fX2_firstValley_6_L6 a2 a3 sg t.1 t.2)) ?_ 300 ((0 : Int32), (0 : Int32)) u hL ?_ ?_
  · intro t oL hs hE hR hC
    obtain ⟨a4, a5⟩ := t
    replace hs : fX2_firstValley_6_L6 a2 a3 sg a4 a5 = some oL := hs
    show PW tbC RX2 cX2_firstValley 7 (some .int) 1 21 (PoI oM sg) 6 [(0, .ref 17), (1, .ref 6), (2, .int a2), (3, .int a3), (4, .int a4), (5, .int a5)] [] sg
    unfold fX2_firstValley_6_L6 at hs
    refine pw_iload 5 dX2_firstValley_6 rfl ?_
    refine pw_iconst (1 : Int32) dX2_firstValley_8 (by decide) ?_
    refine pw_iadd dX2_firstValley_9 ?_
    refine pw_iload_n 3 dX2_firstValley_10 rfl rfl ?_
    refine pw_icmp_ge 63 dX2_firstValley_11 (by decide) (fun c_8 => ?_) (fun c_8 => ?_)
    · rw [if_pos c_8] at hs
      exact PW.sub (lv' := [(0, .ref 17), (1, .ref 6), (2, .int a2), (3, .int a3), (4, .int a4), (5, .int a5)]) [0, 1, 2, 3, 4, 5] rfl (hE (a4, a5) (Option.some.inj hs).symm)
    · rw [if_neg c_8] at hs
      refine pw_aload_n 1 dX2_firstValley_14 rfl rfl ?_
      refine pw_iload_n 2 dX2_firstValley_15 rfl rfl ?_
      refine pw_iload 5 dX2_firstValley_16 rfl ?_
      refine pw_iadd dX2_firstValley_18 ?_
      obtain ⟨h_1, hs⟩ := gd_some hs
      refine pw_iaload dX2_firstValley_19 tC6 (inb_in h_1) ?_
      refine pw_bipush (8 : Int32) dX2_firstValley_20 (by decide) ?_
      refine pw_imul dX2_firstValley_22 ?_
      refine pw_aload_n 1 dX2_firstValley_23 rfl rfl ?_
      refine pw_iload_n 2 dX2_firstValley_24 rfl rfl ?_
      refine pw_iload 5 dX2_firstValley_25 rfl ?_
      refine pw_iadd dX2_firstValley_27 ?_
      refine pw_iconst (1 : Int32) dX2_firstValley_28 (by decide) ?_
      refine pw_iadd dX2_firstValley_29 ?_
      obtain ⟨h_2, hs⟩ := gd_some hs
      refine pw_iaload dX2_firstValley_30 tC6 (inb_in h_2) ?_
      refine pw_iadd dX2_firstValley_31 ?_
      refine pw_topi (fun a6_3 e_a6_3 => ?_)
      replace hs := lt_use hs e_a6_3
      refine pw_istore [(6, .int a6_3), (0, .ref 17), (1, .ref 6), (2, .int a2), (3, .int a3), (4, .int a4), (5, .int a5)] dX2_firstValley_32 (Nat.le_of_ble_eq_true rfl) rfl ?_
      refine pw_iload 5 dX2_firstValley_34 rfl ?_
      refine pw_aload_n 1 dX2_firstValley_36 rfl rfl ?_
      refine pw_getr 1 dX2_firstValley_37 clRX2 tC17 (Nat.le_of_ble_eq_true rfl) fRX2_15 rfl ?_
      refine pw_iload 0 dX2_firstValley_40 rfl ?_
      obtain ⟨h_4, hs⟩ := gd_some hs
      refine pw_iaload dX2_firstValley_42 tC19 (inb_in h_4) ?_
      obtain ⟨r_6, hc_5, hs⟩ := Option.bind_eq_some_iff.mp hs
      refine pw_callSi [.int a4, .int (rd sg 19 (Int32.toNatClampNeg a6_3))] (st := []) dX2_firstValley_43 mRX2_61 stX2_after inRX2 coX2_after hyX2_after (by decide) (Nat.le_of_ble_eq_true rfl) (conX2_after hc_5) ?_
      refine pw_istore [(4, .int r_6), (6, .int a6_3), (0, .ref 17), (1, .ref 6), (2, .int a2), (3, .int a3), (5, .int a5)] dX2_firstValley_46 (Nat.le_of_ble_eq_true rfl) rfl ?_
      refine pw_iload 0 dX2_firstValley_48 rfl ?_
      refine pw_iconst (-1 : Int32) dX2_firstValley_50 (by decide) ?_
      refine pw_icmp_ne 57 dX2_firstValley_51 (by decide) (fun c_7 => ?_) (fun c_7 => ?_)
      · rw [if_neg c_7] at hs
        refine pw_iinc 6 (a5 + 1) [(5, .int (a5 + 1)), (4, .int r_6), (6, .int a6_3), (0, .ref 17), (1, .ref 6), (2, .int a2), (3, .int a3)] dX2_firstValley_57 rfl rfl (Nat.le_of_ble_eq_true rfl) rfl ?_
        refine pw_goto 6 dX2_firstValley_60 (by decide) ?_
        exact PW.sub (lv' := [(0, .ref 17), (1, .ref 6), (2, .int a2), (3, .int a3), (4, .int r_6), (5, .int (a5 + 1))]) [3, 4, 5, 6, 1, 0] rfl (hC (r_6, (a5 + 1)) (Option.some.inj hs).symm)
      · rw [if_pos c_7] at hs
        refine pw_iload 6 dX2_firstValley_54 rfl ?_
        have hr := hR _ (Option.some.inj hs).symm
        exact pw_ireturn dX2_firstValley_56 rfl ⟨by rw [hr], rfl⟩
  · intro t hu
    subst hu
    obtain ⟨a4_9, a5_10⟩ := t
    replace hs : fX2_firstValley_6_E63 a2 a3 a4_9 a5_10 sg = some oM := hs
    show PW tbC RX2 cX2_firstValley 7 (some .int) 1 21 (PoI oM sg) 63 [(0, .ref 17), (1, .ref 6), (2, .int a2), (3, .int a3), (4, .int a4_9), (5, .int a5_10)] [] sg
    unfold fX2_firstValley_6_E63 at hs
    refine pw_iconst (-1 : Int32) dX2_firstValley_63 (by decide) ?_
    have hr := Option.some.inj hs
    exact pw_ireturn dX2_firstValley_64 rfl ⟨by rw [hr], rfl⟩
  · intro r hu
    subst hu
    exact Option.some.inj hs
set_option maxRecDepth 100000 in
set_option maxHeartbeats 400000 in
theorem conX7_seen {sg : Sg} {a1 : Int32} {a2 : Int32} {oM : Int32} (h : fX7_seen a1 a2 sg = some oM) : Con tbC yX7_seen cX7_seen 6 (some .int) 2 47 [.ref 0, .int a1, .int a2] sg (PoI oM sg) := by
  refine Con.of (by decide) (Nat.le_of_ble_eq_true rfl) ?_
  show PW tbC RX7 cX7_seen 6 (some .int) 2 47 (PoI oM sg) 0 [(0, .ref 0), (1, .int a1), (2, .int a2)] [] sg
  have hs := h
  unfold fX7_seen at hs
  have J144 : ∀ (s0 : Int32), fX7_seen_J144 s0 sg = some oM → PW tbC RX7 cX7_seen 6 (some .int) 2 47 (PoI oM sg) 144 [] [.int s0] sg := by
    intro s0 hs
    unfold fX7_seen_J144 at hs
    have hr := Option.some.inj hs
    exact pw_ireturn dX7_seen_144 rfl ⟨by rw [hr], rfl⟩
  have J117 : fX7_seen_J117 sg = some oM → PW tbC RX7 cX7_seen 6 (some .int) 2 47 (PoI oM sg) 117 [] [] sg := by
    intro  hs
    unfold fX7_seen_J117 at hs
    refine pw_sipush (-1002 : Int32) dX7_seen_117 (by decide) ?_
    have hr := Option.some.inj hs
    exact pw_ireturn dX7_seen_120 rfl ⟨by rw [hr], rfl⟩
  refine pw_aload_n 0 dX7_seen_0 rfl rfl ?_
  refine pw_getr 1 dX7_seen_1 clRX7 tC0 (Nat.le_of_ble_eq_true rfl) fRX7_19 rfl ?_
  refine pw_iload_n 1 dX7_seen_4 rfl rfl ?_
  obtain ⟨r_2, hc_1, hs⟩ := Option.bind_eq_some_iff.mp hs
  refine pw_callVi [.int a1] (st := []) dX7_seen_5 tC3 rfl mRX7_94 imX6_has seX6_has inRX6 coX6_has hyX6_has (by decide) (Nat.le_of_ble_eq_true rfl) (conX6_has hc_1) ?_
  refine pw_if_ne 15 dX7_seen_8 (by decide) (fun c_16 => ?_) (fun c_16 => ?_)
  · rw [if_neg c_16] at hs
    refine pw_aload_n 0 dX7_seen_15 rfl rfl ?_
    refine pw_getr 1 dX7_seen_16 clRX7 tC0 (Nat.le_of_ble_eq_true rfl) fRX7_19 rfl ?_
    refine pw_getr 3 dX7_seen_19 clRX6 tC3 (Nat.le_of_ble_eq_true rfl) fRX7_149 rfl ?_
    refine pw_iload_n 1 dX7_seen_22 rfl rfl ?_
    obtain ⟨h_3, hs⟩ := gd_some hs
    refine pw_iaload dX7_seen_23 tC7 (inb_in h_3) ?_
    refine pw_topi (fun a3_4 e_a3_4 => ?_)
    replace hs := lt_use hs e_a3_4
    refine pw_istore_n [(3, .int a3_4), (0, .ref 0), (1, .int a1), (2, .int a2)] dX7_seen_24 rfl (Nat.le_of_ble_eq_true rfl) rfl ?_
    refine pw_iload_n 2 dX7_seen_25 rfl rfl ?_
    refine pw_bipush (6 : Int32) dX7_seen_26 (by decide) ?_
    refine pw_imul dX7_seen_28 ?_
    refine pw_istore [(4, .int (a1 * (6 : Int32))), (3, .int a3_4), (0, .ref 0), (1, .int a1), (2, .int a2)] dX7_seen_29 (Nat.le_of_ble_eq_true rfl) rfl ?_
    refine pw_iload_n 4 dX7_seen_31 rfl rfl ?_
    by_cases c_5 : a2 = (0 : Int32)
    · rw [if_pos c_5] at hs
      refine pw_tableIn (off := 28) 60 dX7_seen_32 (by rw [c_5]; decide) (by rw [c_5]; decide) (by rw [c_5]; rfl) (by decide) ?_
      refine pw_iload_n 1 dX7_seen_60 rfl rfl ?_
      have hr := Option.some.inj hs
      exact pw_ireturn dX7_seen_61 rfl ⟨by rw [hr], rfl⟩
    · rw [if_neg c_5] at hs
      by_cases c_8 : a2 = (1 : Int32)
      · rw [if_pos c_8] at hs
        refine pw_tableIn (off := 30) 62 dX7_seen_32 (by rw [c_8]; decide) (by rw [c_8]; decide) (by rw [c_8]; rfl) (by decide) ?_
        refine pw_aload_n 2 dX7_seen_62 rfl rfl ?_
        refine pw_getr 3 dX7_seen_63 clRX7 tC0 (Nat.le_of_ble_eq_true rfl) fRX7_33 rfl ?_
        refine pw_aload_n 2 dX7_seen_66 rfl rfl ?_
        refine pw_getr 1 dX7_seen_67 clRX7 tC0 (Nat.le_of_ble_eq_true rfl) fRX7_19 rfl ?_
        refine pw_getr 2 dX7_seen_70 clRX6 tC3 (Nat.le_of_ble_eq_true rfl) fRX7_152 rfl ?_
        refine pw_iload 0 dX7_seen_73 rfl ?_
        refine pw_iload_n 1 dX7_seen_75 rfl rfl ?_
        obtain ⟨r_7, hc_6, hs⟩ := Option.bind_eq_some_iff.mp hs
        refine pw_callVi [.ref 6, .int (a1 * (6 : Int32)), .int a3_4] (st := []) dX7_seen_76 tC14 rfl mRX7_155 imX3_firstOf seX3_firstOf inRX3 coX3_firstOf hyX3_firstOf (by decide) (Nat.le_of_ble_eq_true rfl) (conX3_firstOf_6 hc_6) ?_
        have hr := Option.some.inj hs
        exact pw_ireturn dX7_seen_79 rfl ⟨by rw [hr], rfl⟩
      · rw [if_neg c_8] at hs
        by_cases c_11 : a2 = (2 : Int32)
        · rw [if_pos c_11] at hs
          refine pw_tableIn (off := 48) 80 dX7_seen_32 (by rw [c_11]; decide) (by rw [c_11]; decide) (by rw [c_11]; rfl) (by decide) ?_
          refine pw_aload_n 2 dX7_seen_80 rfl rfl ?_
          refine pw_getr 4 dX7_seen_81 clRX7 tC0 (Nat.le_of_ble_eq_true rfl) fRX7_40 rfl ?_
          refine pw_aload_n 2 dX7_seen_84 rfl rfl ?_
          refine pw_getr 1 dX7_seen_85 clRX7 tC0 (Nat.le_of_ble_eq_true rfl) fRX7_19 rfl ?_
          refine pw_getr 2 dX7_seen_88 clRX6 tC3 (Nat.le_of_ble_eq_true rfl) fRX7_152 rfl ?_
          refine pw_iload 0 dX7_seen_91 rfl ?_
          refine pw_iload_n 1 dX7_seen_93 rfl rfl ?_
          obtain ⟨r_10, hc_9, hs⟩ := Option.bind_eq_some_iff.mp hs
          refine pw_callVi [.ref 6, .int (a1 * (6 : Int32)), .int a3_4] (st := []) dX7_seen_94 tC17 rfl mRX7_90 imX2_firstValley seX2_firstValley inRX2 coX2_firstValley hyX2_firstValley (by decide) (Nat.le_of_ble_eq_true rfl) (conX2_firstValley_6 hc_9) ?_
          have hr := Option.some.inj hs
          exact pw_ireturn dX7_seen_97 rfl ⟨by rw [hr], rfl⟩
        · rw [if_neg c_11] at hs
          refine pw_tableOut 98 dX7_seen_32 (by have := lv_neT c_5 (a := 0) (by decide); have := lv_neT c_8 (a := 1) (by decide); have := lv_neT c_11 (a := 2) (by decide); omega) (by decide) ?_
          refine pw_iload_n 4 dX7_seen_98 rfl rfl ?_
          refine pw_bipush (10 : Int32) dX7_seen_99 (by decide) ?_
          refine pw_isub dX7_seen_101 ?_
          refine pw_istore [(5, .int (a2 - (10 : Int32))), (4, .int (a1 * (6 : Int32))), (3, .int a3_4), (0, .ref 0), (1, .int a1), (2, .int a2)] dX7_seen_102 (Nat.le_of_ble_eq_true rfl) rfl ?_
          refine pw_iload_n 5 dX7_seen_104 rfl rfl ?_
          refine pw_bipush (10 : Int32) dX7_seen_105 (by decide) ?_
          refine pw_icmp_lt 117 dX7_seen_107 (by decide) (fun c_15 => ?_) (fun c_15 => ?_)
          · rw [if_pos c_15] at hs
            exact PW.sub (lv' := []) [] rfl (J117  hs)
          · rw [if_neg c_15] at hs
            refine pw_iload 0 dX7_seen_110 rfl ?_
            refine pw_bipush (6 : Int32) dX7_seen_112 (by decide) ?_
            refine pw_icmp_lt 121 dX7_seen_114 (by decide) (fun c_14 => ?_) (fun c_14 => ?_)
            · rw [if_pos c_14] at hs
              refine pw_iload 0 dX7_seen_121 rfl ?_
              refine pw_iload_n 2 dX7_seen_123 rfl rfl ?_
              refine pw_icmp_ge 143 dX7_seen_124 (by decide) (fun c_13 => ?_) (fun c_13 => ?_)
              · rw [if_pos c_13] at hs
                refine pw_iconst (-1 : Int32) dX7_seen_143 (by decide) ?_
                exact PW.sub (lv' := []) [] rfl (J144 (-1 : Int32) hs)
              · rw [if_neg c_13] at hs
                refine pw_aload_n 3 dX7_seen_127 rfl rfl ?_
                refine pw_getr 1 dX7_seen_128 clRX7 tC0 (Nat.le_of_ble_eq_true rfl) fRX7_19 rfl ?_
                refine pw_getr 2 dX7_seen_131 clRX6 tC3 (Nat.le_of_ble_eq_true rfl) fRX7_152 rfl ?_
                refine pw_iload 1 dX7_seen_134 rfl ?_
                refine pw_iload 0 dX7_seen_136 rfl ?_
                refine pw_iadd dX7_seen_138 ?_
                obtain ⟨h_12, hs⟩ := gd_some hs
                refine pw_iaload dX7_seen_139 tC6 (inb_in h_12) ?_
                refine pw_goto 144 dX7_seen_140 (by decide) ?_
                exact PW.sub (lv' := []) [] rfl (J144 (rd sg 6 (Int32.toNatClampNeg ((a1 * (6 : Int32)) + (a2 - (10 : Int32))))) hs)
            · rw [if_neg c_14] at hs
              exact PW.sub (lv' := []) [] rfl (J117  hs)
  · rw [if_pos c_16] at hs
    refine pw_sipush (-1001 : Int32) dX7_seen_11 (by decide) ?_
    have hr := Option.some.inj hs
    exact pw_ireturn dX7_seen_14 rfl ⟨by rw [hr], rfl⟩
set_option maxRecDepth 100000 in
set_option maxHeartbeats 400000 in
theorem conX5_fewestLinks {sg : Sg} {a1 : Int32} {a2 : Int32} {a3 : Int32} {oM : Int32} (h : fX5_fewestLinks a1 a2 a3 sg = some oM) : Con tbC yX5_fewestLinks cX5_fewestLinks 4 (some .int) 0 0 [.ref 21, .int a1, .int a2, .int a3] sg (PoI oM sg) := by
  refine Con.of (by decide) (Nat.le_of_ble_eq_true rfl) ?_
  show PW tbC RX5 cX5_fewestLinks 4 (some .int) 0 0 (PoI oM sg) 0 [(0, .ref 21), (1, .int a1), (2, .int a2), (3, .int a3)] [] sg
  have hs := h
  unfold fX5_fewestLinks at hs
  refine pw_aload_n 0 dX5_fewestLinks_0 rfl rfl ?_
  refine pw_getr 0 dX5_fewestLinks_1 clRX5 tC21 (Nat.le_of_ble_eq_true rfl) fRX5_11 rfl ?_
  refine pw_iload_n 1 dX5_fewestLinks_4 rfl rfl ?_
  refine pw_bipush (8 : Int32) dX5_fewestLinks_5 (by decide) ?_
  refine pw_imul dX5_fewestLinks_7 ?_
  refine pw_iload_n 2 dX5_fewestLinks_8 rfl rfl ?_
  refine pw_iadd dX5_fewestLinks_9 ?_
  refine pw_bipush (8 : Int32) dX5_fewestLinks_10 (by decide) ?_
  refine pw_imul dX5_fewestLinks_12 ?_
  refine pw_iload_n 3 dX5_fewestLinks_13 rfl rfl ?_
  refine pw_iadd dX5_fewestLinks_14 ?_
  obtain ⟨h_1, hs⟩ := gd_some hs
  refine pw_iaload dX5_fewestLinks_15 tC22 (inb_in h_1) ?_
  have hr := Option.some.inj hs
  exact pw_ireturn dX5_fewestLinks_16 rfl ⟨by rw [hr], rfl⟩
set_option maxRecDepth 100000 in
set_option maxHeartbeats 400000 in
theorem conX5_leastSecond_17 {sg : Sg} {a2 : Int32} {a3 : Int32} {oM : Int32} (h : fX5_leastSecond_17 a2 a3 sg = some oM) : Con tbC yX5_leastSecond cX5_leastSecond 7 (some .int) 1 23 [.ref 21, .ref 17, .int a2, .int a3] sg (PoI oM sg) := by
  refine Con.of (by decide) (Nat.le_of_ble_eq_true rfl) ?_
  show PW tbC RX5 cX5_leastSecond 7 (some .int) 1 23 (PoI oM sg) 0 [(0, .ref 21), (1, .ref 17), (2, .int a2), (3, .int a3)] [] sg
  have hs := h
  unfold fX5_leastSecond_17 at hs
  refine pw_aload_n 0 dX5_leastSecond_0 rfl rfl ?_
  refine pw_iconst (0 : Int32) dX5_leastSecond_1 (by decide) ?_
  refine pw_iload_n 2 dX5_leastSecond_2 rfl rfl ?_
  refine pw_iload_n 3 dX5_leastSecond_3 rfl rfl ?_
  obtain ⟨r_2, hc_1, hs⟩ := Option.bind_eq_some_iff.mp hs
  refine pw_callVi [.int (0 : Int32), .int a2, .int a3] (st := []) dX5_leastSecond_4 tC21 rfl mRX5_44 imX5_fewestLinks seX5_fewestLinks inRX5 coX5_fewestLinks hyX5_fewestLinks (by decide) (Nat.le_of_ble_eq_true rfl) (conX5_fewestLinks hc_1) ?_
  refine pw_istore [(4, .int r_2), (0, .ref 21), (1, .ref 17), (2, .int a2), (3, .int a3)] dX5_leastSecond_7 (Nat.le_of_ble_eq_true rfl) rfl ?_
  refine pw_iload 0 dX5_leastSecond_9 rfl ?_
  refine pw_iconst (-1 : Int32) dX5_leastSecond_11 (by decide) ?_
  refine pw_icmp_ne 17 dX5_leastSecond_12 (by decide) (fun c_13 => ?_) (fun c_13 => ?_)
  · rw [if_neg c_13] at hs
    refine pw_iconst (0 : Int32) dX5_leastSecond_17 (by decide) ?_
    refine pw_istore [(5, .int (0 : Int32)), (4, .int r_2), (0, .ref 21), (1, .ref 17), (2, .int a2), (3, .int a3)] dX5_leastSecond_18 (Nat.le_of_ble_eq_true rfl) rfl ?_
    obtain ⟨u, hL, hs⟩ := Option.bind_eq_some_iff.mp hs
    refine PW.sub [2, 3, 4, 5, 1, 0] (lv' := [(0, .ref 21), (1, .ref 17), (2, .int a2), (3, .int a3), (4, .int r_2), (5, .int (0 : Int32))]) rfl ?_
    refine lpO_pw (T := Int32) (X := fun t => PW tbC RX5 cX5_leastSecond 7 (some .int) 1 23 (PoI oM sg) 20 [(0, .ref 21), (1, .ref 17), (2, .int a2), (3, .int a3), (4, .int r_2), (5, .int t)] [] sg) (E := fun t => PW tbC RX5 cX5_leastSecond 7 (some .int) 1 23 (PoI oM sg) 81 [(0, .ref 21), (1, .ref 17), (2, .int a2), (3, .int a3), (4, .int r_2), (5, .int t)] [] sg) (PR := fun r => r = oM) (step := (fun t => fX5_leastSecond_17_L20 a2 a3 r_2 sg t)) ?_ 300 (0 : Int32) u hL ?_ ?_
    · intro t oL hs hE hR hC
      obtain ⟨a5, rfl⟩ : ∃ z, z = t := ⟨t, rfl⟩
      replace hs : fX5_leastSecond_17_L20 a2 a3 r_2 sg a5 = some oL := hs
      show PW tbC RX5 cX5_leastSecond 7 (some .int) 1 23 (PoI oM sg) 20 [(0, .ref 21), (1, .ref 17), (2, .int a2), (3, .int a3), (4, .int r_2), (5, .int a5)] [] sg
      unfold fX5_leastSecond_17_L20 at hs
      have J75 : ∀ (a5 : Int32), fX5_leastSecond_17_L20_J75 a2 a3 r_2 a5 sg = some oL → PW tbC RX5 cX5_leastSecond 7 (some .int) 1 23 (PoI oM sg) 75 [(0, .ref 21), (1, .ref 17), (2, .int a2), (3, .int a3), (4, .int r_2), (5, .int a5)] [] sg := by
        intro a5 hs
        unfold fX5_leastSecond_17_L20_J75 at hs
        refine pw_iinc 5 (a5 + 1) [(5, .int (a5 + 1)), (0, .ref 21), (1, .ref 17), (2, .int a2), (3, .int a3), (4, .int r_2)] dX5_leastSecond_75 rfl rfl (Nat.le_of_ble_eq_true rfl) rfl ?_
        refine pw_goto 20 dX5_leastSecond_78 (by decide) ?_
        exact PW.sub (lv' := [(0, .ref 21), (1, .ref 17), (2, .int a2), (3, .int a3), (4, .int r_2), (5, .int (a5 + 1))]) [1, 2, 3, 4, 5, 0] rfl (hC (a5 + 1) (Option.some.inj hs).symm)
      refine pw_iload 5 dX5_leastSecond_20 rfl ?_
      refine pw_bipush (8 : Int32) dX5_leastSecond_22 (by decide) ?_
      refine pw_icmp_ge 81 dX5_leastSecond_24 (by decide) (fun c_11 => ?_) (fun c_11 => ?_)
      · rw [if_pos c_11] at hs
        exact PW.sub (lv' := [(0, .ref 21), (1, .ref 17), (2, .int a2), (3, .int a3), (4, .int r_2), (5, .int a5)]) [0, 1, 2, 3, 4, 5] rfl (hE a5 (Option.some.inj hs).symm)
      · rw [if_neg c_11] at hs
        refine pw_iconst (0 : Int32) dX5_leastSecond_27 (by decide) ?_
        refine pw_aload_n 1 dX5_leastSecond_28 rfl rfl ?_
        refine pw_getr 1 dX5_leastSecond_29 clRX2 tC17 (Nat.le_of_ble_eq_true rfl) fRX5_29 rfl ?_
        refine pw_iload_n 2 dX5_leastSecond_32 rfl rfl ?_
        refine pw_bipush (8 : Int32) dX5_leastSecond_33 (by decide) ?_
        refine pw_imul dX5_leastSecond_35 ?_
        refine pw_iload 5 dX5_leastSecond_36 rfl ?_
        refine pw_iadd dX5_leastSecond_38 ?_
        obtain ⟨h_3, hs⟩ := gd_some hs
        refine pw_iaload dX5_leastSecond_39 tC19 (inb_in h_3) ?_
        obtain ⟨r_5, hc_4, hs⟩ := Option.bind_eq_some_iff.mp hs
        refine pw_callSi [.int (0 : Int32), .int (rd sg 19 (Int32.toNatClampNeg ((a2 * (8 : Int32)) + a5)))] (st := []) dX5_leastSecond_40 mRX5_34 stX2_after inRX2 coX2_after hyX2_after (by decide) (Nat.le_of_ble_eq_true rfl) (conX2_after hc_4) ?_
        refine pw_istore [(6, .int r_5), (0, .ref 21), (1, .ref 17), (2, .int a2), (3, .int a3), (4, .int r_2), (5, .int a5)] dX5_leastSecond_43 (Nat.le_of_ble_eq_true rfl) rfl ?_
        refine pw_iload 5 dX5_leastSecond_45 rfl ?_
        refine pw_if_le 75 dX5_leastSecond_47 (by decide) (fun c_10 => ?_) (fun c_10 => ?_)
        · rw [if_pos c_10] at hs
          exact PW.sub (lv' := [(0, .ref 21), (1, .ref 17), (2, .int a2), (3, .int a3), (4, .int r_2), (5, .int a5)]) [1, 2, 3, 4, 5, 6] rfl (J75 a5 hs)
        · rw [if_neg c_10] at hs
          refine pw_iload 0 dX5_leastSecond_50 rfl ?_
          refine pw_iconst (-1 : Int32) dX5_leastSecond_52 (by decide) ?_
          refine pw_icmp_eq 75 dX5_leastSecond_53 (by decide) (fun c_9 => ?_) (fun c_9 => ?_)
          · rw [if_pos c_9] at hs
            exact PW.sub (lv' := [(0, .ref 21), (1, .ref 17), (2, .int a2), (3, .int a3), (4, .int r_2), (5, .int a5)]) [1, 2, 3, 4, 5, 6] rfl (J75 a5 hs)
          · rw [if_neg c_9] at hs
            refine pw_aload_n 1 dX5_leastSecond_56 rfl rfl ?_
            refine pw_iload 0 dX5_leastSecond_57 rfl ?_
            refine pw_iload 6 dX5_leastSecond_59 rfl ?_
            refine pw_iload_n 4 dX5_leastSecond_61 rfl rfl ?_
            obtain ⟨r_7, hc_6, hs⟩ := Option.bind_eq_some_iff.mp hs
            refine pw_callVi [.int r_5, .int a5, .int a3] (st := []) dX5_leastSecond_62 tC21 rfl mRX5_44 imX5_fewestLinks seX5_fewestLinks inRX5 coX5_fewestLinks hyX5_fewestLinks (by decide) (Nat.le_of_ble_eq_true rfl) (conX5_fewestLinks hc_6) ?_
            refine pw_iload 5 dX5_leastSecond_65 rfl ?_
            refine pw_iconst (1 : Int32) dX5_leastSecond_67 (by decide) ?_
            refine pw_isub dX5_leastSecond_68 ?_
            refine pw_icmp_ne 75 dX5_leastSecond_69 (by decide) (fun c_8 => ?_) (fun c_8 => ?_)
            · rw [if_neg c_8] at hs
              exact PW.sub (lv' := [(0, .ref 21), (1, .ref 17), (2, .int a2), (3, .int a3), (4, .int r_2), (5, .int a5)]) [1, 2, 3, 4, 5, 6] rfl (J75 a5 hs)
            · rw [if_pos c_8] at hs
              refine pw_iload 6 dX5_leastSecond_72 rfl ?_
              have hr := hR _ (Option.some.inj hs).symm
              exact pw_ireturn dX5_leastSecond_74 rfl ⟨by rw [hr], rfl⟩
    · intro t hu
      subst hu
      obtain ⟨a5_12, rfl⟩ : ∃ z, z = t := ⟨t, rfl⟩
      replace hs : fX5_leastSecond_17_E81 a2 a3 r_2 a5_12 sg = some oM := hs
      show PW tbC RX5 cX5_leastSecond 7 (some .int) 1 23 (PoI oM sg) 81 [(0, .ref 21), (1, .ref 17), (2, .int a2), (3, .int a3), (4, .int r_2), (5, .int a5_12)] [] sg
      unfold fX5_leastSecond_17_E81 at hs
      refine pw_iconst (-1 : Int32) dX5_leastSecond_81 (by decide) ?_
      have hr := Option.some.inj hs
      exact pw_ireturn dX5_leastSecond_82 rfl ⟨by rw [hr], rfl⟩
    · intro r hu
      subst hu
      exact Option.some.inj hs
  · rw [if_pos c_13] at hs
    refine pw_iconst (-1 : Int32) dX5_leastSecond_15 (by decide) ?_
    have hr := Option.some.inj hs
    exact pw_ireturn dX5_leastSecond_16 rfl ⟨by rw [hr], rfl⟩
set_option maxRecDepth 100000 in
set_option maxHeartbeats 400000 in
theorem conX7_near {sg : Sg} {a1 : Int32} {a2 : Int32} {a3 : Int32} {oM : Int32} (h : fX7_near a1 a2 a3 sg = some oM) : Con tbC yX7_near cX7_near 4 (some .int) 2 49 [.ref 0, .int a1, .int a2, .int a3] sg (PoI oM sg) := by
  refine Con.of (by decide) (Nat.le_of_ble_eq_true rfl) ?_
  show PW tbC RX7 cX7_near 4 (some .int) 2 49 (PoI oM sg) 0 [(0, .ref 0), (1, .int a1), (2, .int a2), (3, .int a3)] [] sg
  have hs := h
  unfold fX7_near at hs
  have J14 : fX7_near_J14 sg = some oM → PW tbC RX7 cX7_near 4 (some .int) 2 49 (PoI oM sg) 14 [] [] sg := by
    intro  hs
    unfold fX7_near_J14 at hs
    refine pw_sipush (-1001 : Int32) dX7_near_14 (by decide) ?_
    have hr := Option.some.inj hs
    exact pw_ireturn dX7_near_17 rfl ⟨by rw [hr], rfl⟩
  refine pw_iload_n 1 dX7_near_0 rfl rfl ?_
  obtain ⟨r_2, hc_1, hs⟩ := Option.bind_eq_some_iff.mp hs
  refine pw_callSi [.int a1] (st := []) dX7_near_1 mRX7_101 stX0_isNet inRX0 coX0_isNet hyX0_isNet (by decide) (Nat.le_of_ble_eq_true rfl) (conX0_isNet hc_1) ?_
  refine pw_if_eq 14 dX7_near_4 (by decide) (fun c_12 => ?_) (fun c_12 => ?_)
  · rw [if_pos c_12] at hs
    exact PW.sub (lv' := []) [] rfl (J14  hs)
  · rw [if_neg c_12] at hs
    refine pw_iload_n 2 dX7_near_7 rfl rfl ?_
    obtain ⟨r_4, hc_3, hs⟩ := Option.bind_eq_some_iff.mp hs
    refine pw_callSi [.int a2] (st := []) dX7_near_8 mRX7_101 stX0_isNet inRX0 coX0_isNet hyX0_isNet (by decide) (Nat.le_of_ble_eq_true rfl) (conX0_isNet hc_3) ?_
    refine pw_if_ne 18 dX7_near_11 (by decide) (fun c_11 => ?_) (fun c_11 => ?_)
    · rw [if_neg c_11] at hs
      refine pw_iload_n 3 dX7_near_18 rfl rfl ?_
      by_cases c_7 : a3 = (0 : Int32)
      · rw [if_pos c_7] at hs
        refine pw_lookup (off := 25) 44 dX7_near_19 (by decide) (by rw [c_7]; rfl) (by decide) ?_
        refine pw_aload_n 0 dX7_near_44 rfl rfl ?_
        refine pw_getr 5 dX7_near_45 clRX7 tC0 (Nat.le_of_ble_eq_true rfl) fRX7_47 rfl ?_
        refine pw_iconst (0 : Int32) dX7_near_48 (by decide) ?_
        refine pw_iload_n 1 dX7_near_49 rfl rfl ?_
        refine pw_iload_n 2 dX7_near_50 rfl rfl ?_
        obtain ⟨r_6, hc_5, hs⟩ := Option.bind_eq_some_iff.mp hs
        refine pw_callVi [.int (0 : Int32), .int a1, .int a2] (st := []) dX7_near_51 tC21 rfl mRX7_158 imX5_fewestLinks seX5_fewestLinks inRX5 coX5_fewestLinks hyX5_fewestLinks (by decide) (Nat.le_of_ble_eq_true rfl) (conX5_fewestLinks hc_5) ?_
        have hr := Option.some.inj hs
        exact pw_ireturn dX7_near_54 rfl ⟨by rw [hr], rfl⟩
      · rw [if_neg c_7] at hs
        by_cases c_10 : a3 = (1 : Int32)
        · rw [if_pos c_10] at hs
          refine pw_lookup (off := 36) 55 dX7_near_19 (by decide) (by rw [c_10]; rfl) (by decide) ?_
          refine pw_aload_n 0 dX7_near_55 rfl rfl ?_
          refine pw_getr 5 dX7_near_56 clRX7 tC0 (Nat.le_of_ble_eq_true rfl) fRX7_47 rfl ?_
          refine pw_aload_n 0 dX7_near_59 rfl rfl ?_
          refine pw_getr 4 dX7_near_60 clRX7 tC0 (Nat.le_of_ble_eq_true rfl) fRX7_40 rfl ?_
          refine pw_iload_n 1 dX7_near_63 rfl rfl ?_
          refine pw_iload_n 2 dX7_near_64 rfl rfl ?_
          obtain ⟨r_9, hc_8, hs⟩ := Option.bind_eq_some_iff.mp hs
          refine pw_callVi [.ref 17, .int a1, .int a2] (st := []) dX7_near_65 tC21 rfl mRX7_162 imX5_leastSecond seX5_leastSecond inRX5 coX5_leastSecond hyX5_leastSecond (by decide) (Nat.le_of_ble_eq_true rfl) (conX5_leastSecond_17 hc_8) ?_
          have hr := Option.some.inj hs
          exact pw_ireturn dX7_near_68 rfl ⟨by rw [hr], rfl⟩
        · rw [if_neg c_10] at hs
          refine pw_lookup (off := 50) 69 dX7_near_19 (by decide) (by show Op.lookupswitch.offset [(0, 25), (1, 36)] 50 _ = _; rw [lv_osw c_7 (by decide), lv_osw c_10 (by decide)]; rfl) (by decide) ?_
          refine pw_sipush (-1002 : Int32) dX7_near_69 (by decide) ?_
          have hr := Option.some.inj hs
          exact pw_ireturn dX7_near_72 rfl ⟨by rw [hr], rfl⟩
    · rw [if_pos c_11] at hs
      exact PW.sub (lv' := []) [] rfl (J14  hs)
set_option maxRecDepth 100000 in
set_option maxHeartbeats 400000 in
theorem conX1_total {sg : Sg}  {oM : Int32} (h : fX1_total  sg = some oM) : Con tbC yX1_total cX1_total 3 (some .int) 0 0 [.ref 8] sg (PoI oM sg) := by
  refine Con.of (by decide) (Nat.le_of_ble_eq_true rfl) ?_
  show PW tbC RX1 cX1_total 3 (some .int) 0 0 (PoI oM sg) 0 [(0, .ref 8)] [] sg
  have hs := h
  unfold fX1_total at hs
  refine pw_iconst (0 : Int32) dX1_total_0 (by decide) ?_
  refine pw_istore_n [(1, .int (0 : Int32)), (0, .ref 8)] dX1_total_1 rfl (Nat.le_of_ble_eq_true rfl) rfl ?_
  refine pw_iconst (0 : Int32) dX1_total_2 (by decide) ?_
  refine pw_istore_n [(2, .int (0 : Int32)), (1, .int (0 : Int32)), (0, .ref 8)] dX1_total_3 rfl (Nat.le_of_ble_eq_true rfl) rfl ?_
  obtain ⟨t, hL, hs⟩ := Option.bind_eq_some_iff.mp hs
  refine PW.sub [2, 1, 0] (lv' := [(0, .ref 8), (1, .int (0 : Int32)), (2, .int (0 : Int32))]) rfl ?_
  refine lpS_pw (T := Int32 × Int32) (X := fun t => PW tbC RX1 cX1_total 3 (some .int) 0 0 (PoI oM sg) 4 [(0, .ref 8), (1, .int t.1), (2, .int t.2)] [] sg) (E := fun t => PW tbC RX1 cX1_total 3 (some .int) 0 0 (PoI oM sg) 25 [(0, .ref 8), (1, .int t.1), (2, .int t.2)] [] sg) (step := (fun t => fX1_total_L4 sg t.1 t.2)) ?_ 300 ((0 : Int32), (0 : Int32)) t hL ?_
  · intro t oL hs hE hC
    obtain ⟨a1, a2⟩ := t
    replace hs : fX1_total_L4 sg a1 a2 = some oL := hs
    show PW tbC RX1 cX1_total 3 (some .int) 0 0 (PoI oM sg) 4 [(0, .ref 8), (1, .int a1), (2, .int a2)] [] sg
    unfold fX1_total_L4 at hs
    refine pw_iload_n 2 dX1_total_4 rfl rfl ?_
    refine pw_bipush (8 : Int32) dX1_total_5 (by decide) ?_
    refine pw_icmp_ge 25 dX1_total_7 (by decide) (fun c_3 => ?_) (fun c_3 => ?_)
    · rw [if_pos c_3] at hs
      exact PW.sub (lv' := [(0, .ref 8), (1, .int a1), (2, .int a2)]) [0, 1, 2] rfl (hE (a1, a2) (Option.some.inj hs).symm)
    · rw [if_neg c_3] at hs
      refine pw_iload_n 1 dX1_total_10 rfl rfl ?_
      refine pw_aload_n 0 dX1_total_11 rfl rfl ?_
      refine pw_getr 2 dX1_total_12 clRX1 tC8 (Nat.le_of_ble_eq_true rfl) fRX1_18 rfl ?_
      refine pw_iload_n 2 dX1_total_15 rfl rfl ?_
      obtain ⟨h_1, hs⟩ := gd_some hs
      refine pw_iaload dX1_total_16 tC11 (inb_in h_1) ?_
      refine pw_iadd dX1_total_17 ?_
      refine pw_topi (fun a1_2 e_a1_2 => ?_)
      replace hs := lt_use hs e_a1_2
      refine pw_istore_n [(1, .int a1_2), (0, .ref 8), (2, .int a2)] dX1_total_18 rfl (Nat.le_of_ble_eq_true rfl) rfl ?_
      refine pw_iinc 2 (a2 + 1) [(2, .int (a2 + 1)), (1, .int a1_2), (0, .ref 8)] dX1_total_19 rfl rfl (Nat.le_of_ble_eq_true rfl) rfl ?_
      refine pw_goto 4 dX1_total_22 (by decide) ?_
      exact PW.sub (lv' := [(0, .ref 8), (1, .int a1_2), (2, .int (a2 + 1))]) [2, 1, 0] rfl (hC (a1_2, (a2 + 1)) (Option.some.inj hs).symm)
  · skip
    obtain ⟨a1_4, a2_5⟩ := t
    replace hs : fX1_total_E25 a1_4 a2_5 sg = some oM := hs
    show PW tbC RX1 cX1_total 3 (some .int) 0 0 (PoI oM sg) 25 [(0, .ref 8), (1, .int a1_4), (2, .int a2_5)] [] sg
    unfold fX1_total_E25 at hs
    refine pw_iload_n 1 dX1_total_25 rfl rfl ?_
    refine pw_iconst (2 : Int32) dX1_total_26 (by decide) ?_
    refine pw_idiv dX1_total_27 (by decide) ?_
    have hr := Option.some.inj hs
    exact pw_ireturn dX1_total_28 rfl ⟨by rw [hr], rfl⟩
set_option maxRecDepth 100000 in
set_option maxHeartbeats 400000 in
theorem conX2_named {sg : Sg} {a1 : Int32} {oM : Int32} (h : fX2_named a1 sg = some oM) : Con tbC yX2_named cX2_named 5 (some .int) 0 0 [.ref 17, .int a1] sg (PoI oM sg) := by
  refine Con.of (by decide) (Nat.le_of_ble_eq_true rfl) ?_
  show PW tbC RX2 cX2_named 5 (some .int) 0 0 (PoI oM sg) 0 [(0, .ref 17), (1, .int a1)] [] sg
  have hs := h
  unfold fX2_named at hs
  refine pw_iconst (0 : Int32) dX2_named_0 (by decide) ?_
  refine pw_istore_n [(2, .int (0 : Int32)), (0, .ref 17), (1, .int a1)] dX2_named_1 rfl (Nat.le_of_ble_eq_true rfl) rfl ?_
  refine pw_iconst (0 : Int32) dX2_named_2 (by decide) ?_
  refine pw_istore_n [(3, .int (0 : Int32)), (2, .int (0 : Int32)), (0, .ref 17), (1, .int a1)] dX2_named_3 rfl (Nat.le_of_ble_eq_true rfl) rfl ?_
  obtain ⟨t, hL, hs⟩ := Option.bind_eq_some_iff.mp hs
  refine PW.sub [2, 3, 1, 0] (lv' := [(0, .ref 17), (1, .int a1), (2, .int (0 : Int32)), (3, .int (0 : Int32))]) rfl ?_
  refine lpS_pw (T := Int32 × Int32) (X := fun t => PW tbC RX2 cX2_named 5 (some .int) 0 0 (PoI oM sg) 4 [(0, .ref 17), (1, .int a1), (2, .int t.1), (3, .int t.2)] [] sg) (E := fun t => PW tbC RX2 cX2_named 5 (some .int) 0 0 (PoI oM sg) 53 [(0, .ref 17), (1, .int a1), (2, .int t.1), (3, .int t.2)] [] sg) (step := (fun t => fX2_named_L4 a1 sg t.1 t.2)) ?_ 300 ((0 : Int32), (0 : Int32)) t hL ?_
  · intro t oL hs hE hC
    obtain ⟨a2, a3⟩ := t
    replace hs : fX2_named_L4 a1 sg a2 a3 = some oL := hs
    show PW tbC RX2 cX2_named 5 (some .int) 0 0 (PoI oM sg) 4 [(0, .ref 17), (1, .int a1), (2, .int a2), (3, .int a3)] [] sg
    unfold fX2_named_L4 at hs
    refine pw_iload_n 3 dX2_named_4 rfl rfl ?_
    refine pw_bipush (8 : Int32) dX2_named_5 (by decide) ?_
    refine pw_icmp_ge 53 dX2_named_7 (by decide) (fun c_6 => ?_) (fun c_6 => ?_)
    · rw [if_pos c_6] at hs
      exact PW.sub (lv' := [(0, .ref 17), (1, .int a1), (2, .int a2), (3, .int a3)]) [0, 1, 2, 3] rfl (hE (a2, a3) (Option.some.inj hs).symm)
    · rw [if_neg c_6] at hs
      refine pw_iload_n 3 dX2_named_10 rfl rfl ?_
      refine pw_iconst (1 : Int32) dX2_named_11 (by decide) ?_
      refine pw_iadd dX2_named_12 ?_
      refine pw_istore [(4, .int (a3 + (1 : Int32))), (0, .ref 17), (1, .int a1), (2, .int a2), (3, .int a3)] dX2_named_13 (Nat.le_of_ble_eq_true rfl) rfl ?_
      obtain ⟨t, hL, hs⟩ := Option.bind_eq_some_iff.mp hs
      refine PW.sub [1, 2, 4, 3, 0] (lv' := [(0, .ref 17), (1, .int a1), (3, .int a3), (2, .int a2), (4, .int (a3 + (1 : Int32)))]) rfl ?_
      refine lpS_pw (T := Int32 × Int32) (X := fun t => PW tbC RX2 cX2_named 5 (some .int) 0 0 (PoI oM sg) 15 [(0, .ref 17), (1, .int a1), (3, .int a3), (2, .int t.1), (4, .int t.2)] [] sg) (E := fun t => PW tbC RX2 cX2_named 5 (some .int) 0 0 (PoI oM sg) 47 [(0, .ref 17), (1, .int a1), (3, .int a3), (2, .int t.1), (4, .int t.2)] [] sg) (step := (fun t => fX2_named_L15 a1 a3 sg t.1 t.2)) ?_ 300 (a2, (a3 + (1 : Int32))) t hL ?_
      · intro t oL hs hE hC
        obtain ⟨a2, a4⟩ := t
        replace hs : fX2_named_L15 a1 a3 sg a2 a4 = some oL := hs
        show PW tbC RX2 cX2_named 5 (some .int) 0 0 (PoI oM sg) 15 [(0, .ref 17), (1, .int a1), (3, .int a3), (2, .int a2), (4, .int a4)] [] sg
        unfold fX2_named_L15 at hs
        have J41 : ∀ (a2 : Int32) (a4 : Int32), fX2_named_L15_J41 a1 a2 a3 a4 sg = some oL → PW tbC RX2 cX2_named 5 (some .int) 0 0 (PoI oM sg) 41 [(0, .ref 17), (1, .int a1), (2, .int a2), (3, .int a3), (4, .int a4)] [] sg := by
          intro a2 a4 hs
          unfold fX2_named_L15_J41 at hs
          refine pw_iinc 4 (a4 + 1) [(4, .int (a4 + 1)), (0, .ref 17), (1, .int a1), (2, .int a2), (3, .int a3)] dX2_named_41 rfl rfl (Nat.le_of_ble_eq_true rfl) rfl ?_
          refine pw_goto 15 dX2_named_44 (by decide) ?_
          exact PW.sub (lv' := [(0, .ref 17), (1, .int a1), (3, .int a3), (2, .int a2), (4, .int (a4 + 1))]) [1, 2, 4, 3, 0] rfl (hC (a2, (a4 + 1)) (Option.some.inj hs).symm)
        refine pw_iload 4 dX2_named_15 rfl ?_
        refine pw_bipush (8 : Int32) dX2_named_17 (by decide) ?_
        refine pw_icmp_ge 47 dX2_named_19 (by decide) (fun c_3 => ?_) (fun c_3 => ?_)
        · rw [if_pos c_3] at hs
          exact PW.sub (lv' := [(0, .ref 17), (1, .int a1), (3, .int a3), (2, .int a2), (4, .int a4)]) [0, 1, 2, 3, 4] rfl (hE (a2, a4) (Option.some.inj hs).symm)
        · rw [if_neg c_3] at hs
          refine pw_aload_n 0 dX2_named_22 rfl rfl ?_
          refine pw_getr 1 dX2_named_23 clRX2 tC17 (Nat.le_of_ble_eq_true rfl) fRX2_15 rfl ?_
          refine pw_iload_n 2 dX2_named_26 rfl rfl ?_
          refine pw_bipush (8 : Int32) dX2_named_27 (by decide) ?_
          refine pw_imul dX2_named_29 ?_
          refine pw_iload 4 dX2_named_30 rfl ?_
          refine pw_iadd dX2_named_32 ?_
          obtain ⟨h_1, hs⟩ := gd_some hs
          refine pw_iaload dX2_named_33 tC19 (inb_in h_1) ?_
          refine pw_iload_n 1 dX2_named_34 rfl rfl ?_
          refine pw_icmp_ne 41 dX2_named_35 (by decide) (fun c_2 => ?_) (fun c_2 => ?_)
          · rw [if_neg c_2] at hs
            exact PW.sub (lv' := [(0, .ref 17), (1, .int a1), (2, .int a2), (3, .int a3), (4, .int a4)]) [0, 1, 3, 2, 4] rfl (J41 a2 a4 hs)
          · rw [if_pos c_2] at hs
            refine pw_iinc 3 (a2 + 1) [(2, .int (a2 + 1)), (0, .ref 17), (1, .int a1), (3, .int a3), (4, .int a4)] dX2_named_38 rfl rfl (Nat.le_of_ble_eq_true rfl) rfl ?_
            exact PW.sub (lv' := [(0, .ref 17), (1, .int a1), (2, .int (a2 + 1)), (3, .int a3), (4, .int a4)]) [1, 2, 0, 3, 4] rfl (J41 (a2 + 1) a4 hs)
      · skip
        obtain ⟨a2_4, a4_5⟩ := t
        replace hs : fX2_named_L4_E47 a1 a3 a2_4 a4_5 sg = some oL := hs
        show PW tbC RX2 cX2_named 5 (some .int) 0 0 (PoI oM sg) 47 [(0, .ref 17), (1, .int a1), (3, .int a3), (2, .int a2_4), (4, .int a4_5)] [] sg
        unfold fX2_named_L4_E47 at hs
        refine pw_iinc 2 (a3 + 1) [(3, .int (a3 + 1)), (0, .ref 17), (1, .int a1), (2, .int a2_4), (4, .int a4_5)] dX2_named_47 rfl rfl (Nat.le_of_ble_eq_true rfl) rfl ?_
        refine pw_goto 4 dX2_named_50 (by decide) ?_
        exact PW.sub (lv' := [(0, .ref 17), (1, .int a1), (2, .int a2_4), (3, .int (a3 + 1))]) [1, 2, 3, 0] rfl (hC (a2_4, (a3 + 1)) (Option.some.inj hs).symm)
  · skip
    obtain ⟨a2_7, a3_8⟩ := t
    replace hs : fX2_named_E53 a1 a2_7 a3_8 sg = some oM := hs
    show PW tbC RX2 cX2_named 5 (some .int) 0 0 (PoI oM sg) 53 [(0, .ref 17), (1, .int a1), (2, .int a2_7), (3, .int a3_8)] [] sg
    unfold fX2_named_E53 at hs
    refine pw_iload_n 2 dX2_named_53 rfl rfl ?_
    have hr := Option.some.inj hs
    exact pw_ireturn dX2_named_54 rfl ⟨by rw [hr], rfl⟩
set_option maxRecDepth 100000 in
set_option maxHeartbeats 400000 in
theorem conX2_contradictions {sg : Sg}  {oM : Int32} (h : fX2_contradictions  sg = some oM) : Con tbC yX2_contradictions cX2_contradictions 4 (some .int) 2 43 [.ref 17] sg (PoI oM sg) := by
  refine Con.of (by decide) (Nat.le_of_ble_eq_true rfl) ?_
  show PW tbC RX2 cX2_contradictions 4 (some .int) 2 43 (PoI oM sg) 0 [(0, .ref 17)] [] sg
  have hs := h
  unfold fX2_contradictions at hs
  refine pw_iconst (0 : Int32) dX2_contradictions_0 (by decide) ?_
  refine pw_istore_n [(1, .int (0 : Int32)), (0, .ref 17)] dX2_contradictions_1 rfl (Nat.le_of_ble_eq_true rfl) rfl ?_
  refine pw_iconst (0 : Int32) dX2_contradictions_2 (by decide) ?_
  refine pw_istore_n [(2, .int (0 : Int32)), (1, .int (0 : Int32)), (0, .ref 17)] dX2_contradictions_3 rfl (Nat.le_of_ble_eq_true rfl) rfl ?_
  obtain ⟨t, hL, hs⟩ := Option.bind_eq_some_iff.mp hs
  refine PW.sub [2, 1, 0] (lv' := [(0, .ref 17), (1, .int (0 : Int32)), (2, .int (0 : Int32))]) rfl ?_
  refine lpS_pw (T := Int32 × Int32) (X := fun t => PW tbC RX2 cX2_contradictions 4 (some .int) 2 43 (PoI oM sg) 4 [(0, .ref 17), (1, .int t.1), (2, .int t.2)] [] sg) (E := fun t => PW tbC RX2 cX2_contradictions 4 (some .int) 2 43 (PoI oM sg) 44 [(0, .ref 17), (1, .int t.1), (2, .int t.2)] [] sg) (step := (fun t => fX2_contradictions_L4 sg t.1 t.2)) ?_ 300 ((0 : Int32), (0 : Int32)) t hL ?_
  · intro t oL hs hE hC
    obtain ⟨a1, a2⟩ := t
    replace hs : fX2_contradictions_L4 sg a1 a2 = some oL := hs
    show PW tbC RX2 cX2_contradictions 4 (some .int) 2 43 (PoI oM sg) 4 [(0, .ref 17), (1, .int a1), (2, .int a2)] [] sg
    unfold fX2_contradictions_L4 at hs
    refine pw_iload_n 2 dX2_contradictions_4 rfl rfl ?_
    refine pw_bipush (8 : Int32) dX2_contradictions_5 (by decide) ?_
    refine pw_icmp_ge 44 dX2_contradictions_7 (by decide) (fun c_7 => ?_) (fun c_7 => ?_)
    · rw [if_pos c_7] at hs
      exact PW.sub (lv' := [(0, .ref 17), (1, .int a1), (2, .int a2)]) [0, 1, 2] rfl (hE (a1, a2) (Option.some.inj hs).symm)
    · rw [if_neg c_7] at hs
      refine pw_iload_n 2 dX2_contradictions_10 rfl rfl ?_
      refine pw_iconst (1 : Int32) dX2_contradictions_11 (by decide) ?_
      refine pw_iadd dX2_contradictions_12 ?_
      refine pw_istore_n [(3, .int (a2 + (1 : Int32))), (0, .ref 17), (1, .int a1), (2, .int a2)] dX2_contradictions_13 rfl (Nat.le_of_ble_eq_true rfl) rfl ?_
      obtain ⟨t, hL, hs⟩ := Option.bind_eq_some_iff.mp hs
      refine PW.sub [1, 3, 2, 0] (lv' := [(0, .ref 17), (2, .int a2), (1, .int a1), (3, .int (a2 + (1 : Int32)))]) rfl ?_
      refine lpS_pw (T := Int32 × Int32) (X := fun t => PW tbC RX2 cX2_contradictions 4 (some .int) 2 43 (PoI oM sg) 14 [(0, .ref 17), (2, .int a2), (1, .int t.1), (3, .int t.2)] [] sg) (E := fun t => PW tbC RX2 cX2_contradictions 4 (some .int) 2 43 (PoI oM sg) 38 [(0, .ref 17), (2, .int a2), (1, .int t.1), (3, .int t.2)] [] sg) (step := (fun t => fX2_contradictions_L14 a2 sg t.1 t.2)) ?_ 300 (a1, (a2 + (1 : Int32))) t hL ?_
      · intro t oL hs hE hC
        obtain ⟨a1, a3⟩ := t
        replace hs : fX2_contradictions_L14 a2 sg a1 a3 = some oL := hs
        show PW tbC RX2 cX2_contradictions 4 (some .int) 2 43 (PoI oM sg) 14 [(0, .ref 17), (2, .int a2), (1, .int a1), (3, .int a3)] [] sg
        unfold fX2_contradictions_L14 at hs
        have J32 : ∀ (a1 : Int32) (a3 : Int32), fX2_contradictions_L14_J32 a1 a2 a3 sg = some oL → PW tbC RX2 cX2_contradictions 4 (some .int) 2 43 (PoI oM sg) 32 [(0, .ref 17), (1, .int a1), (2, .int a2), (3, .int a3)] [] sg := by
          intro a1 a3 hs
          unfold fX2_contradictions_L14_J32 at hs
          refine pw_iinc 3 (a3 + 1) [(3, .int (a3 + 1)), (0, .ref 17), (1, .int a1), (2, .int a2)] dX2_contradictions_32 rfl rfl (Nat.le_of_ble_eq_true rfl) rfl ?_
          refine pw_goto 14 dX2_contradictions_35 (by decide) ?_
          exact PW.sub (lv' := [(0, .ref 17), (2, .int a2), (1, .int a1), (3, .int (a3 + 1))]) [1, 3, 2, 0] rfl (hC (a1, (a3 + 1)) (Option.some.inj hs).symm)
        refine pw_iload_n 3 dX2_contradictions_14 rfl rfl ?_
        refine pw_bipush (8 : Int32) dX2_contradictions_15 (by decide) ?_
        refine pw_icmp_ge 38 dX2_contradictions_17 (by decide) (fun c_4 => ?_) (fun c_4 => ?_)
        · rw [if_pos c_4] at hs
          exact PW.sub (lv' := [(0, .ref 17), (2, .int a2), (1, .int a1), (3, .int a3)]) [0, 1, 2, 3] rfl (hE (a1, a3) (Option.some.inj hs).symm)
        · rw [if_neg c_4] at hs
          refine pw_aload_n 0 dX2_contradictions_20 rfl rfl ?_
          refine pw_iload_n 1 dX2_contradictions_21 rfl rfl ?_
          refine pw_iload_n 3 dX2_contradictions_22 rfl rfl ?_
          obtain ⟨r_2, hc_1, hs⟩ := Option.bind_eq_some_iff.mp hs
          refine pw_callVi [.int a2, .int a3] (st := []) dX2_contradictions_23 tC17 rfl mRX2_65 imX2_lesserVotes seX2_lesserVotes inRX2 coX2_lesserVotes hyX2_lesserVotes (by decide) (Nat.le_of_ble_eq_true rfl) (conX2_lesserVotes hc_1) ?_
          refine pw_if_le 32 dX2_contradictions_26 (by decide) (fun c_3 => ?_) (fun c_3 => ?_)
          · rw [if_pos c_3] at hs
            exact PW.sub (lv' := [(0, .ref 17), (1, .int a1), (2, .int a2), (3, .int a3)]) [0, 2, 1, 3] rfl (J32 a1 a3 hs)
          · rw [if_neg c_3] at hs
            refine pw_iinc 2 (a1 + 1) [(1, .int (a1 + 1)), (0, .ref 17), (2, .int a2), (3, .int a3)] dX2_contradictions_29 rfl rfl (Nat.le_of_ble_eq_true rfl) rfl ?_
            exact PW.sub (lv' := [(0, .ref 17), (1, .int (a1 + 1)), (2, .int a2), (3, .int a3)]) [1, 0, 2, 3] rfl (J32 (a1 + 1) a3 hs)
      · skip
        obtain ⟨a1_5, a3_6⟩ := t
        replace hs : fX2_contradictions_L4_E38 a2 a1_5 a3_6 sg = some oL := hs
        show PW tbC RX2 cX2_contradictions 4 (some .int) 2 43 (PoI oM sg) 38 [(0, .ref 17), (2, .int a2), (1, .int a1_5), (3, .int a3_6)] [] sg
        unfold fX2_contradictions_L4_E38 at hs
        refine pw_iinc 1 (a2 + 1) [(2, .int (a2 + 1)), (0, .ref 17), (1, .int a1_5), (3, .int a3_6)] dX2_contradictions_38 rfl rfl (Nat.le_of_ble_eq_true rfl) rfl ?_
        refine pw_goto 4 dX2_contradictions_41 (by decide) ?_
        exact PW.sub (lv' := [(0, .ref 17), (1, .int a1_5), (2, .int (a2 + 1))]) [1, 2, 0] rfl (hC (a1_5, (a2 + 1)) (Option.some.inj hs).symm)
  · skip
    obtain ⟨a1_8, a2_9⟩ := t
    replace hs : fX2_contradictions_E44 a1_8 a2_9 sg = some oM := hs
    show PW tbC RX2 cX2_contradictions 4 (some .int) 2 43 (PoI oM sg) 44 [(0, .ref 17), (1, .int a1_8), (2, .int a2_9)] [] sg
    unfold fX2_contradictions_E44 at hs
    refine pw_iload_n 1 dX2_contradictions_44 rfl rfl ?_
    have hr := Option.some.inj hs
    exact pw_ireturn dX2_contradictions_45 rfl ⟨by rw [hr], rfl⟩
set_option maxRecDepth 100000 in
set_option maxHeartbeats 400000 in
theorem conX7_waysWithValley {sg : Sg}  {oM : Int32} (h : fX7_waysWithValley  sg = some oM) : Con tbC yX7_waysWithValley cX7_waysWithValley 3 (some .int) 2 47 [.ref 0] sg (PoI oM sg) := by
  refine Con.of (by decide) (Nat.le_of_ble_eq_true rfl) ?_
  show PW tbC RX7 cX7_waysWithValley 3 (some .int) 2 47 (PoI oM sg) 0 [(0, .ref 0)] [] sg
  have hs := h
  unfold fX7_waysWithValley at hs
  refine pw_iconst (0 : Int32) dX7_waysWithValley_0 (by decide) ?_
  refine pw_istore_n [(1, .int (0 : Int32)), (0, .ref 0)] dX7_waysWithValley_1 rfl (Nat.le_of_ble_eq_true rfl) rfl ?_
  refine pw_iconst (0 : Int32) dX7_waysWithValley_2 (by decide) ?_
  refine pw_istore_n [(2, .int (0 : Int32)), (1, .int (0 : Int32)), (0, .ref 0)] dX7_waysWithValley_3 rfl (Nat.le_of_ble_eq_true rfl) rfl ?_
  obtain ⟨t, hL, hs⟩ := Option.bind_eq_some_iff.mp hs
  refine PW.sub [2, 1, 0] (lv' := [(0, .ref 0), (1, .int (0 : Int32)), (2, .int (0 : Int32))]) rfl ?_
  refine lpS_pw (T := Int32 × Int32) (X := fun t => PW tbC RX7 cX7_waysWithValley 3 (some .int) 2 47 (PoI oM sg) 4 [(0, .ref 0), (1, .int t.1), (2, .int t.2)] [] sg) (E := fun t => PW tbC RX7 cX7_waysWithValley 3 (some .int) 2 47 (PoI oM sg) 55 [(0, .ref 0), (1, .int t.1), (2, .int t.2)] [] sg) (step := (fun t => fX7_waysWithValley_L4 sg t.1 t.2)) ?_ 300 ((0 : Int32), (0 : Int32)) t hL ?_
  · intro t oL hs hE hC
    obtain ⟨a1, a2⟩ := t
    replace hs : fX7_waysWithValley_L4 sg a1 a2 = some oL := hs
    show PW tbC RX7 cX7_waysWithValley 3 (some .int) 2 47 (PoI oM sg) 4 [(0, .ref 0), (1, .int a1), (2, .int a2)] [] sg
    unfold fX7_waysWithValley_L4 at hs
    have J49 : ∀ (a1 : Int32) (a2 : Int32), fX7_waysWithValley_L4_J49 a1 a2 sg = some oL → PW tbC RX7 cX7_waysWithValley 3 (some .int) 2 47 (PoI oM sg) 49 [(0, .ref 0), (1, .int a1), (2, .int a2)] [] sg := by
      intro a1 a2 hs
      unfold fX7_waysWithValley_L4_J49 at hs
      refine pw_iinc 2 (a2 + 1) [(2, .int (a2 + 1)), (0, .ref 0), (1, .int a1)] dX7_waysWithValley_49 rfl rfl (Nat.le_of_ble_eq_true rfl) rfl ?_
      refine pw_goto 4 dX7_waysWithValley_52 (by decide) ?_
      exact PW.sub (lv' := [(0, .ref 0), (1, .int a1), (2, .int (a2 + 1))]) [1, 2, 0] rfl (hC (a1, (a2 + 1)) (Option.some.inj hs).symm)
    refine pw_iload_n 2 dX7_waysWithValley_4 rfl rfl ?_
    refine pw_aload_n 0 dX7_waysWithValley_5 rfl rfl ?_
    refine pw_getr 1 dX7_waysWithValley_6 clRX7 tC0 (Nat.le_of_ble_eq_true rfl) fRX7_19 rfl ?_
    refine pw_geti 4 dX7_waysWithValley_9 clRX6 tC3 (Nat.le_of_ble_eq_true rfl) fRX7_80 rfl ?_
    refine pw_icmp_ge 55 dX7_waysWithValley_12 (by decide) (fun c_5 => ?_) (fun c_5 => ?_)
    · rw [if_pos c_5] at hs
      exact PW.sub (lv' := [(0, .ref 0), (1, .int a1), (2, .int a2)]) [0, 1, 2] rfl (hE (a1, a2) (Option.some.inj hs).symm)
    · rw [if_neg c_5] at hs
      refine pw_aload_n 0 dX7_waysWithValley_15 rfl rfl ?_
      refine pw_getr 4 dX7_waysWithValley_16 clRX7 tC0 (Nat.le_of_ble_eq_true rfl) fRX7_40 rfl ?_
      refine pw_aload_n 0 dX7_waysWithValley_19 rfl rfl ?_
      refine pw_getr 1 dX7_waysWithValley_20 clRX7 tC0 (Nat.le_of_ble_eq_true rfl) fRX7_19 rfl ?_
      refine pw_getr 2 dX7_waysWithValley_23 clRX6 tC3 (Nat.le_of_ble_eq_true rfl) fRX7_152 rfl ?_
      refine pw_iload_n 2 dX7_waysWithValley_26 rfl rfl ?_
      refine pw_bipush (6 : Int32) dX7_waysWithValley_27 (by decide) ?_
      refine pw_imul dX7_waysWithValley_29 ?_
      refine pw_aload_n 0 dX7_waysWithValley_30 rfl rfl ?_
      refine pw_getr 1 dX7_waysWithValley_31 clRX7 tC0 (Nat.le_of_ble_eq_true rfl) fRX7_19 rfl ?_
      refine pw_getr 3 dX7_waysWithValley_34 clRX6 tC3 (Nat.le_of_ble_eq_true rfl) fRX7_149 rfl ?_
      refine pw_iload_n 2 dX7_waysWithValley_37 rfl rfl ?_
      obtain ⟨h_1, hs⟩ := gd_some hs
      refine pw_iaload dX7_waysWithValley_38 tC7 (inb_in h_1) ?_
      obtain ⟨r_3, hc_2, hs⟩ := Option.bind_eq_some_iff.mp hs
      refine pw_callVi [.ref 6, .int (a2 * (6 : Int32)), .int (rd sg 7 (Int32.toNatClampNeg a2))] (st := []) dX7_waysWithValley_39 tC17 rfl mRX7_90 imX2_firstValley seX2_firstValley inRX2 coX2_firstValley hyX2_firstValley (by decide) (Nat.le_of_ble_eq_true rfl) (conX2_firstValley_6 hc_2) ?_
      refine pw_iconst (-1 : Int32) dX7_waysWithValley_42 (by decide) ?_
      refine pw_icmp_eq 49 dX7_waysWithValley_43 (by decide) (fun c_4 => ?_) (fun c_4 => ?_)
      · rw [if_pos c_4] at hs
        exact PW.sub (lv' := [(0, .ref 0), (1, .int a1), (2, .int a2)]) [0, 1, 2] rfl (J49 a1 a2 hs)
      · rw [if_neg c_4] at hs
        refine pw_iinc 1 (a1 + 1) [(1, .int (a1 + 1)), (0, .ref 0), (2, .int a2)] dX7_waysWithValley_46 rfl rfl (Nat.le_of_ble_eq_true rfl) rfl ?_
        exact PW.sub (lv' := [(0, .ref 0), (1, .int (a1 + 1)), (2, .int a2)]) [1, 0, 2] rfl (J49 (a1 + 1) a2 hs)
  · skip
    obtain ⟨a1_6, a2_7⟩ := t
    replace hs : fX7_waysWithValley_E55 a1_6 a2_7 sg = some oM := hs
    show PW tbC RX7 cX7_waysWithValley 3 (some .int) 2 47 (PoI oM sg) 55 [(0, .ref 0), (1, .int a1_6), (2, .int a2_7)] [] sg
    unfold fX7_waysWithValley_E55 at hs
    refine pw_iload_n 1 dX7_waysWithValley_55 rfl rfl ?_
    have hr := Option.some.inj hs
    exact pw_ireturn dX7_waysWithValley_56 rfl ⟨by rw [hr], rfl⟩
set_option maxRecDepth 100000 in
set_option maxHeartbeats 400000 in
theorem conX7_toldLinks {sg : Sg} {a1 : Int32} {oM : Int32} (h : fX7_toldLinks a1 sg = some oM) : Con tbC yX7_toldLinks cX7_toldLinks 7 (some .int) 0 0 [.ref 0, .int a1] sg (PoI oM sg) := by
  refine Con.of (by decide) (Nat.le_of_ble_eq_true rfl) ?_
  show PW tbC RX7 cX7_toldLinks 7 (some .int) 0 0 (PoI oM sg) 0 [(0, .ref 0), (1, .int a1)] [] sg
  have hs := h
  unfold fX7_toldLinks at hs
  refine pw_iconst (0 : Int32) dX7_toldLinks_0 (by decide) ?_
  refine pw_istore_n [(2, .int (0 : Int32)), (0, .ref 0), (1, .int a1)] dX7_toldLinks_1 rfl (Nat.le_of_ble_eq_true rfl) rfl ?_
  refine pw_iconst (0 : Int32) dX7_toldLinks_2 (by decide) ?_
  refine pw_istore_n [(3, .int (0 : Int32)), (2, .int (0 : Int32)), (0, .ref 0), (1, .int a1)] dX7_toldLinks_3 rfl (Nat.le_of_ble_eq_true rfl) rfl ?_
  obtain ⟨t, hL, hs⟩ := Option.bind_eq_some_iff.mp hs
  refine PW.sub [2, 3, 1, 0] (lv' := [(0, .ref 0), (1, .int a1), (2, .int (0 : Int32)), (3, .int (0 : Int32))]) rfl ?_
  refine lpS_pw (T := Int32 × Int32) (X := fun t => PW tbC RX7 cX7_toldLinks 7 (some .int) 0 0 (PoI oM sg) 4 [(0, .ref 0), (1, .int a1), (2, .int t.1), (3, .int t.2)] [] sg) (E := fun t => PW tbC RX7 cX7_toldLinks 7 (some .int) 0 0 (PoI oM sg) 94 [(0, .ref 0), (1, .int a1), (2, .int t.1), (3, .int t.2)] [] sg) (step := (fun t => fX7_toldLinks_L4 a1 sg t.1 t.2)) ?_ 300 ((0 : Int32), (0 : Int32)) t hL ?_
  · intro t oL hs hE hC
    obtain ⟨a2, a3⟩ := t
    replace hs : fX7_toldLinks_L4 a1 sg a2 a3 = some oL := hs
    show PW tbC RX7 cX7_toldLinks 7 (some .int) 0 0 (PoI oM sg) 4 [(0, .ref 0), (1, .int a1), (2, .int a2), (3, .int a3)] [] sg
    unfold fX7_toldLinks_L4 at hs
    refine pw_iload_n 3 dX7_toldLinks_4 rfl rfl ?_
    refine pw_bipush (8 : Int32) dX7_toldLinks_5 (by decide) ?_
    refine pw_icmp_ge 94 dX7_toldLinks_7 (by decide) (fun c_12 => ?_) (fun c_12 => ?_)
    · rw [if_pos c_12] at hs
      exact PW.sub (lv' := [(0, .ref 0), (1, .int a1), (2, .int a2), (3, .int a3)]) [0, 1, 2, 3] rfl (hE (a2, a3) (Option.some.inj hs).symm)
    · rw [if_neg c_12] at hs
      refine pw_iload_n 3 dX7_toldLinks_10 rfl rfl ?_
      refine pw_iconst (1 : Int32) dX7_toldLinks_11 (by decide) ?_
      refine pw_iadd dX7_toldLinks_12 ?_
      refine pw_istore [(4, .int (a3 + (1 : Int32))), (0, .ref 0), (1, .int a1), (2, .int a2), (3, .int a3)] dX7_toldLinks_13 (Nat.le_of_ble_eq_true rfl) rfl ?_
      obtain ⟨t, hL, hs⟩ := Option.bind_eq_some_iff.mp hs
      refine PW.sub [1, 2, 4, 3, 0] (lv' := [(0, .ref 0), (1, .int a1), (3, .int a3), (2, .int a2), (4, .int (a3 + (1 : Int32)))]) rfl ?_
      refine lpS_pw (T := Int32 × Int32) (X := fun t => PW tbC RX7 cX7_toldLinks 7 (some .int) 0 0 (PoI oM sg) 15 [(0, .ref 0), (1, .int a1), (3, .int a3), (2, .int t.1), (4, .int t.2)] [] sg) (E := fun t => PW tbC RX7 cX7_toldLinks 7 (some .int) 0 0 (PoI oM sg) 88 [(0, .ref 0), (1, .int a1), (3, .int a3), (2, .int t.1), (4, .int t.2)] [] sg) (step := (fun t => fX7_toldLinks_L15 a1 a3 sg t.1 t.2)) ?_ 300 (a2, (a3 + (1 : Int32))) t hL ?_
      · intro t oL hs hE hC
        obtain ⟨a2, a4⟩ := t
        replace hs : fX7_toldLinks_L15 a1 a3 sg a2 a4 = some oL := hs
        show PW tbC RX7 cX7_toldLinks 7 (some .int) 0 0 (PoI oM sg) 15 [(0, .ref 0), (1, .int a1), (3, .int a3), (2, .int a2), (4, .int a4)] [] sg
        unfold fX7_toldLinks_L15 at hs
        have J82 : ∀ (a2 : Int32) (a4 : Int32), fX7_toldLinks_L15_J82 a1 a2 a3 a4 sg = some oL → PW tbC RX7 cX7_toldLinks 7 (some .int) 0 0 (PoI oM sg) 82 [(0, .ref 0), (1, .int a1), (2, .int a2), (3, .int a3), (4, .int a4)] [] sg := by
          intro a2 a4 hs
          unfold fX7_toldLinks_L15_J82 at hs
          refine pw_iinc 4 (a4 + 1) [(4, .int (a4 + 1)), (0, .ref 0), (1, .int a1), (2, .int a2), (3, .int a3)] dX7_toldLinks_82 rfl rfl (Nat.le_of_ble_eq_true rfl) rfl ?_
          refine pw_goto 15 dX7_toldLinks_85 (by decide) ?_
          exact PW.sub (lv' := [(0, .ref 0), (1, .int a1), (3, .int a3), (2, .int a2), (4, .int (a4 + 1))]) [1, 2, 4, 3, 0] rfl (hC (a2, (a4 + 1)) (Option.some.inj hs).symm)
        have J75 : ∀ (a2 : Int32) (a4 : Int32) (s0 : Int32), fX7_toldLinks_L15_J75 a1 a2 a3 a4 s0 sg = some oL → PW tbC RX7 cX7_toldLinks 7 (some .int) 0 0 (PoI oM sg) 75 [(0, .ref 0), (1, .int a1), (2, .int a2), (3, .int a3), (4, .int a4)] [.int s0] sg := by
          intro a2 a4 s0 hs
          unfold fX7_toldLinks_L15_J75 at hs
          refine pw_iload_n 1 dX7_toldLinks_75 rfl rfl ?_
          refine pw_icmp_ne 82 dX7_toldLinks_76 (by decide) (fun c_9 => ?_) (fun c_9 => ?_)
          · rw [if_neg c_9] at hs
            exact PW.sub (lv' := [(0, .ref 0), (1, .int a1), (2, .int a2), (3, .int a3), (4, .int a4)]) [0, 1, 2, 3, 4] rfl (J82 a2 a4 hs)
          · rw [if_pos c_9] at hs
            refine pw_iinc 2 (a2 + 1) [(2, .int (a2 + 1)), (0, .ref 0), (1, .int a1), (3, .int a3), (4, .int a4)] dX7_toldLinks_79 rfl rfl (Nat.le_of_ble_eq_true rfl) rfl ?_
            exact PW.sub (lv' := [(0, .ref 0), (1, .int a1), (2, .int (a2 + 1)), (3, .int a3), (4, .int a4)]) [1, 2, 0, 3, 4] rfl (J82 (a2 + 1) a4 hs)
        refine pw_iload 4 dX7_toldLinks_15 rfl ?_
        refine pw_bipush (8 : Int32) dX7_toldLinks_17 (by decide) ?_
        refine pw_icmp_ge 88 dX7_toldLinks_19 (by decide) (fun c_8 => ?_) (fun c_8 => ?_)
        · rw [if_pos c_8] at hs
          exact PW.sub (lv' := [(0, .ref 0), (1, .int a1), (3, .int a3), (2, .int a2), (4, .int a4)]) [0, 1, 2, 3, 4] rfl (hE (a2, a4) (Option.some.inj hs).symm)
        · rw [if_neg c_8] at hs
          refine pw_aload_n 0 dX7_toldLinks_22 rfl rfl ?_
          refine pw_getr 4 dX7_toldLinks_23 clRX7 tC0 (Nat.le_of_ble_eq_true rfl) fRX7_40 rfl ?_
          refine pw_getr 1 dX7_toldLinks_26 clRX2 tC17 (Nat.le_of_ble_eq_true rfl) fRX7_137 rfl ?_
          refine pw_iload_n 2 dX7_toldLinks_29 rfl rfl ?_
          refine pw_bipush (8 : Int32) dX7_toldLinks_30 (by decide) ?_
          refine pw_imul dX7_toldLinks_32 ?_
          refine pw_iload 4 dX7_toldLinks_33 rfl ?_
          refine pw_iadd dX7_toldLinks_35 ?_
          obtain ⟨h_1, hs⟩ := gd_some hs
          refine pw_iaload dX7_toldLinks_36 tC19 (inb_in h_1) ?_
          refine pw_topi (fun a5_2 e_a5_2 => ?_)
          replace hs := lt_use hs e_a5_2
          refine pw_istore [(5, .int a5_2), (0, .ref 0), (1, .int a1), (3, .int a3), (2, .int a2), (4, .int a4)] dX7_toldLinks_37 (Nat.le_of_ble_eq_true rfl) rfl ?_
          refine pw_aload_n 1 dX7_toldLinks_39 rfl rfl ?_
          refine pw_getr 6 dX7_toldLinks_40 clRX7 tC0 (Nat.le_of_ble_eq_true rfl) fRX7_51 rfl ?_
          refine pw_iload_n 3 dX7_toldLinks_43 rfl rfl ?_
          refine pw_bipush (8 : Int32) dX7_toldLinks_44 (by decide) ?_
          refine pw_imul dX7_toldLinks_46 ?_
          refine pw_iload 5 dX7_toldLinks_47 rfl ?_
          refine pw_iadd dX7_toldLinks_49 ?_
          obtain ⟨h_3, hs⟩ := gd_some hs
          refine pw_iaload dX7_toldLinks_50 tC25 (inb_in h_3) ?_
          refine pw_topi (fun a6_4 e_a6_4 => ?_)
          replace hs := lt_use hs e_a6_4
          refine pw_istore [(6, .int a6_4), (5, .int a5_2), (0, .ref 0), (1, .int a1), (3, .int a3), (2, .int a2), (4, .int a4)] dX7_toldLinks_51 (Nat.le_of_ble_eq_true rfl) rfl ?_
          refine pw_iload 1 dX7_toldLinks_53 rfl ?_
          refine pw_if_eq 82 dX7_toldLinks_55 (by decide) (fun c_7 => ?_) (fun c_7 => ?_)
          · rw [if_pos c_7] at hs
            exact PW.sub (lv' := [(0, .ref 0), (1, .int a1), (2, .int a2), (3, .int a3), (4, .int a4)]) [2, 3, 5, 4, 6] rfl (J82 a2 a4 hs)
          · rw [if_neg c_7] at hs
            refine pw_iload 0 dX7_toldLinks_58 rfl ?_
            refine pw_if_eq 82 dX7_toldLinks_60 (by decide) (fun c_6 => ?_) (fun c_6 => ?_)
            · rw [if_pos c_6] at hs
              exact PW.sub (lv' := [(0, .ref 0), (1, .int a1), (2, .int a2), (3, .int a3), (4, .int a4)]) [2, 3, 5, 4, 6] rfl (J82 a2 a4 hs)
            · rw [if_neg c_6] at hs
              refine pw_iload 0 dX7_toldLinks_63 rfl ?_
              refine pw_iload 1 dX7_toldLinks_65 rfl ?_
              refine pw_icmp_ne 74 dX7_toldLinks_67 (by decide) (fun c_5 => ?_) (fun c_5 => ?_)
              · rw [if_neg c_5] at hs
                refine pw_iconst (0 : Int32) dX7_toldLinks_74 (by decide) ?_
                exact PW.sub (lv' := [(0, .ref 0), (1, .int a1), (2, .int a2), (3, .int a3), (4, .int a4)]) [2, 3, 5, 4, 6] rfl (J75 a2 a4 (0 : Int32) hs)
              · rw [if_pos c_5] at hs
                refine pw_iconst (1 : Int32) dX7_toldLinks_70 (by decide) ?_
                refine pw_goto 75 dX7_toldLinks_71 (by decide) ?_
                exact PW.sub (lv' := [(0, .ref 0), (1, .int a1), (2, .int a2), (3, .int a3), (4, .int a4)]) [2, 3, 5, 4, 6] rfl (J75 a2 a4 (1 : Int32) hs)
      · skip
        obtain ⟨a2_10, a4_11⟩ := t
        replace hs : fX7_toldLinks_L4_E88 a1 a3 a2_10 a4_11 sg = some oL := hs
        show PW tbC RX7 cX7_toldLinks 7 (some .int) 0 0 (PoI oM sg) 88 [(0, .ref 0), (1, .int a1), (3, .int a3), (2, .int a2_10), (4, .int a4_11)] [] sg
        unfold fX7_toldLinks_L4_E88 at hs
        refine pw_iinc 2 (a3 + 1) [(3, .int (a3 + 1)), (0, .ref 0), (1, .int a1), (2, .int a2_10), (4, .int a4_11)] dX7_toldLinks_88 rfl rfl (Nat.le_of_ble_eq_true rfl) rfl ?_
        refine pw_goto 4 dX7_toldLinks_91 (by decide) ?_
        exact PW.sub (lv' := [(0, .ref 0), (1, .int a1), (2, .int a2_10), (3, .int (a3 + 1))]) [1, 2, 3, 0] rfl (hC (a2_10, (a3 + 1)) (Option.some.inj hs).symm)
  · skip
    obtain ⟨a2_13, a3_14⟩ := t
    replace hs : fX7_toldLinks_E94 a1 a2_13 a3_14 sg = some oM := hs
    show PW tbC RX7 cX7_toldLinks 7 (some .int) 0 0 (PoI oM sg) 94 [(0, .ref 0), (1, .int a1), (2, .int a2_13), (3, .int a3_14)] [] sg
    unfold fX7_toldLinks_E94 at hs
    refine pw_iload_n 2 dX7_toldLinks_94 rfl rfl ?_
    have hr := Option.some.inj hs
    exact pw_ireturn dX7_toldLinks_95 rfl ⟨by rw [hr], rfl⟩
set_option maxRecDepth 100000 in
set_option maxHeartbeats 400000 in
theorem conX7_count {sg : Sg} {a1 : Int32} {oM : Int32} (h : fX7_count a1 sg = some oM) : Con tbC yX7_count cX7_count 2 (some .int) 3 69 [.ref 0, .int a1] sg (PoI oM sg) := by
  refine Con.of (by decide) (Nat.le_of_ble_eq_true rfl) ?_
  show PW tbC RX7 cX7_count 2 (some .int) 3 69 (PoI oM sg) 0 [(0, .ref 0), (1, .int a1)] [] sg
  have hs := h
  unfold fX7_count at hs
  refine pw_iload_n 1 dX7_count_0 rfl rfl ?_
  by_cases c_1 : a1 = (0 : Int32)
  · rw [if_pos c_1] at hs
    refine pw_tableIn (off := 63) 64 dX7_count_1 (by rw [c_1]; decide) (by rw [c_1]; decide) (by rw [c_1]; rfl) (by decide) ?_
    refine pw_aload_n 0 dX7_count_64 rfl rfl ?_
    refine pw_getr 1 dX7_count_65 clRX7 tC0 (Nat.le_of_ble_eq_true rfl) fRX7_19 rfl ?_
    refine pw_geti 4 dX7_count_68 clRX6 tC3 (Nat.le_of_ble_eq_true rfl) fRX7_80 rfl ?_
    have hr := Option.some.inj hs
    exact pw_ireturn dX7_count_71 rfl ⟨by rw [hr], rfl⟩
  · rw [if_neg c_1] at hs
    by_cases c_4 : a1 = (1 : Int32)
    · rw [if_pos c_4] at hs
      refine pw_tableIn (off := 71) 72 dX7_count_1 (by rw [c_4]; decide) (by rw [c_4]; decide) (by rw [c_4]; rfl) (by decide) ?_
      refine pw_aload_n 0 dX7_count_72 rfl rfl ?_
      refine pw_getr 2 dX7_count_73 clRX7 tC0 (Nat.le_of_ble_eq_true rfl) fRX7_26 rfl ?_
      obtain ⟨r_3, hc_2, hs⟩ := Option.bind_eq_some_iff.mp hs
      refine pw_callVi [] (st := []) dX7_count_76 tC8 rfl mRX7_166 imX1_total seX1_total inRX1 coX1_total hyX1_total (by decide) (Nat.le_of_ble_eq_true rfl) (conX1_total hc_2) ?_
      have hr := Option.some.inj hs
      exact pw_ireturn dX7_count_79 rfl ⟨by rw [hr], rfl⟩
    · rw [if_neg c_4] at hs
      by_cases c_9 : a1 = (2 : Int32)
      · rw [if_pos c_9] at hs
        refine pw_tableIn (off := 79) 80 dX7_count_1 (by rw [c_9]; decide) (by rw [c_9]; decide) (by rw [c_9]; rfl) (by decide) ?_
        refine pw_aload_n 0 dX7_count_80 rfl rfl ?_
        refine pw_getr 4 dX7_count_81 clRX7 tC0 (Nat.le_of_ble_eq_true rfl) fRX7_40 rfl ?_
        refine pw_iconst (1 : Int32) dX7_count_84 (by decide) ?_
        obtain ⟨r_6, hc_5, hs⟩ := Option.bind_eq_some_iff.mp hs
        refine pw_callVi [.int (1 : Int32)] (st := []) dX7_count_85 tC17 rfl mRX7_169 imX2_named seX2_named inRX2 coX2_named hyX2_named (by decide) (Nat.le_of_ble_eq_true rfl) (conX2_named hc_5) ?_
        refine pw_aload_n 0 dX7_count_88 rfl rfl ?_
        refine pw_getr 4 dX7_count_89 clRX7 tC0 (Nat.le_of_ble_eq_true rfl) fRX7_40 rfl ?_
        refine pw_iconst (2 : Int32) dX7_count_92 (by decide) ?_
        obtain ⟨r_8, hc_7, hs⟩ := Option.bind_eq_some_iff.mp hs
        refine pw_callVi [.int (2 : Int32)] (st := [.int r_6]) dX7_count_93 tC17 rfl mRX7_169 imX2_named seX2_named inRX2 coX2_named hyX2_named (by decide) (Nat.le_of_ble_eq_true rfl) (conX2_named hc_7) ?_
        refine pw_iadd dX7_count_96 ?_
        have hr := Option.some.inj hs
        exact pw_ireturn dX7_count_97 rfl ⟨by rw [hr], rfl⟩
      · rw [if_neg c_9] at hs
        by_cases c_12 : a1 = (3 : Int32)
        · rw [if_pos c_12] at hs
          refine pw_tableIn (off := 97) 98 dX7_count_1 (by rw [c_12]; decide) (by rw [c_12]; decide) (by rw [c_12]; rfl) (by decide) ?_
          refine pw_aload_n 0 dX7_count_98 rfl rfl ?_
          refine pw_getr 4 dX7_count_99 clRX7 tC0 (Nat.le_of_ble_eq_true rfl) fRX7_40 rfl ?_
          refine pw_iconst (3 : Int32) dX7_count_102 (by decide) ?_
          obtain ⟨r_11, hc_10, hs⟩ := Option.bind_eq_some_iff.mp hs
          refine pw_callVi [.int (3 : Int32)] (st := []) dX7_count_103 tC17 rfl mRX7_169 imX2_named seX2_named inRX2 coX2_named hyX2_named (by decide) (Nat.le_of_ble_eq_true rfl) (conX2_named hc_10) ?_
          have hr := Option.some.inj hs
          exact pw_ireturn dX7_count_106 rfl ⟨by rw [hr], rfl⟩
        · rw [if_neg c_12] at hs
          by_cases c_15 : a1 = (4 : Int32)
          · rw [if_pos c_15] at hs
            refine pw_tableIn (off := 106) 107 dX7_count_1 (by rw [c_15]; decide) (by rw [c_15]; decide) (by rw [c_15]; rfl) (by decide) ?_
            refine pw_aload_n 0 dX7_count_107 rfl rfl ?_
            refine pw_getr 4 dX7_count_108 clRX7 tC0 (Nat.le_of_ble_eq_true rfl) fRX7_40 rfl ?_
            refine pw_iconst (4 : Int32) dX7_count_111 (by decide) ?_
            obtain ⟨r_14, hc_13, hs⟩ := Option.bind_eq_some_iff.mp hs
            refine pw_callVi [.int (4 : Int32)] (st := []) dX7_count_112 tC17 rfl mRX7_169 imX2_named seX2_named inRX2 coX2_named hyX2_named (by decide) (Nat.le_of_ble_eq_true rfl) (conX2_named hc_13) ?_
            have hr := Option.some.inj hs
            exact pw_ireturn dX7_count_115 rfl ⟨by rw [hr], rfl⟩
          · rw [if_neg c_15] at hs
            by_cases c_18 : a1 = (5 : Int32)
            · rw [if_pos c_18] at hs
              refine pw_tableIn (off := 115) 116 dX7_count_1 (by rw [c_18]; decide) (by rw [c_18]; decide) (by rw [c_18]; rfl) (by decide) ?_
              refine pw_aload_n 0 dX7_count_116 rfl rfl ?_
              refine pw_getr 4 dX7_count_117 clRX7 tC0 (Nat.le_of_ble_eq_true rfl) fRX7_40 rfl ?_
              obtain ⟨r_17, hc_16, hs⟩ := Option.bind_eq_some_iff.mp hs
              refine pw_callVi [] (st := []) dX7_count_120 tC17 rfl mRX7_172 imX2_contradictions seX2_contradictions inRX2 coX2_contradictions hyX2_contradictions (by decide) (Nat.le_of_ble_eq_true rfl) (conX2_contradictions hc_16) ?_
              have hr := Option.some.inj hs
              exact pw_ireturn dX7_count_123 rfl ⟨by rw [hr], rfl⟩
            · rw [if_neg c_18] at hs
              by_cases c_21 : a1 = (6 : Int32)
              · rw [if_pos c_21] at hs
                refine pw_tableIn (off := 123) 124 dX7_count_1 (by rw [c_21]; decide) (by rw [c_21]; decide) (by rw [c_21]; rfl) (by decide) ?_
                refine pw_aload_n 0 dX7_count_124 rfl rfl ?_
                obtain ⟨r_20, hc_19, hs⟩ := Option.bind_eq_some_iff.mp hs
                refine pw_callVi [] (st := []) dX7_count_125 tC0 rfl mRX7_175 imX7_waysWithValley seX7_waysWithValley inRX7 coX7_waysWithValley hyX7_waysWithValley (by decide) (Nat.le_of_ble_eq_true rfl) (conX7_waysWithValley hc_19) ?_
                have hr := Option.some.inj hs
                exact pw_ireturn dX7_count_128 rfl ⟨by rw [hr], rfl⟩
              · rw [if_neg c_21] at hs
                by_cases c_24 : a1 = (7 : Int32)
                · rw [if_pos c_24] at hs
                  refine pw_tableIn (off := 128) 129 dX7_count_1 (by rw [c_24]; decide) (by rw [c_24]; decide) (by rw [c_24]; rfl) (by decide) ?_
                  refine pw_aload_n 0 dX7_count_129 rfl rfl ?_
                  refine pw_iconst (1 : Int32) dX7_count_130 (by decide) ?_
                  obtain ⟨r_23, hc_22, hs⟩ := Option.bind_eq_some_iff.mp hs
                  refine pw_callVi [.int (1 : Int32)] (st := []) dX7_count_131 tC0 rfl mRX7_178 imX7_toldLinks seX7_toldLinks inRX7 coX7_toldLinks hyX7_toldLinks (by decide) (Nat.le_of_ble_eq_true rfl) (conX7_toldLinks hc_22) ?_
                  have hr := Option.some.inj hs
                  exact pw_ireturn dX7_count_134 rfl ⟨by rw [hr], rfl⟩
                · rw [if_neg c_24] at hs
                  by_cases c_27 : a1 = (8 : Int32)
                  · rw [if_pos c_27] at hs
                    refine pw_tableIn (off := 134) 135 dX7_count_1 (by rw [c_27]; decide) (by rw [c_27]; decide) (by rw [c_27]; rfl) (by decide) ?_
                    refine pw_aload_n 0 dX7_count_135 rfl rfl ?_
                    refine pw_iconst (0 : Int32) dX7_count_136 (by decide) ?_
                    obtain ⟨r_26, hc_25, hs⟩ := Option.bind_eq_some_iff.mp hs
                    refine pw_callVi [.int (0 : Int32)] (st := []) dX7_count_137 tC0 rfl mRX7_178 imX7_toldLinks seX7_toldLinks inRX7 coX7_toldLinks hyX7_toldLinks (by decide) (Nat.le_of_ble_eq_true rfl) (conX7_toldLinks hc_25) ?_
                    have hr := Option.some.inj hs
                    exact pw_ireturn dX7_count_140 rfl ⟨by rw [hr], rfl⟩
                  · rw [if_neg c_27] at hs
                    by_cases c_28 : a1 = (9 : Int32)
                    · rw [if_pos c_28] at hs
                      refine pw_tableIn (off := 140) 141 dX7_count_1 (by rw [c_28]; decide) (by rw [c_28]; decide) (by rw [c_28]; rfl) (by decide) ?_
                      refine pw_aload_n 0 dX7_count_141 rfl rfl ?_
                      refine pw_getr 0 dX7_count_142 clRX7 tC0 (Nat.le_of_ble_eq_true rfl) fRX7_10 rfl ?_
                      refine pw_geti 1 dX7_count_145 clRX4 tC1 (Nat.le_of_ble_eq_true rfl) fRX7_65 rfl ?_
                      have hr := Option.some.inj hs
                      exact pw_ireturn dX7_count_148 rfl ⟨by rw [hr], rfl⟩
                    · rw [if_neg c_28] at hs
                      by_cases c_29 : a1 = (10 : Int32)
                      · rw [if_pos c_29] at hs
                        refine pw_tableIn (off := 148) 149 dX7_count_1 (by rw [c_29]; decide) (by rw [c_29]; decide) (by rw [c_29]; rfl) (by decide) ?_
                        refine pw_aload_n 0 dX7_count_149 rfl rfl ?_
                        refine pw_geti 7 dX7_count_150 clRX7 tC0 (Nat.le_of_ble_eq_true rfl) fRX7_55 rfl ?_
                        have hr := Option.some.inj hs
                        exact pw_ireturn dX7_count_153 rfl ⟨by rw [hr], rfl⟩
                      · rw [if_neg c_29] at hs
                        by_cases c_30 : a1 = (11 : Int32)
                        · rw [if_pos c_30] at hs
                          refine pw_tableIn (off := 153) 154 dX7_count_1 (by rw [c_30]; decide) (by rw [c_30]; decide) (by rw [c_30]; rfl) (by decide) ?_
                          refine pw_aload_n 0 dX7_count_154 rfl rfl ?_
                          refine pw_geti 8 dX7_count_155 clRX7 tC0 (Nat.le_of_ble_eq_true rfl) fRX7_59 rfl ?_
                          have hr := Option.some.inj hs
                          exact pw_ireturn dX7_count_158 rfl ⟨by rw [hr], rfl⟩
                        · rw [if_neg c_30] at hs
                          refine pw_tableOut 159 dX7_count_1 (by have := lv_neT c_1 (a := 0) (by decide); have := lv_neT c_4 (a := 1) (by decide); have := lv_neT c_9 (a := 2) (by decide); have := lv_neT c_12 (a := 3) (by decide); have := lv_neT c_15 (a := 4) (by decide); have := lv_neT c_18 (a := 5) (by decide); have := lv_neT c_21 (a := 6) (by decide); have := lv_neT c_24 (a := 7) (by decide); have := lv_neT c_27 (a := 8) (by decide); have := lv_neT c_28 (a := 9) (by decide); have := lv_neT c_29 (a := 10) (by decide); have := lv_neT c_30 (a := 11) (by decide); omega) (by decide) ?_
                          refine pw_sipush (-1002 : Int32) dX7_count_159 (by decide) ?_
                          have hr := Option.some.inj hs
                          exact pw_ireturn dX7_count_162 rfl ⟨by rw [hr], rfl⟩
set_option maxRecDepth 100000 in
set_option maxHeartbeats 400000 in
theorem conX7_digestOfNets {sg : Sg} {a1 : Int64} {oM : Int64} (h : fX7_digestOfNets a1 sg = some oM) : Con tbC yX7_digestOfNets cX7_digestOfNets 7 (some .long) 3 67 [.ref 0, .long a1] sg (PoL oM sg) := by
  refine Con.of (by decide) (Nat.le_of_ble_eq_true rfl) ?_
  show PW tbC RX7 cX7_digestOfNets 7 (some .long) 3 67 (PoL oM sg) 0 [(0, .ref 0), (1, .long a1)] [] sg
  have hs := h
  unfold fX7_digestOfNets at hs
  refine pw_lload_n 1 dX7_digestOfNets_0 rfl rfl ?_
  refine pw_lstore_n [(3, .long a1), (0, .ref 0), (1, .long a1)] dX7_digestOfNets_1 rfl (Nat.le_of_ble_eq_true rfl) rfl ?_
  refine pw_iconst (0 : Int32) dX7_digestOfNets_2 (by decide) ?_
  refine pw_istore [(5, .int (0 : Int32)), (3, .long a1), (0, .ref 0), (1, .long a1)] dX7_digestOfNets_3 (Nat.le_of_ble_eq_true rfl) rfl ?_
  obtain ⟨t, hL, hs⟩ := Option.bind_eq_some_iff.mp hs
  refine PW.sub [2, 1, 0] (lv' := [(0, .ref 0), (3, .long a1), (5, .int (0 : Int32))]) rfl ?_
  refine lpS_pw (T := Int64 × Int32) (X := fun t => PW tbC RX7 cX7_digestOfNets 7 (some .long) 3 67 (PoL oM sg) 5 [(0, .ref 0), (3, .long t.1), (5, .int t.2)] [] sg) (E := fun t => PW tbC RX7 cX7_digestOfNets 7 (some .long) 3 67 (PoL oM sg) 49 [(0, .ref 0), (3, .long t.1), (5, .int t.2)] [] sg) (step := (fun t => fX7_digestOfNets_L5 sg t.1 t.2)) ?_ 300 (a1, (0 : Int32)) t hL ?_
  · intro t oL hs hE hC
    obtain ⟨a3, a5⟩ := t
    replace hs : fX7_digestOfNets_L5 sg a3 a5 = some oL := hs
    show PW tbC RX7 cX7_digestOfNets 7 (some .long) 3 67 (PoL oM sg) 5 [(0, .ref 0), (3, .long a3), (5, .int a5)] [] sg
    unfold fX7_digestOfNets_L5 at hs
    refine pw_iload 2 dX7_digestOfNets_5 rfl ?_
    refine pw_bipush (8 : Int32) dX7_digestOfNets_7 (by decide) ?_
    refine pw_icmp_ge 49 dX7_digestOfNets_9 (by decide) (fun c_7 => ?_) (fun c_7 => ?_)
    · rw [if_pos c_7] at hs
      exact PW.sub (lv' := [(0, .ref 0), (3, .long a3), (5, .int a5)]) [0, 1, 2] rfl (hE (a3, a5) (Option.some.inj hs).symm)
    · rw [if_neg c_7] at hs
      refine pw_iconst (0 : Int32) dX7_digestOfNets_12 (by decide) ?_
      refine pw_istore [(6, .int (0 : Int32)), (0, .ref 0), (3, .long a3), (5, .int a5)] dX7_digestOfNets_13 (Nat.le_of_ble_eq_true rfl) rfl ?_
      obtain ⟨t, hL, hs⟩ := Option.bind_eq_some_iff.mp hs
      refine PW.sub [1, 3, 2, 0] (lv' := [(0, .ref 0), (5, .int a5), (3, .long a3), (6, .int (0 : Int32))]) rfl ?_
      refine lpS_pw (T := Int64 × Int32) (X := fun t => PW tbC RX7 cX7_digestOfNets 7 (some .long) 3 67 (PoL oM sg) 15 [(0, .ref 0), (5, .int a5), (3, .long t.1), (6, .int t.2)] [] sg) (E := fun t => PW tbC RX7 cX7_digestOfNets 7 (some .long) 3 67 (PoL oM sg) 43 [(0, .ref 0), (5, .int a5), (3, .long t.1), (6, .int t.2)] [] sg) (step := (fun t => fX7_digestOfNets_L15 a5 sg t.1 t.2)) ?_ 300 (a3, (0 : Int32)) t hL ?_
      · intro t oL hs hE hC
        obtain ⟨a3, a6⟩ := t
        replace hs : fX7_digestOfNets_L15 a5 sg a3 a6 = some oL := hs
        show PW tbC RX7 cX7_digestOfNets 7 (some .long) 3 67 (PoL oM sg) 15 [(0, .ref 0), (5, .int a5), (3, .long a3), (6, .int a6)] [] sg
        unfold fX7_digestOfNets_L15 at hs
        refine pw_iload 3 dX7_digestOfNets_15 rfl ?_
        refine pw_iconst (5 : Int32) dX7_digestOfNets_17 (by decide) ?_
        refine pw_icmp_gt 43 dX7_digestOfNets_18 (by decide) (fun c_4 => ?_) (fun c_4 => ?_)
        · rw [if_pos c_4] at hs
          exact PW.sub (lv' := [(0, .ref 0), (5, .int a5), (3, .long a3), (6, .int a6)]) [0, 1, 2, 3] rfl (hE (a3, a6) (Option.some.inj hs).symm)
        · rw [if_neg c_4] at hs
          refine pw_ldc2 dX7_digestOfNets_21 kRX7_213 ?_
          refine pw_lload_n 2 dX7_digestOfNets_24 rfl rfl ?_
          refine pw_lmul dX7_digestOfNets_25 ?_
          refine pw_aload_n 0 dX7_digestOfNets_26 rfl rfl ?_
          refine pw_iload 1 dX7_digestOfNets_27 rfl ?_
          refine pw_iload 3 dX7_digestOfNets_29 rfl ?_
          obtain ⟨r_2, hc_1, hs⟩ := Option.bind_eq_some_iff.mp hs
          refine pw_callVi [.int a5, .int a6] (st := [.long ((31 : Int64) * a3)]) dX7_digestOfNets_31 tC0 rfl mRX7_215 imX7_net seX7_net inRX7 coX7_net hyX7_net (by decide) (Nat.le_of_ble_eq_true rfl) (conX7_net hc_1) ?_
          refine pw_i2l dX7_digestOfNets_34 ?_
          refine pw_ladd dX7_digestOfNets_35 ?_
          refine pw_topl (fun a3_3 e_a3_3 => ?_)
          replace hs := lt_use hs e_a3_3
          refine pw_lstore_n [(3, .long a3_3), (0, .ref 0), (5, .int a5), (6, .int a6)] dX7_digestOfNets_36 rfl (Nat.le_of_ble_eq_true rfl) rfl ?_
          refine pw_iinc 3 (a6 + 1) [(6, .int (a6 + 1)), (3, .long a3_3), (0, .ref 0), (5, .int a5)] dX7_digestOfNets_37 rfl rfl (Nat.le_of_ble_eq_true rfl) rfl ?_
          refine pw_goto 15 dX7_digestOfNets_40 (by decide) ?_
          exact PW.sub (lv' := [(0, .ref 0), (5, .int a5), (3, .long a3_3), (6, .int (a6 + 1))]) [2, 3, 1, 0] rfl (hC (a3_3, (a6 + 1)) (Option.some.inj hs).symm)
      · skip
        obtain ⟨a3_5, a6_6⟩ := t
        replace hs : fX7_digestOfNets_L5_E43 a5 a3_5 a6_6 sg = some oL := hs
        show PW tbC RX7 cX7_digestOfNets 7 (some .long) 3 67 (PoL oM sg) 43 [(0, .ref 0), (5, .int a5), (3, .long a3_5), (6, .int a6_6)] [] sg
        unfold fX7_digestOfNets_L5_E43 at hs
        refine pw_iinc 1 (a5 + 1) [(5, .int (a5 + 1)), (0, .ref 0), (3, .long a3_5), (6, .int a6_6)] dX7_digestOfNets_43 rfl rfl (Nat.le_of_ble_eq_true rfl) rfl ?_
        refine pw_goto 5 dX7_digestOfNets_46 (by decide) ?_
        exact PW.sub (lv' := [(0, .ref 0), (3, .long a3_5), (5, .int (a5 + 1))]) [1, 2, 0] rfl (hC (a3_5, (a5 + 1)) (Option.some.inj hs).symm)
  · skip
    obtain ⟨a3_8, a5_9⟩ := t
    replace hs : fX7_digestOfNets_E49 a3_8 a5_9 sg = some oM := hs
    show PW tbC RX7 cX7_digestOfNets 7 (some .long) 3 67 (PoL oM sg) 49 [(0, .ref 0), (3, .long a3_8), (5, .int a5_9)] [] sg
    unfold fX7_digestOfNets_E49 at hs
    refine pw_iconst (0 : Int32) dX7_digestOfNets_49 (by decide) ?_
    refine pw_istore [(5, .int (0 : Int32)), (0, .ref 0), (3, .long a3_8)] dX7_digestOfNets_50 (Nat.le_of_ble_eq_true rfl) rfl ?_
    obtain ⟨t, hL, hs⟩ := Option.bind_eq_some_iff.mp hs
    refine PW.sub [1, 2, 0] (lv' := [(0, .ref 0), (3, .long a3_8), (5, .int (0 : Int32))]) rfl ?_
    refine lpS_pw (T := Int64 × Int32) (X := fun t => PW tbC RX7 cX7_digestOfNets 7 (some .long) 3 67 (PoL oM sg) 52 [(0, .ref 0), (3, .long t.1), (5, .int t.2)] [] sg) (E := fun t => PW tbC RX7 cX7_digestOfNets 7 (some .long) 3 67 (PoL oM sg) 79 [(0, .ref 0), (3, .long t.1), (5, .int t.2)] [] sg) (step := (fun t => fX7_digestOfNets_L52 sg t.1 t.2)) ?_ 300 (a3_8, (0 : Int32)) t hL ?_
    · intro t oL hs hE hC
      obtain ⟨a3_8, a5_9⟩ := t
      replace hs : fX7_digestOfNets_L52 sg a3_8 a5_9 = some oL := hs
      show PW tbC RX7 cX7_digestOfNets 7 (some .long) 3 67 (PoL oM sg) 52 [(0, .ref 0), (3, .long a3_8), (5, .int a5_9)] [] sg
      unfold fX7_digestOfNets_L52 at hs
      refine pw_iload 2 dX7_digestOfNets_52 rfl ?_
      refine pw_bipush (8 : Int32) dX7_digestOfNets_54 (by decide) ?_
      refine pw_icmp_ge 79 dX7_digestOfNets_56 (by decide) (fun c_13 => ?_) (fun c_13 => ?_)
      · rw [if_pos c_13] at hs
        exact PW.sub (lv' := [(0, .ref 0), (3, .long a3_8), (5, .int a5_9)]) [0, 1, 2] rfl (hE (a3_8, a5_9) (Option.some.inj hs).symm)
      · rw [if_neg c_13] at hs
        refine pw_ldc2 dX7_digestOfNets_59 kRX7_213 ?_
        refine pw_lload_n 1 dX7_digestOfNets_62 rfl rfl ?_
        refine pw_lmul dX7_digestOfNets_63 ?_
        refine pw_aload_n 0 dX7_digestOfNets_64 rfl rfl ?_
        refine pw_iload 2 dX7_digestOfNets_65 rfl ?_
        obtain ⟨r_11, hc_10, hs⟩ := Option.bind_eq_some_iff.mp hs
        refine pw_callVi [.int a5_9] (st := [.long ((31 : Int64) * a3_8)]) dX7_digestOfNets_67 tC0 rfl mRX7_218 imX7_rank seX7_rank inRX7 coX7_rank hyX7_rank (by decide) (Nat.le_of_ble_eq_true rfl) (conX7_rank hc_10) ?_
        refine pw_i2l dX7_digestOfNets_70 ?_
        refine pw_ladd dX7_digestOfNets_71 ?_
        refine pw_topl (fun a3_12 e_a3_12 => ?_)
        replace hs := lt_use hs e_a3_12
        refine pw_lstore_n [(3, .long a3_12), (0, .ref 0), (5, .int a5_9)] dX7_digestOfNets_72 rfl (Nat.le_of_ble_eq_true rfl) rfl ?_
        refine pw_iinc 2 (a5_9 + 1) [(5, .int (a5_9 + 1)), (3, .long a3_12), (0, .ref 0)] dX7_digestOfNets_73 rfl rfl (Nat.le_of_ble_eq_true rfl) rfl ?_
        refine pw_goto 52 dX7_digestOfNets_76 (by decide) ?_
        exact PW.sub (lv' := [(0, .ref 0), (3, .long a3_12), (5, .int (a5_9 + 1))]) [2, 1, 0] rfl (hC (a3_12, (a5_9 + 1)) (Option.some.inj hs).symm)
    · skip
      obtain ⟨a3_14, a5_15⟩ := t
      replace hs : fX7_digestOfNets_E79 a3_14 a5_15 sg = some oM := hs
      show PW tbC RX7 cX7_digestOfNets 7 (some .long) 3 67 (PoL oM sg) 79 [(0, .ref 0), (3, .long a3_14), (5, .int a5_15)] [] sg
      unfold fX7_digestOfNets_E79 at hs
      refine pw_ldc2 dX7_digestOfNets_79 kRX7_213 ?_
      refine pw_lload_n 1 dX7_digestOfNets_82 rfl rfl ?_
      refine pw_lmul dX7_digestOfNets_83 ?_
      refine pw_aload_n 0 dX7_digestOfNets_84 rfl rfl ?_
      obtain ⟨r_17, hc_16, hs⟩ := Option.bind_eq_some_iff.mp hs
      refine pw_callVi [] (st := [.long ((31 : Int64) * a3_14)]) dX7_digestOfNets_85 tC0 rfl mRX7_221 imX7_top seX7_top inRX7 coX7_top hyX7_top (by decide) (Nat.le_of_ble_eq_true rfl) (conX7_top hc_16) ?_
      refine pw_i2l dX7_digestOfNets_88 ?_
      refine pw_ladd dX7_digestOfNets_89 ?_
      have hr := Option.some.inj hs
      exact pw_lreturn dX7_digestOfNets_90 rfl ⟨by rw [hr], rfl⟩
set_option maxRecDepth 100000 in
set_option maxHeartbeats 400000 in
theorem conX7_digestOfPairs {sg : Sg} {a1 : Int64} {oM : Int64} (h : fX7_digestOfPairs a1 sg = some oM) : Con tbC yX7_digestOfPairs cX7_digestOfPairs 8 (some .long) 3 72 [.ref 0, .long a1] sg (PoL oM sg) := by
  refine Con.of (by decide) (Nat.le_of_ble_eq_true rfl) ?_
  show PW tbC RX7 cX7_digestOfPairs 8 (some .long) 3 72 (PoL oM sg) 0 [(0, .ref 0), (1, .long a1)] [] sg
  have hs := h
  unfold fX7_digestOfPairs at hs
  refine pw_lload_n 1 dX7_digestOfPairs_0 rfl rfl ?_
  refine pw_lstore_n [(3, .long a1), (0, .ref 0), (1, .long a1)] dX7_digestOfPairs_1 rfl (Nat.le_of_ble_eq_true rfl) rfl ?_
  refine pw_iconst (0 : Int32) dX7_digestOfPairs_2 (by decide) ?_
  refine pw_istore [(5, .int (0 : Int32)), (3, .long a1), (0, .ref 0), (1, .long a1)] dX7_digestOfPairs_3 (Nat.le_of_ble_eq_true rfl) rfl ?_
  obtain ⟨t, hL, hs⟩ := Option.bind_eq_some_iff.mp hs
  refine PW.sub [2, 1, 0] (lv' := [(0, .ref 0), (3, .long a1), (5, .int (0 : Int32))]) rfl ?_
  refine lpS_pw (T := Int64 × Int32) (X := fun t => PW tbC RX7 cX7_digestOfPairs 8 (some .long) 3 72 (PoL oM sg) 5 [(0, .ref 0), (3, .long t.1), (5, .int t.2)] [] sg) (E := fun t => PW tbC RX7 cX7_digestOfPairs 8 (some .long) 3 72 (PoL oM sg) 70 [(0, .ref 0), (3, .long t.1), (5, .int t.2)] [] sg) (step := (fun t => fX7_digestOfPairs_L5 sg t.1 t.2)) ?_ 300 (a1, (0 : Int32)) t hL ?_
  · intro t oL hs hE hC
    obtain ⟨a3, a5⟩ := t
    replace hs : fX7_digestOfPairs_L5 sg a3 a5 = some oL := hs
    show PW tbC RX7 cX7_digestOfPairs 8 (some .long) 3 72 (PoL oM sg) 5 [(0, .ref 0), (3, .long a3), (5, .int a5)] [] sg
    unfold fX7_digestOfPairs_L5 at hs
    refine pw_iload 2 dX7_digestOfPairs_5 rfl ?_
    refine pw_bipush (8 : Int32) dX7_digestOfPairs_7 (by decide) ?_
    refine pw_icmp_ge 70 dX7_digestOfPairs_9 (by decide) (fun c_10 => ?_) (fun c_10 => ?_)
    · rw [if_pos c_10] at hs
      exact PW.sub (lv' := [(0, .ref 0), (3, .long a3), (5, .int a5)]) [0, 1, 2] rfl (hE (a3, a5) (Option.some.inj hs).symm)
    · rw [if_neg c_10] at hs
      refine pw_iload 2 dX7_digestOfPairs_12 rfl ?_
      refine pw_iconst (1 : Int32) dX7_digestOfPairs_14 (by decide) ?_
      refine pw_iadd dX7_digestOfPairs_15 ?_
      refine pw_istore [(6, .int (a5 + (1 : Int32))), (0, .ref 0), (3, .long a3), (5, .int a5)] dX7_digestOfPairs_16 (Nat.le_of_ble_eq_true rfl) rfl ?_
      obtain ⟨t, hL, hs⟩ := Option.bind_eq_some_iff.mp hs
      refine PW.sub [1, 3, 2, 0] (lv' := [(0, .ref 0), (5, .int a5), (3, .long a3), (6, .int (a5 + (1 : Int32)))]) rfl ?_
      refine lpS_pw (T := Int64 × Int32) (X := fun t => PW tbC RX7 cX7_digestOfPairs 8 (some .long) 3 72 (PoL oM sg) 18 [(0, .ref 0), (5, .int a5), (3, .long t.1), (6, .int t.2)] [] sg) (E := fun t => PW tbC RX7 cX7_digestOfPairs 8 (some .long) 3 72 (PoL oM sg) 64 [(0, .ref 0), (5, .int a5), (3, .long t.1), (6, .int t.2)] [] sg) (step := (fun t => fX7_digestOfPairs_L18 a5 sg t.1 t.2)) ?_ 300 (a3, (a5 + (1 : Int32))) t hL ?_
      · intro t oL hs hE hC
        obtain ⟨a3, a6⟩ := t
        replace hs : fX7_digestOfPairs_L18 a5 sg a3 a6 = some oL := hs
        show PW tbC RX7 cX7_digestOfPairs 8 (some .long) 3 72 (PoL oM sg) 18 [(0, .ref 0), (5, .int a5), (3, .long a3), (6, .int a6)] [] sg
        unfold fX7_digestOfPairs_L18 at hs
        refine pw_iload 3 dX7_digestOfPairs_18 rfl ?_
        refine pw_bipush (8 : Int32) dX7_digestOfPairs_20 (by decide) ?_
        refine pw_icmp_ge 64 dX7_digestOfPairs_22 (by decide) (fun c_7 => ?_) (fun c_7 => ?_)
        · rw [if_pos c_7] at hs
          exact PW.sub (lv' := [(0, .ref 0), (5, .int a5), (3, .long a3), (6, .int a6)]) [0, 1, 2, 3] rfl (hE (a3, a6) (Option.some.inj hs).symm)
        · rw [if_neg c_7] at hs
          refine pw_iconst (0 : Int32) dX7_digestOfPairs_25 (by decide) ?_
          refine pw_istore [(7, .int (0 : Int32)), (0, .ref 0), (5, .int a5), (3, .long a3), (6, .int a6)] dX7_digestOfPairs_26 (Nat.le_of_ble_eq_true rfl) rfl ?_
          obtain ⟨t, hL, hs⟩ := Option.bind_eq_some_iff.mp hs
          refine PW.sub [1, 2, 4, 3, 0] (lv' := [(0, .ref 0), (5, .int a5), (6, .int a6), (3, .long a3), (7, .int (0 : Int32))]) rfl ?_
          refine lpS_pw (T := Int64 × Int32) (X := fun t => PW tbC RX7 cX7_digestOfPairs 8 (some .long) 3 72 (PoL oM sg) 28 [(0, .ref 0), (5, .int a5), (6, .int a6), (3, .long t.1), (7, .int t.2)] [] sg) (E := fun t => PW tbC RX7 cX7_digestOfPairs 8 (some .long) 3 72 (PoL oM sg) 58 [(0, .ref 0), (5, .int a5), (6, .int a6), (3, .long t.1), (7, .int t.2)] [] sg) (step := (fun t => fX7_digestOfPairs_L28 a5 a6 sg t.1 t.2)) ?_ 300 (a3, (0 : Int32)) t hL ?_
          · intro t oL hs hE hC
            obtain ⟨a3, a7⟩ := t
            replace hs : fX7_digestOfPairs_L28 a5 a6 sg a3 a7 = some oL := hs
            show PW tbC RX7 cX7_digestOfPairs 8 (some .long) 3 72 (PoL oM sg) 28 [(0, .ref 0), (5, .int a5), (6, .int a6), (3, .long a3), (7, .int a7)] [] sg
            unfold fX7_digestOfPairs_L28 at hs
            refine pw_iload 4 dX7_digestOfPairs_28 rfl ?_
            refine pw_iconst (4 : Int32) dX7_digestOfPairs_30 (by decide) ?_
            refine pw_icmp_gt 58 dX7_digestOfPairs_31 (by decide) (fun c_4 => ?_) (fun c_4 => ?_)
            · rw [if_pos c_4] at hs
              exact PW.sub (lv' := [(0, .ref 0), (5, .int a5), (6, .int a6), (3, .long a3), (7, .int a7)]) [0, 1, 2, 3, 4] rfl (hE (a3, a7) (Option.some.inj hs).symm)
            · rw [if_neg c_4] at hs
              refine pw_ldc2 dX7_digestOfPairs_34 kRX7_213 ?_
              refine pw_lload_n 3 dX7_digestOfPairs_37 rfl rfl ?_
              refine pw_lmul dX7_digestOfPairs_38 ?_
              refine pw_aload_n 0 dX7_digestOfPairs_39 rfl rfl ?_
              refine pw_iload 1 dX7_digestOfPairs_40 rfl ?_
              refine pw_iload 2 dX7_digestOfPairs_42 rfl ?_
              refine pw_iload 4 dX7_digestOfPairs_44 rfl ?_
              obtain ⟨r_2, hc_1, hs⟩ := Option.bind_eq_some_iff.mp hs
              refine pw_callVi [.int a5, .int a6, .int a7] (st := [.long ((31 : Int64) * a3)]) dX7_digestOfPairs_46 tC0 rfl mRX7_223 imX7_link seX7_link inRX7 coX7_link hyX7_link (by decide) (Nat.le_of_ble_eq_true rfl) (conX7_link hc_1) ?_
              refine pw_i2l dX7_digestOfPairs_49 ?_
              refine pw_ladd dX7_digestOfPairs_50 ?_
              refine pw_topl (fun a3_3 e_a3_3 => ?_)
              replace hs := lt_use hs e_a3_3
              refine pw_lstore_n [(3, .long a3_3), (0, .ref 0), (5, .int a5), (6, .int a6), (7, .int a7)] dX7_digestOfPairs_51 rfl (Nat.le_of_ble_eq_true rfl) rfl ?_
              refine pw_iinc 4 (a7 + 1) [(7, .int (a7 + 1)), (3, .long a3_3), (0, .ref 0), (5, .int a5), (6, .int a6)] dX7_digestOfPairs_52 rfl rfl (Nat.le_of_ble_eq_true rfl) rfl ?_
              refine pw_goto 28 dX7_digestOfPairs_55 (by decide) ?_
              exact PW.sub (lv' := [(0, .ref 0), (5, .int a5), (6, .int a6), (3, .long a3_3), (7, .int (a7 + 1))]) [2, 3, 4, 1, 0] rfl (hC (a3_3, (a7 + 1)) (Option.some.inj hs).symm)
          · skip
            obtain ⟨a3_5, a7_6⟩ := t
            replace hs : fX7_digestOfPairs_L18_E58 a5 a6 a3_5 a7_6 sg = some oL := hs
            show PW tbC RX7 cX7_digestOfPairs 8 (some .long) 3 72 (PoL oM sg) 58 [(0, .ref 0), (5, .int a5), (6, .int a6), (3, .long a3_5), (7, .int a7_6)] [] sg
            unfold fX7_digestOfPairs_L18_E58 at hs
            refine pw_iinc 2 (a6 + 1) [(6, .int (a6 + 1)), (0, .ref 0), (5, .int a5), (3, .long a3_5), (7, .int a7_6)] dX7_digestOfPairs_58 rfl rfl (Nat.le_of_ble_eq_true rfl) rfl ?_
            refine pw_goto 18 dX7_digestOfPairs_61 (by decide) ?_
            exact PW.sub (lv' := [(0, .ref 0), (5, .int a5), (3, .long a3_5), (6, .int (a6 + 1))]) [1, 2, 3, 0] rfl (hC (a3_5, (a6 + 1)) (Option.some.inj hs).symm)
      · skip
        obtain ⟨a3_8, a6_9⟩ := t
        replace hs : fX7_digestOfPairs_L5_E64 a5 a3_8 a6_9 sg = some oL := hs
        show PW tbC RX7 cX7_digestOfPairs 8 (some .long) 3 72 (PoL oM sg) 64 [(0, .ref 0), (5, .int a5), (3, .long a3_8), (6, .int a6_9)] [] sg
        unfold fX7_digestOfPairs_L5_E64 at hs
        refine pw_iinc 1 (a5 + 1) [(5, .int (a5 + 1)), (0, .ref 0), (3, .long a3_8), (6, .int a6_9)] dX7_digestOfPairs_64 rfl rfl (Nat.le_of_ble_eq_true rfl) rfl ?_
        refine pw_goto 5 dX7_digestOfPairs_67 (by decide) ?_
        exact PW.sub (lv' := [(0, .ref 0), (3, .long a3_8), (5, .int (a5 + 1))]) [1, 2, 0] rfl (hC (a3_8, (a5 + 1)) (Option.some.inj hs).symm)
  · skip
    obtain ⟨a3_11, a5_12⟩ := t
    replace hs : fX7_digestOfPairs_E70 a3_11 a5_12 sg = some oM := hs
    show PW tbC RX7 cX7_digestOfPairs 8 (some .long) 3 72 (PoL oM sg) 70 [(0, .ref 0), (3, .long a3_11), (5, .int a5_12)] [] sg
    unfold fX7_digestOfPairs_E70 at hs
    refine pw_iconst (0 : Int32) dX7_digestOfPairs_70 (by decide) ?_
    refine pw_istore [(5, .int (0 : Int32)), (0, .ref 0), (3, .long a3_11)] dX7_digestOfPairs_71 (Nat.le_of_ble_eq_true rfl) rfl ?_
    obtain ⟨t, hL, hs⟩ := Option.bind_eq_some_iff.mp hs
    refine PW.sub [1, 2, 0] (lv' := [(0, .ref 0), (3, .long a3_11), (5, .int (0 : Int32))]) rfl ?_
    refine lpS_pw (T := Int64 × Int32) (X := fun t => PW tbC RX7 cX7_digestOfPairs 8 (some .long) 3 72 (PoL oM sg) 73 [(0, .ref 0), (3, .long t.1), (5, .int t.2)] [] sg) (E := fun t => PW tbC RX7 cX7_digestOfPairs 8 (some .long) 3 72 (PoL oM sg) 119 [(0, .ref 0), (3, .long t.1), (5, .int t.2)] [] sg) (step := (fun t => fX7_digestOfPairs_L73 sg t.1 t.2)) ?_ 300 (a3_11, (0 : Int32)) t hL ?_
    · intro t oL hs hE hC
      obtain ⟨a3_11, a5_12⟩ := t
      replace hs : fX7_digestOfPairs_L73 sg a3_11 a5_12 = some oL := hs
      show PW tbC RX7 cX7_digestOfPairs 8 (some .long) 3 72 (PoL oM sg) 73 [(0, .ref 0), (3, .long a3_11), (5, .int a5_12)] [] sg
      unfold fX7_digestOfPairs_L73 at hs
      refine pw_iload 2 dX7_digestOfPairs_73 rfl ?_
      refine pw_bipush (8 : Int32) dX7_digestOfPairs_75 (by decide) ?_
      refine pw_icmp_ge 119 dX7_digestOfPairs_77 (by decide) (fun c_19 => ?_) (fun c_19 => ?_)
      · rw [if_pos c_19] at hs
        exact PW.sub (lv' := [(0, .ref 0), (3, .long a3_11), (5, .int a5_12)]) [0, 1, 2] rfl (hE (a3_11, a5_12) (Option.some.inj hs).symm)
      · rw [if_neg c_19] at hs
        refine pw_iconst (0 : Int32) dX7_digestOfPairs_80 (by decide) ?_
        refine pw_istore [(6, .int (0 : Int32)), (0, .ref 0), (3, .long a3_11), (5, .int a5_12)] dX7_digestOfPairs_81 (Nat.le_of_ble_eq_true rfl) rfl ?_
        obtain ⟨t, hL, hs⟩ := Option.bind_eq_some_iff.mp hs
        refine PW.sub [1, 3, 2, 0] (lv' := [(0, .ref 0), (5, .int a5_12), (3, .long a3_11), (6, .int (0 : Int32))]) rfl ?_
        refine lpS_pw (T := Int64 × Int32) (X := fun t => PW tbC RX7 cX7_digestOfPairs 8 (some .long) 3 72 (PoL oM sg) 83 [(0, .ref 0), (5, .int a5_12), (3, .long t.1), (6, .int t.2)] [] sg) (E := fun t => PW tbC RX7 cX7_digestOfPairs 8 (some .long) 3 72 (PoL oM sg) 113 [(0, .ref 0), (5, .int a5_12), (3, .long t.1), (6, .int t.2)] [] sg) (step := (fun t => fX7_digestOfPairs_L83 a5_12 sg t.1 t.2)) ?_ 300 (a3_11, (0 : Int32)) t hL ?_
        · intro t oL hs hE hC
          obtain ⟨a3_11, a6⟩ := t
          replace hs : fX7_digestOfPairs_L83 a5_12 sg a3_11 a6 = some oL := hs
          show PW tbC RX7 cX7_digestOfPairs 8 (some .long) 3 72 (PoL oM sg) 83 [(0, .ref 0), (5, .int a5_12), (3, .long a3_11), (6, .int a6)] [] sg
          unfold fX7_digestOfPairs_L83 at hs
          refine pw_iload 3 dX7_digestOfPairs_83 rfl ?_
          refine pw_bipush (8 : Int32) dX7_digestOfPairs_85 (by decide) ?_
          refine pw_icmp_ge 113 dX7_digestOfPairs_87 (by decide) (fun c_16 => ?_) (fun c_16 => ?_)
          · rw [if_pos c_16] at hs
            exact PW.sub (lv' := [(0, .ref 0), (5, .int a5_12), (3, .long a3_11), (6, .int a6)]) [0, 1, 2, 3] rfl (hE (a3_11, a6) (Option.some.inj hs).symm)
          · rw [if_neg c_16] at hs
            refine pw_ldc2 dX7_digestOfPairs_90 kRX7_213 ?_
            refine pw_lload_n 2 dX7_digestOfPairs_93 rfl rfl ?_
            refine pw_lmul dX7_digestOfPairs_94 ?_
            refine pw_aload_n 0 dX7_digestOfPairs_95 rfl rfl ?_
            refine pw_iload 1 dX7_digestOfPairs_96 rfl ?_
            refine pw_iload 3 dX7_digestOfPairs_98 rfl ?_
            refine pw_iconst (0 : Int32) dX7_digestOfPairs_100 (by decide) ?_
            obtain ⟨r_14, hc_13, hs⟩ := Option.bind_eq_some_iff.mp hs
            refine pw_callVi [.int a5_12, .int a6, .int (0 : Int32)] (st := [.long ((31 : Int64) * a3_11)]) dX7_digestOfPairs_101 tC0 rfl mRX7_226 imX7_near seX7_near inRX7 coX7_near hyX7_near (by decide) (Nat.le_of_ble_eq_true rfl) (conX7_near hc_13) ?_
            refine pw_i2l dX7_digestOfPairs_104 ?_
            refine pw_ladd dX7_digestOfPairs_105 ?_
            refine pw_topl (fun a3_15 e_a3_15 => ?_)
            replace hs := lt_use hs e_a3_15
            refine pw_lstore_n [(3, .long a3_15), (0, .ref 0), (5, .int a5_12), (6, .int a6)] dX7_digestOfPairs_106 rfl (Nat.le_of_ble_eq_true rfl) rfl ?_
            refine pw_iinc 3 (a6 + 1) [(6, .int (a6 + 1)), (3, .long a3_15), (0, .ref 0), (5, .int a5_12)] dX7_digestOfPairs_107 rfl rfl (Nat.le_of_ble_eq_true rfl) rfl ?_
            refine pw_goto 83 dX7_digestOfPairs_110 (by decide) ?_
            exact PW.sub (lv' := [(0, .ref 0), (5, .int a5_12), (3, .long a3_15), (6, .int (a6 + 1))]) [2, 3, 1, 0] rfl (hC (a3_15, (a6 + 1)) (Option.some.inj hs).symm)
        · skip
          obtain ⟨a3_17, a6_18⟩ := t
          replace hs : fX7_digestOfPairs_L73_E113 a5_12 a3_17 a6_18 sg = some oL := hs
          show PW tbC RX7 cX7_digestOfPairs 8 (some .long) 3 72 (PoL oM sg) 113 [(0, .ref 0), (5, .int a5_12), (3, .long a3_17), (6, .int a6_18)] [] sg
          unfold fX7_digestOfPairs_L73_E113 at hs
          refine pw_iinc 1 (a5_12 + 1) [(5, .int (a5_12 + 1)), (0, .ref 0), (3, .long a3_17), (6, .int a6_18)] dX7_digestOfPairs_113 rfl rfl (Nat.le_of_ble_eq_true rfl) rfl ?_
          refine pw_goto 73 dX7_digestOfPairs_116 (by decide) ?_
          exact PW.sub (lv' := [(0, .ref 0), (3, .long a3_17), (5, .int (a5_12 + 1))]) [1, 2, 0] rfl (hC (a3_17, (a5_12 + 1)) (Option.some.inj hs).symm)
    · skip
      obtain ⟨a3_20, a5_21⟩ := t
      replace hs : fX7_digestOfPairs_E119 a3_20 a5_21 sg = some oM := hs
      show PW tbC RX7 cX7_digestOfPairs 8 (some .long) 3 72 (PoL oM sg) 119 [(0, .ref 0), (3, .long a3_20), (5, .int a5_21)] [] sg
      unfold fX7_digestOfPairs_E119 at hs
      refine pw_lload_n 1 dX7_digestOfPairs_119 rfl rfl ?_
      have hr := Option.some.inj hs
      exact pw_lreturn dX7_digestOfPairs_120 rfl ⟨by rw [hr], rfl⟩
set_option maxRecDepth 100000 in
set_option maxHeartbeats 400000 in
theorem conX4_codeAt {sg : Sg} {a1 : Int32} {oM : Int32} (h : fX4_codeAt a1 sg = some oM) : Con tbC yX4_codeAt cX4_codeAt 2 (some .int) 0 0 [.ref 1, .int a1] sg (PoI oM sg) := by
  refine Con.of (by decide) (Nat.le_of_ble_eq_true rfl) ?_
  show PW tbC RX4 cX4_codeAt 2 (some .int) 0 0 (PoI oM sg) 0 [(0, .ref 1), (1, .int a1)] [] sg
  have hs := h
  unfold fX4_codeAt at hs
  have J25 : ∀ (s0 : Int32), fX4_codeAt_J25 s0 sg = some oM → PW tbC RX4 cX4_codeAt 2 (some .int) 0 0 (PoI oM sg) 25 [] [.int s0] sg := by
    intro s0 hs
    unfold fX4_codeAt_J25 at hs
    have hr := Option.some.inj hs
    exact pw_ireturn dX4_codeAt_25 rfl ⟨by rw [hr], rfl⟩
  have J24 : fX4_codeAt_J24 sg = some oM → PW tbC RX4 cX4_codeAt 2 (some .int) 0 0 (PoI oM sg) 24 [] [] sg := by
    intro  hs
    unfold fX4_codeAt_J24 at hs
    refine pw_iconst (-1 : Int32) dX4_codeAt_24 (by decide) ?_
    exact PW.sub (lv' := []) [] rfl (J25 (-1 : Int32) hs)
  refine pw_iload_n 1 dX4_codeAt_0 rfl rfl ?_
  refine pw_if_lt 24 dX4_codeAt_1 (by decide) (fun c_3 => ?_) (fun c_3 => ?_)
  · rw [if_pos c_3] at hs
    exact PW.sub (lv' := []) [] rfl (J24  hs)
  · rw [if_neg c_3] at hs
    refine pw_iload_n 1 dX4_codeAt_4 rfl rfl ?_
    refine pw_aload_n 0 dX4_codeAt_5 rfl rfl ?_
    refine pw_geti 1 dX4_codeAt_6 clRX4 tC1 (Nat.le_of_ble_eq_true rfl) fRX4_15 rfl ?_
    refine pw_icmp_ge 24 dX4_codeAt_9 (by decide) (fun c_2 => ?_) (fun c_2 => ?_)
    · rw [if_pos c_2] at hs
      exact PW.sub (lv' := []) [] rfl (J24  hs)
    · rw [if_neg c_2] at hs
      refine pw_aload_n 0 dX4_codeAt_12 rfl rfl ?_
      refine pw_getr 0 dX4_codeAt_13 clRX4 tC1 (Nat.le_of_ble_eq_true rfl) fRX4_9 rfl ?_
      refine pw_iload_n 1 dX4_codeAt_16 rfl rfl ?_
      obtain ⟨h_1, hs⟩ := gd_some hs
      refine pw_iaload dX4_codeAt_17 tC2 (inb_in h_1) ?_
      refine pw_bipush (48 : Int32) dX4_codeAt_18 (by decide) ?_
      refine pw_iadd dX4_codeAt_20 ?_
      refine pw_goto 25 dX4_codeAt_21 (by decide) ?_
      exact PW.sub (lv' := []) [] rfl (J25 ((rd sg 2 (Int32.toNatClampNeg a1)) + (48 : Int32)) hs)
set_option maxRecDepth 100000 in
set_option maxHeartbeats 400000 in
theorem conX7_digestOfTheRest {sg : Sg} {a1 : Int64} {oM : Int64} (h : fX7_digestOfTheRest a1 sg = some oM) : Con tbC yX7_digestOfTheRest cX7_digestOfTheRest 7 (some .long) 4 90 [.ref 0, .long a1] sg (PoL oM sg) := by
  refine Con.of (by decide) (Nat.le_of_ble_eq_true rfl) ?_
  show PW tbC RX7 cX7_digestOfTheRest 7 (some .long) 4 90 (PoL oM sg) 0 [(0, .ref 0), (1, .long a1)] [] sg
  have hs := h
  unfold fX7_digestOfTheRest at hs
  refine pw_lload_n 1 dX7_digestOfTheRest_0 rfl rfl ?_
  refine pw_lstore_n [(3, .long a1), (0, .ref 0), (1, .long a1)] dX7_digestOfTheRest_1 rfl (Nat.le_of_ble_eq_true rfl) rfl ?_
  refine pw_iconst (0 : Int32) dX7_digestOfTheRest_2 (by decide) ?_
  refine pw_istore [(5, .int (0 : Int32)), (3, .long a1), (0, .ref 0), (1, .long a1)] dX7_digestOfTheRest_3 (Nat.le_of_ble_eq_true rfl) rfl ?_
  obtain ⟨t, hL, hs⟩ := Option.bind_eq_some_iff.mp hs
  refine PW.sub [2, 1, 0] (lv' := [(0, .ref 0), (3, .long a1), (5, .int (0 : Int32))]) rfl ?_
  refine lpS_pw (T := Int64 × Int32) (X := fun t => PW tbC RX7 cX7_digestOfTheRest 7 (some .long) 4 90 (PoL oM sg) 5 [(0, .ref 0), (3, .long t.1), (5, .int t.2)] [] sg) (E := fun t => PW tbC RX7 cX7_digestOfTheRest 7 (some .long) 4 90 (PoL oM sg) 31 [(0, .ref 0), (3, .long t.1), (5, .int t.2)] [] sg) (step := (fun t => fX7_digestOfTheRest_L5 sg t.1 t.2)) ?_ 300 (a1, (0 : Int32)) t hL ?_
  · intro t oL hs hE hC
    obtain ⟨a3, a5⟩ := t
    replace hs : fX7_digestOfTheRest_L5 sg a3 a5 = some oL := hs
    show PW tbC RX7 cX7_digestOfTheRest 7 (some .long) 4 90 (PoL oM sg) 5 [(0, .ref 0), (3, .long a3), (5, .int a5)] [] sg
    unfold fX7_digestOfTheRest_L5 at hs
    refine pw_iload 2 dX7_digestOfTheRest_5 rfl ?_
    refine pw_iconst (3 : Int32) dX7_digestOfTheRest_7 (by decide) ?_
    refine pw_icmp_gt 31 dX7_digestOfTheRest_8 (by decide) (fun c_4 => ?_) (fun c_4 => ?_)
    · rw [if_pos c_4] at hs
      exact PW.sub (lv' := [(0, .ref 0), (3, .long a3), (5, .int a5)]) [0, 1, 2] rfl (hE (a3, a5) (Option.some.inj hs).symm)
    · rw [if_neg c_4] at hs
      refine pw_ldc2 dX7_digestOfTheRest_11 kRX7_213 ?_
      refine pw_lload_n 1 dX7_digestOfTheRest_14 rfl rfl ?_
      refine pw_lmul dX7_digestOfTheRest_15 ?_
      refine pw_aload_n 0 dX7_digestOfTheRest_16 rfl rfl ?_
      refine pw_iload 2 dX7_digestOfTheRest_17 rfl ?_
      obtain ⟨r_2, hc_1, hs⟩ := Option.bind_eq_some_iff.mp hs
      refine pw_callVi [.int a5] (st := [.long ((31 : Int64) * a3)]) dX7_digestOfTheRest_19 tC0 rfl mRX7_229 imX7_contradicted seX7_contradicted inRX7 coX7_contradicted hyX7_contradicted (by decide) (Nat.le_of_ble_eq_true rfl) (conX7_contradicted hc_1) ?_
      refine pw_i2l dX7_digestOfTheRest_22 ?_
      refine pw_ladd dX7_digestOfTheRest_23 ?_
      refine pw_topl (fun a3_3 e_a3_3 => ?_)
      replace hs := lt_use hs e_a3_3
      refine pw_lstore_n [(3, .long a3_3), (0, .ref 0), (5, .int a5)] dX7_digestOfTheRest_24 rfl (Nat.le_of_ble_eq_true rfl) rfl ?_
      refine pw_iinc 2 (a5 + 1) [(5, .int (a5 + 1)), (3, .long a3_3), (0, .ref 0)] dX7_digestOfTheRest_25 rfl rfl (Nat.le_of_ble_eq_true rfl) rfl ?_
      refine pw_goto 5 dX7_digestOfTheRest_28 (by decide) ?_
      exact PW.sub (lv' := [(0, .ref 0), (3, .long a3_3), (5, .int (a5 + 1))]) [2, 1, 0] rfl (hC (a3_3, (a5 + 1)) (Option.some.inj hs).symm)
  · skip
    obtain ⟨a3_5, a5_6⟩ := t
    replace hs : fX7_digestOfTheRest_E31 a3_5 a5_6 sg = some oM := hs
    show PW tbC RX7 cX7_digestOfTheRest 7 (some .long) 4 90 (PoL oM sg) 31 [(0, .ref 0), (3, .long a3_5), (5, .int a5_6)] [] sg
    unfold fX7_digestOfTheRest_E31 at hs
    refine pw_iconst (0 : Int32) dX7_digestOfTheRest_31 (by decide) ?_
    refine pw_istore [(5, .int (0 : Int32)), (0, .ref 0), (3, .long a3_5)] dX7_digestOfTheRest_32 (Nat.le_of_ble_eq_true rfl) rfl ?_
    obtain ⟨t, hL, hs⟩ := Option.bind_eq_some_iff.mp hs
    refine PW.sub [1, 2, 0] (lv' := [(0, .ref 0), (3, .long a3_5), (5, .int (0 : Int32))]) rfl ?_
    refine lpS_pw (T := Int64 × Int32) (X := fun t => PW tbC RX7 cX7_digestOfTheRest 7 (some .long) 4 90 (PoL oM sg) 34 [(0, .ref 0), (3, .long t.1), (5, .int t.2)] [] sg) (E := fun t => PW tbC RX7 cX7_digestOfTheRest 7 (some .long) 4 90 (PoL oM sg) 83 [(0, .ref 0), (3, .long t.1), (5, .int t.2)] [] sg) (step := (fun t => fX7_digestOfTheRest_L34 sg t.1 t.2)) ?_ 300 (a3_5, (0 : Int32)) t hL ?_
    · intro t oL hs hE hC
      obtain ⟨a3_5, a5_6⟩ := t
      replace hs : fX7_digestOfTheRest_L34 sg a3_5 a5_6 = some oL := hs
      show PW tbC RX7 cX7_digestOfTheRest 7 (some .long) 4 90 (PoL oM sg) 34 [(0, .ref 0), (3, .long a3_5), (5, .int a5_6)] [] sg
      unfold fX7_digestOfTheRest_L34 at hs
      refine pw_iload 2 dX7_digestOfTheRest_34 rfl ?_
      refine pw_aload_n 0 dX7_digestOfTheRest_36 rfl rfl ?_
      refine pw_getr 1 dX7_digestOfTheRest_37 clRX7 tC0 (Nat.le_of_ble_eq_true rfl) fRX7_19 rfl ?_
      refine pw_geti 4 dX7_digestOfTheRest_40 clRX6 tC3 (Nat.le_of_ble_eq_true rfl) fRX7_80 rfl ?_
      refine pw_icmp_ge 83 dX7_digestOfTheRest_43 (by decide) (fun c_13 => ?_) (fun c_13 => ?_)
      · rw [if_pos c_13] at hs
        exact PW.sub (lv' := [(0, .ref 0), (3, .long a3_5), (5, .int a5_6)]) [0, 1, 2] rfl (hE (a3_5, a5_6) (Option.some.inj hs).symm)
      · rw [if_neg c_13] at hs
        refine pw_iconst (0 : Int32) dX7_digestOfTheRest_46 (by decide) ?_
        refine pw_istore [(6, .int (0 : Int32)), (0, .ref 0), (3, .long a3_5), (5, .int a5_6)] dX7_digestOfTheRest_47 (Nat.le_of_ble_eq_true rfl) rfl ?_
        obtain ⟨t, hL, hs⟩ := Option.bind_eq_some_iff.mp hs
        refine PW.sub [1, 3, 2, 0] (lv' := [(0, .ref 0), (5, .int a5_6), (3, .long a3_5), (6, .int (0 : Int32))]) rfl ?_
        refine lpS_pw (T := Int64 × Int32) (X := fun t => PW tbC RX7 cX7_digestOfTheRest 7 (some .long) 4 90 (PoL oM sg) 49 [(0, .ref 0), (5, .int a5_6), (3, .long t.1), (6, .int t.2)] [] sg) (E := fun t => PW tbC RX7 cX7_digestOfTheRest 7 (some .long) 4 90 (PoL oM sg) 77 [(0, .ref 0), (5, .int a5_6), (3, .long t.1), (6, .int t.2)] [] sg) (step := (fun t => fX7_digestOfTheRest_L49 a5_6 sg t.1 t.2)) ?_ 300 (a3_5, (0 : Int32)) t hL ?_
        · intro t oL hs hE hC
          obtain ⟨a3_5, a6⟩ := t
          replace hs : fX7_digestOfTheRest_L49 a5_6 sg a3_5 a6 = some oL := hs
          show PW tbC RX7 cX7_digestOfTheRest 7 (some .long) 4 90 (PoL oM sg) 49 [(0, .ref 0), (5, .int a5_6), (3, .long a3_5), (6, .int a6)] [] sg
          unfold fX7_digestOfTheRest_L49 at hs
          refine pw_iload 3 dX7_digestOfTheRest_49 rfl ?_
          refine pw_iconst (2 : Int32) dX7_digestOfTheRest_51 (by decide) ?_
          refine pw_icmp_gt 77 dX7_digestOfTheRest_52 (by decide) (fun c_10 => ?_) (fun c_10 => ?_)
          · rw [if_pos c_10] at hs
            exact PW.sub (lv' := [(0, .ref 0), (5, .int a5_6), (3, .long a3_5), (6, .int a6)]) [0, 1, 2, 3] rfl (hE (a3_5, a6) (Option.some.inj hs).symm)
          · rw [if_neg c_10] at hs
            refine pw_ldc2 dX7_digestOfTheRest_55 kRX7_213 ?_
            refine pw_lload_n 2 dX7_digestOfTheRest_58 rfl rfl ?_
            refine pw_lmul dX7_digestOfTheRest_59 ?_
            refine pw_aload_n 0 dX7_digestOfTheRest_60 rfl rfl ?_
            refine pw_iload 1 dX7_digestOfTheRest_61 rfl ?_
            refine pw_iload 3 dX7_digestOfTheRest_63 rfl ?_
            obtain ⟨r_8, hc_7, hs⟩ := Option.bind_eq_some_iff.mp hs
            refine pw_callVi [.int a5_6, .int a6] (st := [.long ((31 : Int64) * a3_5)]) dX7_digestOfTheRest_65 tC0 rfl mRX7_232 imX7_seen seX7_seen inRX7 coX7_seen hyX7_seen (by decide) (Nat.le_of_ble_eq_true rfl) (conX7_seen hc_7) ?_
            refine pw_i2l dX7_digestOfTheRest_68 ?_
            refine pw_ladd dX7_digestOfTheRest_69 ?_
            refine pw_topl (fun a3_9 e_a3_9 => ?_)
            replace hs := lt_use hs e_a3_9
            refine pw_lstore_n [(3, .long a3_9), (0, .ref 0), (5, .int a5_6), (6, .int a6)] dX7_digestOfTheRest_70 rfl (Nat.le_of_ble_eq_true rfl) rfl ?_
            refine pw_iinc 3 (a6 + 1) [(6, .int (a6 + 1)), (3, .long a3_9), (0, .ref 0), (5, .int a5_6)] dX7_digestOfTheRest_71 rfl rfl (Nat.le_of_ble_eq_true rfl) rfl ?_
            refine pw_goto 49 dX7_digestOfTheRest_74 (by decide) ?_
            exact PW.sub (lv' := [(0, .ref 0), (5, .int a5_6), (3, .long a3_9), (6, .int (a6 + 1))]) [2, 3, 1, 0] rfl (hC (a3_9, (a6 + 1)) (Option.some.inj hs).symm)
        · skip
          obtain ⟨a3_11, a6_12⟩ := t
          replace hs : fX7_digestOfTheRest_L34_E77 a5_6 a3_11 a6_12 sg = some oL := hs
          show PW tbC RX7 cX7_digestOfTheRest 7 (some .long) 4 90 (PoL oM sg) 77 [(0, .ref 0), (5, .int a5_6), (3, .long a3_11), (6, .int a6_12)] [] sg
          unfold fX7_digestOfTheRest_L34_E77 at hs
          refine pw_iinc 1 (a5_6 + 1) [(5, .int (a5_6 + 1)), (0, .ref 0), (3, .long a3_11), (6, .int a6_12)] dX7_digestOfTheRest_77 rfl rfl (Nat.le_of_ble_eq_true rfl) rfl ?_
          refine pw_goto 34 dX7_digestOfTheRest_80 (by decide) ?_
          exact PW.sub (lv' := [(0, .ref 0), (3, .long a3_11), (5, .int (a5_6 + 1))]) [1, 2, 0] rfl (hC (a3_11, (a5_6 + 1)) (Option.some.inj hs).symm)
    · skip
      obtain ⟨a3_14, a5_15⟩ := t
      replace hs : fX7_digestOfTheRest_E83 a3_14 a5_15 sg = some oM := hs
      show PW tbC RX7 cX7_digestOfTheRest 7 (some .long) 4 90 (PoL oM sg) 83 [(0, .ref 0), (3, .long a3_14), (5, .int a5_15)] [] sg
      unfold fX7_digestOfTheRest_E83 at hs
      refine pw_iconst (0 : Int32) dX7_digestOfTheRest_83 (by decide) ?_
      refine pw_istore [(5, .int (0 : Int32)), (0, .ref 0), (3, .long a3_14)] dX7_digestOfTheRest_84 (Nat.le_of_ble_eq_true rfl) rfl ?_
      obtain ⟨t, hL, hs⟩ := Option.bind_eq_some_iff.mp hs
      refine PW.sub [1, 2, 0] (lv' := [(0, .ref 0), (3, .long a3_14), (5, .int (0 : Int32))]) rfl ?_
      refine lpS_pw (T := Int64 × Int32) (X := fun t => PW tbC RX7 cX7_digestOfTheRest 7 (some .long) 4 90 (PoL oM sg) 86 [(0, .ref 0), (3, .long t.1), (5, .int t.2)] [] sg) (E := fun t => PW tbC RX7 cX7_digestOfTheRest 7 (some .long) 4 90 (PoL oM sg) 121 [(0, .ref 0), (3, .long t.1), (5, .int t.2)] [] sg) (step := (fun t => fX7_digestOfTheRest_L86 sg t.1 t.2)) ?_ 300 (a3_14, (0 : Int32)) t hL ?_
      · intro t oL hs hE hC
        obtain ⟨a3_14, a5_15⟩ := t
        replace hs : fX7_digestOfTheRest_L86 sg a3_14 a5_15 = some oL := hs
        show PW tbC RX7 cX7_digestOfTheRest 7 (some .long) 4 90 (PoL oM sg) 86 [(0, .ref 0), (3, .long a3_14), (5, .int a5_15)] [] sg
        unfold fX7_digestOfTheRest_L86 at hs
        refine pw_iload 2 dX7_digestOfTheRest_86 rfl ?_
        refine pw_aload_n 0 dX7_digestOfTheRest_88 rfl rfl ?_
        refine pw_getr 0 dX7_digestOfTheRest_89 clRX7 tC0 (Nat.le_of_ble_eq_true rfl) fRX7_10 rfl ?_
        refine pw_geti 1 dX7_digestOfTheRest_92 clRX4 tC1 (Nat.le_of_ble_eq_true rfl) fRX7_65 rfl ?_
        refine pw_icmp_ge 121 dX7_digestOfTheRest_95 (by decide) (fun c_19 => ?_) (fun c_19 => ?_)
        · rw [if_pos c_19] at hs
          exact PW.sub (lv' := [(0, .ref 0), (3, .long a3_14), (5, .int a5_15)]) [0, 1, 2] rfl (hE (a3_14, a5_15) (Option.some.inj hs).symm)
        · rw [if_neg c_19] at hs
          refine pw_ldc2 dX7_digestOfTheRest_98 kRX7_213 ?_
          refine pw_lload_n 1 dX7_digestOfTheRest_101 rfl rfl ?_
          refine pw_lmul dX7_digestOfTheRest_102 ?_
          refine pw_aload_n 0 dX7_digestOfTheRest_103 rfl rfl ?_
          refine pw_getr 0 dX7_digestOfTheRest_104 clRX7 tC0 (Nat.le_of_ble_eq_true rfl) fRX7_10 rfl ?_
          refine pw_iload 2 dX7_digestOfTheRest_107 rfl ?_
          obtain ⟨r_17, hc_16, hs⟩ := Option.bind_eq_some_iff.mp hs
          refine pw_callVi [.int a5_15] (st := [.long ((31 : Int64) * a3_14)]) dX7_digestOfTheRest_109 tC1 rfl mRX7_235 imX4_codeAt seX4_codeAt inRX4 coX4_codeAt hyX4_codeAt (by decide) (Nat.le_of_ble_eq_true rfl) (conX4_codeAt hc_16) ?_
          refine pw_i2l dX7_digestOfTheRest_112 ?_
          refine pw_ladd dX7_digestOfTheRest_113 ?_
          refine pw_topl (fun a3_18 e_a3_18 => ?_)
          replace hs := lt_use hs e_a3_18
          refine pw_lstore_n [(3, .long a3_18), (0, .ref 0), (5, .int a5_15)] dX7_digestOfTheRest_114 rfl (Nat.le_of_ble_eq_true rfl) rfl ?_
          refine pw_iinc 2 (a5_15 + 1) [(5, .int (a5_15 + 1)), (3, .long a3_18), (0, .ref 0)] dX7_digestOfTheRest_115 rfl rfl (Nat.le_of_ble_eq_true rfl) rfl ?_
          refine pw_goto 86 dX7_digestOfTheRest_118 (by decide) ?_
          exact PW.sub (lv' := [(0, .ref 0), (3, .long a3_18), (5, .int (a5_15 + 1))]) [2, 1, 0] rfl (hC (a3_18, (a5_15 + 1)) (Option.some.inj hs).symm)
      · skip
        obtain ⟨a3_20, a5_21⟩ := t
        replace hs : fX7_digestOfTheRest_E121 a3_20 a5_21 sg = some oM := hs
        show PW tbC RX7 cX7_digestOfTheRest 7 (some .long) 4 90 (PoL oM sg) 121 [(0, .ref 0), (3, .long a3_20), (5, .int a5_21)] [] sg
        unfold fX7_digestOfTheRest_E121 at hs
        refine pw_iconst (0 : Int32) dX7_digestOfTheRest_121 (by decide) ?_
        refine pw_istore [(5, .int (0 : Int32)), (0, .ref 0), (3, .long a3_20)] dX7_digestOfTheRest_122 (Nat.le_of_ble_eq_true rfl) rfl ?_
        obtain ⟨t, hL, hs⟩ := Option.bind_eq_some_iff.mp hs
        refine PW.sub [1, 2, 0] (lv' := [(0, .ref 0), (3, .long a3_20), (5, .int (0 : Int32))]) rfl ?_
        refine lpS_pw (T := Int64 × Int32) (X := fun t => PW tbC RX7 cX7_digestOfTheRest 7 (some .long) 4 90 (PoL oM sg) 124 [(0, .ref 0), (3, .long t.1), (5, .int t.2)] [] sg) (E := fun t => PW tbC RX7 cX7_digestOfTheRest 7 (some .long) 4 90 (PoL oM sg) 151 [(0, .ref 0), (3, .long t.1), (5, .int t.2)] [] sg) (step := (fun t => fX7_digestOfTheRest_L124 sg t.1 t.2)) ?_ 300 (a3_20, (0 : Int32)) t hL ?_
        · intro t oL hs hE hC
          obtain ⟨a3_20, a5_21⟩ := t
          replace hs : fX7_digestOfTheRest_L124 sg a3_20 a5_21 = some oL := hs
          show PW tbC RX7 cX7_digestOfTheRest 7 (some .long) 4 90 (PoL oM sg) 124 [(0, .ref 0), (3, .long a3_20), (5, .int a5_21)] [] sg
          unfold fX7_digestOfTheRest_L124 at hs
          refine pw_iload 2 dX7_digestOfTheRest_124 rfl ?_
          refine pw_bipush (11 : Int32) dX7_digestOfTheRest_126 (by decide) ?_
          refine pw_icmp_gt 151 dX7_digestOfTheRest_128 (by decide) (fun c_25 => ?_) (fun c_25 => ?_)
          · rw [if_pos c_25] at hs
            exact PW.sub (lv' := [(0, .ref 0), (3, .long a3_20), (5, .int a5_21)]) [0, 1, 2] rfl (hE (a3_20, a5_21) (Option.some.inj hs).symm)
          · rw [if_neg c_25] at hs
            refine pw_ldc2 dX7_digestOfTheRest_131 kRX7_213 ?_
            refine pw_lload_n 1 dX7_digestOfTheRest_134 rfl rfl ?_
            refine pw_lmul dX7_digestOfTheRest_135 ?_
            refine pw_aload_n 0 dX7_digestOfTheRest_136 rfl rfl ?_
            refine pw_iload 2 dX7_digestOfTheRest_137 rfl ?_
            obtain ⟨r_23, hc_22, hs⟩ := Option.bind_eq_some_iff.mp hs
            refine pw_callVi [.int a5_21] (st := [.long ((31 : Int64) * a3_20)]) dX7_digestOfTheRest_139 tC0 rfl mRX7_238 imX7_count seX7_count inRX7 coX7_count hyX7_count (by decide) (Nat.le_of_ble_eq_true rfl) (conX7_count hc_22) ?_
            refine pw_i2l dX7_digestOfTheRest_142 ?_
            refine pw_ladd dX7_digestOfTheRest_143 ?_
            refine pw_topl (fun a3_24 e_a3_24 => ?_)
            replace hs := lt_use hs e_a3_24
            refine pw_lstore_n [(3, .long a3_24), (0, .ref 0), (5, .int a5_21)] dX7_digestOfTheRest_144 rfl (Nat.le_of_ble_eq_true rfl) rfl ?_
            refine pw_iinc 2 (a5_21 + 1) [(5, .int (a5_21 + 1)), (3, .long a3_24), (0, .ref 0)] dX7_digestOfTheRest_145 rfl rfl (Nat.le_of_ble_eq_true rfl) rfl ?_
            refine pw_goto 124 dX7_digestOfTheRest_148 (by decide) ?_
            exact PW.sub (lv' := [(0, .ref 0), (3, .long a3_24), (5, .int (a5_21 + 1))]) [2, 1, 0] rfl (hC (a3_24, (a5_21 + 1)) (Option.some.inj hs).symm)
        · skip
          obtain ⟨a3_26, a5_27⟩ := t
          replace hs : fX7_digestOfTheRest_E151 a3_26 a5_27 sg = some oM := hs
          show PW tbC RX7 cX7_digestOfTheRest 7 (some .long) 4 90 (PoL oM sg) 151 [(0, .ref 0), (3, .long a3_26), (5, .int a5_27)] [] sg
          unfold fX7_digestOfTheRest_E151 at hs
          refine pw_lload_n 1 dX7_digestOfTheRest_151 rfl rfl ?_
          have hr := Option.some.inj hs
          exact pw_lreturn dX7_digestOfTheRest_152 rfl ⟨by rw [hr], rfl⟩
set_option maxRecDepth 100000 in
set_option maxHeartbeats 400000 in
theorem conX7_digest {sg : Sg}  {oM : Int64} (h : fX7_digest  sg = some oM) : Con tbC yX7_digest cX7_digest 3 (some .long) 5 116 [.ref 0] sg (PoL oM sg) := by
  refine Con.of (by decide) (Nat.le_of_ble_eq_true rfl) ?_
  show PW tbC RX7 cX7_digest 3 (some .long) 5 116 (PoL oM sg) 0 [(0, .ref 0)] [] sg
  have hs := h
  unfold fX7_digest at hs
  refine pw_aload_n 0 dX7_digest_0 rfl rfl ?_
  refine pw_ldc2 dX7_digest_1 kRX7_182 ?_
  obtain ⟨r_2, hc_1, hs⟩ := Option.bind_eq_some_iff.mp hs
  refine pw_callVl [.long (1747 : Int64)] (st := []) dX7_digest_4 tC0 rfl mRX7_184 imX7_digestOfNets seX7_digestOfNets inRX7 coX7_digestOfNets hyX7_digestOfNets (by decide) (Nat.le_of_ble_eq_true rfl) (conX7_digestOfNets hc_1) ?_
  refine pw_lstore_n [(1, .long r_2), (0, .ref 0)] dX7_digest_7 rfl (Nat.le_of_ble_eq_true rfl) rfl ?_
  refine pw_aload_n 1 dX7_digest_8 rfl rfl ?_
  refine pw_lload_n 0 dX7_digest_9 rfl rfl ?_
  obtain ⟨r_4, hc_3, hs⟩ := Option.bind_eq_some_iff.mp hs
  refine pw_callVl [.long r_2] (st := []) dX7_digest_10 tC0 rfl mRX7_188 imX7_digestOfPairs seX7_digestOfPairs inRX7 coX7_digestOfPairs hyX7_digestOfPairs (by decide) (Nat.le_of_ble_eq_true rfl) (conX7_digestOfPairs hc_3) ?_
  refine pw_lstore_n [(1, .long r_4), (0, .ref 0)] dX7_digest_13 rfl (Nat.le_of_ble_eq_true rfl) rfl ?_
  refine pw_aload_n 1 dX7_digest_14 rfl rfl ?_
  refine pw_lload_n 0 dX7_digest_15 rfl rfl ?_
  obtain ⟨r_6, hc_5, hs⟩ := Option.bind_eq_some_iff.mp hs
  refine pw_callVl [.long r_4] (st := []) dX7_digest_16 tC0 rfl mRX7_191 imX7_digestOfTheRest seX7_digestOfTheRest inRX7 coX7_digestOfTheRest hyX7_digestOfTheRest (by decide) (Nat.le_of_ble_eq_true rfl) (conX7_digestOfTheRest hc_5) ?_
  have hr := Option.some.inj hs
  exact pw_lreturn dX7_digest_19 rfl ⟨by rw [hr], rfl⟩
