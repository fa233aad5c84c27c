set_option maxRecDepth 100000 in
set_option maxHeartbeats 400000 in
theorem conX8_within {tab : Tb} {sg : Sg} {a0 : Int32} {a1 : Int32} {a2 : Int32} {oM : Int32} (h : fX8_within a0 a1 a2 = some oM) : Con tab yX8_within cX8_within 3 (some .boolean) 0 0 [.int a0, .int a1, .int a2] sg (PoI oM sg) := by
  refine Con.of (by decide) (Nat.le_of_ble_eq_true rfl) ?_
  show PW tab RX8 cX8_within 3 (some .boolean) 0 0 (PoI oM sg) 0 [(0, .int a0), (1, .int a1), (2, .int a2)] [] sg
  have hs := h
  unfold fX8_within at hs
  have J15 : ∀ (s0 : Int32), fX8_within_J15 s0 = some oM → PW tab RX8 cX8_within 3 (some .boolean) 0 0 (PoI oM sg) 15 [] [.int s0] sg := by
    intro s0 hs
    unfold fX8_within_J15 at hs
    obtain ⟨h_3, hs⟩ := gd_some hs
    have hr := Option.some.inj hs
    exact pw_zreturn dX8_within_15 rfl (zb_ok h_3) ⟨by rw [hr], rfl⟩
  have J14 : fX8_within_J14  = some oM → PW tab RX8 cX8_within 3 (some .boolean) 0 0 (PoI oM sg) 14 [] [] sg := by
    intro  hs
    unfold fX8_within_J14 at hs
    refine pw_iconst (0 : Int32) dX8_within_14 (by decide) ?_
    exact PW.sub (lv' := []) [] rfl (J15 (0 : Int32) hs)
  refine pw_iload_n 0 dX8_within_0 rfl rfl ?_
  refine pw_iload_n 1 dX8_within_1 rfl rfl ?_
  refine pw_icmp_lt 14 dX8_within_2 (by decide) (fun c_2 => ?_) (fun c_2 => ?_)
  · rw [if_pos c_2] at hs
    exact PW.sub (lv' := []) [] rfl (J14  hs)
  · rw [if_neg c_2] at hs
    refine pw_iload_n 0 dX8_within_5 rfl rfl ?_
    refine pw_iload_n 2 dX8_within_6 rfl rfl ?_
    refine pw_icmp_gt 14 dX8_within_7 (by decide) (fun c_1 => ?_) (fun c_1 => ?_)
    · rw [if_pos c_1] at hs
      exact PW.sub (lv' := []) [] rfl (J14  hs)
    · rw [if_neg c_1] at hs
      refine pw_iconst (1 : Int32) dX8_within_10 (by decide) ?_
      refine pw_goto 15 dX8_within_11 (by decide) ?_
      exact PW.sub (lv' := []) [] rfl (J15 (1 : Int32) hs)
set_option maxRecDepth 100000 in
set_option maxHeartbeats 400000 in
theorem conX8_letter {sg : Sg} {a1 : Int32} {oM : Int32 × Sg} (h : fX8_letter a1 sg = some oM) : Con tbM yX8_letter cX8_letter 2 (some .int) 1 22 [.ref 0, .int a1] sg (PoI oM.1 oM.2) := by
  refine Con.of (by decide) (Nat.le_of_ble_eq_true rfl) ?_
  show PW tbM RX8 cX8_letter 2 (some .int) 1 22 (PoI oM.1 oM.2) 0 [(0, .ref 0), (1, .int a1)] [] sg
  have hs := h
  unfold fX8_letter at hs
  refine pw_iload_n 1 dX8_letter_0 rfl rfl ?_
  refine pw_bipush (32 : Int32) dX8_letter_1 (by decide) ?_
  refine pw_bipush (126 : Int32) dX8_letter_3 (by decide) ?_
  obtain ⟨r_2, hc_1, hs⟩ := Option.bind_eq_some_iff.mp hs
  refine pw_callSi [.int a1, .int (32 : Int32), .int (126 : Int32)] (st := []) dX8_letter_5 mRX8_55 stX8_within inRX8 coX8_within hyX8_within (by decide) (Nat.le_of_ble_eq_true rfl) (conX8_within hc_1) ?_
  refine pw_if_ne 15 dX8_letter_8 (by decide) (fun c_7 => ?_) (fun c_7 => ?_)
  · rw [if_neg c_7] at hs
    refine pw_aload_n 0 dX8_letter_15 rfl rfl ?_
    refine pw_geti 0 dX8_letter_16 clRX8 tM0 (Nat.le_of_ble_eq_true rfl) fRX8_59 rfl ?_
    refine pw_bipush (6 : Int32) dX8_letter_19 (by decide) ?_
    refine pw_icmp_ne 28 dX8_letter_21 (by decide) (fun c_6 => ?_) (fun c_6 => ?_)
    · rw [if_neg c_6] at hs
      refine pw_aload_n 0 dX8_letter_28 rfl rfl ?_
      refine pw_getr 1 dX8_letter_29 clRX8 tM0 (Nat.le_of_ble_eq_true rfl) fRX8_7 rfl ?_
      refine pw_aload_n 0 dX8_letter_32 rfl rfl ?_
      refine pw_geti 0 dX8_letter_33 clRX8 tM0 (Nat.le_of_ble_eq_true rfl) fRX8_59 rfl ?_
      refine pw_iload_n 1 dX8_letter_36 rfl rfl ?_
      obtain ⟨h_3, hs⟩ := gd_some hs
      refine pw_iastore dX8_letter_37 tM1 (inb_in h_3) ?_
      refine pw_sg (fun sg_4 e_sg_4 => ?_)
      replace hs := lt_use hs e_sg_4
      refine pw_aload_n 0 dX8_letter_38 rfl rfl ?_
      refine pw_dup dX8_letter_39 rfl ?_
      refine pw_geti 0 dX8_letter_40 clRX8 tM0 (Nat.le_of_ble_eq_true rfl) fRX8_59 rfl ?_
      refine pw_iconst (1 : Int32) dX8_letter_43 (by decide) ?_
      refine pw_iadd dX8_letter_44 ?_
      refine pw_puti 0 (fty := .int) dX8_letter_45 clRX8 tM0 (Nat.le_of_ble_eq_true rfl) fRX8_59 rfl rfl (by decide +kernel) rfl rfl ?_
      refine pw_sg (fun sg_5 e_sg_5 => ?_)
      replace hs := lt_use hs e_sg_5
      refine pw_aload_n 0 dX8_letter_48 rfl rfl ?_
      refine pw_geti 0 dX8_letter_49 clRX8 tM0 (Nat.le_of_ble_eq_true rfl) fRX8_59 rfl ?_
      have hr := Option.some.inj hs
      exact pw_ireturn dX8_letter_52 rfl ⟨by rw [← hr], by rw [← hr]⟩
    · rw [if_pos c_6] at hs
      refine pw_sipush (-1004 : Int32) dX8_letter_24 (by decide) ?_
      have hr := Option.some.inj hs
      exact pw_ireturn dX8_letter_27 rfl ⟨by rw [← hr], by rw [← hr]⟩
  · rw [if_pos c_7] at hs
    refine pw_sipush (-1002 : Int32) dX8_letter_11 (by decide) ?_
    have hr := Option.some.inj hs
    exact pw_ireturn dX8_letter_14 rfl ⟨by rw [← hr], by rw [← hr]⟩
set_option maxRecDepth 100000 in
set_option maxHeartbeats 400000 in
theorem conX8_blank {sg : Sg}  {oM : Int32 × Sg} (h : fX8_blank  sg = some oM) : Con tbM yX8_blank cX8_blank 2 (some .int) 0 0 [.ref 0] sg (PoI oM.1 oM.2) := by
  refine Con.of (by decide) (Nat.le_of_ble_eq_true rfl) ?_
  show PW tbM RX8 cX8_blank 2 (some .int) 0 0 (PoI oM.1 oM.2) 0 [(0, .ref 0)] [] sg
  have hs := h
  unfold fX8_blank at hs
  refine pw_aload_n 0 dX8_blank_0 rfl rfl ?_
  refine pw_geti 0 dX8_blank_1 clRX8 tM0 (Nat.le_of_ble_eq_true rfl) fRX8_59 rfl ?_
  refine pw_istore_n [(1, .int (rd sg 0 0)), (0, .ref 0)] dX8_blank_4 rfl (Nat.le_of_ble_eq_true rfl) rfl ?_
  refine pw_aload_n 1 dX8_blank_5 rfl rfl ?_
  refine pw_iconst (0 : Int32) dX8_blank_6 (by decide) ?_
  refine pw_puti 0 (fty := .int) dX8_blank_7 clRX8 tM0 (Nat.le_of_ble_eq_true rfl) fRX8_59 rfl rfl (by decide +kernel) rfl rfl ?_
  refine pw_sg (fun sg_1 e_sg_1 => ?_)
  replace hs := lt_use hs e_sg_1
  refine pw_iload_n 0 dX8_blank_10 rfl rfl ?_
  have hr := Option.some.inj hs
  exact pw_ireturn dX8_blank_11 rfl ⟨by rw [← hr], by rw [← hr]⟩
set_option maxRecDepth 100000 in
set_option maxHeartbeats 400000 in
theorem conX8_isRight {sg : Sg} {a1 : Int32} {oM : Int32} (h : fX8_isRight a1 sg = some oM) : Con tbM yX8_isRight cX8_isRight 4 (some .boolean) 1 22 [.ref 0, .int a1] sg (PoI oM sg) := by
  refine Con.of (by decide) (Nat.le_of_ble_eq_true rfl) ?_
  show PW tbM RX8 cX8_isRight 4 (some .boolean) 1 22 (PoI oM sg) 0 [(0, .ref 0), (1, .int a1)] [] sg
  have hs := h
  unfold fX8_isRight at hs
  refine pw_aload_n 0 dX8_isRight_0 rfl rfl ?_
  refine pw_getr 1 dX8_isRight_1 clRX8 tM0 (Nat.le_of_ble_eq_true rfl) fRX8_7 rfl ?_
  refine pw_iload_n 1 dX8_isRight_4 rfl rfl ?_
  obtain ⟨h_1, hs⟩ := gd_some hs
  refine pw_iaload dX8_isRight_5 tM1 (inb_in h_1) ?_
  refine pw_bipush (48 : Int32) dX8_isRight_6 (by decide) ?_
  refine pw_bipush (55 : Int32) dX8_isRight_8 (by decide) ?_
  obtain ⟨r_3, hc_2, hs⟩ := Option.bind_eq_some_iff.mp hs
  refine pw_callSi [.int (rd sg 1 (Int32.toNatClampNeg a1)), .int (48 : Int32), .int (55 : Int32)] (st := []) dX8_isRight_10 mRX8_55 stX8_within inRX8 coX8_within hyX8_within (by decide) (Nat.le_of_ble_eq_true rfl) (conX8_within hc_2) ?_
  refine pw_istore_n [(2, .int r_3), (0, .ref 0), (1, .int a1)] dX8_isRight_13 rfl (Nat.le_of_ble_eq_true rfl) rfl ?_
  refine pw_iconst (0 : Int32) dX8_isRight_14 (by decide) ?_
  refine pw_istore_n [(3, .int (0 : Int32)), (2, .int r_3), (0, .ref 0), (1, .int a1)] dX8_isRight_15 rfl (Nat.le_of_ble_eq_true rfl) rfl ?_
  obtain ⟨t, hL, hs⟩ := Option.bind_eq_some_iff.mp hs
  refine PW.sub [2, 3, 1, 0] (lv' := [(0, .ref 0), (1, .int a1), (2, .int r_3), (3, .int (0 : Int32))]) rfl ?_
  refine lpS_pw (T := Int32 × Int32) (X := fun t => PW tbM RX8 cX8_isRight 4 (some .boolean) 1 22 (PoI oM sg) 16 [(0, .ref 0), (1, .int a1), (2, .int t.1), (3, .int t.2)] [] sg) (E := fun t => PW tbM RX8 cX8_isRight 4 (some .boolean) 1 22 (PoI oM sg) 52 [(0, .ref 0), (1, .int a1), (2, .int t.1), (3, .int t.2)] [] sg) (step := (fun t => fX8_isRight_L16 a1 sg t.1 t.2)) ?_ 300 (r_3, (0 : Int32)) t hL ?_
  · intro t oL hs hE hC
    obtain ⟨a2, a3⟩ := t
    replace hs : fX8_isRight_L16 a1 sg a2 a3 = some oL := hs
    show PW tbM RX8 cX8_isRight 4 (some .boolean) 1 22 (PoI oM sg) 16 [(0, .ref 0), (1, .int a1), (2, .int a2), (3, .int a3)] [] sg
    unfold fX8_isRight_L16 at hs
    have J45 : ∀ (a3 : Int32) (s0 : Int32), fX8_isRight_L16_J45 a1 a3 s0 sg = some oL → PW tbM RX8 cX8_isRight 4 (some .boolean) 1 22 (PoI oM sg) 45 [(0, .ref 0), (1, .int a1), (3, .int a3)] [.int s0] sg := by
      intro a3 s0 hs
      unfold fX8_isRight_L16_J45 at hs
      refine pw_istore_n [(2, .int s0), (0, .ref 0), (1, .int a1), (3, .int a3)] dX8_isRight_45 rfl (Nat.le_of_ble_eq_true rfl) rfl ?_
      refine pw_iinc 3 (a3 + 1) [(3, .int (a3 + 1)), (2, .int s0), (0, .ref 0), (1, .int a1)] dX8_isRight_46 rfl rfl (Nat.le_of_ble_eq_true rfl) rfl ?_
      refine pw_goto 16 dX8_isRight_49 (by decide) ?_
      exact PW.sub (lv' := [(0, .ref 0), (1, .int a1), (2, .int s0), (3, .int (a3 + 1))]) [2, 3, 1, 0] rfl (hC (s0, (a3 + 1)) (Option.some.inj hs).symm)
    have J44 : ∀ (a3 : Int32), fX8_isRight_L16_J44 a1 a3 sg = some oL → PW tbM RX8 cX8_isRight 4 (some .boolean) 1 22 (PoI oM sg) 44 [(0, .ref 0), (1, .int a1), (3, .int a3)] [] sg := by
      intro a3 hs
      unfold fX8_isRight_L16_J44 at hs
      refine pw_iconst (0 : Int32) dX8_isRight_44 (by decide) ?_
      exact PW.sub (lv' := [(0, .ref 0), (1, .int a1), (3, .int a3)]) [0, 1, 2] rfl (J45 a3 (0 : Int32) hs)
    refine pw_iload_n 3 dX8_isRight_16 rfl rfl ?_
    refine pw_iload_n 1 dX8_isRight_17 rfl rfl ?_
    refine pw_icmp_ge 52 dX8_isRight_18 (by decide) (fun c_8 => ?_) (fun c_8 => ?_)
    · rw [if_pos c_8] at hs
      exact PW.sub (lv' := [(0, .ref 0), (1, .int a1), (2, .int a2), (3, .int a3)]) [0, 1, 2, 3] rfl (hE (a2, a3) (Option.some.inj hs).symm)
    · rw [if_neg c_8] at hs
      refine pw_iload_n 2 dX8_isRight_21 rfl rfl ?_
      refine pw_if_eq 44 dX8_isRight_22 (by decide) (fun c_7 => ?_) (fun c_7 => ?_)
      · rw [if_pos c_7] at hs
        exact PW.sub (lv' := [(0, .ref 0), (1, .int a1), (3, .int a3)]) [0, 1, 3] rfl (J44 a3 hs)
      · rw [if_neg c_7] at hs
        refine pw_aload_n 0 dX8_isRight_25 rfl rfl ?_
        refine pw_getr 1 dX8_isRight_26 clRX8 tM0 (Nat.le_of_ble_eq_true rfl) fRX8_7 rfl ?_
        refine pw_iload_n 3 dX8_isRight_29 rfl rfl ?_
        obtain ⟨h_4, hs⟩ := gd_some hs
        refine pw_iaload dX8_isRight_30 tM1 (inb_in h_4) ?_
        refine pw_aload_n 0 dX8_isRight_31 rfl rfl ?_
        refine pw_getr 1 dX8_isRight_32 clRX8 tM0 (Nat.le_of_ble_eq_true rfl) fRX8_7 rfl ?_
        refine pw_iload_n 1 dX8_isRight_35 rfl rfl ?_
        obtain ⟨h_5, hs⟩ := gd_some hs
        refine pw_iaload dX8_isRight_36 tM1 (inb_in h_5) ?_
        refine pw_icmp_eq 44 dX8_isRight_37 (by decide) (fun c_6 => ?_) (fun c_6 => ?_)
        · rw [if_pos c_6] at hs
          exact PW.sub (lv' := [(0, .ref 0), (1, .int a1), (3, .int a3)]) [0, 1, 3] rfl (J44 a3 hs)
        · rw [if_neg c_6] at hs
          refine pw_iconst (1 : Int32) dX8_isRight_40 (by decide) ?_
          refine pw_goto 45 dX8_isRight_41 (by decide) ?_
          exact PW.sub (lv' := [(0, .ref 0), (1, .int a1), (3, .int a3)]) [0, 1, 3] rfl (J45 a3 (1 : Int32) hs)
  · skip
    obtain ⟨a2_9, a3_10⟩ := t
    replace hs : fX8_isRight_E52 a1 a2_9 a3_10 sg = some oM := hs
    show PW tbM RX8 cX8_isRight 4 (some .boolean) 1 22 (PoI oM sg) 52 [(0, .ref 0), (1, .int a1), (2, .int a2_9), (3, .int a3_10)] [] sg
    unfold fX8_isRight_E52 at hs
    refine pw_iload_n 2 dX8_isRight_52 rfl rfl ?_
    obtain ⟨h_11, hs⟩ := gd_some hs
    have hr := Option.some.inj hs
    exact pw_zreturn dX8_isRight_53 rfl (zb_ok h_11) ⟨by rw [hr], rfl⟩
set_option maxRecDepth 100000 in
set_option maxHeartbeats 400000 in
theorem conX8_rightLetters {sg : Sg}  {oM : Int32} (h : fX8_rightLetters  sg = some oM) : Con tbM yX8_rightLetters cX8_rightLetters 2 (some .int) 2 45 [.ref 0] sg (PoI oM sg) := by
  refine Con.of (by decide) (Nat.le_of_ble_eq_true rfl) ?_
  show PW tbM RX8 cX8_rightLetters 2 (some .int) 2 45 (PoI oM sg) 0 [(0, .ref 0)] [] sg
  have hs := h
  unfold fX8_rightLetters at hs
  refine pw_iconst (0 : Int32) dX8_rightLetters_0 (by decide) ?_
  refine pw_istore_n [(1, .int (0 : Int32)), (0, .ref 0)] dX8_rightLetters_1 rfl (Nat.le_of_ble_eq_true rfl) rfl ?_
  obtain ⟨t, hL, hs⟩ := Option.bind_eq_some_iff.mp hs
  refine PW.sub [1, 0] (lv' := [(0, .ref 0), (1, .int (0 : Int32))]) rfl ?_
  refine lpS_pw (T := Int32) (X := fun t => PW tbM RX8 cX8_rightLetters 2 (some .int) 2 45 (PoI oM sg) 2 [(0, .ref 0), (1, .int t)] [] sg) (E := fun t => PW tbM RX8 cX8_rightLetters 2 (some .int) 2 45 (PoI oM sg) 24 [(0, .ref 0), (1, .int t)] [] sg) (step := (fun t => fX8_rightLetters_L2 sg t)) ?_ 300 (0 : Int32) t hL ?_
  · intro t oL hs hE hC
    obtain ⟨a1, rfl⟩ : ∃ z, z = t := ⟨t, rfl⟩
    replace hs : fX8_rightLetters_L2 sg a1 = some oL := hs
    show PW tbM RX8 cX8_rightLetters 2 (some .int) 2 45 (PoI oM sg) 2 [(0, .ref 0), (1, .int a1)] [] sg
    unfold fX8_rightLetters_L2 at hs
    refine pw_iload_n 1 dX8_rightLetters_2 rfl rfl ?_
    refine pw_aload_n 0 dX8_rightLetters_3 rfl rfl ?_
    refine pw_geti 0 dX8_rightLetters_4 clRX8 tM0 (Nat.le_of_ble_eq_true rfl) fRX8_59 rfl ?_
    refine pw_icmp_ge 24 dX8_rightLetters_7 (by decide) (fun c_4 => ?_) (fun c_4 => ?_)
    · rw [if_pos c_4] at hs
      exact PW.sub (lv' := [(0, .ref 0), (1, .int a1)]) [0, 1] rfl (hE a1 (Option.some.inj hs).symm)
    · rw [if_neg c_4] at hs
      refine pw_aload_n 0 dX8_rightLetters_10 rfl rfl ?_
      refine pw_iload_n 1 dX8_rightLetters_11 rfl rfl ?_
      obtain ⟨r_2, hc_1, hs⟩ := Option.bind_eq_some_iff.mp hs
      refine pw_callVi [.int a1] (st := []) dX8_rightLetters_12 tM0 rfl mRX8_63 imX8_isRight seX8_isRight inRX8 coX8_isRight hyX8_isRight (by decide) (Nat.le_of_ble_eq_true rfl) (conX8_isRight hc_1) ?_
      refine pw_if_eq 24 dX8_rightLetters_15 (by decide) (fun c_3 => ?_) (fun c_3 => ?_)
      · rw [if_pos c_3] at hs
        exact PW.sub (lv' := [(0, .ref 0), (1, .int a1)]) [0, 1] rfl (hE a1 (Option.some.inj hs).symm)
      · rw [if_neg c_3] at hs
        refine pw_iinc 1 (a1 + 1) [(1, .int (a1 + 1)), (0, .ref 0)] dX8_rightLetters_18 rfl rfl (Nat.le_of_ble_eq_true rfl) rfl ?_
        refine pw_goto 2 dX8_rightLetters_21 (by decide) ?_
        exact PW.sub (lv' := [(0, .ref 0), (1, .int (a1 + 1))]) [1, 0] rfl (hC (a1 + 1) (Option.some.inj hs).symm)
  · skip
    obtain ⟨a1_5, rfl⟩ : ∃ z, z = t := ⟨t, rfl⟩
    replace hs : fX8_rightLetters_E24 a1_5 sg = some oM := hs
    show PW tbM RX8 cX8_rightLetters 2 (some .int) 2 45 (PoI oM sg) 24 [(0, .ref 0), (1, .int a1_5)] [] sg
    unfold fX8_rightLetters_E24 at hs
    refine pw_iload_n 1 dX8_rightLetters_24 rfl rfl ?_
    have hr := Option.some.inj hs
    exact pw_ireturn dX8_rightLetters_25 rfl ⟨by rw [hr], rfl⟩
set_option maxRecDepth 100000 in
set_option maxHeartbeats 400000 in
theorem conX8_fault {sg : Sg}  {oM : Int32} (h : fX8_fault  sg = some oM) : Con tbM yX8_fault cX8_fault 1 (some .int) 3 66 [.ref 0] sg (PoI oM sg) := by
  refine Con.of (by decide) (Nat.le_of_ble_eq_true rfl) ?_
  show PW tbM RX8 cX8_fault 1 (some .int) 3 66 (PoI oM sg) 0 [(0, .ref 0)] [] sg
  have hs := h
  unfold fX8_fault at hs
  refine pw_aload_n 0 dX8_fault_0 rfl rfl ?_
  obtain ⟨r_2, hc_1, hs⟩ := Option.bind_eq_some_iff.mp hs
  refine pw_callVi [] (st := []) dX8_fault_1 tM0 rfl mRX8_67 imX8_rightLetters seX8_rightLetters inRX8 coX8_rightLetters hyX8_rightLetters (by decide) (Nat.le_of_ble_eq_true rfl) (conX8_rightLetters hc_1) ?_
  have hr := Option.some.inj hs
  exact pw_ireturn dX8_fault_4 rfl ⟨by rw [hr], rfl⟩
set_option maxRecDepth 100000 in
set_option maxHeartbeats 400000 in
theorem conX8_isWayThere {sg : Sg}  {oM : Int32} (h : fX8_isWayThere  sg = some oM) : Con tbM yX8_isWayThere cX8_isWayThere 1 (some .boolean) 3 66 [.ref 0] sg (PoI oM sg) := by
  refine Con.of (by decide) (Nat.le_of_ble_eq_true rfl) ?_
  show PW tbM RX8 cX8_isWayThere 1 (some .boolean) 3 66 (PoI oM sg) 0 [(0, .ref 0)] [] sg
  have hs := h
  unfold fX8_isWayThere at hs
  have J24 : ∀ (s0 : Int32), fX8_isWayThere_J24 s0 sg = some oM → PW tbM RX8 cX8_isWayThere 1 (some .boolean) 3 66 (PoI oM sg) 24 [] [.int s0] sg := by
    intro s0 hs
    unfold fX8_isWayThere_J24 at hs
    obtain ⟨h_5, hs⟩ := gd_some hs
    have hr := Option.some.inj hs
    exact pw_zreturn dX8_isWayThere_24 rfl (zb_ok h_5) ⟨by rw [hr], rfl⟩
  have J23 : fX8_isWayThere_J23 sg = some oM → PW tbM RX8 cX8_isWayThere 1 (some .boolean) 3 66 (PoI oM sg) 23 [] [] sg := by
    intro  hs
    unfold fX8_isWayThere_J23 at hs
    refine pw_iconst (0 : Int32) dX8_isWayThere_23 (by decide) ?_
    exact PW.sub (lv' := []) [] rfl (J24 (0 : Int32) hs)
  refine pw_aload_n 0 dX8_isWayThere_0 rfl rfl ?_
  refine pw_geti 0 dX8_isWayThere_1 clRX8 tM0 (Nat.le_of_ble_eq_true rfl) fRX8_59 rfl ?_
  refine pw_iconst (1 : Int32) dX8_isWayThere_4 (by decide) ?_
  refine pw_icmp_le 23 dX8_isWayThere_5 (by decide) (fun c_4 => ?_) (fun c_4 => ?_)
  · rw [if_pos c_4] at hs
    exact PW.sub (lv' := []) [] rfl (J23  hs)
  · rw [if_neg c_4] at hs
    refine pw_aload_n 0 dX8_isWayThere_8 rfl rfl ?_
    obtain ⟨r_2, hc_1, hs⟩ := Option.bind_eq_some_iff.mp hs
    refine pw_callVi [] (st := []) dX8_isWayThere_9 tM0 rfl mRX8_67 imX8_rightLetters seX8_rightLetters inRX8 coX8_rightLetters hyX8_rightLetters (by decide) (Nat.le_of_ble_eq_true rfl) (conX8_rightLetters hc_1) ?_
    refine pw_aload_n 0 dX8_isWayThere_12 rfl rfl ?_
    refine pw_geti 0 dX8_isWayThere_13 clRX8 tM0 (Nat.le_of_ble_eq_true rfl) fRX8_59 rfl ?_
    refine pw_icmp_ne 23 dX8_isWayThere_16 (by decide) (fun c_3 => ?_) (fun c_3 => ?_)
    · rw [if_neg c_3] at hs
      exact PW.sub (lv' := []) [] rfl (J23  hs)
    · rw [if_pos c_3] at hs
      refine pw_iconst (1 : Int32) dX8_isWayThere_19 (by decide) ?_
      refine pw_goto 24 dX8_isWayThere_20 (by decide) ?_
      exact PW.sub (lv' := []) [] rfl (J24 (1 : Int32) hs)
set_option maxRecDepth 100000 in
set_option maxHeartbeats 400000 in
theorem conX8_way {sg : Sg}  {oM : Int32 × Sg} (h : fX8_way  sg = some oM) : Con tbM yX8_way cX8_way 2 (some .int) 4 86 [.ref 0] sg (PoI oM.1 oM.2) := by
  refine Con.of (by decide) (Nat.le_of_ble_eq_true rfl) ?_
  show PW tbM RX8 cX8_way 2 (some .int) 4 86 (PoI oM.1 oM.2) 0 [(0, .ref 0)] [] sg
  have hs := h
  unfold fX8_way at hs
  refine pw_aload_n 0 dX8_way_0 rfl rfl ?_
  obtain ⟨r_2, hc_1, hs⟩ := Option.bind_eq_some_iff.mp hs
  refine pw_callVi [] (st := []) dX8_way_1 tM0 rfl mRX8_71 imX8_isWayThere seX8_isWayThere inRX8 coX8_isWayThere hyX8_isWayThere (by decide) (Nat.le_of_ble_eq_true rfl) (conX8_isWayThere hc_1) ?_
  refine pw_if_ne 11 dX8_way_4 (by decide) (fun c_16 => ?_) (fun c_16 => ?_)
  · rw [if_neg c_16] at hs
    refine pw_aload_n 0 dX8_way_11 rfl rfl ?_
    refine pw_geti 2 dX8_way_12 clRX8 tM0 (Nat.le_of_ble_eq_true rfl) fRX8_75 rfl ?_
    refine pw_bipush (12 : Int32) dX8_way_15 (by decide) ?_
    refine pw_icmp_ne 24 dX8_way_17 (by decide) (fun c_15 => ?_) (fun c_15 => ?_)
    · rw [if_neg c_15] at hs
      refine pw_iconst (0 : Int32) dX8_way_24 (by decide) ?_
      refine pw_istore_n [(1, .int (0 : Int32)), (0, .ref 0)] dX8_way_25 rfl (Nat.le_of_ble_eq_true rfl) rfl ?_
      obtain ⟨t, hL, hs⟩ := Option.bind_eq_some_iff.mp hs
      refine PW.sub [1, 0] (lv' := [(0, .ref 0), (1, .int (0 : Int32))]) rfl ?_
      refine lpS_pw (T := Int32 × Sg) (X := fun t => PW tbM RX8 cX8_way 2 (some .int) 4 86 (PoI oM.1 oM.2) 26 [(0, .ref 0), (1, .int t.1)] [] t.2) (E := fun t => PW tbM RX8 cX8_way 2 (some .int) 4 86 (PoI oM.1 oM.2) 63 [(0, .ref 0), (1, .int t.1)] [] t.2) (step := (fun t => fX8_way_L26 t.1 t.2)) ?_ 300 ((0 : Int32), sg) t hL ?_
      · intro t oL hs hE hC
        obtain ⟨a1, sg⟩ := t
        replace hs : fX8_way_L26 a1 sg = some oL := hs
        show PW tbM RX8 cX8_way 2 (some .int) 4 86 (PoI oM.1 oM.2) 26 [(0, .ref 0), (1, .int a1)] [] sg
        unfold fX8_way_L26 at hs
        refine pw_iload_n 1 dX8_way_26 rfl rfl ?_
        refine pw_aload_n 0 dX8_way_27 rfl rfl ?_
        refine pw_geti 0 dX8_way_28 clRX8 tM0 (Nat.le_of_ble_eq_true rfl) fRX8_59 rfl ?_
        refine pw_icmp_ge 63 dX8_way_31 (by decide) (fun c_6 => ?_) (fun c_6 => ?_)
        · rw [if_pos c_6] at hs
          exact PW.sub (lv' := [(0, .ref 0), (1, .int a1)]) [0, 1] rfl (hE (a1, sg) (Option.some.inj hs).symm)
        · rw [if_neg c_6] at hs
          refine pw_aload_n 0 dX8_way_34 rfl rfl ?_
          refine pw_getr 3 dX8_way_35 clRX8 tM0 (Nat.le_of_ble_eq_true rfl) fRX8_13 rfl ?_
          refine pw_bipush (8 : Int32) dX8_way_38 (by decide) ?_
          refine pw_aload_n 0 dX8_way_40 rfl rfl ?_
          refine pw_geti 2 dX8_way_41 clRX8 tM0 (Nat.le_of_ble_eq_true rfl) fRX8_75 rfl ?_
          refine pw_imul dX8_way_44 ?_
          refine pw_iload_n 1 dX8_way_45 rfl rfl ?_
          refine pw_iadd dX8_way_46 ?_
          refine pw_aload_n 0 dX8_way_47 rfl rfl ?_
          refine pw_getr 1 dX8_way_48 clRX8 tM0 (Nat.le_of_ble_eq_true rfl) fRX8_7 rfl ?_
          refine pw_iload_n 1 dX8_way_51 rfl rfl ?_
          obtain ⟨h_3, hs⟩ := gd_some hs
          refine pw_iaload dX8_way_52 tM1 (inb_in h_3) ?_
          refine pw_bipush (48 : Int32) dX8_way_53 (by decide) ?_
          refine pw_isub dX8_way_55 ?_
          obtain ⟨h_4, hs⟩ := gd_some hs
          refine pw_iastore dX8_way_56 tM2 (inb_in h_4) ?_
          refine pw_sg (fun sg_5 e_sg_5 => ?_)
          replace hs := lt_use hs e_sg_5
          refine pw_iinc 1 (a1 + 1) [(1, .int (a1 + 1)), (0, .ref 0)] dX8_way_57 rfl rfl (Nat.le_of_ble_eq_true rfl) rfl ?_
          refine pw_goto 26 dX8_way_60 (by decide) ?_
          exact PW.sub (lv' := [(0, .ref 0), (1, .int (a1 + 1))]) [1, 0] rfl (hC ((a1 + 1), sg_5) (Option.some.inj hs).symm)
      · skip
        obtain ⟨a1_7, sg_8⟩ := t
        replace hs : fX8_way_E63 a1_7 sg_8 = some oM := hs
        show PW tbM RX8 cX8_way 2 (some .int) 4 86 (PoI oM.1 oM.2) 63 [(0, .ref 0), (1, .int a1_7)] [] sg_8
        unfold fX8_way_E63 at hs
        refine pw_aload_n 0 dX8_way_63 rfl rfl ?_
        refine pw_getr 4 dX8_way_64 clRX8 tM0 (Nat.le_of_ble_eq_true rfl) fRX8_16 rfl ?_
        refine pw_aload_n 0 dX8_way_67 rfl rfl ?_
        refine pw_geti 2 dX8_way_68 clRX8 tM0 (Nat.le_of_ble_eq_true rfl) fRX8_75 rfl ?_
        refine pw_aload_n 0 dX8_way_71 rfl rfl ?_
        refine pw_geti 0 dX8_way_72 clRX8 tM0 (Nat.le_of_ble_eq_true rfl) fRX8_59 rfl ?_
        obtain ⟨h_9, hs⟩ := gd_some hs
        refine pw_iastore dX8_way_75 tM3 (inb_in h_9) ?_
        refine pw_sg (fun sg_10 e_sg_10 => ?_)
        replace hs := lt_use hs e_sg_10
        refine pw_aload_n 0 dX8_way_76 rfl rfl ?_
        refine pw_dup dX8_way_77 rfl ?_
        refine pw_geti 2 dX8_way_78 clRX8 tM0 (Nat.le_of_ble_eq_true rfl) fRX8_75 rfl ?_
        refine pw_iconst (1 : Int32) dX8_way_81 (by decide) ?_
        refine pw_iadd dX8_way_82 ?_
        refine pw_puti 2 (fty := .int) dX8_way_83 clRX8 tM0 (Nat.le_of_ble_eq_true rfl) fRX8_75 rfl rfl (by decide +kernel) rfl rfl ?_
        refine pw_sg (fun sg_11 e_sg_11 => ?_)
        replace hs := lt_use hs e_sg_11
        refine pw_aload_n 0 dX8_way_86 rfl rfl ?_
        refine pw_dup dX8_way_87 rfl ?_
        refine pw_geti 7 dX8_way_88 clRX8 tM0 (Nat.le_of_ble_eq_true rfl) fRX8_78 rfl ?_
        refine pw_iconst (1 : Int32) dX8_way_91 (by decide) ?_
        refine pw_iadd dX8_way_92 ?_
        refine pw_puti 7 (fty := .int) dX8_way_93 clRX8 tM0 (Nat.le_of_ble_eq_true rfl) fRX8_78 rfl rfl (by decide +kernel) rfl rfl ?_
        refine pw_sg (fun sg_12 e_sg_12 => ?_)
        replace hs := lt_use hs e_sg_12
        refine pw_aload_n 0 dX8_way_96 rfl rfl ?_
        refine pw_iconst (0 : Int32) dX8_way_97 (by decide) ?_
        refine pw_puti 0 (fty := .int) dX8_way_98 clRX8 tM0 (Nat.le_of_ble_eq_true rfl) fRX8_59 rfl rfl (by decide +kernel) rfl rfl ?_
        refine pw_sg (fun sg_13 e_sg_13 => ?_)
        replace hs := lt_use hs e_sg_13
        refine pw_aload_n 0 dX8_way_101 rfl rfl ?_
        refine pw_iconst (0 : Int32) dX8_way_102 (by decide) ?_
        refine pw_puti 8 (fty := .boolean) dX8_way_103 clRX8 tM0 (Nat.le_of_ble_eq_true rfl) fRX8_81 rfl rfl (by decide +kernel) rfl rfl ?_
        refine pw_sg (fun sg_14 e_sg_14 => ?_)
        replace hs := lt_use hs e_sg_14
        refine pw_aload_n 0 dX8_way_106 rfl rfl ?_
        refine pw_geti 2 dX8_way_107 clRX8 tM0 (Nat.le_of_ble_eq_true rfl) fRX8_75 rfl ?_
        refine pw_iconst (1 : Int32) dX8_way_110 (by decide) ?_
        refine pw_isub dX8_way_111 ?_
        have hr := Option.some.inj hs
        exact pw_ireturn dX8_way_112 rfl ⟨by rw [← hr], by rw [← hr]⟩
    · rw [if_pos c_15] at hs
      refine pw_sipush (-1004 : Int32) dX8_way_20 (by decide) ?_
      have hr := Option.some.inj hs
      exact pw_ireturn dX8_way_23 rfl ⟨by rw [← hr], by rw [← hr]⟩
  · rw [if_pos c_16] at hs
    refine pw_sipush (-1003 : Int32) dX8_way_7 (by decide) ?_
    have hr := Option.some.inj hs
    exact pw_ireturn dX8_way_10 rfl ⟨by rw [← hr], by rw [← hr]⟩
set_option maxRecDepth 100000 in
set_option maxHeartbeats 400000 in
theorem conX8_has {tab : Tb} {sg : Sg} {a0 : Int32} {a1 : Int32} {oM : Int32} (h : fX8_has a0 a1 = some oM) : Con tab yX8_has cX8_has 2 (some .boolean) 0 0 [.int a0, .int a1] sg (PoI oM sg) := by
  refine Con.of (by decide) (Nat.le_of_ble_eq_true rfl) ?_
  show PW tab RX8 cX8_has 2 (some .boolean) 0 0 (PoI oM sg) 0 [(0, .int a0), (1, .int a1)] [] sg
  have hs := h
  unfold fX8_has at hs
  have J14 : ∀ (s0 : Int32), fX8_has_J14 s0 = some oM → PW tab RX8 cX8_has 2 (some .boolean) 0 0 (PoI oM sg) 14 [] [.int s0] sg := by
    intro s0 hs
    unfold fX8_has_J14 at hs
    obtain ⟨h_2, hs⟩ := gd_some hs
    have hr := Option.some.inj hs
    exact pw_zreturn dX8_has_14 rfl (zb_ok h_2) ⟨by rw [hr], rfl⟩
  refine pw_iload_n 0 dX8_has_0 rfl rfl ?_
  refine pw_iload_n 1 dX8_has_1 rfl rfl ?_
  refine pw_ishr dX8_has_2 ?_
  refine pw_iconst (1 : Int32) dX8_has_3 (by decide) ?_
  refine pw_iand dX8_has_4 ?_
  refine pw_iconst (1 : Int32) dX8_has_5 (by decide) ?_
  refine pw_icmp_ne 13 dX8_has_6 (by decide) (fun c_1 => ?_) (fun c_1 => ?_)
  · rw [if_neg c_1] at hs
    refine pw_iconst (0 : Int32) dX8_has_13 (by decide) ?_
    exact PW.sub (lv' := []) [] rfl (J14 (0 : Int32) hs)
  · rw [if_pos c_1] at hs
    refine pw_iconst (1 : Int32) dX8_has_9 (by decide) ?_
    refine pw_goto 14 dX8_has_10 (by decide) ?_
    exact PW.sub (lv' := []) [] rfl (J14 (1 : Int32) hs)
set_option maxRecDepth 100000 in
set_option maxHeartbeats 400000 in
theorem conX8_layTwo {sg : Sg} {a1 : Int32} {a2 : Int32} {oM : Sg} (h : fX8_layTwo a1 a2 sg = some oM) : Con tbM yX8_layTwo cX8_layTwo 5 none 0 0 [.ref 0, .int a1, .int a2] sg (PoV oM) := by
  refine Con.of (by decide) (Nat.le_of_ble_eq_true rfl) ?_
  show PW tbM RX8 cX8_layTwo 5 none 0 0 (PoV oM) 0 [(0, .ref 0), (1, .int a1), (2, .int a2)] [] sg
  have hs := h
  unfold fX8_layTwo at hs
  have J126 : ∀ (sg : Sg), fX8_layTwo_J126 sg = some oM → PW tbM RX8 cX8_layTwo 5 none 0 0 (PoV oM) 126 [] [] sg := by
    intro sg hs
    unfold fX8_layTwo_J126 at hs
    have hr := Option.some.inj hs
    exact pw_return dX8_layTwo_126 rfl ⟨rfl, hr⟩
  refine pw_aload_n 0 dX8_layTwo_0 rfl rfl ?_
  refine pw_getr 9 dX8_layTwo_1 clRX8 tM0 (Nat.le_of_ble_eq_true rfl) fRX8_22 rfl ?_
  refine pw_bipush (8 : Int32) dX8_layTwo_4 (by decide) ?_
  refine pw_iload_n 1 dX8_layTwo_6 rfl rfl ?_
  refine pw_imul dX8_layTwo_7 ?_
  refine pw_iload_n 2 dX8_layTwo_8 rfl rfl ?_
  refine pw_iadd dX8_layTwo_9 ?_
  refine pw_iconst (1 : Int32) dX8_layTwo_10 (by decide) ?_
  refine pw_isub dX8_layTwo_11 ?_
  obtain ⟨h_1, hs⟩ := gd_some hs
  refine pw_iaload dX8_layTwo_12 tM5 (inb_in h_1) ?_
  refine pw_topi (fun a3_2 e_a3_2 => ?_)
  replace hs := lt_use hs e_a3_2
  refine pw_istore_n [(3, .int a3_2), (0, .ref 0), (1, .int a1), (2, .int a2)] dX8_layTwo_13 rfl (Nat.le_of_ble_eq_true rfl) rfl ?_
  refine pw_aload_n 1 dX8_layTwo_14 rfl rfl ?_
  refine pw_getr 9 dX8_layTwo_15 clRX8 tM0 (Nat.le_of_ble_eq_true rfl) fRX8_22 rfl ?_
  refine pw_bipush (8 : Int32) dX8_layTwo_18 (by decide) ?_
  refine pw_iload_n 2 dX8_layTwo_20 rfl rfl ?_
  refine pw_imul dX8_layTwo_21 ?_
  refine pw_iload_n 3 dX8_layTwo_22 rfl rfl ?_
  refine pw_iadd dX8_layTwo_23 ?_
  obtain ⟨h_3, hs⟩ := gd_some hs
  refine pw_iaload dX8_layTwo_24 tM5 (inb_in h_3) ?_
  refine pw_topi (fun a4_4 e_a4_4 => ?_)
  replace hs := lt_use hs e_a4_4
  refine pw_istore [(4, .int a4_4), (3, .int a3_2), (0, .ref 0), (1, .int a1), (2, .int a2)] dX8_layTwo_25 (Nat.le_of_ble_eq_true rfl) rfl ?_
  refine pw_aload_n 2 dX8_layTwo_27 rfl rfl ?_
  refine pw_getr 11 dX8_layTwo_28 clRX8 tM0 (Nat.le_of_ble_eq_true rfl) fRX8_28 rfl ?_
  refine pw_iload_n 1 dX8_layTwo_31 rfl rfl ?_
  refine pw_dup2 dX8_layTwo_32 rfl rfl ?_
  obtain ⟨h_5, hs⟩ := gd_some hs
  refine pw_iaload dX8_layTwo_33 tM7 (inb_in h_5) ?_
  refine pw_iconst (1 : Int32) dX8_layTwo_34 (by decide) ?_
  refine pw_iload 0 dX8_layTwo_35 rfl ?_
  refine pw_ishl dX8_layTwo_37 ?_
  refine pw_ior dX8_layTwo_38 ?_
  obtain ⟨h_6, hs⟩ := gd_some hs
  refine pw_iastore dX8_layTwo_39 tM7 (inb_in h_6) ?_
  refine pw_sg (fun sg_7 e_sg_7 => ?_)
  replace hs := lt_use hs e_sg_7
  refine pw_aload_n 2 dX8_layTwo_40 rfl rfl ?_
  refine pw_getr 11 dX8_layTwo_41 clRX8 tM0 (Nat.le_of_ble_eq_true rfl) fRX8_28 rfl ?_
  refine pw_iload 0 dX8_layTwo_44 rfl ?_
  refine pw_dup2 dX8_layTwo_46 rfl rfl ?_
  obtain ⟨h_8, hs⟩ := gd_some hs
  refine pw_iaload dX8_layTwo_47 tM7 (inb_in h_8) ?_
  refine pw_iconst (1 : Int32) dX8_layTwo_48 (by decide) ?_
  refine pw_iload_n 1 dX8_layTwo_49 rfl rfl ?_
  refine pw_ishl dX8_layTwo_50 ?_
  refine pw_ior dX8_layTwo_51 ?_
  obtain ⟨h_9, hs⟩ := gd_some hs
  refine pw_iastore dX8_layTwo_52 tM7 (inb_in h_9) ?_
  refine pw_sg (fun sg_10 e_sg_10 => ?_)
  replace hs := lt_use hs e_sg_10
  refine pw_aload_n 2 dX8_layTwo_53 rfl rfl ?_
  refine pw_getr 19 dX8_layTwo_54 clRX8 tM0 (Nat.le_of_ble_eq_true rfl) fRX8_43 rfl ?_
  refine pw_bipush (8 : Int32) dX8_layTwo_57 (by decide) ?_
  refine pw_iload_n 1 dX8_layTwo_59 rfl rfl ?_
  refine pw_imul dX8_layTwo_60 ?_
  refine pw_iload 0 dX8_layTwo_61 rfl ?_
  refine pw_iadd dX8_layTwo_63 ?_
  refine pw_dup2 dX8_layTwo_64 rfl rfl ?_
  obtain ⟨h_11, hs⟩ := gd_some hs
  refine pw_iaload dX8_layTwo_65 tM12 (inb_in h_11) ?_
  refine pw_iconst (1 : Int32) dX8_layTwo_66 (by decide) ?_
  refine pw_iadd dX8_layTwo_67 ?_
  obtain ⟨h_12, hs⟩ := gd_some hs
  refine pw_iastore dX8_layTwo_68 tM12 (inb_in h_12) ?_
  refine pw_sg (fun sg_13 e_sg_13 => ?_)
  replace hs := lt_use hs e_sg_13
  refine pw_aload_n 2 dX8_layTwo_69 rfl rfl ?_
  refine pw_getr 19 dX8_layTwo_70 clRX8 tM0 (Nat.le_of_ble_eq_true rfl) fRX8_43 rfl ?_
  refine pw_bipush (8 : Int32) dX8_layTwo_73 (by decide) ?_
  refine pw_iload 0 dX8_layTwo_75 rfl ?_
  refine pw_imul dX8_layTwo_77 ?_
  refine pw_iload_n 1 dX8_layTwo_78 rfl rfl ?_
  refine pw_iadd dX8_layTwo_79 ?_
  refine pw_dup2 dX8_layTwo_80 rfl rfl ?_
  obtain ⟨h_14, hs⟩ := gd_some hs
  refine pw_iaload dX8_layTwo_81 tM12 (inb_in h_14) ?_
  refine pw_iconst (1 : Int32) dX8_layTwo_82 (by decide) ?_
  refine pw_iadd dX8_layTwo_83 ?_
  obtain ⟨h_15, hs⟩ := gd_some hs
  refine pw_iastore dX8_layTwo_84 tM12 (inb_in h_15) ?_
  refine pw_sg (fun sg_16 e_sg_16 => ?_)
  replace hs := lt_use hs e_sg_16
  refine pw_iload_n 4 dX8_layTwo_85 rfl rfl ?_
  refine pw_iconst (1 : Int32) dX8_layTwo_86 (by decide) ?_
  refine pw_iadd dX8_layTwo_87 ?_
  refine pw_aload_n 2 dX8_layTwo_88 rfl rfl ?_
  refine pw_getr 10 dX8_layTwo_89 clRX8 tM0 (Nat.le_of_ble_eq_true rfl) fRX8_25 rfl ?_
  refine pw_iload_n 3 dX8_layTwo_92 rfl rfl ?_
  obtain ⟨h_17, hs⟩ := gd_some hs
  refine pw_iaload dX8_layTwo_93 tM6 (inb_in h_17) ?_
  refine pw_icmp_ge 126 dX8_layTwo_94 (by decide) (fun c_22 => ?_) (fun c_22 => ?_)
  · rw [if_pos c_22] at hs
    exact PW.sub (lv' := []) [] rfl (J126 sg_16 hs)
  · rw [if_neg c_22] at hs
    refine pw_aload_n 2 dX8_layTwo_97 rfl rfl ?_
    refine pw_getr 12 dX8_layTwo_98 clRX8 tM0 (Nat.le_of_ble_eq_true rfl) fRX8_31 rfl ?_
    refine pw_iload 0 dX8_layTwo_101 rfl ?_
    refine pw_dup2 dX8_layTwo_103 rfl rfl ?_
    obtain ⟨h_18, hs⟩ := gd_some hs
    refine pw_iaload dX8_layTwo_104 tM8 (inb_in h_18) ?_
    refine pw_iconst (1 : Int32) dX8_layTwo_105 (by decide) ?_
    refine pw_iload_n 1 dX8_layTwo_106 rfl rfl ?_
    refine pw_ishl dX8_layTwo_107 ?_
    refine pw_iconst (1 : Int32) dX8_layTwo_108 (by decide) ?_
    refine pw_aload_n 2 dX8_layTwo_109 rfl rfl ?_
    refine pw_getr 9 dX8_layTwo_110 clRX8 tM0 (Nat.le_of_ble_eq_true rfl) fRX8_22 rfl ?_
    refine pw_bipush (8 : Int32) dX8_layTwo_113 (by decide) ?_
    refine pw_iload_n 3 dX8_layTwo_115 rfl rfl ?_
    refine pw_imul dX8_layTwo_116 ?_
    refine pw_iload_n 4 dX8_layTwo_117 rfl rfl ?_
    refine pw_iadd dX8_layTwo_118 ?_
    refine pw_iconst (1 : Int32) dX8_layTwo_119 (by decide) ?_
    refine pw_iadd dX8_layTwo_120 ?_
    obtain ⟨h_19, hs⟩ := gd_some hs
    refine pw_iaload dX8_layTwo_121 tM5 (inb_in h_19) ?_
    refine pw_ishl dX8_layTwo_122 ?_
    refine pw_ior dX8_layTwo_123 ?_
    refine pw_ior dX8_layTwo_124 ?_
    obtain ⟨h_20, hs⟩ := gd_some hs
    refine pw_iastore dX8_layTwo_125 tM8 (inb_in h_20) ?_
    refine pw_sg (fun sg_21 e_sg_21 => ?_)
    replace hs := lt_use hs e_sg_21
    exact PW.sub (lv' := []) [] rfl (J126 sg_21 hs)
set_option maxRecDepth 100000 in
set_option maxHeartbeats 400000 in
theorem conX8_layWays {sg : Sg}  {oM : Sg} (h : fX8_layWays  sg = some oM) : Con tbM yX8_layWays cX8_layWays 4 none 1 24 [.ref 0] sg (PoV oM) := by
  refine Con.of (by decide) (Nat.le_of_ble_eq_true rfl) ?_
  show PW tbM RX8 cX8_layWays 4 none 1 24 (PoV oM) 0 [(0, .ref 0)] [] sg
  have hs := h
  unfold fX8_layWays at hs
  refine pw_iconst (0 : Int32) dX8_layWays_0 (by decide) ?_
  refine pw_istore_n [(1, .int (0 : Int32)), (0, .ref 0)] dX8_layWays_1 rfl (Nat.le_of_ble_eq_true rfl) rfl ?_
  obtain ⟨t, hL, hs⟩ := Option.bind_eq_some_iff.mp hs
  refine PW.sub [1, 0] (lv' := [(0, .ref 0), (1, .int (0 : Int32))]) rfl ?_
  refine lpS_pw (T := Int32 × Sg) (X := fun t => PW tbM RX8 cX8_layWays 4 none 1 24 (PoV oM) 2 [(0, .ref 0), (1, .int t.1)] [] t.2) (E := fun t => PW tbM RX8 cX8_layWays 4 none 1 24 (PoV oM) 28 [(0, .ref 0), (1, .int t.1)] [] t.2) (step := (fun t => fX8_layWays_L2 t.1 t.2)) ?_ 300 ((0 : Int32), sg) t hL ?_
  · intro t oL hs hE hC
    obtain ⟨a1, sg⟩ := t
    replace hs : fX8_layWays_L2 a1 sg = some oL := hs
    show PW tbM RX8 cX8_layWays 4 none 1 24 (PoV oM) 2 [(0, .ref 0), (1, .int a1)] [] sg
    unfold fX8_layWays_L2 at hs
    refine pw_iload_n 1 dX8_layWays_2 rfl rfl ?_
    refine pw_bipush (8 : Int32) dX8_layWays_3 (by decide) ?_
    refine pw_icmp_ge 28 dX8_layWays_5 (by decide) (fun c_5 => ?_) (fun c_5 => ?_)
    · rw [if_pos c_5] at hs
      exact PW.sub (lv' := [(0, .ref 0), (1, .int a1)]) [0, 1] rfl (hE (a1, sg) (Option.some.inj hs).symm)
    · rw [if_neg c_5] at hs
      refine pw_aload_n 0 dX8_layWays_8 rfl rfl ?_
      refine pw_getr 11 dX8_layWays_9 clRX8 tM0 (Nat.le_of_ble_eq_true rfl) fRX8_28 rfl ?_
      refine pw_iload_n 1 dX8_layWays_12 rfl rfl ?_
      refine pw_iconst (0 : Int32) dX8_layWays_13 (by decide) ?_
      obtain ⟨h_1, hs⟩ := gd_some hs
      refine pw_iastore dX8_layWays_14 tM7 (inb_in h_1) ?_
      refine pw_sg (fun sg_2 e_sg_2 => ?_)
      replace hs := lt_use hs e_sg_2
      refine pw_aload_n 0 dX8_layWays_15 rfl rfl ?_
      refine pw_getr 12 dX8_layWays_16 clRX8 tM0 (Nat.le_of_ble_eq_true rfl) fRX8_31 rfl ?_
      refine pw_iload_n 1 dX8_layWays_19 rfl rfl ?_
      refine pw_iconst (0 : Int32) dX8_layWays_20 (by decide) ?_
      obtain ⟨h_3, hs⟩ := gd_some hs
      refine pw_iastore dX8_layWays_21 tM8 (inb_in h_3) ?_
      refine pw_sg (fun sg_4 e_sg_4 => ?_)
      replace hs := lt_use hs e_sg_4
      refine pw_iinc 1 (a1 + 1) [(1, .int (a1 + 1)), (0, .ref 0)] dX8_layWays_22 rfl rfl (Nat.le_of_ble_eq_true rfl) rfl ?_
      refine pw_goto 2 dX8_layWays_25 (by decide) ?_
      exact PW.sub (lv' := [(0, .ref 0), (1, .int (a1 + 1))]) [1, 0] rfl (hC ((a1 + 1), sg_4) (Option.some.inj hs).symm)
  · skip
    obtain ⟨a1_6, sg_7⟩ := t
    replace hs : fX8_layWays_E28 a1_6 sg_7 = some oM := hs
    show PW tbM RX8 cX8_layWays 4 none 1 24 (PoV oM) 28 [(0, .ref 0), (1, .int a1_6)] [] sg_7
    unfold fX8_layWays_E28 at hs
    refine pw_aload_n 0 dX8_layWays_28 rfl rfl ?_
    refine pw_iconst (0 : Int32) dX8_layWays_29 (by decide) ?_
    refine pw_puti 13 (fty := .int) dX8_layWays_30 clRX8 tM0 (Nat.le_of_ble_eq_true rfl) fRX8_99 rfl rfl (by decide +kernel) rfl rfl ?_
    refine pw_sg (fun sg_8 e_sg_8 => ?_)
    replace hs := lt_use hs e_sg_8
    refine pw_iconst (0 : Int32) dX8_layWays_33 (by decide) ?_
    refine pw_istore_n [(1, .int (0 : Int32)), (0, .ref 0)] dX8_layWays_34 rfl (Nat.le_of_ble_eq_true rfl) rfl ?_
    obtain ⟨t, hL, hs⟩ := Option.bind_eq_some_iff.mp hs
    refine PW.sub [1, 0] (lv' := [(0, .ref 0), (1, .int (0 : Int32))]) rfl ?_
    refine lpS_pw (T := Int32 × Sg) (X := fun t => PW tbM RX8 cX8_layWays 4 none 1 24 (PoV oM) 35 [(0, .ref 0), (1, .int t.1)] [] t.2) (E := fun t => PW tbM RX8 cX8_layWays 4 none 1 24 (PoV oM) 136 [(0, .ref 0), (1, .int t.1)] [] t.2) (step := (fun t => fX8_layWays_L35 t.1 t.2)) ?_ 300 ((0 : Int32), sg_8) t hL ?_
    · intro t oL hs hE hC
      obtain ⟨a1_6, sg_7⟩ := t
      replace hs : fX8_layWays_L35 a1_6 sg_7 = some oL := hs
      show PW tbM RX8 cX8_layWays 4 none 1 24 (PoV oM) 35 [(0, .ref 0), (1, .int a1_6)] [] sg_7
      unfold fX8_layWays_L35 at hs
      refine pw_iload_n 1 dX8_layWays_35 rfl rfl ?_
      refine pw_aload_n 0 dX8_layWays_36 rfl rfl ?_
      refine pw_geti 2 dX8_layWays_37 clRX8 tM0 (Nat.le_of_ble_eq_true rfl) fRX8_75 rfl ?_
      refine pw_icmp_ge 136 dX8_layWays_40 (by decide) (fun c_27 => ?_) (fun c_27 => ?_)
      · rw [if_pos c_27] at hs
        exact PW.sub (lv' := [(0, .ref 0), (1, .int a1_6)]) [0, 1] rfl (hE (a1_6, sg_7) (Option.some.inj hs).symm)
      · rw [if_neg c_27] at hs
        refine pw_aload_n 0 dX8_layWays_43 rfl rfl ?_
        refine pw_getr 10 dX8_layWays_44 clRX8 tM0 (Nat.le_of_ble_eq_true rfl) fRX8_25 rfl ?_
        refine pw_iload_n 1 dX8_layWays_47 rfl rfl ?_
        refine pw_iconst (0 : Int32) dX8_layWays_48 (by decide) ?_
        obtain ⟨h_9, hs⟩ := gd_some hs
        refine pw_iastore dX8_layWays_49 tM6 (inb_in h_9) ?_
        refine pw_sg (fun sg_10 e_sg_10 => ?_)
        replace hs := lt_use hs e_sg_10
        refine pw_iconst (0 : Int32) dX8_layWays_50 (by decide) ?_
        refine pw_istore_n [(2, .int (0 : Int32)), (0, .ref 0), (1, .int a1_6)] dX8_layWays_51 rfl (Nat.le_of_ble_eq_true rfl) rfl ?_
        obtain ⟨t, hL, hs⟩ := Option.bind_eq_some_iff.mp hs
        refine PW.sub [1, 2, 0] (lv' := [(0, .ref 0), (1, .int a1_6), (2, .int (0 : Int32))]) rfl ?_
        refine lpS_pw (T := Int32 × Sg) (X := fun t => PW tbM RX8 cX8_layWays 4 none 1 24 (PoV oM) 52 [(0, .ref 0), (1, .int a1_6), (2, .int t.1)] [] t.2) (E := fun t => PW tbM RX8 cX8_layWays 4 none 1 24 (PoV oM) 130 [(0, .ref 0), (1, .int a1_6), (2, .int t.1)] [] t.2) (step := (fun t => fX8_layWays_L52 a1_6 t.1 t.2)) ?_ 300 ((0 : Int32), sg_10) t hL ?_
        · intro t oL hs hE hC
          obtain ⟨a2, sg_7⟩ := t
          replace hs : fX8_layWays_L52 a1_6 a2 sg_7 = some oL := hs
          show PW tbM RX8 cX8_layWays 4 none 1 24 (PoV oM) 52 [(0, .ref 0), (1, .int a1_6), (2, .int a2)] [] sg_7
          unfold fX8_layWays_L52 at hs
          have J124 : ∀ (a2 : Int32) (sg_7 : Sg), fX8_layWays_L52_J124 a1_6 a2 sg_7 = some oL → PW tbM RX8 cX8_layWays 4 none 1 24 (PoV oM) 124 [(0, .ref 0), (1, .int a1_6), (2, .int a2)] [] sg_7 := by
            intro a2 sg_7 hs
            unfold fX8_layWays_L52_J124 at hs
            refine pw_iinc 2 (a2 + 1) [(2, .int (a2 + 1)), (0, .ref 0), (1, .int a1_6)] dX8_layWays_124 rfl rfl (Nat.le_of_ble_eq_true rfl) rfl ?_
            refine pw_goto 52 dX8_layWays_127 (by decide) ?_
            exact PW.sub (lv' := [(0, .ref 0), (1, .int a1_6), (2, .int (a2 + 1))]) [1, 2, 0] rfl (hC ((a2 + 1), sg_7) (Option.some.inj hs).symm)
          refine pw_iload_n 2 dX8_layWays_52 rfl rfl ?_
          refine pw_aload_n 0 dX8_layWays_53 rfl rfl ?_
          refine pw_getr 4 dX8_layWays_54 clRX8 tM0 (Nat.le_of_ble_eq_true rfl) fRX8_16 rfl ?_
          refine pw_iload_n 1 dX8_layWays_57 rfl rfl ?_
          obtain ⟨h_11, hs⟩ := gd_some hs
          refine pw_iaload dX8_layWays_58 tM3 (inb_in h_11) ?_
          refine pw_icmp_ge 130 dX8_layWays_59 (by decide) (fun c_24 => ?_) (fun c_24 => ?_)
          · rw [if_pos c_24] at hs
            exact PW.sub (lv' := [(0, .ref 0), (1, .int a1_6), (2, .int a2)]) [0, 1, 2] rfl (hE (a2, sg_7) (Option.some.inj hs).symm)
          · rw [if_neg c_24] at hs
            refine pw_aload_n 0 dX8_layWays_62 rfl rfl ?_
            refine pw_getr 3 dX8_layWays_63 clRX8 tM0 (Nat.le_of_ble_eq_true rfl) fRX8_13 rfl ?_
            refine pw_bipush (8 : Int32) dX8_layWays_66 (by decide) ?_
            refine pw_iload_n 1 dX8_layWays_68 rfl rfl ?_
            refine pw_imul dX8_layWays_69 ?_
            refine pw_iload_n 2 dX8_layWays_70 rfl rfl ?_
            refine pw_iadd dX8_layWays_71 ?_
            obtain ⟨h_12, hs⟩ := gd_some hs
            refine pw_iaload dX8_layWays_72 tM2 (inb_in h_12) ?_
            refine pw_topi (fun a3_13 e_a3_13 => ?_)
            replace hs := lt_use hs e_a3_13
            refine pw_istore_n [(3, .int a3_13), (0, .ref 0), (1, .int a1_6), (2, .int a2)] dX8_layWays_73 rfl (Nat.le_of_ble_eq_true rfl) rfl ?_
            refine pw_aload_n 1 dX8_layWays_74 rfl rfl ?_
            refine pw_geti 5 dX8_layWays_75 clRX8 tM0 (Nat.le_of_ble_eq_true rfl) fRX8_88 rfl ?_
            refine pw_iload_n 0 dX8_layWays_78 rfl rfl ?_
            obtain ⟨r_15, hc_14, hs⟩ := Option.bind_eq_some_iff.mp hs
            refine pw_callSi [.int (rd sg_7 0 5), .int a3_13] (st := []) dX8_layWays_79 mRX8_102 stX8_has inRX8 coX8_has hyX8_has (by decide) (Nat.le_of_ble_eq_true rfl) (conX8_has hc_14) ?_
            refine pw_if_ne 124 dX8_layWays_82 (by decide) (fun c_23 => ?_) (fun c_23 => ?_)
            · rw [if_neg c_23] at hs
              exact PW.sub (lv' := [(0, .ref 0), (1, .int a1_6), (2, .int a2)]) [1, 2, 3] rfl (J124 a2 sg_7 hs)
            · rw [if_pos c_23] at hs
              refine pw_aload_n 1 dX8_layWays_85 rfl rfl ?_
              refine pw_getr 9 dX8_layWays_86 clRX8 tM0 (Nat.le_of_ble_eq_true rfl) fRX8_22 rfl ?_
              refine pw_bipush (8 : Int32) dX8_layWays_89 (by decide) ?_
              refine pw_iload_n 2 dX8_layWays_91 rfl rfl ?_
              refine pw_imul dX8_layWays_92 ?_
              refine pw_aload_n 1 dX8_layWays_93 rfl rfl ?_
              refine pw_getr 10 dX8_layWays_94 clRX8 tM0 (Nat.le_of_ble_eq_true rfl) fRX8_25 rfl ?_
              refine pw_iload_n 2 dX8_layWays_97 rfl rfl ?_
              obtain ⟨h_16, hs⟩ := gd_some hs
              refine pw_iaload dX8_layWays_98 tM6 (inb_in h_16) ?_
              refine pw_iadd dX8_layWays_99 ?_
              refine pw_iload_n 0 dX8_layWays_100 rfl rfl ?_
              obtain ⟨h_17, hs⟩ := gd_some hs
              refine pw_iastore dX8_layWays_101 tM5 (inb_in h_17) ?_
              refine pw_sg (fun sg_18 e_sg_18 => ?_)
              replace hs := lt_use hs e_sg_18
              refine pw_aload_n 1 dX8_layWays_102 rfl rfl ?_
              refine pw_getr 10 dX8_layWays_103 clRX8 tM0 (Nat.le_of_ble_eq_true rfl) fRX8_25 rfl ?_
              refine pw_iload_n 2 dX8_layWays_106 rfl rfl ?_
              refine pw_dup2 dX8_layWays_107 rfl rfl ?_
              obtain ⟨h_19, hs⟩ := gd_some hs
              refine pw_iaload dX8_layWays_108 tM6 (inb_in h_19) ?_
              refine pw_iconst (1 : Int32) dX8_layWays_109 (by decide) ?_
              refine pw_iadd dX8_layWays_110 ?_
              obtain ⟨h_20, hs⟩ := gd_some hs
              refine pw_iastore dX8_layWays_111 tM6 (inb_in h_20) ?_
              refine pw_sg (fun sg_21 e_sg_21 => ?_)
              replace hs := lt_use hs e_sg_21
              refine pw_aload_n 1 dX8_layWays_112 rfl rfl ?_
              refine pw_dup dX8_layWays_113 rfl ?_
              refine pw_geti 13 dX8_layWays_114 clRX8 tM0 (Nat.le_of_ble_eq_true rfl) fRX8_99 rfl ?_
              refine pw_iconst (1 : Int32) dX8_layWays_117 (by decide) ?_
              refine pw_iload_n 0 dX8_layWays_118 rfl rfl ?_
              refine pw_ishl dX8_layWays_119 ?_
              refine pw_ior dX8_layWays_120 ?_
              refine pw_puti 13 (fty := .int) dX8_layWays_121 clRX8 tM0 (Nat.le_of_ble_eq_true rfl) fRX8_99 rfl rfl (by decide +kernel) rfl rfl ?_
              refine pw_sg (fun sg_22 e_sg_22 => ?_)
              replace hs := lt_use hs e_sg_22
              exact PW.sub (lv' := [(0, .ref 0), (1, .int a1_6), (2, .int a2)]) [1, 2, 3] rfl (J124 a2 sg_22 hs)
        · skip
          obtain ⟨a2_25, sg_26⟩ := t
          replace hs : fX8_layWays_L35_E130 a1_6 a2_25 sg_26 = some oL := hs
          show PW tbM RX8 cX8_layWays 4 none 1 24 (PoV oM) 130 [(0, .ref 0), (1, .int a1_6), (2, .int a2_25)] [] sg_26
          unfold fX8_layWays_L35_E130 at hs
          refine pw_iinc 1 (a1_6 + 1) [(1, .int (a1_6 + 1)), (0, .ref 0), (2, .int a2_25)] dX8_layWays_130 rfl rfl (Nat.le_of_ble_eq_true rfl) rfl ?_
          refine pw_goto 35 dX8_layWays_133 (by decide) ?_
          exact PW.sub (lv' := [(0, .ref 0), (1, .int (a1_6 + 1))]) [1, 0] rfl (hC ((a1_6 + 1), sg_26) (Option.some.inj hs).symm)
    · skip
      obtain ⟨a1_28, sg_29⟩ := t
      replace hs : fX8_layWays_E136 a1_28 sg_29 = some oM := hs
      show PW tbM RX8 cX8_layWays 4 none 1 24 (PoV oM) 136 [(0, .ref 0), (1, .int a1_28)] [] sg_29
      unfold fX8_layWays_E136 at hs
      refine pw_iconst (0 : Int32) dX8_layWays_136 (by decide) ?_
      refine pw_istore_n [(1, .int (0 : Int32)), (0, .ref 0)] dX8_layWays_137 rfl (Nat.le_of_ble_eq_true rfl) rfl ?_
      obtain ⟨t, hL, hs⟩ := Option.bind_eq_some_iff.mp hs
      refine PW.sub [1, 0] (lv' := [(0, .ref 0), (1, .int (0 : Int32))]) rfl ?_
      refine lpS_pw (T := Int32 × Sg) (X := fun t => PW tbM RX8 cX8_layWays 4 none 1 24 (PoV oM) 138 [(0, .ref 0), (1, .int t.1)] [] t.2) (E := fun t => PW tbM RX8 cX8_layWays 4 none 1 24 (PoV oM) 164 [(0, .ref 0), (1, .int t.1)] [] t.2) (step := (fun t => fX8_layWays_L138 t.1 t.2)) ?_ 300 ((0 : Int32), sg_29) t hL ?_
      · intro t oL hs hE hC
        obtain ⟨a1_28, sg_29⟩ := t
        replace hs : fX8_layWays_L138 a1_28 sg_29 = some oL := hs
        show PW tbM RX8 cX8_layWays 4 none 1 24 (PoV oM) 138 [(0, .ref 0), (1, .int a1_28)] [] sg_29
        unfold fX8_layWays_L138 at hs
        refine pw_iload_n 1 dX8_layWays_138 rfl rfl ?_
        refine pw_bipush (64 : Int32) dX8_layWays_139 (by decide) ?_
        refine pw_icmp_ge 164 dX8_layWays_141 (by decide) (fun c_34 => ?_) (fun c_34 => ?_)
        · rw [if_pos c_34] at hs
          exact PW.sub (lv' := [(0, .ref 0), (1, .int a1_28)]) [0, 1] rfl (hE (a1_28, sg_29) (Option.some.inj hs).symm)
        · rw [if_neg c_34] at hs
          refine pw_aload_n 0 dX8_layWays_144 rfl rfl ?_
          refine pw_getr 18 dX8_layWays_145 clRX8 tM0 (Nat.le_of_ble_eq_true rfl) fRX8_40 rfl ?_
          refine pw_iload_n 1 dX8_layWays_148 rfl rfl ?_
          refine pw_iconst (0 : Int32) dX8_layWays_149 (by decide) ?_
          obtain ⟨h_30, hs⟩ := gd_some hs
          refine pw_iastore dX8_layWays_150 tM11 (inb_in h_30) ?_
          refine pw_sg (fun sg_31 e_sg_31 => ?_)
          replace hs := lt_use hs e_sg_31
          refine pw_aload_n 0 dX8_layWays_151 rfl rfl ?_
          refine pw_getr 19 dX8_layWays_152 clRX8 tM0 (Nat.le_of_ble_eq_true rfl) fRX8_43 rfl ?_
          refine pw_iload_n 1 dX8_layWays_155 rfl rfl ?_
          refine pw_iconst (0 : Int32) dX8_layWays_156 (by decide) ?_
          obtain ⟨h_32, hs⟩ := gd_some hs
          refine pw_iastore dX8_layWays_157 tM12 (inb_in h_32) ?_
          refine pw_sg (fun sg_33 e_sg_33 => ?_)
          replace hs := lt_use hs e_sg_33
          refine pw_iinc 1 (a1_28 + 1) [(1, .int (a1_28 + 1)), (0, .ref 0)] dX8_layWays_158 rfl rfl (Nat.le_of_ble_eq_true rfl) rfl ?_
          refine pw_goto 138 dX8_layWays_161 (by decide) ?_
          exact PW.sub (lv' := [(0, .ref 0), (1, .int (a1_28 + 1))]) [1, 0] rfl (hC ((a1_28 + 1), sg_33) (Option.some.inj hs).symm)
      · skip
        obtain ⟨a1_35, sg_36⟩ := t
        replace hs : fX8_layWays_E164 a1_35 sg_36 = some oM := hs
        show PW tbM RX8 cX8_layWays 4 none 1 24 (PoV oM) 164 [(0, .ref 0), (1, .int a1_35)] [] sg_36
        unfold fX8_layWays_E164 at hs
        refine pw_iconst (0 : Int32) dX8_layWays_164 (by decide) ?_
        refine pw_istore_n [(1, .int (0 : Int32)), (0, .ref 0)] dX8_layWays_165 rfl (Nat.le_of_ble_eq_true rfl) rfl ?_
        obtain ⟨t, hL, hs⟩ := Option.bind_eq_some_iff.mp hs
        refine PW.sub [1, 0] (lv' := [(0, .ref 0), (1, .int (0 : Int32))]) rfl ?_
        refine lpS_pw (T := Int32 × Sg) (X := fun t => PW tbM RX8 cX8_layWays 4 none 1 24 (PoV oM) 166 [(0, .ref 0), (1, .int t.1)] [] t.2) (E := fun t => PW tbM RX8 cX8_layWays 4 none 1 24 (PoV oM) 204 [(0, .ref 0), (1, .int t.1)] [] t.2) (step := (fun t => fX8_layWays_L166 t.1 t.2)) ?_ 300 ((0 : Int32), sg_36) t hL ?_
        · intro t oL hs hE hC
          obtain ⟨a1_35, sg_36⟩ := t
          replace hs : fX8_layWays_L166 a1_35 sg_36 = some oL := hs
          show PW tbM RX8 cX8_layWays 4 none 1 24 (PoV oM) 166 [(0, .ref 0), (1, .int a1_35)] [] sg_36
          unfold fX8_layWays_L166 at hs
          refine pw_iload_n 1 dX8_layWays_166 rfl rfl ?_
          refine pw_aload_n 0 dX8_layWays_167 rfl rfl ?_
          refine pw_geti 2 dX8_layWays_168 clRX8 tM0 (Nat.le_of_ble_eq_true rfl) fRX8_75 rfl ?_
          refine pw_icmp_ge 204 dX8_layWays_171 (by decide) (fun c_43 => ?_) (fun c_43 => ?_)
          · rw [if_pos c_43] at hs
            exact PW.sub (lv' := [(0, .ref 0), (1, .int a1_35)]) [0, 1] rfl (hE (a1_35, sg_36) (Option.some.inj hs).symm)
          · rw [if_neg c_43] at hs
            refine pw_iconst (1 : Int32) dX8_layWays_174 (by decide) ?_
            refine pw_istore_n [(2, .int (1 : Int32)), (0, .ref 0), (1, .int a1_35)] dX8_layWays_175 rfl (Nat.le_of_ble_eq_true rfl) rfl ?_
            obtain ⟨t, hL, hs⟩ := Option.bind_eq_some_iff.mp hs
            refine PW.sub [1, 2, 0] (lv' := [(0, .ref 0), (1, .int a1_35), (2, .int (1 : Int32))]) rfl ?_
            refine lpS_pw (T := Int32 × Sg) (X := fun t => PW tbM RX8 cX8_layWays 4 none 1 24 (PoV oM) 176 [(0, .ref 0), (1, .int a1_35), (2, .int t.1)] [] t.2) (E := fun t => PW tbM RX8 cX8_layWays 4 none 1 24 (PoV oM) 198 [(0, .ref 0), (1, .int a1_35), (2, .int t.1)] [] t.2) (step := (fun t => fX8_layWays_L176 a1_35 t.1 t.2)) ?_ 300 ((1 : Int32), sg_36) t hL ?_
            · intro t oL hs hE hC
              obtain ⟨a2, sg_36⟩ := t
              replace hs : fX8_layWays_L176 a1_35 a2 sg_36 = some oL := hs
              show PW tbM RX8 cX8_layWays 4 none 1 24 (PoV oM) 176 [(0, .ref 0), (1, .int a1_35), (2, .int a2)] [] sg_36
              unfold fX8_layWays_L176 at hs
              refine pw_iload_n 2 dX8_layWays_176 rfl rfl ?_
              refine pw_aload_n 0 dX8_layWays_177 rfl rfl ?_
              refine pw_getr 10 dX8_layWays_178 clRX8 tM0 (Nat.le_of_ble_eq_true rfl) fRX8_25 rfl ?_
              refine pw_iload_n 1 dX8_layWays_181 rfl rfl ?_
              obtain ⟨h_37, hs⟩ := gd_some hs
              refine pw_iaload dX8_layWays_182 tM6 (inb_in h_37) ?_
              refine pw_icmp_ge 198 dX8_layWays_183 (by decide) (fun c_40 => ?_) (fun c_40 => ?_)
              · rw [if_pos c_40] at hs
                exact PW.sub (lv' := [(0, .ref 0), (1, .int a1_35), (2, .int a2)]) [0, 1, 2] rfl (hE (a2, sg_36) (Option.some.inj hs).symm)
              · rw [if_neg c_40] at hs
                refine pw_aload_n 0 dX8_layWays_186 rfl rfl ?_
                refine pw_iload_n 1 dX8_layWays_187 rfl rfl ?_
                refine pw_iload_n 2 dX8_layWays_188 rfl rfl ?_
                obtain ⟨sg_39, hc_38, hs⟩ := Option.bind_eq_some_iff.mp hs
                refine pw_callVv [.int a1_35, .int a2] (st := []) dX8_layWays_189 tM0 rfl mRX8_105 imX8_layTwo seX8_layTwo inRX8 coX8_layTwo hyX8_layTwo (by decide) (Nat.le_of_ble_eq_true rfl) (conX8_layTwo hc_38) ?_
                refine pw_iinc 2 (a2 + 1) [(2, .int (a2 + 1)), (0, .ref 0), (1, .int a1_35)] dX8_layWays_192 rfl rfl (Nat.le_of_ble_eq_true rfl) rfl ?_
                refine pw_goto 176 dX8_layWays_195 (by decide) ?_
                exact PW.sub (lv' := [(0, .ref 0), (1, .int a1_35), (2, .int (a2 + 1))]) [1, 2, 0] rfl (hC ((a2 + 1), sg_39) (Option.some.inj hs).symm)
            · skip
              obtain ⟨a2_41, sg_42⟩ := t
              replace hs : fX8_layWays_L166_E198 a1_35 a2_41 sg_42 = some oL := hs
              show PW tbM RX8 cX8_layWays 4 none 1 24 (PoV oM) 198 [(0, .ref 0), (1, .int a1_35), (2, .int a2_41)] [] sg_42
              unfold fX8_layWays_L166_E198 at hs
              refine pw_iinc 1 (a1_35 + 1) [(1, .int (a1_35 + 1)), (0, .ref 0), (2, .int a2_41)] dX8_layWays_198 rfl rfl (Nat.le_of_ble_eq_true rfl) rfl ?_
              refine pw_goto 166 dX8_layWays_201 (by decide) ?_
              exact PW.sub (lv' := [(0, .ref 0), (1, .int (a1_35 + 1))]) [1, 0] rfl (hC ((a1_35 + 1), sg_42) (Option.some.inj hs).symm)
        · skip
          obtain ⟨a1_44, sg_45⟩ := t
          replace hs : fX8_layWays_E204 a1_44 sg_45 = some oM := hs
          show PW tbM RX8 cX8_layWays 4 none 1 24 (PoV oM) 204 [(0, .ref 0), (1, .int a1_44)] [] sg_45
          unfold fX8_layWays_E204 at hs
          have hr := Option.some.inj hs
          exact pw_return dX8_layWays_204 rfl ⟨rfl, hr⟩
set_option maxRecDepth 100000 in
set_option maxHeartbeats 400000 in
theorem conX8_ones {tab : Tb} {sg : Sg} {a0 : Int32} {oM : Int32} (h : fX8_ones a0 = some oM) : Con tab yX8_ones cX8_ones 3 (some .int) 0 0 [.int a0] sg (PoI oM sg) := by
  refine Con.of (by decide) (Nat.le_of_ble_eq_true rfl) ?_
  show PW tab RX8 cX8_ones 3 (some .int) 0 0 (PoI oM sg) 0 [(0, .int a0)] [] sg
  have hs := h
  unfold fX8_ones at hs
  refine pw_iconst (0 : Int32) dX8_ones_0 (by decide) ?_
  refine pw_istore_n [(1, .int (0 : Int32)), (0, .int a0)] dX8_ones_1 rfl (Nat.le_of_ble_eq_true rfl) rfl ?_
  refine pw_iconst (0 : Int32) dX8_ones_2 (by decide) ?_
  refine pw_istore_n [(2, .int (0 : Int32)), (1, .int (0 : Int32)), (0, .int a0)] dX8_ones_3 rfl (Nat.le_of_ble_eq_true rfl) rfl ?_
  obtain ⟨t, hL, hs⟩ := Option.bind_eq_some_iff.mp hs
  refine PW.sub [2, 1, 0] (lv' := [(0, .int a0), (1, .int (0 : Int32)), (2, .int (0 : Int32))]) rfl ?_
  refine lpS_pw (T := Int32 × Int32) (X := fun t => PW tab RX8 cX8_ones 3 (some .int) 0 0 (PoI oM sg) 4 [(0, .int a0), (1, .int t.1), (2, .int t.2)] [] sg) (E := fun t => PW tab RX8 cX8_ones 3 (some .int) 0 0 (PoI oM sg) 24 [(0, .int a0), (1, .int t.1), (2, .int t.2)] [] sg) (step := (fun t => fX8_ones_L4 a0 t.1 t.2)) ?_ 300 ((0 : Int32), (0 : Int32)) t hL ?_
  · intro t oL hs hE hC
    obtain ⟨a1, a2⟩ := t
    replace hs : fX8_ones_L4 a0 a1 a2 = some oL := hs
    show PW tab RX8 cX8_ones 3 (some .int) 0 0 (PoI oM sg) 4 [(0, .int a0), (1, .int a1), (2, .int a2)] [] sg
    unfold fX8_ones_L4 at hs
    refine pw_iload_n 2 dX8_ones_4 rfl rfl ?_
    refine pw_bipush (8 : Int32) dX8_ones_5 (by decide) ?_
    refine pw_icmp_ge 24 dX8_ones_7 (by decide) (fun c_2 => ?_) (fun c_2 => ?_)
    · rw [if_pos c_2] at hs
      exact PW.sub (lv' := [(0, .int a0), (1, .int a1), (2, .int a2)]) [0, 1, 2] rfl (hE (a1, a2) (Option.some.inj hs).symm)
    · rw [if_neg c_2] at hs
      refine pw_iload_n 1 dX8_ones_10 rfl rfl ?_
      refine pw_iload_n 0 dX8_ones_11 rfl rfl ?_
      refine pw_iload_n 2 dX8_ones_12 rfl rfl ?_
      refine pw_ishr dX8_ones_13 ?_
      refine pw_iconst (1 : Int32) dX8_ones_14 (by decide) ?_
      refine pw_iand dX8_ones_15 ?_
      refine pw_iadd dX8_ones_16 ?_
      refine pw_topi (fun a1_1 e_a1_1 => ?_)
      replace hs := lt_use hs e_a1_1
      refine pw_istore_n [(1, .int a1_1), (0, .int a0), (2, .int a2)] dX8_ones_17 rfl (Nat.le_of_ble_eq_true rfl) rfl ?_
      refine pw_iinc 2 (a2 + 1) [(2, .int (a2 + 1)), (1, .int a1_1), (0, .int a0)] dX8_ones_18 rfl rfl (Nat.le_of_ble_eq_true rfl) rfl ?_
      refine pw_goto 4 dX8_ones_21 (by decide) ?_
      exact PW.sub (lv' := [(0, .int a0), (1, .int a1_1), (2, .int (a2 + 1))]) [2, 1, 0] rfl (hC (a1_1, (a2 + 1)) (Option.some.inj hs).symm)
  · skip
    obtain ⟨a1_3, a2_4⟩ := t
    replace hs : fX8_ones_E24 a0 a1_3 a2_4 = some oM := hs
    show PW tab RX8 cX8_ones 3 (some .int) 0 0 (PoI oM sg) 24 [(0, .int a0), (1, .int a1_3), (2, .int a2_4)] [] sg
    unfold fX8_ones_E24 at hs
    refine pw_iload_n 1 dX8_ones_24 rfl rfl ?_
    have hr := Option.some.inj hs
    exact pw_ireturn dX8_ones_25 rfl ⟨by rw [hr], rfl⟩
set_option maxRecDepth 100000 in
set_option maxHeartbeats 400000 in
theorem conX8_weightOf {sg : Sg} {a1 : Int32} {oM : Int32} (h : fX8_weightOf a1 sg = some oM) : Con tbM yX8_weightOf cX8_weightOf 2 (some .int) 1 22 [.ref 0, .int a1] sg (PoI oM sg) := by
  refine Con.of (by decide) (Nat.le_of_ble_eq_true rfl) ?_
  show PW tbM RX8 cX8_weightOf 2 (some .int) 1 22 (PoI oM sg) 0 [(0, .ref 0), (1, .int a1)] [] sg
  have hs := h
  unfold fX8_weightOf at hs
  refine pw_sipush (1000 : Int32) dX8_weightOf_0 (by decide) ?_
  refine pw_aload_n 0 dX8_weightOf_3 rfl rfl ?_
  refine pw_getr 12 dX8_weightOf_4 clRX8 tM0 (Nat.le_of_ble_eq_true rfl) fRX8_31 rfl ?_
  refine pw_iload_n 1 dX8_weightOf_7 rfl rfl ?_
  obtain ⟨h_1, hs⟩ := gd_some hs
  refine pw_iaload dX8_weightOf_8 tM8 (inb_in h_1) ?_
  obtain ⟨r_3, hc_2, hs⟩ := Option.bind_eq_some_iff.mp hs
  refine pw_callSi [.int (rd sg 8 (Int32.toNatClampNeg a1))] (st := [.int (1000 : Int32)]) dX8_weightOf_9 mRX8_109 stX8_ones inRX8 coX8_ones hyX8_ones (by decide) (Nat.le_of_ble_eq_true rfl) (conX8_ones hc_2) ?_
  refine pw_imul dX8_weightOf_12 ?_
  refine pw_bipush (10 : Int32) dX8_weightOf_13 (by decide) ?_
  refine pw_aload_n 0 dX8_weightOf_15 rfl rfl ?_
  refine pw_getr 11 dX8_weightOf_16 clRX8 tM0 (Nat.le_of_ble_eq_true rfl) fRX8_28 rfl ?_
  refine pw_iload_n 1 dX8_weightOf_19 rfl rfl ?_
  obtain ⟨h_4, hs⟩ := gd_some hs
  refine pw_iaload dX8_weightOf_20 tM7 (inb_in h_4) ?_
  obtain ⟨r_6, hc_5, hs⟩ := Option.bind_eq_some_iff.mp hs
  refine pw_callSi [.int (rd sg 7 (Int32.toNatClampNeg a1))] (st := [.int (10 : Int32), .int ((1000 : Int32) * r_3)]) dX8_weightOf_21 mRX8_109 stX8_ones inRX8 coX8_ones hyX8_ones (by decide) (Nat.le_of_ble_eq_true rfl) (conX8_ones hc_5) ?_
  refine pw_imul dX8_weightOf_24 ?_
  refine pw_iadd dX8_weightOf_25 ?_
  refine pw_bipush (8 : Int32) dX8_weightOf_26 (by decide) ?_
  refine pw_iadd dX8_weightOf_28 ?_
  refine pw_iconst (1 : Int32) dX8_weightOf_29 (by decide) ?_
  refine pw_isub dX8_weightOf_30 ?_
  refine pw_iload_n 1 dX8_weightOf_31 rfl rfl ?_
  refine pw_isub dX8_weightOf_32 ?_
  have hr := Option.some.inj hs
  exact pw_ireturn dX8_weightOf_33 rfl ⟨by rw [hr], rfl⟩
set_option maxRecDepth 100000 in
set_option maxHeartbeats 400000 in
theorem conX8_layRanks {sg : Sg}  {oM : Sg} (h : fX8_layRanks  sg = some oM) : Con tbM yX8_layRanks cX8_layRanks 4 none 2 43 [.ref 0] sg (PoV oM) := by
  refine Con.of (by decide) (Nat.le_of_ble_eq_true rfl) ?_
  show PW tbM RX8 cX8_layRanks 4 none 2 43 (PoV oM) 0 [(0, .ref 0)] [] sg
  have hs := h
  unfold fX8_layRanks at hs
  refine pw_aload_n 0 dX8_layRanks_0 rfl rfl ?_
  refine pw_aload_n 0 dX8_layRanks_1 rfl rfl ?_
  refine pw_geti 13 dX8_layRanks_2 clRX8 tM0 (Nat.le_of_ble_eq_true rfl) fRX8_99 rfl ?_
  obtain ⟨r_2, hc_1, hs⟩ := Option.bind_eq_some_iff.mp hs
  refine pw_callSi [.int (rd sg 0 13)] (st := [.ref 0]) dX8_layRanks_5 mRX8_109 stX8_ones inRX8 coX8_ones hyX8_ones (by decide) (Nat.le_of_ble_eq_true rfl) (conX8_ones hc_1) ?_
  refine pw_puti 15 (fty := .int) dX8_layRanks_8 clRX8 tM0 (Nat.le_of_ble_eq_true rfl) fRX8_112 rfl rfl (by decide +kernel) rfl rfl ?_
  refine pw_sg (fun sg_3 e_sg_3 => ?_)
  replace hs := lt_use hs e_sg_3
  refine pw_iconst (0 : Int32) dX8_layRanks_11 (by decide) ?_
  refine pw_istore_n [(1, .int (0 : Int32)), (0, .ref 0)] dX8_layRanks_12 rfl (Nat.le_of_ble_eq_true rfl) rfl ?_
  obtain ⟨t, hL, hs⟩ := Option.bind_eq_some_iff.mp hs
  refine PW.sub [1, 0] (lv' := [(0, .ref 0), (1, .int (0 : Int32))]) rfl ?_
  refine lpS_pw (T := Int32 × Sg) (X := fun t => PW tbM RX8 cX8_layRanks 4 none 2 43 (PoV oM) 13 [(0, .ref 0), (1, .int t.1)] [] t.2) (E := fun t => PW tbM RX8 cX8_layRanks 4 none 2 43 (PoV oM) 105 [(0, .ref 0), (1, .int t.1)] [] t.2) (step := (fun t => fX8_layRanks_L13 t.1 t.2)) ?_ 300 ((0 : Int32), sg_3) t hL ?_
  · intro t oL hs hE hC
    obtain ⟨a1, sg⟩ := t
    replace hs : fX8_layRanks_L13 a1 sg = some oL := hs
    show PW tbM RX8 cX8_layRanks 4 none 2 43 (PoV oM) 13 [(0, .ref 0), (1, .int a1)] [] sg
    unfold fX8_layRanks_L13 at hs
    have J99 : ∀ (a1 : Int32) (sg : Sg), fX8_layRanks_L13_J99 a1 sg = some oL → PW tbM RX8 cX8_layRanks 4 none 2 43 (PoV oM) 99 [(0, .ref 0), (1, .int a1)] [] sg := by
      intro a1 sg hs
      unfold fX8_layRanks_L13_J99 at hs
      refine pw_iinc 1 (a1 + 1) [(1, .int (a1 + 1)), (0, .ref 0)] dX8_layRanks_99 rfl rfl (Nat.le_of_ble_eq_true rfl) rfl ?_
      refine pw_goto 13 dX8_layRanks_102 (by decide) ?_
      exact PW.sub (lv' := [(0, .ref 0), (1, .int (a1 + 1))]) [1, 0] rfl (hC ((a1 + 1), sg) (Option.some.inj hs).symm)
    refine pw_iload_n 1 dX8_layRanks_13 rfl rfl ?_
    refine pw_bipush (8 : Int32) dX8_layRanks_14 (by decide) ?_
    refine pw_icmp_ge 105 dX8_layRanks_16 (by decide) (fun c_24 => ?_) (fun c_24 => ?_)
    · rw [if_pos c_24] at hs
      exact PW.sub (lv' := [(0, .ref 0), (1, .int a1)]) [0, 1] rfl (hE (a1, sg) (Option.some.inj hs).symm)
    · rw [if_neg c_24] at hs
      refine pw_aload_n 0 dX8_layRanks_19 rfl rfl ?_
      refine pw_getr 16 dX8_layRanks_20 clRX8 tM0 (Nat.le_of_ble_eq_true rfl) fRX8_37 rfl ?_
      refine pw_iload_n 1 dX8_layRanks_23 rfl rfl ?_
      refine pw_iconst (-1 : Int32) dX8_layRanks_24 (by decide) ?_
      obtain ⟨h_4, hs⟩ := gd_some hs
      refine pw_iastore dX8_layRanks_25 tM10 (inb_in h_4) ?_
      refine pw_sg (fun sg_5 e_sg_5 => ?_)
      replace hs := lt_use hs e_sg_5
      refine pw_iconst (0 : Int32) dX8_layRanks_26 (by decide) ?_
      refine pw_istore_n [(2, .int (0 : Int32)), (0, .ref 0), (1, .int a1)] dX8_layRanks_27 rfl (Nat.le_of_ble_eq_true rfl) rfl ?_
      refine pw_iconst (0 : Int32) dX8_layRanks_28 (by decide) ?_
      refine pw_istore_n [(3, .int (0 : Int32)), (2, .int (0 : Int32)), (0, .ref 0), (1, .int a1)] dX8_layRanks_29 rfl (Nat.le_of_ble_eq_true rfl) rfl ?_
      obtain ⟨t, hL, hs⟩ := Option.bind_eq_some_iff.mp hs
      refine PW.sub [2, 3, 1, 0] (lv' := [(0, .ref 0), (1, .int a1), (2, .int (0 : Int32)), (3, .int (0 : Int32))]) rfl ?_
      refine lpS_pw (T := Int32 × Int32) (X := fun t => PW tbM RX8 cX8_layRanks 4 none 2 43 (PoV oM) 30 [(0, .ref 0), (1, .int a1), (2, .int t.1), (3, .int t.2)] [] sg_5) (E := fun t => PW tbM RX8 cX8_layRanks 4 none 2 43 (PoV oM) 74 [(0, .ref 0), (1, .int a1), (2, .int t.1), (3, .int t.2)] [] sg_5) (step := (fun t => fX8_layRanks_L30 a1 sg_5 t.1 t.2)) ?_ 300 ((0 : Int32), (0 : Int32)) t hL ?_
      · intro t oL hs hE hC
        obtain ⟨a2, a3⟩ := t
        replace hs : fX8_layRanks_L30 a1 sg_5 a2 a3 = some oL := hs
        show PW tbM RX8 cX8_layRanks 4 none 2 43 (PoV oM) 30 [(0, .ref 0), (1, .int a1), (2, .int a2), (3, .int a3)] [] sg_5
        unfold fX8_layRanks_L30 at hs
        have J66 : ∀ (a3 : Int32) (s0 : Int32) (s1 : Int32), fX8_layRanks_L30_J66 a1 a3 s0 s1 sg_5 = some oL → PW tbM RX8 cX8_layRanks 4 none 2 43 (PoV oM) 66 [(0, .ref 0), (1, .int a1), (3, .int a3)] [.int s0, .int s1] sg_5 := by
          intro a3 s0 s1 hs
          unfold fX8_layRanks_L30_J66 at hs
          refine pw_iadd dX8_layRanks_66 ?_
          refine pw_istore_n [(2, .int (s1 + s0)), (0, .ref 0), (1, .int a1), (3, .int a3)] dX8_layRanks_67 rfl (Nat.le_of_ble_eq_true rfl) rfl ?_
          refine pw_iinc 3 (a3 + 1) [(3, .int (a3 + 1)), (2, .int (s1 + s0)), (0, .ref 0), (1, .int a1)] dX8_layRanks_68 rfl rfl (Nat.le_of_ble_eq_true rfl) rfl ?_
          refine pw_goto 30 dX8_layRanks_71 (by decide) ?_
          exact PW.sub (lv' := [(0, .ref 0), (1, .int a1), (2, .int (s1 + s0)), (3, .int (a3 + 1))]) [2, 3, 1, 0] rfl (hC ((s1 + s0), (a3 + 1)) (Option.some.inj hs).symm)
        have J65 : ∀ (a3 : Int32) (s0 : Int32), fX8_layRanks_L30_J65 a1 a3 s0 sg_5 = some oL → PW tbM RX8 cX8_layRanks 4 none 2 43 (PoV oM) 65 [(0, .ref 0), (1, .int a1), (3, .int a3)] [.int s0] sg_5 := by
          intro a3 s0 hs
          unfold fX8_layRanks_L30_J65 at hs
          refine pw_iconst (0 : Int32) dX8_layRanks_65 (by decide) ?_
          exact PW.sub (lv' := [(0, .ref 0), (1, .int a1), (3, .int a3)]) [0, 1, 2] rfl (J66 a3 (0 : Int32) s0 hs)
        refine pw_iload_n 3 dX8_layRanks_30 rfl rfl ?_
        refine pw_bipush (8 : Int32) dX8_layRanks_31 (by decide) ?_
        refine pw_icmp_ge 74 dX8_layRanks_33 (by decide) (fun c_14 => ?_) (fun c_14 => ?_)
        · rw [if_pos c_14] at hs
          exact PW.sub (lv' := [(0, .ref 0), (1, .int a1), (2, .int a2), (3, .int a3)]) [0, 1, 2, 3] rfl (hE (a2, a3) (Option.some.inj hs).symm)
        · rw [if_neg c_14] at hs
          refine pw_iload_n 2 dX8_layRanks_36 rfl rfl ?_
          refine pw_aload_n 0 dX8_layRanks_37 rfl rfl ?_
          refine pw_geti 13 dX8_layRanks_38 clRX8 tM0 (Nat.le_of_ble_eq_true rfl) fRX8_99 rfl ?_
          refine pw_iload_n 3 dX8_layRanks_41 rfl rfl ?_
          obtain ⟨r_7, hc_6, hs⟩ := Option.bind_eq_some_iff.mp hs
          refine pw_callSi [.int (rd sg_5 0 13), .int a3] (st := [.int a2]) dX8_layRanks_42 mRX8_102 stX8_has inRX8 coX8_has hyX8_has (by decide) (Nat.le_of_ble_eq_true rfl) (conX8_has hc_6) ?_
          refine pw_if_eq 65 dX8_layRanks_45 (by decide) (fun c_13 => ?_) (fun c_13 => ?_)
          · rw [if_pos c_13] at hs
            exact PW.sub (lv' := [(0, .ref 0), (1, .int a1), (3, .int a3)]) [0, 1, 3] rfl (J65 a3 a2 hs)
          · rw [if_neg c_13] at hs
            refine pw_aload_n 0 dX8_layRanks_48 rfl rfl ?_
            refine pw_iload_n 3 dX8_layRanks_49 rfl rfl ?_
            obtain ⟨r_9, hc_8, hs⟩ := Option.bind_eq_some_iff.mp hs
            refine pw_callVi [.int a3] (st := [.int a2]) dX8_layRanks_50 tM0 rfl mRX8_115 imX8_weightOf seX8_weightOf inRX8 coX8_weightOf hyX8_weightOf (by decide) (Nat.le_of_ble_eq_true rfl) (conX8_weightOf hc_8) ?_
            refine pw_aload_n 0 dX8_layRanks_53 rfl rfl ?_
            refine pw_iload_n 1 dX8_layRanks_54 rfl rfl ?_
            obtain ⟨r_11, hc_10, hs⟩ := Option.bind_eq_some_iff.mp hs
            refine pw_callVi [.int a1] (st := [.int r_9, .int a2]) dX8_layRanks_55 tM0 rfl mRX8_115 imX8_weightOf seX8_weightOf inRX8 coX8_weightOf hyX8_weightOf (by decide) (Nat.le_of_ble_eq_true rfl) (conX8_weightOf hc_10) ?_
            refine pw_icmp_le 65 dX8_layRanks_58 (by decide) (fun c_12 => ?_) (fun c_12 => ?_)
            · rw [if_pos c_12] at hs
              exact PW.sub (lv' := [(0, .ref 0), (1, .int a1), (3, .int a3)]) [0, 1, 3] rfl (J65 a3 a2 hs)
            · rw [if_neg c_12] at hs
              refine pw_iconst (1 : Int32) dX8_layRanks_61 (by decide) ?_
              refine pw_goto 66 dX8_layRanks_62 (by decide) ?_
              exact PW.sub (lv' := [(0, .ref 0), (1, .int a1), (3, .int a3)]) [0, 1, 3] rfl (J66 a3 (1 : Int32) a2 hs)
      · skip
        obtain ⟨a2_15, a3_16⟩ := t
        replace hs : fX8_layRanks_L13_E74 a1 a2_15 a3_16 sg_5 = some oL := hs
        show PW tbM RX8 cX8_layRanks 4 none 2 43 (PoV oM) 74 [(0, .ref 0), (1, .int a1), (2, .int a2_15), (3, .int a3_16)] [] sg_5
        unfold fX8_layRanks_L13_E74 at hs
        refine pw_aload_n 0 dX8_layRanks_74 rfl rfl ?_
        refine pw_geti 13 dX8_layRanks_75 clRX8 tM0 (Nat.le_of_ble_eq_true rfl) fRX8_99 rfl ?_
        refine pw_iload_n 1 dX8_layRanks_78 rfl rfl ?_
        obtain ⟨r_18, hc_17, hs⟩ := Option.bind_eq_some_iff.mp hs
        refine pw_callSi [.int (rd sg_5 0 13), .int a1] (st := []) dX8_layRanks_79 mRX8_102 stX8_has inRX8 coX8_has hyX8_has (by decide) (Nat.le_of_ble_eq_true rfl) (conX8_has hc_17) ?_
        refine pw_if_eq 99 dX8_layRanks_82 (by decide) (fun c_23 => ?_) (fun c_23 => ?_)
        · rw [if_pos c_23] at hs
          exact PW.sub (lv' := [(0, .ref 0), (1, .int a1)]) [0, 1] rfl (J99 a1 sg_5 hs)
        · rw [if_neg c_23] at hs
          refine pw_aload_n 0 dX8_layRanks_85 rfl rfl ?_
          refine pw_getr 16 dX8_layRanks_86 clRX8 tM0 (Nat.le_of_ble_eq_true rfl) fRX8_37 rfl ?_
          refine pw_iload_n 1 dX8_layRanks_89 rfl rfl ?_
          refine pw_iload_n 2 dX8_layRanks_90 rfl rfl ?_
          obtain ⟨h_19, hs⟩ := gd_some hs
          refine pw_iastore dX8_layRanks_91 tM10 (inb_in h_19) ?_
          refine pw_sg (fun sg_20 e_sg_20 => ?_)
          replace hs := lt_use hs e_sg_20
          refine pw_aload_n 0 dX8_layRanks_92 rfl rfl ?_
          refine pw_getr 14 dX8_layRanks_93 clRX8 tM0 (Nat.le_of_ble_eq_true rfl) fRX8_34 rfl ?_
          refine pw_iload_n 2 dX8_layRanks_96 rfl rfl ?_
          refine pw_iload_n 1 dX8_layRanks_97 rfl rfl ?_
          obtain ⟨h_21, hs⟩ := gd_some hs
          refine pw_iastore dX8_layRanks_98 tM9 (inb_in h_21) ?_
          refine pw_sg (fun sg_22 e_sg_22 => ?_)
          replace hs := lt_use hs e_sg_22
          exact PW.sub (lv' := [(0, .ref 0), (1, .int a1)]) [0, 1] rfl (J99 a1 sg_22 hs)
  · skip
    obtain ⟨a1_25, sg_26⟩ := t
    replace hs : fX8_layRanks_E105 a1_25 sg_26 = some oM := hs
    show PW tbM RX8 cX8_layRanks 4 none 2 43 (PoV oM) 105 [(0, .ref 0), (1, .int a1_25)] [] sg_26
    unfold fX8_layRanks_E105 at hs
    have hr := Option.some.inj hs
    exact pw_return dX8_layRanks_105 rfl ⟨rfl, hr⟩
set_option maxRecDepth 100000 in
set_option maxHeartbeats 400000 in
theorem conX8_areAllLinked {sg : Sg} {a1 : Int32} {oM : Int32} (h : fX8_areAllLinked a1 sg = some oM) : Con tbM yX8_areAllLinked cX8_areAllLinked 4 (some .boolean) 1 21 [.ref 0, .int a1] sg (PoI oM sg) := by
  refine Con.of (by decide) (Nat.le_of_ble_eq_true rfl) ?_
  show PW tbM RX8 cX8_areAllLinked 4 (some .boolean) 1 21 (PoI oM sg) 0 [(0, .ref 0), (1, .int a1)] [] sg
  have hs := h
  unfold fX8_areAllLinked at hs
  refine pw_iconst (1 : Int32) dX8_areAllLinked_0 (by decide) ?_
  refine pw_istore_n [(2, .int (1 : Int32)), (0, .ref 0), (1, .int a1)] dX8_areAllLinked_1 rfl (Nat.le_of_ble_eq_true rfl) rfl ?_
  refine pw_iconst (0 : Int32) dX8_areAllLinked_2 (by decide) ?_
  refine pw_istore_n [(3, .int (0 : Int32)), (2, .int (1 : Int32)), (0, .ref 0), (1, .int a1)] dX8_areAllLinked_3 rfl (Nat.le_of_ble_eq_true rfl) rfl ?_
  obtain ⟨t, hL, hs⟩ := Option.bind_eq_some_iff.mp hs
  refine PW.sub [2, 3, 1, 0] (lv' := [(0, .ref 0), (1, .int a1), (2, .int (1 : Int32)), (3, .int (0 : Int32))]) rfl ?_
  refine lpS_pw (T := Int32 × Int32) (X := fun t => PW tbM RX8 cX8_areAllLinked 4 (some .boolean) 1 21 (PoI oM sg) 4 [(0, .ref 0), (1, .int a1), (2, .int t.1), (3, .int t.2)] [] sg) (E := fun t => PW tbM RX8 cX8_areAllLinked 4 (some .boolean) 1 21 (PoI oM sg) 50 [(0, .ref 0), (1, .int a1), (2, .int t.1), (3, .int t.2)] [] sg) (step := (fun t => fX8_areAllLinked_L4 a1 sg t.1 t.2)) ?_ 300 ((1 : Int32), (0 : Int32)) t hL ?_
  · intro t oL hs hE hC
    obtain ⟨a2, a3⟩ := t
    replace hs : fX8_areAllLinked_L4 a1 sg a2 a3 = some oL := hs
    show PW tbM RX8 cX8_areAllLinked 4 (some .boolean) 1 21 (PoI oM sg) 4 [(0, .ref 0), (1, .int a1), (2, .int a2), (3, .int a3)] [] sg
    unfold fX8_areAllLinked_L4 at hs
    have J43 : ∀ (a3 : Int32) (s0 : Int32), fX8_areAllLinked_L4_J43 a1 a3 s0 sg = some oL → PW tbM RX8 cX8_areAllLinked 4 (some .boolean) 1 21 (PoI oM sg) 43 [(0, .ref 0), (1, .int a1), (3, .int a3)] [.int s0] sg := by
      intro a3 s0 hs
      unfold fX8_areAllLinked_L4_J43 at hs
      refine pw_istore_n [(2, .int s0), (0, .ref 0), (1, .int a1), (3, .int a3)] dX8_areAllLinked_43 rfl (Nat.le_of_ble_eq_true rfl) rfl ?_
      refine pw_iinc 3 (a3 + 1) [(3, .int (a3 + 1)), (2, .int s0), (0, .ref 0), (1, .int a1)] dX8_areAllLinked_44 rfl rfl (Nat.le_of_ble_eq_true rfl) rfl ?_
      refine pw_goto 4 dX8_areAllLinked_47 (by decide) ?_
      exact PW.sub (lv' := [(0, .ref 0), (1, .int a1), (2, .int s0), (3, .int (a3 + 1))]) [2, 3, 1, 0] rfl (hC (s0, (a3 + 1)) (Option.some.inj hs).symm)
    have J42 : ∀ (a3 : Int32), fX8_areAllLinked_L4_J42 a1 a3 sg = some oL → PW tbM RX8 cX8_areAllLinked 4 (some .boolean) 1 21 (PoI oM sg) 42 [(0, .ref 0), (1, .int a1), (3, .int a3)] [] sg := by
      intro a3 hs
      unfold fX8_areAllLinked_L4_J42 at hs
      refine pw_iconst (0 : Int32) dX8_areAllLinked_42 (by decide) ?_
      exact PW.sub (lv' := [(0, .ref 0), (1, .int a1), (3, .int a3)]) [0, 1, 2] rfl (J43 a3 (0 : Int32) hs)
    have J38 : ∀ (a3 : Int32), fX8_areAllLinked_L4_J38 a1 a3 sg = some oL → PW tbM RX8 cX8_areAllLinked 4 (some .boolean) 1 21 (PoI oM sg) 38 [(0, .ref 0), (1, .int a1), (3, .int a3)] [] sg := by
      intro a3 hs
      unfold fX8_areAllLinked_L4_J38 at hs
      refine pw_iconst (1 : Int32) dX8_areAllLinked_38 (by decide) ?_
      refine pw_goto 43 dX8_areAllLinked_39 (by decide) ?_
      exact PW.sub (lv' := [(0, .ref 0), (1, .int a1), (3, .int a3)]) [0, 1, 2] rfl (J43 a3 (1 : Int32) hs)
    refine pw_iload_n 3 dX8_areAllLinked_4 rfl rfl ?_
    refine pw_bipush (8 : Int32) dX8_areAllLinked_5 (by decide) ?_
    refine pw_icmp_ge 50 dX8_areAllLinked_7 (by decide) (fun c_7 => ?_) (fun c_7 => ?_)
    · rw [if_pos c_7] at hs
      exact PW.sub (lv' := [(0, .ref 0), (1, .int a1), (2, .int a2), (3, .int a3)]) [0, 1, 2, 3] rfl (hE (a2, a3) (Option.some.inj hs).symm)
    · rw [if_neg c_7] at hs
      refine pw_iload_n 2 dX8_areAllLinked_10 rfl rfl ?_
      refine pw_if_eq 42 dX8_areAllLinked_11 (by decide) (fun c_6 => ?_) (fun c_6 => ?_)
      · rw [if_pos c_6] at hs
        exact PW.sub (lv' := [(0, .ref 0), (1, .int a1), (3, .int a3)]) [0, 1, 3] rfl (J42 a3 hs)
      · rw [if_neg c_6] at hs
        refine pw_iload_n 1 dX8_areAllLinked_14 rfl rfl ?_
        refine pw_iload_n 3 dX8_areAllLinked_15 rfl rfl ?_
        obtain ⟨r_2, hc_1, hs⟩ := Option.bind_eq_some_iff.mp hs
        refine pw_callSi [.int a1, .int a3] (st := []) dX8_areAllLinked_16 mRX8_102 stX8_has inRX8 coX8_has hyX8_has (by decide) (Nat.le_of_ble_eq_true rfl) (conX8_has hc_1) ?_
        refine pw_if_eq 38 dX8_areAllLinked_19 (by decide) (fun c_5 => ?_) (fun c_5 => ?_)
        · rw [if_pos c_5] at hs
          exact PW.sub (lv' := [(0, .ref 0), (1, .int a1), (3, .int a3)]) [0, 1, 3] rfl (J38 a3 hs)
        · rw [if_neg c_5] at hs
          refine pw_iload_n 1 dX8_areAllLinked_22 rfl rfl ?_
          refine pw_aload_n 0 dX8_areAllLinked_23 rfl rfl ?_
          refine pw_getr 11 dX8_areAllLinked_24 clRX8 tM0 (Nat.le_of_ble_eq_true rfl) fRX8_28 rfl ?_
          refine pw_iload_n 3 dX8_areAllLinked_27 rfl rfl ?_
          obtain ⟨h_3, hs⟩ := gd_some hs
          refine pw_iaload dX8_areAllLinked_28 tM7 (inb_in h_3) ?_
          refine pw_iconst (-1 : Int32) dX8_areAllLinked_29 (by decide) ?_
          refine pw_ixor dX8_areAllLinked_30 ?_
          refine pw_iand dX8_areAllLinked_31 ?_
          refine pw_iconst (1 : Int32) dX8_areAllLinked_32 (by decide) ?_
          refine pw_iload_n 3 dX8_areAllLinked_33 rfl rfl ?_
          refine pw_ishl dX8_areAllLinked_34 ?_
          refine pw_icmp_ne 42 dX8_areAllLinked_35 (by decide) (fun c_4 => ?_) (fun c_4 => ?_)
          · rw [if_neg c_4] at hs
            exact PW.sub (lv' := [(0, .ref 0), (1, .int a1), (3, .int a3)]) [0, 1, 3] rfl (J42 a3 hs)
          · rw [if_pos c_4] at hs
            exact PW.sub (lv' := [(0, .ref 0), (1, .int a1), (3, .int a3)]) [0, 1, 3] rfl (J38 a3 hs)
  · skip
    obtain ⟨a2_8, a3_9⟩ := t
    replace hs : fX8_areAllLinked_E50 a1 a2_8 a3_9 sg = some oM := hs
    show PW tbM RX8 cX8_areAllLinked 4 (some .boolean) 1 21 (PoI oM sg) 50 [(0, .ref 0), (1, .int a1), (2, .int a2_8), (3, .int a3_9)] [] sg
    unfold fX8_areAllLinked_E50 at hs
    refine pw_iload_n 2 dX8_areAllLinked_50 rfl rfl ?_
    obtain ⟨h_10, hs⟩ := gd_some hs
    have hr := Option.some.inj hs
    exact pw_zreturn dX8_areAllLinked_51 rfl (zb_ok h_10) ⟨by rw [hr], rfl⟩
set_option maxRecDepth 100000 in
set_option maxHeartbeats 400000 in
theorem conX8_degrees {sg : Sg} {a1 : Int32} {oM : Int32} (h : fX8_degrees a1 sg = some oM) : Con tbM yX8_degrees cX8_degrees 4 (some .int) 1 22 [.ref 0, .int a1] sg (PoI oM sg) := by
  refine Con.of (by decide) (Nat.le_of_ble_eq_true rfl) ?_
  show PW tbM RX8 cX8_degrees 4 (some .int) 1 22 (PoI oM sg) 0 [(0, .ref 0), (1, .int a1)] [] sg
  have hs := h
  unfold fX8_degrees at hs
  refine pw_iconst (0 : Int32) dX8_degrees_0 (by decide) ?_
  refine pw_istore_n [(2, .int (0 : Int32)), (0, .ref 0), (1, .int a1)] dX8_degrees_1 rfl (Nat.le_of_ble_eq_true rfl) rfl ?_
  refine pw_iconst (0 : Int32) dX8_degrees_2 (by decide) ?_
  refine pw_istore_n [(3, .int (0 : Int32)), (2, .int (0 : Int32)), (0, .ref 0), (1, .int a1)] dX8_degrees_3 rfl (Nat.le_of_ble_eq_true rfl) rfl ?_
  obtain ⟨t, hL, hs⟩ := Option.bind_eq_some_iff.mp hs
  refine PW.sub [2, 3, 1, 0] (lv' := [(0, .ref 0), (1, .int a1), (2, .int (0 : Int32)), (3, .int (0 : Int32))]) rfl ?_
  refine lpS_pw (T := Int32 × Int32) (X := fun t => PW tbM RX8 cX8_degrees 4 (some .int) 1 22 (PoI oM sg) 4 [(0, .ref 0), (1, .int a1), (2, .int t.1), (3, .int t.2)] [] sg) (E := fun t => PW tbM RX8 cX8_degrees 4 (some .int) 1 22 (PoI oM sg) 40 [(0, .ref 0), (1, .int a1), (2, .int t.1), (3, .int t.2)] [] sg) (step := (fun t => fX8_degrees_L4 a1 sg t.1 t.2)) ?_ 300 ((0 : Int32), (0 : Int32)) t hL ?_
  · intro t oL hs hE hC
    obtain ⟨a2, a3⟩ := t
    replace hs : fX8_degrees_L4 a1 sg a2 a3 = some oL := hs
    show PW tbM RX8 cX8_degrees 4 (some .int) 1 22 (PoI oM sg) 4 [(0, .ref 0), (1, .int a1), (2, .int a2), (3, .int a3)] [] sg
    unfold fX8_degrees_L4 at hs
    have J32 : ∀ (a3 : Int32) (s0 : Int32) (s1 : Int32), fX8_degrees_L4_J32 a1 a3 s0 s1 sg = some oL → PW tbM RX8 cX8_degrees 4 (some .int) 1 22 (PoI oM sg) 32 [(0, .ref 0), (1, .int a1), (3, .int a3)] [.int s0, .int s1] sg := by
      intro a3 s0 s1 hs
      unfold fX8_degrees_L4_J32 at hs
      refine pw_iadd dX8_degrees_32 ?_
      refine pw_istore_n [(2, .int (s1 + s0)), (0, .ref 0), (1, .int a1), (3, .int a3)] dX8_degrees_33 rfl (Nat.le_of_ble_eq_true rfl) rfl ?_
      refine pw_iinc 3 (a3 + 1) [(3, .int (a3 + 1)), (2, .int (s1 + s0)), (0, .ref 0), (1, .int a1)] dX8_degrees_34 rfl rfl (Nat.le_of_ble_eq_true rfl) rfl ?_
      refine pw_goto 4 dX8_degrees_37 (by decide) ?_
      exact PW.sub (lv' := [(0, .ref 0), (1, .int a1), (2, .int (s1 + s0)), (3, .int (a3 + 1))]) [2, 3, 1, 0] rfl (hC ((s1 + s0), (a3 + 1)) (Option.some.inj hs).symm)
    refine pw_iload_n 3 dX8_degrees_4 rfl rfl ?_
    refine pw_bipush (8 : Int32) dX8_degrees_5 (by decide) ?_
    refine pw_icmp_ge 40 dX8_degrees_7 (by decide) (fun c_7 => ?_) (fun c_7 => ?_)
    · rw [if_pos c_7] at hs
      exact PW.sub (lv' := [(0, .ref 0), (1, .int a1), (2, .int a2), (3, .int a3)]) [0, 1, 2, 3] rfl (hE (a2, a3) (Option.some.inj hs).symm)
    · rw [if_neg c_7] at hs
      refine pw_iload_n 2 dX8_degrees_10 rfl rfl ?_
      refine pw_iload_n 1 dX8_degrees_11 rfl rfl ?_
      refine pw_iload_n 3 dX8_degrees_12 rfl rfl ?_
      obtain ⟨r_2, hc_1, hs⟩ := Option.bind_eq_some_iff.mp hs
      refine pw_callSi [.int a1, .int a3] (st := [.int a2]) dX8_degrees_13 mRX8_102 stX8_has inRX8 coX8_has hyX8_has (by decide) (Nat.le_of_ble_eq_true rfl) (conX8_has hc_1) ?_
      refine pw_if_eq 31 dX8_degrees_16 (by decide) (fun c_6 => ?_) (fun c_6 => ?_)
      · rw [if_pos c_6] at hs
        refine pw_iconst (0 : Int32) dX8_degrees_31 (by decide) ?_
        exact PW.sub (lv' := [(0, .ref 0), (1, .int a1), (3, .int a3)]) [0, 1, 3] rfl (J32 a3 (0 : Int32) a2 hs)
      · rw [if_neg c_6] at hs
        refine pw_aload_n 0 dX8_degrees_19 rfl rfl ?_
        refine pw_getr 11 dX8_degrees_20 clRX8 tM0 (Nat.le_of_ble_eq_true rfl) fRX8_28 rfl ?_
        refine pw_iload_n 3 dX8_degrees_23 rfl rfl ?_
        obtain ⟨h_3, hs⟩ := gd_some hs
        refine pw_iaload dX8_degrees_24 tM7 (inb_in h_3) ?_
        obtain ⟨r_5, hc_4, hs⟩ := Option.bind_eq_some_iff.mp hs
        refine pw_callSi [.int (rd sg 7 (Int32.toNatClampNeg a3))] (st := [.int a2]) dX8_degrees_25 mRX8_109 stX8_ones inRX8 coX8_ones hyX8_ones (by decide) (Nat.le_of_ble_eq_true rfl) (conX8_ones hc_4) ?_
        refine pw_goto 32 dX8_degrees_28 (by decide) ?_
        exact PW.sub (lv' := [(0, .ref 0), (1, .int a1), (3, .int a3)]) [0, 1, 3] rfl (J32 a3 r_5 a2 hs)
  · skip
    obtain ⟨a2_8, a3_9⟩ := t
    replace hs : fX8_degrees_E40 a1 a2_8 a3_9 sg = some oM := hs
    show PW tbM RX8 cX8_degrees 4 (some .int) 1 22 (PoI oM sg) 40 [(0, .ref 0), (1, .int a1), (2, .int a2_8), (3, .int a3_9)] [] sg
    unfold fX8_degrees_E40 at hs
    refine pw_iload_n 2 dX8_degrees_40 rfl rfl ?_
    have hr := Option.some.inj hs
    exact pw_ireturn dX8_degrees_41 rfl ⟨by rw [hr], rfl⟩
set_option maxRecDepth 100000 in
set_option maxHeartbeats 400000 in
theorem conX8_layTop {sg : Sg}  {oM : Sg} (h : fX8_layTop  sg = some oM) : Con tbM yX8_layTop cX8_layTop 5 none 2 45 [.ref 0] sg (PoV oM) := by
  refine Con.of (by decide) (Nat.le_of_ble_eq_true rfl) ?_
  show PW tbM RX8 cX8_layTop 5 none 2 45 (PoV oM) 0 [(0, .ref 0)] [] sg
  have hs := h
  unfold fX8_layTop at hs
  refine pw_aload_n 0 dX8_layTop_0 rfl rfl ?_
  refine pw_iconst (0 : Int32) dX8_layTop_1 (by decide) ?_
  refine pw_puti 17 (fty := .int) dX8_layTop_2 clRX8 tM0 (Nat.le_of_ble_eq_true rfl) fRX8_118 rfl rfl (by decide +kernel) rfl rfl ?_
  refine pw_sg (fun sg_1 e_sg_1 => ?_)
  replace hs := lt_use hs e_sg_1
  refine pw_iconst (0 : Int32) dX8_layTop_5 (by decide) ?_
  refine pw_istore_n [(1, .int (0 : Int32)), (0, .ref 0)] dX8_layTop_6 rfl (Nat.le_of_ble_eq_true rfl) rfl ?_
  refine pw_iconst (1 : Int32) dX8_layTop_7 (by decide) ?_
  refine pw_istore_n [(2, .int (1 : Int32)), (1, .int (0 : Int32)), (0, .ref 0)] dX8_layTop_8 rfl (Nat.le_of_ble_eq_true rfl) rfl ?_
  obtain ⟨t, hL, hs⟩ := Option.bind_eq_some_iff.mp hs
  refine PW.sub [2, 1, 0] (lv' := [(0, .ref 0), (1, .int (0 : Int32)), (2, .int (1 : Int32))]) rfl ?_
  refine lpS_pw (T := Int32 × Int32 × Sg) (X := fun t => PW tbM RX8 cX8_layTop 5 none 2 45 (PoV oM) 9 [(0, .ref 0), (1, .int t.1), (2, .int t.2.1)] [] t.2.2) (E := fun t => PW tbM RX8 cX8_layTop 5 none 2 45 (PoV oM) 121 [(0, .ref 0), (1, .int t.1), (2, .int t.2.1)] [] t.2.2) (step := (fun t => fX8_layTop_L9 t.1 t.2.1 t.2.2)) ?_ 300 ((0 : Int32), (1 : Int32), sg_1) t hL ?_
  · intro t oL hs hE hC
    obtain ⟨a1, a2, sg⟩ := t
    replace hs : fX8_layTop_L9 a1 a2 sg = some oL := hs
    show PW tbM RX8 cX8_layTop 5 none 2 45 (PoV oM) 9 [(0, .ref 0), (1, .int a1), (2, .int a2)] [] sg
    unfold fX8_layTop_L9 at hs
    have J114 : ∀ (a2 : Int32) (s0 : Int32) (sg : Sg), fX8_layTop_L9_J114 a2 s0 sg = some oL → PW tbM RX8 cX8_layTop 5 none 2 45 (PoV oM) 114 [(0, .ref 0), (2, .int a2)] [.int s0] sg := by
      intro a2 s0 sg hs
      unfold fX8_layTop_L9_J114 at hs
      refine pw_istore_n [(1, .int s0), (0, .ref 0), (2, .int a2)] dX8_layTop_114 rfl (Nat.le_of_ble_eq_true rfl) rfl ?_
      refine pw_iinc 2 (a2 + 1) [(2, .int (a2 + 1)), (1, .int s0), (0, .ref 0)] dX8_layTop_115 rfl rfl (Nat.le_of_ble_eq_true rfl) rfl ?_
      refine pw_goto 9 dX8_layTop_118 (by decide) ?_
      exact PW.sub (lv' := [(0, .ref 0), (1, .int s0), (2, .int (a2 + 1))]) [2, 1, 0] rfl (hC (s0, (a2 + 1), sg) (Option.some.inj hs).symm)
    have J99 : ∀ (a1 : Int32) (a2 : Int32) (a4 : Int32) (s0 : Int32) (sg : Sg), fX8_layTop_L9_J99 a1 a2 a4 s0 sg = some oL → PW tbM RX8 cX8_layTop 5 none 2 45 (PoV oM) 99 [(0, .ref 0), (1, .int a1), (2, .int a2), (4, .int a4)] [.int s0, .ref 0] sg := by
      intro a1 a2 a4 s0 sg hs
      unfold fX8_layTop_L9_J99 at hs
      refine pw_puti 17 (fty := .int) dX8_layTop_99 clRX8 tM0 (Nat.le_of_ble_eq_true rfl) fRX8_118 rfl rfl (by decide +kernel) rfl rfl ?_
      refine pw_sg (fun sg_18 e_sg_18 => ?_)
      replace hs := lt_use hs e_sg_18
      refine pw_iload 3 dX8_layTop_102 rfl ?_
      refine pw_iload_n 1 dX8_layTop_104 rfl rfl ?_
      refine pw_icmp_le 113 dX8_layTop_105 (by decide) (fun c_19 => ?_) (fun c_19 => ?_)
      · rw [if_pos c_19] at hs
        refine pw_iload_n 1 dX8_layTop_113 rfl rfl ?_
        exact PW.sub (lv' := [(0, .ref 0), (2, .int a2)]) [0, 2] rfl (J114 a2 a1 sg_18 hs)
      · rw [if_neg c_19] at hs
        refine pw_iload 3 dX8_layTop_108 rfl ?_
        refine pw_goto 114 dX8_layTop_110 (by decide) ?_
        exact PW.sub (lv' := [(0, .ref 0), (2, .int a2)]) [0, 2] rfl (J114 a2 a4 sg_18 hs)
    have J82 : ∀ (a1 : Int32) (a2 : Int32) (s0 : Int32) (sg : Sg), fX8_layTop_L9_J82 a1 a2 s0 sg = some oL → PW tbM RX8 cX8_layTop 5 none 2 45 (PoV oM) 82 [(0, .ref 0), (1, .int a1), (2, .int a2)] [.int s0] sg := by
      intro a1 a2 s0 sg hs
      unfold fX8_layTop_L9_J82 at hs
      refine pw_istore [(4, .int s0), (0, .ref 0), (1, .int a1), (2, .int a2)] dX8_layTop_82 (Nat.le_of_ble_eq_true rfl) rfl ?_
      refine pw_aload_n 1 dX8_layTop_84 rfl rfl ?_
      refine pw_iload 0 dX8_layTop_85 rfl ?_
      refine pw_iload_n 2 dX8_layTop_87 rfl rfl ?_
      refine pw_icmp_le 95 dX8_layTop_88 (by decide) (fun c_17 => ?_) (fun c_17 => ?_)
      · rw [if_pos c_17] at hs
        refine pw_aload_n 1 dX8_layTop_95 rfl rfl ?_
        refine pw_geti 17 dX8_layTop_96 clRX8 tM0 (Nat.le_of_ble_eq_true rfl) fRX8_118 rfl ?_
        exact PW.sub (lv' := [(0, .ref 0), (1, .int a1), (2, .int a2), (4, .int s0)]) [1, 2, 3, 0] rfl (J99 a1 a2 s0 (rd sg 0 17) sg hs)
      · rw [if_neg c_17] at hs
        refine pw_iload_n 3 dX8_layTop_91 rfl rfl ?_
        refine pw_goto 99 dX8_layTop_92 (by decide) ?_
        exact PW.sub (lv' := [(0, .ref 0), (1, .int a1), (2, .int a2), (4, .int s0)]) [1, 2, 3, 0] rfl (J99 a1 a2 s0 a2 sg hs)
    have J60 : ∀ (a1 : Int32) (a2 : Int32) (s0 : Int32) (sg : Sg), fX8_layTop_L9_J60 a1 a2 s0 sg = some oL → PW tbM RX8 cX8_layTop 5 none 2 45 (PoV oM) 60 [(0, .ref 0), (1, .int a1), (2, .int a2)] [.int s0] sg := by
      intro a1 a2 s0 sg hs
      unfold fX8_layTop_L9_J60 at hs
      refine pw_istore_n [(3, .int s0), (0, .ref 0), (1, .int a1), (2, .int a2)] dX8_layTop_60 rfl (Nat.le_of_ble_eq_true rfl) rfl ?_
      refine pw_iload_n 0 dX8_layTop_61 rfl rfl ?_
      refine pw_if_eq 81 dX8_layTop_62 (by decide) (fun c_16 => ?_) (fun c_16 => ?_)
      · rw [if_pos c_16] at hs
        refine pw_iconst (0 : Int32) dX8_layTop_81 (by decide) ?_
        exact PW.sub (lv' := [(0, .ref 0), (1, .int a1), (2, .int a2)]) [1, 2, 3] rfl (J82 a1 a2 (0 : Int32) sg hs)
      · rw [if_neg c_16] at hs
        refine pw_bipush (100 : Int32) dX8_layTop_65 (by decide) ?_
        refine pw_iload_n 3 dX8_layTop_67 rfl rfl ?_
        obtain ⟨r_13, hc_12, hs⟩ := Option.bind_eq_some_iff.mp hs
        refine pw_callSi [.int a2] (st := [.int (100 : Int32)]) dX8_layTop_68 mRX8_109 stX8_ones inRX8 coX8_ones hyX8_ones (by decide) (Nat.le_of_ble_eq_true rfl) (conX8_ones hc_12) ?_
        refine pw_imul dX8_layTop_71 ?_
        refine pw_aload_n 1 dX8_layTop_72 rfl rfl ?_
        refine pw_iload_n 3 dX8_layTop_73 rfl rfl ?_
        obtain ⟨r_15, hc_14, hs⟩ := Option.bind_eq_some_iff.mp hs
        refine pw_callVi [.int a2] (st := [.int ((100 : Int32) * r_13)]) dX8_layTop_74 tM0 rfl mRX8_124 imX8_degrees seX8_degrees inRX8 coX8_degrees hyX8_degrees (by decide) (Nat.le_of_ble_eq_true rfl) (conX8_degrees hc_14) ?_
        refine pw_iadd dX8_layTop_77 ?_
        refine pw_goto 82 dX8_layTop_78 (by decide) ?_
        exact PW.sub (lv' := [(0, .ref 0), (1, .int a1), (2, .int a2)]) [1, 2, 3] rfl (J82 a1 a2 (((100 : Int32) * r_13) + r_15) sg hs)
    have J59 : ∀ (a1 : Int32) (a2 : Int32) (sg : Sg), fX8_layTop_L9_J59 a1 a2 sg = some oL → PW tbM RX8 cX8_layTop 5 none 2 45 (PoV oM) 59 [(0, .ref 0), (1, .int a1), (2, .int a2)] [] sg := by
      intro a1 a2 sg hs
      unfold fX8_layTop_L9_J59 at hs
      refine pw_iconst (0 : Int32) dX8_layTop_59 (by decide) ?_
      exact PW.sub (lv' := [(0, .ref 0), (1, .int a1), (2, .int a2)]) [0, 1, 2] rfl (J60 a1 a2 (0 : Int32) sg hs)
    refine pw_iload_n 2 dX8_layTop_9 rfl rfl ?_
    refine pw_sipush (256 : Int32) dX8_layTop_10 (by decide) ?_
    refine pw_icmp_ge 121 dX8_layTop_13 (by decide) (fun c_11 => ?_) (fun c_11 => ?_)
    · rw [if_pos c_11] at hs
      exact PW.sub (lv' := [(0, .ref 0), (1, .int a1), (2, .int a2)]) [0, 1, 2] rfl (hE (a1, a2, sg) (Option.some.inj hs).symm)
    · rw [if_neg c_11] at hs
      refine pw_aload_n 0 dX8_layTop_16 rfl rfl ?_
      refine pw_geti 15 dX8_layTop_17 clRX8 tM0 (Nat.le_of_ble_eq_true rfl) fRX8_112 rfl ?_
      refine pw_if_le 121 dX8_layTop_20 (by decide) (fun c_10 => ?_) (fun c_10 => ?_)
      · rw [if_pos c_10] at hs
        exact PW.sub (lv' := [(0, .ref 0), (1, .int a1), (2, .int a2)]) [0, 1, 2] rfl (hE (a1, a2, sg) (Option.some.inj hs).symm)
      · rw [if_neg c_10] at hs
        refine pw_iload_n 2 dX8_layTop_23 rfl rfl ?_
        refine pw_aload_n 0 dX8_layTop_24 rfl rfl ?_
        refine pw_getr 14 dX8_layTop_25 clRX8 tM0 (Nat.le_of_ble_eq_true rfl) fRX8_34 rfl ?_
        refine pw_iconst (0 : Int32) dX8_layTop_28 (by decide) ?_
        obtain ⟨h_2, hs⟩ := gd_some hs
        refine pw_iaload dX8_layTop_29 tM9 (inb_in h_2) ?_
        obtain ⟨r_4, hc_3, hs⟩ := Option.bind_eq_some_iff.mp hs
        refine pw_callSi [.int a2, .int (rd sg 9 (Int32.toNatClampNeg (0 : Int32)))] (st := []) dX8_layTop_30 mRX8_102 stX8_has inRX8 coX8_has hyX8_has (by decide) (Nat.le_of_ble_eq_true rfl) (conX8_has hc_3) ?_
        refine pw_if_eq 59 dX8_layTop_33 (by decide) (fun c_9 => ?_) (fun c_9 => ?_)
        · rw [if_pos c_9] at hs
          exact PW.sub (lv' := [(0, .ref 0), (1, .int a1), (2, .int a2)]) [0, 1, 2] rfl (J59 a1 a2 sg hs)
        · rw [if_neg c_9] at hs
          refine pw_iload_n 2 dX8_layTop_36 rfl rfl ?_
          refine pw_aload_n 0 dX8_layTop_37 rfl rfl ?_
          refine pw_geti 13 dX8_layTop_38 clRX8 tM0 (Nat.le_of_ble_eq_true rfl) fRX8_99 rfl ?_
          refine pw_iconst (-1 : Int32) dX8_layTop_41 (by decide) ?_
          refine pw_ixor dX8_layTop_42 ?_
          refine pw_iand dX8_layTop_43 ?_
          refine pw_if_ne 59 dX8_layTop_44 (by decide) (fun c_8 => ?_) (fun c_8 => ?_)
          · rw [if_neg c_8] at hs
            exact PW.sub (lv' := [(0, .ref 0), (1, .int a1), (2, .int a2)]) [0, 1, 2] rfl (J59 a1 a2 sg hs)
          · rw [if_pos c_8] at hs
            refine pw_aload_n 0 dX8_layTop_47 rfl rfl ?_
            refine pw_iload_n 2 dX8_layTop_48 rfl rfl ?_
            obtain ⟨r_6, hc_5, hs⟩ := Option.bind_eq_some_iff.mp hs
            refine pw_callVi [.int a2] (st := []) dX8_layTop_49 tM0 rfl mRX8_121 imX8_areAllLinked seX8_areAllLinked inRX8 coX8_areAllLinked hyX8_areAllLinked (by decide) (Nat.le_of_ble_eq_true rfl) (conX8_areAllLinked hc_5) ?_
            refine pw_if_eq 59 dX8_layTop_52 (by decide) (fun c_7 => ?_) (fun c_7 => ?_)
            · rw [if_pos c_7] at hs
              exact PW.sub (lv' := [(0, .ref 0), (1, .int a1), (2, .int a2)]) [0, 1, 2] rfl (J59 a1 a2 sg hs)
            · rw [if_neg c_7] at hs
              refine pw_iconst (1 : Int32) dX8_layTop_55 (by decide) ?_
              refine pw_goto 60 dX8_layTop_56 (by decide) ?_
              exact PW.sub (lv' := [(0, .ref 0), (1, .int a1), (2, .int a2)]) [0, 1, 2] rfl (J60 a1 a2 (1 : Int32) sg hs)
  · skip
    obtain ⟨a1_20, a2_21, sg_22⟩ := t
    replace hs : fX8_layTop_E121 a1_20 a2_21 sg_22 = some oM := hs
    show PW tbM RX8 cX8_layTop 5 none 2 45 (PoV oM) 121 [(0, .ref 0), (1, .int a1_20), (2, .int a2_21)] [] sg_22
    unfold fX8_layTop_E121 at hs
    have hr := Option.some.inj hs
    exact pw_return dX8_layTop_121 rfl ⟨rfl, hr⟩
set_option maxRecDepth 100000 in
set_option maxHeartbeats 400000 in
theorem conX8_hillOf {sg : Sg} {a1 : Int32} {oM : Int32} (h : fX8_hillOf a1 sg = some oM) : Con tbM yX8_hillOf cX8_hillOf 5 (some .int) 0 0 [.ref 0, .int a1] sg (PoI oM sg) := by
  refine Con.of (by decide) (Nat.le_of_ble_eq_true rfl) ?_
  show PW tbM RX8 cX8_hillOf 5 (some .int) 0 0 (PoI oM sg) 0 [(0, .ref 0), (1, .int a1)] [] sg
  have hs := h
  unfold fX8_hillOf at hs
  refine pw_iconst (-1 : Int32) dX8_hillOf_0 (by decide) ?_
  refine pw_istore_n [(2, .int (-1 : Int32)), (0, .ref 0), (1, .int a1)] dX8_hillOf_1 rfl (Nat.le_of_ble_eq_true rfl) rfl ?_
  refine pw_iconst (0 : Int32) dX8_hillOf_2 (by decide) ?_
  refine pw_istore_n [(3, .int (0 : Int32)), (2, .int (-1 : Int32)), (0, .ref 0), (1, .int a1)] dX8_hillOf_3 rfl (Nat.le_of_ble_eq_true rfl) rfl ?_
  obtain ⟨t, hL, hs⟩ := Option.bind_eq_some_iff.mp hs
  refine PW.sub [2, 3, 1, 0] (lv' := [(0, .ref 0), (1, .int a1), (2, .int (-1 : Int32)), (3, .int (0 : Int32))]) rfl ?_
  refine lpS_pw (T := Int32 × Int32) (X := fun t => PW tbM RX8 cX8_hillOf 5 (some .int) 0 0 (PoI oM sg) 4 [(0, .ref 0), (1, .int a1), (2, .int t.1), (3, .int t.2)] [] sg) (E := fun t => PW tbM RX8 cX8_hillOf 5 (some .int) 0 0 (PoI oM sg) 70 [(0, .ref 0), (1, .int a1), (2, .int t.1), (3, .int t.2)] [] sg) (step := (fun t => fX8_hillOf_L4 a1 sg t.1 t.2)) ?_ 300 ((-1 : Int32), (0 : Int32)) t hL ?_
  · intro t oL hs hE hC
    obtain ⟨a2, a3⟩ := t
    replace hs : fX8_hillOf_L4 a1 sg a2 a3 = some oL := hs
    show PW tbM RX8 cX8_hillOf 5 (some .int) 0 0 (PoI oM sg) 4 [(0, .ref 0), (1, .int a1), (2, .int a2), (3, .int a3)] [] sg
    unfold fX8_hillOf_L4 at hs
    have J63 : ∀ (a3 : Int32) (s0 : Int32), fX8_hillOf_L4_J63 a1 a3 s0 sg = some oL → PW tbM RX8 cX8_hillOf 5 (some .int) 0 0 (PoI oM sg) 63 [(0, .ref 0), (1, .int a1), (3, .int a3)] [.int s0] sg := by
      intro a3 s0 hs
      unfold fX8_hillOf_L4_J63 at hs
      refine pw_istore_n [(2, .int s0), (0, .ref 0), (1, .int a1), (3, .int a3)] dX8_hillOf_63 rfl (Nat.le_of_ble_eq_true rfl) rfl ?_
      refine pw_iinc 3 (a3 + 1) [(3, .int (a3 + 1)), (2, .int s0), (0, .ref 0), (1, .int a1)] dX8_hillOf_64 rfl rfl (Nat.le_of_ble_eq_true rfl) rfl ?_
      refine pw_goto 4 dX8_hillOf_67 (by decide) ?_
      exact PW.sub (lv' := [(0, .ref 0), (1, .int a1), (2, .int s0), (3, .int (a3 + 1))]) [2, 3, 1, 0] rfl (hC (s0, (a3 + 1)) (Option.some.inj hs).symm)
    have J58 : ∀ (a3 : Int32), fX8_hillOf_L4_J58 a1 a3 sg = some oL → PW tbM RX8 cX8_hillOf 5 (some .int) 0 0 (PoI oM sg) 58 [(0, .ref 0), (1, .int a1), (3, .int a3)] [] sg := by
      intro a3 hs
      unfold fX8_hillOf_L4_J58 at hs
      refine pw_iload_n 2 dX8_hillOf_58 rfl rfl ?_
      refine pw_goto 63 dX8_hillOf_59 (by decide) ?_
      exact PW.sub (lv' := [(0, .ref 0), (1, .int a1), (3, .int a3)]) [0, 1, 2] rfl (J63 a3 a3 hs)
    refine pw_iload_n 3 dX8_hillOf_4 rfl rfl ?_
    refine pw_aload_n 0 dX8_hillOf_5 rfl rfl ?_
    refine pw_getr 10 dX8_hillOf_6 clRX8 tM0 (Nat.le_of_ble_eq_true rfl) fRX8_25 rfl ?_
    refine pw_iload_n 1 dX8_hillOf_9 rfl rfl ?_
    obtain ⟨h_1, hs⟩ := gd_some hs
    refine pw_iaload dX8_hillOf_10 tM6 (inb_in h_1) ?_
    refine pw_icmp_ge 70 dX8_hillOf_11 (by decide) (fun c_9 => ?_) (fun c_9 => ?_)
    · rw [if_pos c_9] at hs
      exact PW.sub (lv' := [(0, .ref 0), (1, .int a1), (2, .int a2), (3, .int a3)]) [0, 1, 2, 3] rfl (hE (a2, a3) (Option.some.inj hs).symm)
    · rw [if_neg c_9] at hs
      refine pw_aload_n 0 dX8_hillOf_14 rfl rfl ?_
      refine pw_getr 9 dX8_hillOf_15 clRX8 tM0 (Nat.le_of_ble_eq_true rfl) fRX8_22 rfl ?_
      refine pw_bipush (8 : Int32) dX8_hillOf_18 (by decide) ?_
      refine pw_iload_n 1 dX8_hillOf_20 rfl rfl ?_
      refine pw_imul dX8_hillOf_21 ?_
      refine pw_iload_n 3 dX8_hillOf_22 rfl rfl ?_
      refine pw_iadd dX8_hillOf_23 ?_
      obtain ⟨h_2, hs⟩ := gd_some hs
      refine pw_iaload dX8_hillOf_24 tM5 (inb_in h_2) ?_
      refine pw_topi (fun a4_3 e_a4_3 => ?_)
      replace hs := lt_use hs e_a4_3
      refine pw_istore [(4, .int a4_3), (0, .ref 0), (1, .int a1), (2, .int a2), (3, .int a3)] dX8_hillOf_25 (Nat.le_of_ble_eq_true rfl) rfl ?_
      refine pw_iload_n 3 dX8_hillOf_27 rfl rfl ?_
      refine pw_iconst (-1 : Int32) dX8_hillOf_28 (by decide) ?_
      refine pw_icmp_eq 58 dX8_hillOf_29 (by decide) (fun c_8 => ?_) (fun c_8 => ?_)
      · rw [if_pos c_8] at hs
        exact PW.sub (lv' := [(0, .ref 0), (1, .int a1), (3, .int a3)]) [1, 2, 4] rfl (J58 a3 hs)
      · rw [if_neg c_8] at hs
        refine pw_aload_n 1 dX8_hillOf_32 rfl rfl ?_
        refine pw_getr 16 dX8_hillOf_33 clRX8 tM0 (Nat.le_of_ble_eq_true rfl) fRX8_37 rfl ?_
        refine pw_iload 0 dX8_hillOf_36 rfl ?_
        obtain ⟨h_4, hs⟩ := gd_some hs
        refine pw_iaload dX8_hillOf_38 tM10 (inb_in h_4) ?_
        refine pw_aload_n 1 dX8_hillOf_39 rfl rfl ?_
        refine pw_getr 16 dX8_hillOf_40 clRX8 tM0 (Nat.le_of_ble_eq_true rfl) fRX8_37 rfl ?_
        refine pw_aload_n 1 dX8_hillOf_43 rfl rfl ?_
        refine pw_getr 9 dX8_hillOf_44 clRX8 tM0 (Nat.le_of_ble_eq_true rfl) fRX8_22 rfl ?_
        refine pw_bipush (8 : Int32) dX8_hillOf_47 (by decide) ?_
        refine pw_iload_n 2 dX8_hillOf_49 rfl rfl ?_
        refine pw_imul dX8_hillOf_50 ?_
        refine pw_iload_n 3 dX8_hillOf_51 rfl rfl ?_
        refine pw_iadd dX8_hillOf_52 ?_
        obtain ⟨h_5, hs⟩ := gd_some hs
        refine pw_iaload dX8_hillOf_53 tM5 (inb_in h_5) ?_
        obtain ⟨h_6, hs⟩ := gd_some hs
        refine pw_iaload dX8_hillOf_54 tM10 (inb_in h_6) ?_
        refine pw_icmp_ge 62 dX8_hillOf_55 (by decide) (fun c_7 => ?_) (fun c_7 => ?_)
        · rw [if_pos c_7] at hs
          refine pw_iload_n 3 dX8_hillOf_62 rfl rfl ?_
          exact PW.sub (lv' := [(0, .ref 0), (1, .int a1), (3, .int a3)]) [1, 2, 4] rfl (J63 a3 a2 hs)
        · rw [if_neg c_7] at hs
          exact PW.sub (lv' := [(0, .ref 0), (1, .int a1), (3, .int a3)]) [1, 2, 4] rfl (J58 a3 hs)
  · skip
    obtain ⟨a2_10, a3_11⟩ := t
    replace hs : fX8_hillOf_E70 a1 a2_10 a3_11 sg = some oM := hs
    show PW tbM RX8 cX8_hillOf 5 (some .int) 0 0 (PoI oM sg) 70 [(0, .ref 0), (1, .int a1), (2, .int a2_10), (3, .int a3_11)] [] sg
    unfold fX8_hillOf_E70 at hs
    refine pw_iload_n 2 dX8_hillOf_70 rfl rfl ?_
    have hr := Option.some.inj hs
    exact pw_ireturn dX8_hillOf_71 rfl ⟨by rw [hr], rfl⟩
set_option maxRecDepth 100000 in
set_option maxHeartbeats 400000 in
theorem conX8_areTops {sg : Sg} {a1 : Int32} {a2 : Int32} {oM : Int32} (h : fX8_areTops a1 a2 sg = some oM) : Con tbM yX8_areTops cX8_areTops 3 (some .boolean) 1 21 [.ref 0, .int a1, .int a2] sg (PoI oM sg) := by
  refine Con.of (by decide) (Nat.le_of_ble_eq_true rfl) ?_
  show PW tbM RX8 cX8_areTops 3 (some .boolean) 1 21 (PoI oM sg) 0 [(0, .ref 0), (1, .int a1), (2, .int a2)] [] sg
  have hs := h
  unfold fX8_areTops at hs
  have J27 : ∀ (s0 : Int32), fX8_areTops_J27 s0 sg = some oM → PW tbM RX8 cX8_areTops 3 (some .boolean) 1 21 (PoI oM sg) 27 [] [.int s0] sg := by
    intro s0 hs
    unfold fX8_areTops_J27 at hs
    obtain ⟨h_7, hs⟩ := gd_some hs
    have hr := Option.some.inj hs
    exact pw_zreturn dX8_areTops_27 rfl (zb_ok h_7) ⟨by rw [hr], rfl⟩
  have J26 : fX8_areTops_J26 sg = some oM → PW tbM RX8 cX8_areTops 3 (some .boolean) 1 21 (PoI oM sg) 26 [] [] sg := by
    intro  hs
    unfold fX8_areTops_J26 at hs
    refine pw_iconst (0 : Int32) dX8_areTops_26 (by decide) ?_
    exact PW.sub (lv' := []) [] rfl (J27 (0 : Int32) hs)
  refine pw_aload_n 0 dX8_areTops_0 rfl rfl ?_
  refine pw_geti 17 dX8_areTops_1 clRX8 tM0 (Nat.le_of_ble_eq_true rfl) fRX8_118 rfl ?_
  refine pw_iload_n 1 dX8_areTops_4 rfl rfl ?_
  obtain ⟨r_2, hc_1, hs⟩ := Option.bind_eq_some_iff.mp hs
  refine pw_callSi [.int (rd sg 0 17), .int a1] (st := []) dX8_areTops_5 mRX8_102 stX8_has inRX8 coX8_has hyX8_has (by decide) (Nat.le_of_ble_eq_true rfl) (conX8_has hc_1) ?_
  refine pw_if_eq 26 dX8_areTops_8 (by decide) (fun c_6 => ?_) (fun c_6 => ?_)
  · rw [if_pos c_6] at hs
    exact PW.sub (lv' := []) [] rfl (J26  hs)
  · rw [if_neg c_6] at hs
    refine pw_aload_n 0 dX8_areTops_11 rfl rfl ?_
    refine pw_geti 17 dX8_areTops_12 clRX8 tM0 (Nat.le_of_ble_eq_true rfl) fRX8_118 rfl ?_
    refine pw_iload_n 2 dX8_areTops_15 rfl rfl ?_
    obtain ⟨r_4, hc_3, hs⟩ := Option.bind_eq_some_iff.mp hs
    refine pw_callSi [.int (rd sg 0 17), .int a2] (st := []) dX8_areTops_16 mRX8_102 stX8_has inRX8 coX8_has hyX8_has (by decide) (Nat.le_of_ble_eq_true rfl) (conX8_has hc_3) ?_
    refine pw_if_eq 26 dX8_areTops_19 (by decide) (fun c_5 => ?_) (fun c_5 => ?_)
    · rw [if_pos c_5] at hs
      exact PW.sub (lv' := []) [] rfl (J26  hs)
    · rw [if_neg c_5] at hs
      refine pw_iconst (1 : Int32) dX8_areTops_22 (by decide) ?_
      refine pw_goto 27 dX8_areTops_23 (by decide) ?_
      exact PW.sub (lv' := []) [] rfl (J27 (1 : Int32) hs)
set_option maxRecDepth 100000 in
set_option maxHeartbeats 400000 in
theorem conX8_layVotes {sg : Sg}  {oM : Sg} (h : fX8_layVotes  sg = some oM) : Con tbM yX8_layVotes cX8_layVotes 8 none 2 43 [.ref 0] sg (PoV oM) := by
  refine Con.of (by decide) (Nat.le_of_ble_eq_true rfl) ?_
  show PW tbM RX8 cX8_layVotes 8 none 2 43 (PoV oM) 0 [(0, .ref 0)] [] sg
  have hs := h
  unfold fX8_layVotes at hs
  refine pw_iconst (0 : Int32) dX8_layVotes_0 (by decide) ?_
  refine pw_istore_n [(1, .int (0 : Int32)), (0, .ref 0)] dX8_layVotes_1 rfl (Nat.le_of_ble_eq_true rfl) rfl ?_
  obtain ⟨t, hL, hs⟩ := Option.bind_eq_some_iff.mp hs
  refine PW.sub [1, 0] (lv' := [(0, .ref 0), (1, .int (0 : Int32))]) rfl ?_
  refine lpS_pw (T := Int32 × Sg) (X := fun t => PW tbM RX8 cX8_layVotes 8 none 2 43 (PoV oM) 2 [(0, .ref 0), (1, .int t.1)] [] t.2) (E := fun t => PW tbM RX8 cX8_layVotes 8 none 2 43 (PoV oM) 128 [(0, .ref 0), (1, .int t.1)] [] t.2) (step := (fun t => fX8_layVotes_L2 t.1 t.2)) ?_ 300 ((0 : Int32), sg) t hL ?_
  · intro t oL hs hE hC
    obtain ⟨a1, sg⟩ := t
    replace hs : fX8_layVotes_L2 a1 sg = some oL := hs
    show PW tbM RX8 cX8_layVotes 8 none 2 43 (PoV oM) 2 [(0, .ref 0), (1, .int a1)] [] sg
    unfold fX8_layVotes_L2 at hs
    refine pw_iload_n 1 dX8_layVotes_2 rfl rfl ?_
    refine pw_aload_n 0 dX8_layVotes_3 rfl rfl ?_
    refine pw_geti 2 dX8_layVotes_4 clRX8 tM0 (Nat.le_of_ble_eq_true rfl) fRX8_75 rfl ?_
    refine pw_icmp_ge 128 dX8_layVotes_7 (by decide) (fun c_19 => ?_) (fun c_19 => ?_)
    · rw [if_pos c_19] at hs
      exact PW.sub (lv' := [(0, .ref 0), (1, .int a1)]) [0, 1] rfl (hE (a1, sg) (Option.some.inj hs).symm)
    · rw [if_neg c_19] at hs
      refine pw_aload_n 0 dX8_layVotes_10 rfl rfl ?_
      refine pw_iload_n 1 dX8_layVotes_11 rfl rfl ?_
      obtain ⟨r_2, hc_1, hs⟩ := Option.bind_eq_some_iff.mp hs
      refine pw_callVi [.int a1] (st := []) dX8_layVotes_12 tM0 rfl mRX8_127 imX8_hillOf seX8_hillOf inRX8 coX8_hillOf hyX8_hillOf (by decide) (Nat.le_of_ble_eq_true rfl) (conX8_hillOf hc_1) ?_
      refine pw_istore_n [(2, .int r_2), (0, .ref 0), (1, .int a1)] dX8_layVotes_15 rfl (Nat.le_of_ble_eq_true rfl) rfl ?_
      refine pw_iconst (1 : Int32) dX8_layVotes_16 (by decide) ?_
      refine pw_istore_n [(3, .int (1 : Int32)), (2, .int r_2), (0, .ref 0), (1, .int a1)] dX8_layVotes_17 rfl (Nat.le_of_ble_eq_true rfl) rfl ?_
      obtain ⟨t, hL, hs⟩ := Option.bind_eq_some_iff.mp hs
      refine PW.sub [2, 3, 1, 0] (lv' := [(0, .ref 0), (1, .int a1), (2, .int r_2), (3, .int (1 : Int32))]) rfl ?_
      refine lpS_pw (T := Int32 × Sg) (X := fun t => PW tbM RX8 cX8_layVotes 8 none 2 43 (PoV oM) 18 [(0, .ref 0), (1, .int a1), (2, .int r_2), (3, .int t.1)] [] t.2) (E := fun t => PW tbM RX8 cX8_layVotes 8 none 2 43 (PoV oM) 122 [(0, .ref 0), (1, .int a1), (2, .int r_2), (3, .int t.1)] [] t.2) (step := (fun t => fX8_layVotes_L18 a1 r_2 t.1 t.2)) ?_ 300 ((1 : Int32), sg) t hL ?_
      · intro t oL hs hE hC
        obtain ⟨a3, sg⟩ := t
        replace hs : fX8_layVotes_L18 a1 r_2 a3 sg = some oL := hs
        show PW tbM RX8 cX8_layVotes 8 none 2 43 (PoV oM) 18 [(0, .ref 0), (1, .int a1), (2, .int r_2), (3, .int a3)] [] sg
        unfold fX8_layVotes_L18 at hs
        have J114 : ∀ (a3 : Int32) (s0 : Int32) (s1 : Int32) (s2 : Int32) (sg : Sg), fX8_layVotes_L18_J114 a1 r_2 a3 s0 s1 s2 sg = some oL → PW tbM RX8 cX8_layVotes 8 none 2 43 (PoV oM) 114 [(0, .ref 0), (1, .int a1), (2, .int r_2), (3, .int a3)] [.int s0, .int s1, .int s2, .ref 11] sg := by
          intro a3 s0 s1 s2 sg hs
          unfold fX8_layVotes_L18_J114 at hs
          refine pw_iadd dX8_layVotes_114 ?_
          obtain ⟨h_15, hs⟩ := gd_some hs
          refine pw_iastore dX8_layVotes_115 tM11 (inb_in h_15) ?_
          refine pw_sg (fun sg_16 e_sg_16 => ?_)
          replace hs := lt_use hs e_sg_16
          refine pw_iinc 3 (a3 + 1) [(3, .int (a3 + 1)), (0, .ref 0), (1, .int a1), (2, .int r_2)] dX8_layVotes_116 rfl rfl (Nat.le_of_ble_eq_true rfl) rfl ?_
          refine pw_goto 18 dX8_layVotes_119 (by decide) ?_
          exact PW.sub (lv' := [(0, .ref 0), (1, .int a1), (2, .int r_2), (3, .int (a3 + 1))]) [1, 2, 3, 0] rfl (hC ((a3 + 1), sg_16) (Option.some.inj hs).symm)
        have J82 : ∀ (a3 : Int32) (a4 : Int32) (a5 : Int32) (a6 : Int32) (s0 : Int32) (sg : Sg), fX8_layVotes_L18_J82 a1 r_2 a3 a4 a5 a6 s0 sg = some oL → PW tbM RX8 cX8_layVotes 8 none 2 43 (PoV oM) 82 [(0, .ref 0), (1, .int a1), (2, .int r_2), (3, .int a3), (4, .int a4), (5, .int a5), (6, .int a6)] [.int s0] sg := by
          intro a3 a4 a5 a6 s0 sg hs
          unfold fX8_layVotes_L18_J82 at hs
          refine pw_istore [(7, .int s0), (0, .ref 0), (1, .int a1), (2, .int r_2), (3, .int a3), (4, .int a4), (5, .int a5), (6, .int a6)] dX8_layVotes_82 (Nat.le_of_ble_eq_true rfl) rfl ?_
          refine pw_aload_n 1 dX8_layVotes_84 rfl rfl ?_
          refine pw_getr 18 dX8_layVotes_85 clRX8 tM0 (Nat.le_of_ble_eq_true rfl) fRX8_40 rfl ?_
          refine pw_bipush (8 : Int32) dX8_layVotes_88 (by decide) ?_
          refine pw_iload 7 dX8_layVotes_90 rfl ?_
          refine pw_imul dX8_layVotes_92 ?_
          refine pw_iload 0 dX8_layVotes_93 rfl ?_
          refine pw_iadd dX8_layVotes_95 ?_
          refine pw_dup2 dX8_layVotes_96 rfl rfl ?_
          obtain ⟨h_11, hs⟩ := gd_some hs
          refine pw_iaload dX8_layVotes_97 tM11 (inb_in h_11) ?_
          refine pw_aload_n 1 dX8_layVotes_98 rfl rfl ?_
          refine pw_iload 5 dX8_layVotes_99 rfl ?_
          refine pw_iload 6 dX8_layVotes_101 rfl ?_
          obtain ⟨r_13, hc_12, hs⟩ := Option.bind_eq_some_iff.mp hs
          refine pw_callVi [.int a4, .int a5] (st := [.int (rd sg 11 (Int32.toNatClampNeg (((8 : Int32) * a6) + s0))), .int (((8 : Int32) * a6) + s0), .ref 11]) dX8_layVotes_103 tM0 rfl mRX8_130 imX8_areTops seX8_areTops inRX8 coX8_areTops hyX8_areTops (by decide) (Nat.le_of_ble_eq_true rfl) (conX8_areTops hc_12) ?_
          refine pw_if_eq 113 dX8_layVotes_106 (by decide) (fun c_14 => ?_) (fun c_14 => ?_)
          · rw [if_pos c_14] at hs
            refine pw_iconst (1 : Int32) dX8_layVotes_113 (by decide) ?_
            exact PW.sub (lv' := [(0, .ref 0), (1, .int a1), (2, .int r_2), (3, .int a3)]) [1, 2, 3, 4] rfl (J114 a3 (1 : Int32) (rd sg 11 (Int32.toNatClampNeg (((8 : Int32) * a6) + s0))) (((8 : Int32) * a6) + s0) sg hs)
          · rw [if_neg c_14] at hs
            refine pw_iconst (0 : Int32) dX8_layVotes_109 (by decide) ?_
            refine pw_goto 114 dX8_layVotes_110 (by decide) ?_
            exact PW.sub (lv' := [(0, .ref 0), (1, .int a1), (2, .int r_2), (3, .int a3)]) [1, 2, 3, 4] rfl (J114 a3 (0 : Int32) (rd sg 11 (Int32.toNatClampNeg (((8 : Int32) * a6) + s0))) (((8 : Int32) * a6) + s0) sg hs)
        have J68 : ∀ (a3 : Int32) (a4 : Int32) (a5 : Int32) (s0 : Int32) (sg : Sg), fX8_layVotes_L18_J68 a1 r_2 a3 a4 a5 s0 sg = some oL → PW tbM RX8 cX8_layVotes 8 none 2 43 (PoV oM) 68 [(0, .ref 0), (1, .int a1), (2, .int r_2), (3, .int a3), (4, .int a4), (5, .int a5)] [.int s0] sg := by
          intro a3 a4 a5 s0 sg hs
          unfold fX8_layVotes_L18_J68 at hs
          refine pw_istore [(6, .int s0), (0, .ref 0), (1, .int a1), (2, .int r_2), (3, .int a3), (4, .int a4), (5, .int a5)] dX8_layVotes_68 (Nat.le_of_ble_eq_true rfl) rfl ?_
          refine pw_iload_n 4 dX8_layVotes_70 rfl rfl ?_
          refine pw_iload_n 3 dX8_layVotes_71 rfl rfl ?_
          refine pw_icmp_gt 80 dX8_layVotes_72 (by decide) (fun c_10 => ?_) (fun c_10 => ?_)
          · rw [if_pos c_10] at hs
            refine pw_iload 5 dX8_layVotes_80 rfl ?_
            exact PW.sub (lv' := [(0, .ref 0), (1, .int a1), (2, .int r_2), (3, .int a3), (4, .int a4), (5, .int a5), (6, .int s0)]) [1, 2, 3, 4, 5, 6, 0] rfl (J82 a3 a4 a5 s0 a4 sg hs)
          · rw [if_neg c_10] at hs
            refine pw_iload 6 dX8_layVotes_75 rfl ?_
            refine pw_goto 82 dX8_layVotes_77 (by decide) ?_
            exact PW.sub (lv' := [(0, .ref 0), (1, .int a1), (2, .int r_2), (3, .int a3), (4, .int a4), (5, .int a5), (6, .int s0)]) [1, 2, 3, 4, 5, 6, 0] rfl (J82 a3 a4 a5 s0 a5 sg hs)
        refine pw_iload_n 3 dX8_layVotes_18 rfl rfl ?_
        refine pw_aload_n 0 dX8_layVotes_19 rfl rfl ?_
        refine pw_getr 10 dX8_layVotes_20 clRX8 tM0 (Nat.le_of_ble_eq_true rfl) fRX8_25 rfl ?_
        refine pw_iload_n 1 dX8_layVotes_23 rfl rfl ?_
        obtain ⟨h_3, hs⟩ := gd_some hs
        refine pw_iaload dX8_layVotes_24 tM6 (inb_in h_3) ?_
        refine pw_icmp_ge 122 dX8_layVotes_25 (by decide) (fun c_9 => ?_) (fun c_9 => ?_)
        · rw [if_pos c_9] at hs
          exact PW.sub (lv' := [(0, .ref 0), (1, .int a1), (2, .int r_2), (3, .int a3)]) [0, 1, 2, 3] rfl (hE (a3, sg) (Option.some.inj hs).symm)
        · rw [if_neg c_9] at hs
          refine pw_aload_n 0 dX8_layVotes_28 rfl rfl ?_
          refine pw_getr 9 dX8_layVotes_29 clRX8 tM0 (Nat.le_of_ble_eq_true rfl) fRX8_22 rfl ?_
          refine pw_bipush (8 : Int32) dX8_layVotes_32 (by decide) ?_
          refine pw_iload_n 1 dX8_layVotes_34 rfl rfl ?_
          refine pw_imul dX8_layVotes_35 ?_
          refine pw_iload_n 3 dX8_layVotes_36 rfl rfl ?_
          refine pw_iadd dX8_layVotes_37 ?_
          refine pw_iconst (1 : Int32) dX8_layVotes_38 (by decide) ?_
          refine pw_isub dX8_layVotes_39 ?_
          obtain ⟨h_4, hs⟩ := gd_some hs
          refine pw_iaload dX8_layVotes_40 tM5 (inb_in h_4) ?_
          refine pw_topi (fun a4_5 e_a4_5 => ?_)
          replace hs := lt_use hs e_a4_5
          refine pw_istore [(4, .int a4_5), (0, .ref 0), (1, .int a1), (2, .int r_2), (3, .int a3)] dX8_layVotes_41 (Nat.le_of_ble_eq_true rfl) rfl ?_
          refine pw_aload_n 1 dX8_layVotes_43 rfl rfl ?_
          refine pw_getr 9 dX8_layVotes_44 clRX8 tM0 (Nat.le_of_ble_eq_true rfl) fRX8_22 rfl ?_
          refine pw_bipush (8 : Int32) dX8_layVotes_47 (by decide) ?_
          refine pw_iload_n 2 dX8_layVotes_49 rfl rfl ?_
          refine pw_imul dX8_layVotes_50 ?_
          refine pw_iload_n 4 dX8_layVotes_51 rfl rfl ?_
          refine pw_iadd dX8_layVotes_52 ?_
          obtain ⟨h_6, hs⟩ := gd_some hs
          refine pw_iaload dX8_layVotes_53 tM5 (inb_in h_6) ?_
          refine pw_topi (fun a5_7 e_a5_7 => ?_)
          replace hs := lt_use hs e_a5_7
          refine pw_istore [(5, .int a5_7), (4, .int a4_5), (0, .ref 0), (1, .int a1), (2, .int r_2), (3, .int a3)] dX8_layVotes_54 (Nat.le_of_ble_eq_true rfl) rfl ?_
          refine pw_iload_n 5 dX8_layVotes_56 rfl rfl ?_
          refine pw_iload_n 4 dX8_layVotes_57 rfl rfl ?_
          refine pw_icmp_gt 66 dX8_layVotes_58 (by decide) (fun c_8 => ?_) (fun c_8 => ?_)
          · rw [if_pos c_8] at hs
            refine pw_iload 0 dX8_layVotes_66 rfl ?_
            exact PW.sub (lv' := [(0, .ref 0), (1, .int a1), (2, .int r_2), (3, .int a3), (4, .int a4_5), (5, .int a5_7)]) [2, 3, 4, 5, 1, 0] rfl (J68 a3 a4_5 a5_7 a5_7 sg hs)
          · rw [if_neg c_8] at hs
            refine pw_iload 1 dX8_layVotes_61 rfl ?_
            refine pw_goto 68 dX8_layVotes_63 (by decide) ?_
            exact PW.sub (lv' := [(0, .ref 0), (1, .int a1), (2, .int r_2), (3, .int a3), (4, .int a4_5), (5, .int a5_7)]) [2, 3, 4, 5, 1, 0] rfl (J68 a3 a4_5 a5_7 a4_5 sg hs)
      · skip
        obtain ⟨a3_17, sg_18⟩ := t
        replace hs : fX8_layVotes_L2_E122 a1 r_2 a3_17 sg_18 = some oL := hs
        show PW tbM RX8 cX8_layVotes 8 none 2 43 (PoV oM) 122 [(0, .ref 0), (1, .int a1), (2, .int r_2), (3, .int a3_17)] [] sg_18
        unfold fX8_layVotes_L2_E122 at hs
        refine pw_iinc 1 (a1 + 1) [(1, .int (a1 + 1)), (0, .ref 0), (2, .int r_2), (3, .int a3_17)] dX8_layVotes_122 rfl rfl (Nat.le_of_ble_eq_true rfl) rfl ?_
        refine pw_goto 2 dX8_layVotes_125 (by decide) ?_
        exact PW.sub (lv' := [(0, .ref 0), (1, .int (a1 + 1))]) [1, 0] rfl (hC ((a1 + 1), sg_18) (Option.some.inj hs).symm)
  · skip
    obtain ⟨a1_20, sg_21⟩ := t
    replace hs : fX8_layVotes_E128 a1_20 sg_21 = some oM := hs
    show PW tbM RX8 cX8_layVotes 8 none 2 43 (PoV oM) 128 [(0, .ref 0), (1, .int a1_20)] [] sg_21
    unfold fX8_layVotes_E128 at hs
    have hr := Option.some.inj hs
    exact pw_return dX8_layVotes_128 rfl ⟨rfl, hr⟩
set_option maxRecDepth 100000 in
set_option maxHeartbeats 400000 in
theorem conX8_nameBy {sg : Sg} {a1 : Int32} {a2 : Int32} {oM : Int32} (h : fX8_nameBy a1 a2 sg = some oM) : Con tbM yX8_nameBy cX8_nameBy 5 (some .int) 2 43 [.ref 0, .int a1, .int a2] sg (PoI oM sg) := by
  refine Con.of (by decide) (Nat.le_of_ble_eq_true rfl) ?_
  show PW tbM RX8 cX8_nameBy 5 (some .int) 2 43 (PoI oM sg) 0 [(0, .ref 0), (1, .int a1), (2, .int a2)] [] sg
  have hs := h
  unfold fX8_nameBy at hs
  have J74 : ∀ (s0 : Int32), fX8_nameBy_J74 s0 sg = some oM → PW tbM RX8 cX8_nameBy 5 (some .int) 2 43 (PoI oM sg) 74 [] [.int s0] sg := by
    intro s0 hs
    unfold fX8_nameBy_J74 at hs
    have hr := Option.some.inj hs
    exact pw_ireturn dX8_nameBy_74 rfl ⟨by rw [hr], rfl⟩
  refine pw_aload_n 0 dX8_nameBy_0 rfl rfl ?_
  refine pw_getr 11 dX8_nameBy_1 clRX8 tM0 (Nat.le_of_ble_eq_true rfl) fRX8_28 rfl ?_
  refine pw_iload_n 1 dX8_nameBy_4 rfl rfl ?_
  obtain ⟨h_1, hs⟩ := gd_some hs
  refine pw_iaload dX8_nameBy_5 tM7 (inb_in h_1) ?_
  refine pw_iload_n 2 dX8_nameBy_6 rfl rfl ?_
  obtain ⟨r_3, hc_2, hs⟩ := Option.bind_eq_some_iff.mp hs
  refine pw_callSi [.int (rd sg 7 (Int32.toNatClampNeg a1)), .int a2] (st := []) dX8_nameBy_7 mRX8_102 stX8_has inRX8 coX8_has hyX8_has (by decide) (Nat.le_of_ble_eq_true rfl) (conX8_has hc_2) ?_
  refine pw_if_ne 15 dX8_nameBy_10 (by decide) (fun c_13 => ?_) (fun c_13 => ?_)
  · rw [if_neg c_13] at hs
    refine pw_aload_n 0 dX8_nameBy_15 rfl rfl ?_
    refine pw_getr 18 dX8_nameBy_16 clRX8 tM0 (Nat.le_of_ble_eq_true rfl) fRX8_40 rfl ?_
    refine pw_bipush (8 : Int32) dX8_nameBy_19 (by decide) ?_
    refine pw_iload_n 1 dX8_nameBy_21 rfl rfl ?_
    refine pw_imul dX8_nameBy_22 ?_
    refine pw_iload_n 2 dX8_nameBy_23 rfl rfl ?_
    refine pw_iadd dX8_nameBy_24 ?_
    obtain ⟨h_4, hs⟩ := gd_some hs
    refine pw_iaload dX8_nameBy_25 tM11 (inb_in h_4) ?_
    refine pw_topi (fun a3_5 e_a3_5 => ?_)
    replace hs := lt_use hs e_a3_5
    refine pw_istore_n [(3, .int a3_5), (0, .ref 0), (1, .int a1), (2, .int a2)] dX8_nameBy_26 rfl (Nat.le_of_ble_eq_true rfl) rfl ?_
    refine pw_aload_n 1 dX8_nameBy_27 rfl rfl ?_
    refine pw_getr 18 dX8_nameBy_28 clRX8 tM0 (Nat.le_of_ble_eq_true rfl) fRX8_40 rfl ?_
    refine pw_bipush (8 : Int32) dX8_nameBy_31 (by decide) ?_
    refine pw_iload_n 3 dX8_nameBy_33 rfl rfl ?_
    refine pw_imul dX8_nameBy_34 ?_
    refine pw_iload_n 2 dX8_nameBy_35 rfl rfl ?_
    refine pw_iadd dX8_nameBy_36 ?_
    obtain ⟨h_6, hs⟩ := gd_some hs
    refine pw_iaload dX8_nameBy_37 tM11 (inb_in h_6) ?_
    refine pw_topi (fun a4_7 e_a4_7 => ?_)
    replace hs := lt_use hs e_a4_7
    refine pw_istore [(4, .int a4_7), (3, .int a3_5), (0, .ref 0), (1, .int a1), (2, .int a2)] dX8_nameBy_38 (Nat.le_of_ble_eq_true rfl) rfl ?_
    refine pw_aload_n 2 dX8_nameBy_40 rfl rfl ?_
    refine pw_iload_n 3 dX8_nameBy_41 rfl rfl ?_
    refine pw_iload_n 4 dX8_nameBy_42 rfl rfl ?_
    obtain ⟨r_9, hc_8, hs⟩ := Option.bind_eq_some_iff.mp hs
    refine pw_callVi [.int a1, .int a2] (st := []) dX8_nameBy_43 tM0 rfl mRX8_130 imX8_areTops seX8_areTops inRX8 coX8_areTops hyX8_areTops (by decide) (Nat.le_of_ble_eq_true rfl) (conX8_areTops hc_8) ?_
    refine pw_if_eq 53 dX8_nameBy_46 (by decide) (fun c_12 => ?_) (fun c_12 => ?_)
    · rw [if_pos c_12] at hs
      refine pw_iload_n 1 dX8_nameBy_53 rfl rfl ?_
      refine pw_iload 0 dX8_nameBy_54 rfl ?_
      refine pw_icmp_le 63 dX8_nameBy_56 (by decide) (fun c_11 => ?_) (fun c_11 => ?_)
      · rw [if_pos c_11] at hs
        refine pw_iload_n 1 dX8_nameBy_63 rfl rfl ?_
        refine pw_iload 0 dX8_nameBy_64 rfl ?_
        refine pw_icmp_ge 73 dX8_nameBy_66 (by decide) (fun c_10 => ?_) (fun c_10 => ?_)
        · rw [if_pos c_10] at hs
          refine pw_iconst (4 : Int32) dX8_nameBy_73 (by decide) ?_
          exact PW.sub (lv' := []) [] rfl (J74 (4 : Int32) hs)
        · rw [if_neg c_10] at hs
          refine pw_iconst (2 : Int32) dX8_nameBy_69 (by decide) ?_
          refine pw_goto 74 dX8_nameBy_70 (by decide) ?_
          exact PW.sub (lv' := []) [] rfl (J74 (2 : Int32) hs)
      · rw [if_neg c_11] at hs
        refine pw_iconst (1 : Int32) dX8_nameBy_59 (by decide) ?_
        refine pw_goto 74 dX8_nameBy_60 (by decide) ?_
        exact PW.sub (lv' := []) [] rfl (J74 (1 : Int32) hs)
    · rw [if_neg c_12] at hs
      refine pw_iconst (3 : Int32) dX8_nameBy_49 (by decide) ?_
      refine pw_goto 74 dX8_nameBy_50 (by decide) ?_
      exact PW.sub (lv' := []) [] rfl (J74 (3 : Int32) hs)
  · rw [if_pos c_13] at hs
    refine pw_iconst (0 : Int32) dX8_nameBy_13 (by decide) ?_
    have hr := Option.some.inj hs
    exact pw_ireturn dX8_nameBy_14 rfl ⟨by rw [hr], rfl⟩
set_option maxRecDepth 100000 in
set_option maxHeartbeats 400000 in
theorem conX8_lay {sg : Sg}  {oM : Sg} (h : fX8_lay  sg = some oM) : Con tbM yX8_lay cX8_lay 2 none 3 70 [.ref 0] sg (PoV oM) := by
  refine Con.of (by decide) (Nat.le_of_ble_eq_true rfl) ?_
  show PW tbM RX8 cX8_lay 2 none 3 70 (PoV oM) 0 [(0, .ref 0)] [] sg
  have hs := h
  unfold fX8_lay at hs
  refine pw_aload_n 0 dX8_lay_0 rfl rfl ?_
  refine pw_geti 8 dX8_lay_1 clRX8 tM0 (Nat.le_of_ble_eq_true rfl) fRX8_81 rfl ?_
  refine pw_if_eq 8 dX8_lay_4 (by decide) (fun c_17 => ?_) (fun c_17 => ?_)
  · rw [if_pos c_17] at hs
    refine pw_aload_n 0 dX8_lay_8 rfl rfl ?_
    refine pw_iconst (1 : Int32) dX8_lay_9 (by decide) ?_
    refine pw_puti 8 (fty := .boolean) dX8_lay_10 clRX8 tM0 (Nat.le_of_ble_eq_true rfl) fRX8_81 rfl rfl (by decide +kernel) rfl rfl ?_
    refine pw_sg (fun sg_1 e_sg_1 => ?_)
    replace hs := lt_use hs e_sg_1
    refine pw_aload_n 0 dX8_lay_13 rfl rfl ?_
    obtain ⟨sg_3, hc_2, hs⟩ := Option.bind_eq_some_iff.mp hs
    refine pw_callVv [] (st := []) dX8_lay_14 tM0 rfl mRX8_133 imX8_layWays seX8_layWays inRX8 coX8_layWays hyX8_layWays (by decide) (Nat.le_of_ble_eq_true rfl) (conX8_layWays hc_2) ?_
    refine pw_aload_n 0 dX8_lay_17 rfl rfl ?_
    obtain ⟨sg_5, hc_4, hs⟩ := Option.bind_eq_some_iff.mp hs
    refine pw_callVv [] (st := []) dX8_lay_18 tM0 rfl mRX8_136 imX8_layRanks seX8_layRanks inRX8 coX8_layRanks hyX8_layRanks (by decide) (Nat.le_of_ble_eq_true rfl) (conX8_layRanks hc_4) ?_
    refine pw_aload_n 0 dX8_lay_21 rfl rfl ?_
    obtain ⟨sg_7, hc_6, hs⟩ := Option.bind_eq_some_iff.mp hs
    refine pw_callVv [] (st := []) dX8_lay_22 tM0 rfl mRX8_139 imX8_layTop seX8_layTop inRX8 coX8_layTop hyX8_layTop (by decide) (Nat.le_of_ble_eq_true rfl) (conX8_layTop hc_6) ?_
    refine pw_aload_n 0 dX8_lay_25 rfl rfl ?_
    obtain ⟨sg_9, hc_8, hs⟩ := Option.bind_eq_some_iff.mp hs
    refine pw_callVv [] (st := []) dX8_lay_26 tM0 rfl mRX8_142 imX8_layVotes seX8_layVotes inRX8 coX8_layVotes hyX8_layVotes (by decide) (Nat.le_of_ble_eq_true rfl) (conX8_layVotes hc_8) ?_
    refine pw_iconst (0 : Int32) dX8_lay_29 (by decide) ?_
    refine pw_istore_n [(1, .int (0 : Int32)), (0, .ref 0)] dX8_lay_30 rfl (Nat.le_of_ble_eq_true rfl) rfl ?_
    obtain ⟨t, hL, hs⟩ := Option.bind_eq_some_iff.mp hs
    refine PW.sub [1, 0] (lv' := [(0, .ref 0), (1, .int (0 : Int32))]) rfl ?_
    refine lpS_pw (T := Int32 × Sg) (X := fun t => PW tbM RX8 cX8_lay 2 none 3 70 (PoV oM) 31 [(0, .ref 0), (1, .int t.1)] [] t.2) (E := fun t => PW tbM RX8 cX8_lay 2 none 3 70 (PoV oM) 61 [(0, .ref 0), (1, .int t.1)] [] t.2) (step := (fun t => fX8_lay_L31 t.1 t.2)) ?_ 300 ((0 : Int32), sg_9) t hL ?_
    · intro t oL hs hE hC
      obtain ⟨a1, sg⟩ := t
      replace hs : fX8_lay_L31 a1 sg = some oL := hs
      show PW tbM RX8 cX8_lay 2 none 3 70 (PoV oM) 31 [(0, .ref 0), (1, .int a1)] [] sg
      unfold fX8_lay_L31 at hs
      refine pw_iload_n 1 dX8_lay_31 rfl rfl ?_
      refine pw_bipush (64 : Int32) dX8_lay_32 (by decide) ?_
      refine pw_icmp_ge 61 dX8_lay_34 (by decide) (fun c_14 => ?_) (fun c_14 => ?_)
      · rw [if_pos c_14] at hs
        exact PW.sub (lv' := [(0, .ref 0), (1, .int a1)]) [0, 1] rfl (hE (a1, sg) (Option.some.inj hs).symm)
      · rw [if_neg c_14] at hs
        refine pw_aload_n 0 dX8_lay_37 rfl rfl ?_
        refine pw_getr 20 dX8_lay_38 clRX8 tM0 (Nat.le_of_ble_eq_true rfl) fRX8_46 rfl ?_
        refine pw_iload_n 1 dX8_lay_41 rfl rfl ?_
        refine pw_aload_n 0 dX8_lay_42 rfl rfl ?_
        refine pw_iload_n 1 dX8_lay_43 rfl rfl ?_
        refine pw_bipush (8 : Int32) dX8_lay_44 (by decide) ?_
        refine pw_idiv dX8_lay_46 (by decide) ?_
        refine pw_iload_n 1 dX8_lay_47 rfl rfl ?_
        refine pw_bipush (8 : Int32) dX8_lay_48 (by decide) ?_
        refine pw_irem dX8_lay_50 (by decide) ?_
        obtain ⟨r_11, hc_10, hs⟩ := Option.bind_eq_some_iff.mp hs
        refine pw_callVi [.int (a1 / (8 : Int32)), .int (a1 - a1 / (8 : Int32) * (8 : Int32))] (st := [.int a1, .ref 13]) dX8_lay_51 tM0 rfl mRX8_145 imX8_nameBy seX8_nameBy inRX8 coX8_nameBy hyX8_nameBy (by decide) (Nat.le_of_ble_eq_true rfl) (conX8_nameBy hc_10) ?_
        obtain ⟨h_12, hs⟩ := gd_some hs
        refine pw_iastore dX8_lay_54 tM13 (inb_in h_12) ?_
        refine pw_sg (fun sg_13 e_sg_13 => ?_)
        replace hs := lt_use hs e_sg_13
        refine pw_iinc 1 (a1 + 1) [(1, .int (a1 + 1)), (0, .ref 0)] dX8_lay_55 rfl rfl (Nat.le_of_ble_eq_true rfl) rfl ?_
        refine pw_goto 31 dX8_lay_58 (by decide) ?_
        exact PW.sub (lv' := [(0, .ref 0), (1, .int (a1 + 1))]) [1, 0] rfl (hC ((a1 + 1), sg_13) (Option.some.inj hs).symm)
    · skip
      obtain ⟨a1_15, sg_16⟩ := t
      replace hs : fX8_lay_E61 a1_15 sg_16 = some oM := hs
      show PW tbM RX8 cX8_lay 2 none 3 70 (PoV oM) 61 [(0, .ref 0), (1, .int a1_15)] [] sg_16
      unfold fX8_lay_E61 at hs
      have hr := Option.some.inj hs
      exact pw_return dX8_lay_61 rfl ⟨rfl, hr⟩
  · rw [if_neg c_17] at hs
    have hr := Option.some.inj hs
    exact pw_return dX8_lay_7 rfl ⟨rfl, hr⟩
set_option maxRecDepth 100000 in
set_option maxHeartbeats 400000 in
theorem conX8_valleyOf {sg : Sg}  {oM : Int32} (h : fX8_valleyOf  sg = some oM) : Con tbM yX8_valleyOf cX8_valleyOf 4 (some .int) 0 0 [.ref 0] sg (PoI oM sg) := by
  refine Con.of (by decide) (Nat.le_of_ble_eq_true rfl) ?_
  show PW tbM RX8 cX8_valleyOf 4 (some .int) 0 0 (PoI oM sg) 0 [(0, .ref 0)] [] sg
  have hs := h
  unfold fX8_valleyOf at hs
  refine pw_iconst (0 : Int32) dX8_valleyOf_0 (by decide) ?_
  refine pw_istore_n [(1, .int (0 : Int32)), (0, .ref 0)] dX8_valleyOf_1 rfl (Nat.le_of_ble_eq_true rfl) rfl ?_
  refine pw_iconst (1 : Int32) dX8_valleyOf_2 (by decide) ?_
  refine pw_istore_n [(2, .int (1 : Int32)), (1, .int (0 : Int32)), (0, .ref 0)] dX8_valleyOf_3 rfl (Nat.le_of_ble_eq_true rfl) rfl ?_
  obtain ⟨u, hL, hs⟩ := Option.bind_eq_some_iff.mp hs
  refine PW.sub [2, 1, 0] (lv' := [(0, .ref 0), (1, .int (0 : Int32)), (2, .int (1 : Int32))]) rfl ?_
  refine lpO_pw (T := Int32 × Int32) (X := fun t => PW tbM RX8 cX8_valleyOf 4 (some .int) 0 0 (PoI oM sg) 4 [(0, .ref 0), (1, .int t.1), (2, .int t.2)] [] sg) (E := fun t => PW tbM RX8 cX8_valleyOf 4 (some .int) 0 0 (PoI oM sg) 84 [(0, .ref 0), (1, .int t.1), (2, .int t.2)] [] sg) (PR := fun r => r = oM) (step := (fun t => fX8_valleyOf_L4 sg t.1 t.2)) ?_ 300 ((0 : Int32), (1 : Int32)) u hL ?_ ?_
  · intro t oL hs hE hR hC
    obtain ⟨a1, a2⟩ := t
    replace hs : fX8_valleyOf_L4 sg a1 a2 = some oL := hs
    show PW tbM RX8 cX8_valleyOf 4 (some .int) 0 0 (PoI oM sg) 4 [(0, .ref 0), (1, .int a1), (2, .int a2)] [] sg
    unfold fX8_valleyOf_L4 at hs
    have J77 : ∀ (a2 : Int32) (s0 : Int32), fX8_valleyOf_L4_J77 a2 s0 sg = some oL → PW tbM RX8 cX8_valleyOf 4 (some .int) 0 0 (PoI oM sg) 77 [(0, .ref 0), (2, .int a2)] [.int s0] sg := by
      intro a2 s0 hs
      unfold fX8_valleyOf_L4_J77 at hs
      refine pw_istore_n [(1, .int s0), (0, .ref 0), (2, .int a2)] dX8_valleyOf_77 rfl (Nat.le_of_ble_eq_true rfl) rfl ?_
      refine pw_iinc 2 (a2 + 1) [(2, .int (a2 + 1)), (1, .int s0), (0, .ref 0)] dX8_valleyOf_78 rfl rfl (Nat.le_of_ble_eq_true rfl) rfl ?_
      refine pw_goto 4 dX8_valleyOf_81 (by decide) ?_
      exact PW.sub (lv' := [(0, .ref 0), (1, .int s0), (2, .int (a2 + 1))]) [2, 1, 0] rfl (hC (s0, (a2 + 1)) (Option.some.inj hs).symm)
    have J72 : ∀ (a2 : Int32), fX8_valleyOf_L4_J72 a2 sg = some oL → PW tbM RX8 cX8_valleyOf 4 (some .int) 0 0 (PoI oM sg) 72 [(0, .ref 0), (2, .int a2)] [] sg := by
      intro a2 hs
      unfold fX8_valleyOf_L4_J72 at hs
      refine pw_iconst (1 : Int32) dX8_valleyOf_72 (by decide) ?_
      refine pw_goto 77 dX8_valleyOf_73 (by decide) ?_
      exact PW.sub (lv' := [(0, .ref 0), (2, .int a2)]) [0, 1] rfl (J77 a2 (1 : Int32) hs)
    have J58 : ∀ (a1 : Int32) (a2 : Int32) (a3 : Int32), fX8_valleyOf_L4_J58 a1 a2 a3 sg = some oL → PW tbM RX8 cX8_valleyOf 4 (some .int) 0 0 (PoI oM sg) 58 [(0, .ref 0), (1, .int a1), (2, .int a2), (3, .int a3)] [] sg := by
      intro a1 a2 a3 hs
      unfold fX8_valleyOf_L4_J58 at hs
      refine pw_iload_n 1 dX8_valleyOf_58 rfl rfl ?_
      refine pw_if_ne 72 dX8_valleyOf_59 (by decide) (fun c_12 => ?_) (fun c_12 => ?_)
      · rw [if_neg c_12] at hs
        exact PW.sub (lv' := [(0, .ref 0), (2, .int a2)]) [0, 2] rfl (J72 a2 hs)
      · rw [if_pos c_12] at hs
        refine pw_iload_n 3 dX8_valleyOf_62 rfl rfl ?_
        refine pw_iconst (2 : Int32) dX8_valleyOf_63 (by decide) ?_
        refine pw_icmp_eq 72 dX8_valleyOf_64 (by decide) (fun c_11 => ?_) (fun c_11 => ?_)
        · rw [if_pos c_11] at hs
          exact PW.sub (lv' := [(0, .ref 0), (2, .int a2)]) [0, 2] rfl (J72 a2 hs)
        · rw [if_neg c_11] at hs
          refine pw_iload_n 3 dX8_valleyOf_67 rfl rfl ?_
          refine pw_iconst (3 : Int32) dX8_valleyOf_68 (by decide) ?_
          refine pw_icmp_ne 76 dX8_valleyOf_69 (by decide) (fun c_10 => ?_) (fun c_10 => ?_)
          · rw [if_neg c_10] at hs
            refine pw_iconst (0 : Int32) dX8_valleyOf_76 (by decide) ?_
            exact PW.sub (lv' := [(0, .ref 0), (2, .int a2)]) [0, 2] rfl (J77 a2 (0 : Int32) hs)
          · rw [if_pos c_10] at hs
            exact PW.sub (lv' := [(0, .ref 0), (2, .int a2)]) [0, 2] rfl (J72 a2 hs)
    have J54 : ∀ (a2 : Int32), fX8_valleyOf_L4_J54 a2 sg = some oL → PW tbM RX8 cX8_valleyOf 4 (some .int) 0 0 (PoI oM sg) 54 [(2, .int a2)] [] sg := by
      intro a2 hs
      unfold fX8_valleyOf_L4_J54 at hs
      refine pw_iload_n 0 dX8_valleyOf_54 rfl rfl ?_
      refine pw_iconst (1 : Int32) dX8_valleyOf_55 (by decide) ?_
      refine pw_isub dX8_valleyOf_56 ?_
      have hr := hR _ (Option.some.inj hs).symm
      exact pw_ireturn dX8_valleyOf_57 rfl ⟨by rw [hr], rfl⟩
    refine pw_iload_n 2 dX8_valleyOf_4 rfl rfl ?_
    refine pw_aload_n 0 dX8_valleyOf_5 rfl rfl ?_
    refine pw_geti 22 dX8_valleyOf_6 clRX8 tM0 (Nat.le_of_ble_eq_true rfl) fRX8_174 rfl ?_
    refine pw_icmp_ge 84 dX8_valleyOf_9 (by decide) (fun c_9 => ?_) (fun c_9 => ?_)
    · rw [if_pos c_9] at hs
      exact PW.sub (lv' := [(0, .ref 0), (1, .int a1), (2, .int a2)]) [0, 1, 2] rfl (hE (a1, a2) (Option.some.inj hs).symm)
    · rw [if_neg c_9] at hs
      refine pw_aload_n 0 dX8_valleyOf_12 rfl rfl ?_
      refine pw_getr 20 dX8_valleyOf_13 clRX8 tM0 (Nat.le_of_ble_eq_true rfl) fRX8_46 rfl ?_
      refine pw_bipush (8 : Int32) dX8_valleyOf_16 (by decide) ?_
      refine pw_aload_n 0 dX8_valleyOf_18 rfl rfl ?_
      refine pw_getr 21 dX8_valleyOf_19 clRX8 tM0 (Nat.le_of_ble_eq_true rfl) fRX8_49 rfl ?_
      refine pw_iload_n 2 dX8_valleyOf_22 rfl rfl ?_
      refine pw_iconst (1 : Int32) dX8_valleyOf_23 (by decide) ?_
      refine pw_isub dX8_valleyOf_24 ?_
      obtain ⟨h_1, hs⟩ := gd_some hs
      refine pw_iaload dX8_valleyOf_25 tM14 (inb_in h_1) ?_
      refine pw_imul dX8_valleyOf_26 ?_
      refine pw_aload_n 0 dX8_valleyOf_27 rfl rfl ?_
      refine pw_getr 21 dX8_valleyOf_28 clRX8 tM0 (Nat.le_of_ble_eq_true rfl) fRX8_49 rfl ?_
      refine pw_iload_n 2 dX8_valleyOf_31 rfl rfl ?_
      obtain ⟨h_2, hs⟩ := gd_some hs
      refine pw_iaload dX8_valleyOf_32 tM14 (inb_in h_2) ?_
      refine pw_iadd dX8_valleyOf_33 ?_
      obtain ⟨h_3, hs⟩ := gd_some hs
      refine pw_iaload dX8_valleyOf_34 tM13 (inb_in h_3) ?_
      refine pw_topi (fun a3_4 e_a3_4 => ?_)
      replace hs := lt_use hs e_a3_4
      refine pw_istore_n [(3, .int a3_4), (0, .ref 0), (1, .int a1), (2, .int a2)] dX8_valleyOf_35 rfl (Nat.le_of_ble_eq_true rfl) rfl ?_
      refine pw_iload_n 0 dX8_valleyOf_36 rfl rfl ?_
      refine pw_if_eq 54 dX8_valleyOf_37 (by decide) (fun c_8 => ?_) (fun c_8 => ?_)
      · rw [if_pos c_8] at hs
        exact PW.sub (lv' := [(2, .int a2)]) [3] rfl (J54 a2 hs)
      · rw [if_neg c_8] at hs
        refine pw_iload_n 2 dX8_valleyOf_40 rfl rfl ?_
        refine pw_if_eq 58 dX8_valleyOf_41 (by decide) (fun c_7 => ?_) (fun c_7 => ?_)
        · rw [if_pos c_7] at hs
          exact PW.sub (lv' := [(0, .ref 0), (1, .int a1), (2, .int a2), (3, .int a3_4)]) [1, 2, 3, 0] rfl (J58 a1 a2 a3_4 hs)
        · rw [if_neg c_7] at hs
          refine pw_iload_n 0 dX8_valleyOf_44 rfl rfl ?_
          refine pw_iconst (1 : Int32) dX8_valleyOf_45 (by decide) ?_
          refine pw_icmp_eq 54 dX8_valleyOf_46 (by decide) (fun c_6 => ?_) (fun c_6 => ?_)
          · rw [if_pos c_6] at hs
            exact PW.sub (lv' := [(2, .int a2)]) [3] rfl (J54 a2 hs)
          · rw [if_neg c_6] at hs
            refine pw_iload_n 0 dX8_valleyOf_49 rfl rfl ?_
            refine pw_iconst (3 : Int32) dX8_valleyOf_50 (by decide) ?_
            refine pw_icmp_ne 58 dX8_valleyOf_51 (by decide) (fun c_5 => ?_) (fun c_5 => ?_)
            · rw [if_neg c_5] at hs
              exact PW.sub (lv' := [(0, .ref 0), (1, .int a1), (2, .int a2), (3, .int a3_4)]) [1, 2, 3, 0] rfl (J58 a1 a2 a3_4 hs)
            · rw [if_pos c_5] at hs
              exact PW.sub (lv' := [(2, .int a2)]) [3] rfl (J54 a2 hs)
  · intro t hu
    subst hu
    obtain ⟨a1_13, a2_14⟩ := t
    replace hs : fX8_valleyOf_E84 a1_13 a2_14 sg = some oM := hs
    show PW tbM RX8 cX8_valleyOf 4 (some .int) 0 0 (PoI oM sg) 84 [(0, .ref 0), (1, .int a1_13), (2, .int a2_14)] [] sg
    unfold fX8_valleyOf_E84 at hs
    refine pw_iconst (-1 : Int32) dX8_valleyOf_84 (by decide) ?_
    have hr := Option.some.inj hs
    exact pw_ireturn dX8_valleyOf_85 rfl ⟨by rw [hr], rfl⟩
  · intro r hu
    subst hu
    exact Option.some.inj hs
set_option maxRecDepth 100000 in
set_option maxHeartbeats 400000 in
theorem conX8_valley {sg : Sg}  {oM : Int32 × Sg} (h : fX8_valley  sg = some oM) : Con tbM yX8_valley cX8_valley 2 (some .int) 4 91 [.ref 0] sg (PoI oM.1 oM.2) := by
  refine Con.of (by decide) (Nat.le_of_ble_eq_true rfl) ?_
  show PW tbM RX8 cX8_valley 2 (some .int) 4 91 (PoI oM.1 oM.2) 0 [(0, .ref 0)] [] sg
  have hs := h
  unfold fX8_valley at hs
  refine pw_aload_n 0 dX8_valley_0 rfl rfl ?_
  obtain ⟨r_2, hc_1, hs⟩ := Option.bind_eq_some_iff.mp hs
  refine pw_callVi [] (st := []) dX8_valley_1 tM0 rfl mRX8_71 imX8_isWayThere seX8_isWayThere inRX8 coX8_isWayThere hyX8_isWayThere (by decide) (Nat.le_of_ble_eq_true rfl) (conX8_isWayThere hc_1) ?_
  refine pw_if_ne 11 dX8_valley_4 (by decide) (fun c_14 => ?_) (fun c_14 => ?_)
  · rw [if_neg c_14] at hs
    refine pw_aload_n 0 dX8_valley_11 rfl rfl ?_
    obtain ⟨sg_4, hc_3, hs⟩ := Option.bind_eq_some_iff.mp hs
    refine pw_callVv [] (st := []) dX8_valley_12 tM0 rfl mRX8_149 imX8_lay seX8_lay inRX8 coX8_lay hyX8_lay (by decide) (Nat.le_of_ble_eq_true rfl) (conX8_lay hc_3) ?_
    refine pw_aload_n 0 dX8_valley_15 rfl rfl ?_
    refine pw_aload_n 0 dX8_valley_16 rfl rfl ?_
    refine pw_geti 0 dX8_valley_17 clRX8 tM0 (Nat.le_of_ble_eq_true rfl) fRX8_59 rfl ?_
    refine pw_puti 22 (fty := .int) dX8_valley_20 clRX8 tM0 (Nat.le_of_ble_eq_true rfl) fRX8_174 rfl rfl (by decide +kernel) rfl rfl ?_
    refine pw_sg (fun sg_5 e_sg_5 => ?_)
    replace hs := lt_use hs e_sg_5
    refine pw_iconst (0 : Int32) dX8_valley_23 (by decide) ?_
    refine pw_istore_n [(1, .int (0 : Int32)), (0, .ref 0)] dX8_valley_24 rfl (Nat.le_of_ble_eq_true rfl) rfl ?_
    obtain ⟨t, hL, hs⟩ := Option.bind_eq_some_iff.mp hs
    refine PW.sub [1, 0] (lv' := [(0, .ref 0), (1, .int (0 : Int32))]) rfl ?_
    refine lpS_pw (T := Int32 × Sg) (X := fun t => PW tbM RX8 cX8_valley 2 (some .int) 4 91 (PoI oM.1 oM.2) 25 [(0, .ref 0), (1, .int t.1)] [] t.2) (E := fun t => PW tbM RX8 cX8_valley 2 (some .int) 4 91 (PoI oM.1 oM.2) 54 [(0, .ref 0), (1, .int t.1)] [] t.2) (step := (fun t => fX8_valley_L25 t.1 t.2)) ?_ 300 ((0 : Int32), sg_5) t hL ?_
    · intro t oL hs hE hC
      obtain ⟨a1, sg⟩ := t
      replace hs : fX8_valley_L25 a1 sg = some oL := hs
      show PW tbM RX8 cX8_valley 2 (some .int) 4 91 (PoI oM.1 oM.2) 25 [(0, .ref 0), (1, .int a1)] [] sg
      unfold fX8_valley_L25 at hs
      refine pw_iload_n 1 dX8_valley_25 rfl rfl ?_
      refine pw_aload_n 0 dX8_valley_26 rfl rfl ?_
      refine pw_geti 22 dX8_valley_27 clRX8 tM0 (Nat.le_of_ble_eq_true rfl) fRX8_174 rfl ?_
      refine pw_icmp_ge 54 dX8_valley_30 (by decide) (fun c_9 => ?_) (fun c_9 => ?_)
      · rw [if_pos c_9] at hs
        exact PW.sub (lv' := [(0, .ref 0), (1, .int a1)]) [0, 1] rfl (hE (a1, sg) (Option.some.inj hs).symm)
      · rw [if_neg c_9] at hs
        refine pw_aload_n 0 dX8_valley_33 rfl rfl ?_
        refine pw_getr 21 dX8_valley_34 clRX8 tM0 (Nat.le_of_ble_eq_true rfl) fRX8_49 rfl ?_
        refine pw_iload_n 1 dX8_valley_37 rfl rfl ?_
        refine pw_aload_n 0 dX8_valley_38 rfl rfl ?_
        refine pw_getr 1 dX8_valley_39 clRX8 tM0 (Nat.le_of_ble_eq_true rfl) fRX8_7 rfl ?_
        refine pw_iload_n 1 dX8_valley_42 rfl rfl ?_
        obtain ⟨h_6, hs⟩ := gd_some hs
        refine pw_iaload dX8_valley_43 tM1 (inb_in h_6) ?_
        refine pw_bipush (48 : Int32) dX8_valley_44 (by decide) ?_
        refine pw_isub dX8_valley_46 ?_
        obtain ⟨h_7, hs⟩ := gd_some hs
        refine pw_iastore dX8_valley_47 tM14 (inb_in h_7) ?_
        refine pw_sg (fun sg_8 e_sg_8 => ?_)
        replace hs := lt_use hs e_sg_8
        refine pw_iinc 1 (a1 + 1) [(1, .int (a1 + 1)), (0, .ref 0)] dX8_valley_48 rfl rfl (Nat.le_of_ble_eq_true rfl) rfl ?_
        refine pw_goto 25 dX8_valley_51 (by decide) ?_
        exact PW.sub (lv' := [(0, .ref 0), (1, .int (a1 + 1))]) [1, 0] rfl (hC ((a1 + 1), sg_8) (Option.some.inj hs).symm)
    · skip
      obtain ⟨a1_10, sg_11⟩ := t
      replace hs : fX8_valley_E54 a1_10 sg_11 = some oM := hs
      show PW tbM RX8 cX8_valley 2 (some .int) 4 91 (PoI oM.1 oM.2) 54 [(0, .ref 0), (1, .int a1_10)] [] sg_11
      unfold fX8_valley_E54 at hs
      refine pw_aload_n 0 dX8_valley_54 rfl rfl ?_
      obtain ⟨r_13, hc_12, hs⟩ := Option.bind_eq_some_iff.mp hs
      refine pw_callVi [] (st := []) dX8_valley_55 tM0 rfl mRX8_177 imX8_valleyOf seX8_valleyOf inRX8 coX8_valleyOf hyX8_valleyOf (by decide) (Nat.le_of_ble_eq_true rfl) (conX8_valleyOf hc_12) ?_
      have hr := Option.some.inj hs
      exact pw_ireturn dX8_valley_58 rfl ⟨by rw [← hr], by rw [← hr]⟩
  · rw [if_pos c_14] at hs
    refine pw_sipush (-1003 : Int32) dX8_valley_7 (by decide) ?_
    have hr := Option.some.inj hs
    exact pw_ireturn dX8_valley_10 rfl ⟨by rw [← hr], by rw [← hr]⟩
set_option maxRecDepth 100000 in
set_option maxHeartbeats 400000 in
theorem conX8_drop {sg : Sg} {a1 : Int32} {oM : Int32 × Sg} (h : fX8_drop a1 sg = some oM) : Con tbM yX8_drop cX8_drop 4 (some .int) 1 22 [.ref 0, .int a1] sg (PoI oM.1 oM.2) := by
  refine Con.of (by decide) (Nat.le_of_ble_eq_true rfl) ?_
  show PW tbM RX8 cX8_drop 4 (some .int) 1 22 (PoI oM.1 oM.2) 0 [(0, .ref 0), (1, .int a1)] [] sg
  have hs := h
  unfold fX8_drop at hs
  refine pw_iload_n 1 dX8_drop_0 rfl rfl ?_
  refine pw_iconst (0 : Int32) dX8_drop_1 (by decide) ?_
  refine pw_aload_n 0 dX8_drop_2 rfl rfl ?_
  refine pw_geti 2 dX8_drop_3 clRX8 tM0 (Nat.le_of_ble_eq_true rfl) fRX8_75 rfl ?_
  refine pw_iconst (1 : Int32) dX8_drop_6 (by decide) ?_
  refine pw_isub dX8_drop_7 ?_
  obtain ⟨r_2, hc_1, hs⟩ := Option.bind_eq_some_iff.mp hs
  refine pw_callSi [.int a1, .int (0 : Int32), .int ((rd sg 0 2) - (1 : Int32))] (st := []) dX8_drop_8 mRX8_55 stX8_within inRX8 coX8_within hyX8_within (by decide) (Nat.le_of_ble_eq_true rfl) (conX8_within hc_1) ?_
  refine pw_if_ne 18 dX8_drop_11 (by decide) (fun c_17 => ?_) (fun c_17 => ?_)
  · rw [if_neg c_17] at hs
    refine pw_aload_n 0 dX8_drop_18 rfl rfl ?_
    refine pw_dup dX8_drop_19 rfl ?_
    refine pw_geti 2 dX8_drop_20 clRX8 tM0 (Nat.le_of_ble_eq_true rfl) fRX8_75 rfl ?_
    refine pw_iconst (1 : Int32) dX8_drop_23 (by decide) ?_
    refine pw_isub dX8_drop_24 ?_
    refine pw_puti 2 (fty := .int) dX8_drop_25 clRX8 tM0 (Nat.le_of_ble_eq_true rfl) fRX8_75 rfl rfl (by decide +kernel) rfl rfl ?_
    refine pw_sg (fun sg_3 e_sg_3 => ?_)
    replace hs := lt_use hs e_sg_3
    refine pw_iload_n 1 dX8_drop_28 rfl rfl ?_
    refine pw_istore_n [(2, .int a1), (0, .ref 0), (1, .int a1)] dX8_drop_29 rfl (Nat.le_of_ble_eq_true rfl) rfl ?_
    obtain ⟨t, hL, hs⟩ := Option.bind_eq_some_iff.mp hs
    refine PW.sub [1, 0] (lv' := [(0, .ref 0), (2, .int a1)]) rfl ?_
    refine lpS_pw (T := Int32 × Sg) (X := fun t => PW tbM RX8 cX8_drop 4 (some .int) 1 22 (PoI oM.1 oM.2) 30 [(0, .ref 0), (2, .int t.1)] [] t.2) (E := fun t => PW tbM RX8 cX8_drop 4 (some .int) 1 22 (PoI oM.1 oM.2) 97 [(0, .ref 0), (2, .int t.1)] [] t.2) (step := (fun t => fX8_drop_L30 t.1 t.2)) ?_ 300 (a1, sg_3) t hL ?_
    · intro t oL hs hE hC
      obtain ⟨a2, sg⟩ := t
      replace hs : fX8_drop_L30 a2 sg = some oL := hs
      show PW tbM RX8 cX8_drop 4 (some .int) 1 22 (PoI oM.1 oM.2) 30 [(0, .ref 0), (2, .int a2)] [] sg
      unfold fX8_drop_L30 at hs
      refine pw_iload_n 1 dX8_drop_30 rfl rfl ?_
      refine pw_aload_n 0 dX8_drop_31 rfl rfl ?_
      refine pw_geti 2 dX8_drop_32 clRX8 tM0 (Nat.le_of_ble_eq_true rfl) fRX8_75 rfl ?_
      refine pw_icmp_ge 97 dX8_drop_35 (by decide) (fun c_13 => ?_) (fun c_13 => ?_)
      · rw [if_pos c_13] at hs
        exact PW.sub (lv' := [(0, .ref 0), (2, .int a2)]) [0, 1] rfl (hE (a2, sg) (Option.some.inj hs).symm)
      · rw [if_neg c_13] at hs
        refine pw_aload_n 0 dX8_drop_38 rfl rfl ?_
        refine pw_getr 4 dX8_drop_39 clRX8 tM0 (Nat.le_of_ble_eq_true rfl) fRX8_16 rfl ?_
        refine pw_iload_n 1 dX8_drop_42 rfl rfl ?_
        refine pw_aload_n 0 dX8_drop_43 rfl rfl ?_
        refine pw_getr 4 dX8_drop_44 clRX8 tM0 (Nat.le_of_ble_eq_true rfl) fRX8_16 rfl ?_
        refine pw_iload_n 1 dX8_drop_47 rfl rfl ?_
        refine pw_iconst (1 : Int32) dX8_drop_48 (by decide) ?_
        refine pw_iadd dX8_drop_49 ?_
        obtain ⟨h_4, hs⟩ := gd_some hs
        refine pw_iaload dX8_drop_50 tM3 (inb_in h_4) ?_
        obtain ⟨h_5, hs⟩ := gd_some hs
        refine pw_iastore dX8_drop_51 tM3 (inb_in h_5) ?_
        refine pw_sg (fun sg_6 e_sg_6 => ?_)
        replace hs := lt_use hs e_sg_6
        refine pw_iconst (0 : Int32) dX8_drop_52 (by decide) ?_
        refine pw_istore_n [(3, .int (0 : Int32)), (0, .ref 0), (2, .int a2)] dX8_drop_53 rfl (Nat.le_of_ble_eq_true rfl) rfl ?_
        obtain ⟨t, hL, hs⟩ := Option.bind_eq_some_iff.mp hs
        refine PW.sub [1, 2, 0] (lv' := [(0, .ref 0), (2, .int a2), (3, .int (0 : Int32))]) rfl ?_
        refine lpS_pw (T := Int32 × Sg) (X := fun t => PW tbM RX8 cX8_drop 4 (some .int) 1 22 (PoI oM.1 oM.2) 54 [(0, .ref 0), (2, .int a2), (3, .int t.1)] [] t.2) (E := fun t => PW tbM RX8 cX8_drop 4 (some .int) 1 22 (PoI oM.1 oM.2) 91 [(0, .ref 0), (2, .int a2), (3, .int t.1)] [] t.2) (step := (fun t => fX8_drop_L54 a2 t.1 t.2)) ?_ 300 ((0 : Int32), sg_6) t hL ?_
        · intro t oL hs hE hC
          obtain ⟨a3, sg⟩ := t
          replace hs : fX8_drop_L54 a2 a3 sg = some oL := hs
          show PW tbM RX8 cX8_drop 4 (some .int) 1 22 (PoI oM.1 oM.2) 54 [(0, .ref 0), (2, .int a2), (3, .int a3)] [] sg
          unfold fX8_drop_L54 at hs
          refine pw_iload_n 2 dX8_drop_54 rfl rfl ?_
          refine pw_bipush (8 : Int32) dX8_drop_55 (by decide) ?_
          refine pw_icmp_ge 91 dX8_drop_57 (by decide) (fun c_10 => ?_) (fun c_10 => ?_)
          · rw [if_pos c_10] at hs
            exact PW.sub (lv' := [(0, .ref 0), (2, .int a2), (3, .int a3)]) [0, 1, 2] rfl (hE (a3, sg) (Option.some.inj hs).symm)
          · rw [if_neg c_10] at hs
            refine pw_aload_n 0 dX8_drop_60 rfl rfl ?_
            refine pw_getr 3 dX8_drop_61 clRX8 tM0 (Nat.le_of_ble_eq_true rfl) fRX8_13 rfl ?_
            refine pw_bipush (8 : Int32) dX8_drop_64 (by decide) ?_
            refine pw_iload_n 1 dX8_drop_66 rfl rfl ?_
            refine pw_imul dX8_drop_67 ?_
            refine pw_iload_n 2 dX8_drop_68 rfl rfl ?_
            refine pw_iadd dX8_drop_69 ?_
            refine pw_aload_n 0 dX8_drop_70 rfl rfl ?_
            refine pw_getr 3 dX8_drop_71 clRX8 tM0 (Nat.le_of_ble_eq_true rfl) fRX8_13 rfl ?_
            refine pw_bipush (8 : Int32) dX8_drop_74 (by decide) ?_
            refine pw_iload_n 1 dX8_drop_76 rfl rfl ?_
            refine pw_imul dX8_drop_77 ?_
            refine pw_bipush (8 : Int32) dX8_drop_78 (by decide) ?_
            refine pw_iadd dX8_drop_80 ?_
            refine pw_iload_n 2 dX8_drop_81 rfl rfl ?_
            refine pw_iadd dX8_drop_82 ?_
            obtain ⟨h_7, hs⟩ := gd_some hs
            refine pw_iaload dX8_drop_83 tM2 (inb_in h_7) ?_
            obtain ⟨h_8, hs⟩ := gd_some hs
            refine pw_iastore dX8_drop_84 tM2 (inb_in h_8) ?_
            refine pw_sg (fun sg_9 e_sg_9 => ?_)
            replace hs := lt_use hs e_sg_9
            refine pw_iinc 2 (a3 + 1) [(3, .int (a3 + 1)), (0, .ref 0), (2, .int a2)] dX8_drop_85 rfl rfl (Nat.le_of_ble_eq_true rfl) rfl ?_
            refine pw_goto 54 dX8_drop_88 (by decide) ?_
            exact PW.sub (lv' := [(0, .ref 0), (2, .int a2), (3, .int (a3 + 1))]) [1, 2, 0] rfl (hC ((a3 + 1), sg_9) (Option.some.inj hs).symm)
        · skip
          obtain ⟨a3_11, sg_12⟩ := t
          replace hs : fX8_drop_L30_E91 a2 a3_11 sg_12 = some oL := hs
          show PW tbM RX8 cX8_drop 4 (some .int) 1 22 (PoI oM.1 oM.2) 91 [(0, .ref 0), (2, .int a2), (3, .int a3_11)] [] sg_12
          unfold fX8_drop_L30_E91 at hs
          refine pw_iinc 1 (a2 + 1) [(2, .int (a2 + 1)), (0, .ref 0), (3, .int a3_11)] dX8_drop_91 rfl rfl (Nat.le_of_ble_eq_true rfl) rfl ?_
          refine pw_goto 30 dX8_drop_94 (by decide) ?_
          exact PW.sub (lv' := [(0, .ref 0), (2, .int (a2 + 1))]) [1, 0] rfl (hC ((a2 + 1), sg_12) (Option.some.inj hs).symm)
    · skip
      obtain ⟨a2_14, sg_15⟩ := t
      replace hs : fX8_drop_E97 a2_14 sg_15 = some oM := hs
      show PW tbM RX8 cX8_drop 4 (some .int) 1 22 (PoI oM.1 oM.2) 97 [(0, .ref 0), (2, .int a2_14)] [] sg_15
      unfold fX8_drop_E97 at hs
      refine pw_aload_n 0 dX8_drop_97 rfl rfl ?_
      refine pw_iconst (0 : Int32) dX8_drop_98 (by decide) ?_
      refine pw_puti 8 (fty := .boolean) dX8_drop_99 clRX8 tM0 (Nat.le_of_ble_eq_true rfl) fRX8_81 rfl rfl (by decide +kernel) rfl rfl ?_
      refine pw_sg (fun sg_16 e_sg_16 => ?_)
      replace hs := lt_use hs e_sg_16
      refine pw_aload_n 0 dX8_drop_102 rfl rfl ?_
      refine pw_geti 2 dX8_drop_103 clRX8 tM0 (Nat.le_of_ble_eq_true rfl) fRX8_75 rfl ?_
      have hr := Option.some.inj hs
      exact pw_ireturn dX8_drop_106 rfl ⟨by rw [← hr], by rw [← hr]⟩
  · rw [if_pos c_17] at hs
    refine pw_sipush (-1001 : Int32) dX8_drop_14 (by decide) ?_
    have hr := Option.some.inj hs
    exact pw_ireturn dX8_drop_17 rfl ⟨by rw [← hr], by rw [← hr]⟩
set_option maxRecDepth 100000 in
set_option maxHeartbeats 400000 in
theorem conX8_isNet {tab : Tb} {sg : Sg} {a0 : Int32} {oM : Int32} (h : fX8_isNet a0 = some oM) : Con tab yX8_isNet cX8_isNet 1 (some .boolean) 1 22 [.int a0] sg (PoI oM sg) := by
  refine Con.of (by decide) (Nat.le_of_ble_eq_true rfl) ?_
  show PW tab RX8 cX8_isNet 1 (some .boolean) 1 22 (PoI oM sg) 0 [(0, .int a0)] [] sg
  have hs := h
  unfold fX8_isNet at hs
  refine pw_iload_n 0 dX8_isNet_0 rfl rfl ?_
  refine pw_iconst (0 : Int32) dX8_isNet_1 (by decide) ?_
  refine pw_bipush (7 : Int32) dX8_isNet_2 (by decide) ?_
  obtain ⟨r_2, hc_1, hs⟩ := Option.bind_eq_some_iff.mp hs
  refine pw_callSi [.int a0, .int (0 : Int32), .int (7 : Int32)] (st := []) dX8_isNet_4 mRX8_55 stX8_within inRX8 coX8_within hyX8_within (by decide) (Nat.le_of_ble_eq_true rfl) (conX8_within hc_1) ?_
  obtain ⟨h_3, hs⟩ := gd_some hs
  have hr := Option.some.inj hs
  exact pw_zreturn dX8_isNet_7 rfl (zb_ok h_3) ⟨by rw [hr], rfl⟩
set_option maxRecDepth 100000 in
set_option maxHeartbeats 400000 in
theorem conX8_exchange {sg : Sg} {a1 : Int32} {a2 : Int32} {oM : Int32 × Sg} (h : fX8_exchange a1 a2 sg = some oM) : Con tbM yX8_exchange cX8_exchange 4 (some .int) 2 42 [.ref 0, .int a1, .int a2] sg (PoI oM.1 oM.2) := by
  refine Con.of (by decide) (Nat.le_of_ble_eq_true rfl) ?_
  show PW tbM RX8 cX8_exchange 4 (some .int) 2 42 (PoI oM.1 oM.2) 0 [(0, .ref 0), (1, .int a1), (2, .int a2)] [] sg
  have hs := h
  unfold fX8_exchange at hs
  have J46 : ∀ (a3 : Int32) (s0 : Int32) (sg : Sg), fX8_exchange_J46 a3 s0 sg = some oM → PW tbM RX8 cX8_exchange 4 (some .int) 2 42 (PoI oM.1 oM.2) 46 [(0, .ref 0), (3, .int a3)] [.int s0, .ref 0] sg := by
    intro a3 s0 sg hs
    unfold fX8_exchange_J46 at hs
    refine pw_puti 5 (fty := .int) dX8_exchange_46 clRX8 tM0 (Nat.le_of_ble_eq_true rfl) fRX8_88 rfl rfl (by decide +kernel) rfl rfl ?_
    refine pw_sg (fun sg_6 e_sg_6 => ?_)
    replace hs := lt_use hs e_sg_6
    refine pw_aload_n 0 dX8_exchange_49 rfl rfl ?_
    refine pw_iconst (0 : Int32) dX8_exchange_50 (by decide) ?_
    refine pw_puti 8 (fty := .boolean) dX8_exchange_51 clRX8 tM0 (Nat.le_of_ble_eq_true rfl) fRX8_81 rfl rfl (by decide +kernel) rfl rfl ?_
    refine pw_sg (fun sg_7 e_sg_7 => ?_)
    replace hs := lt_use hs e_sg_7
    refine pw_iload_n 1 dX8_exchange_54 rfl rfl ?_
    have hr := Option.some.inj hs
    exact pw_ireturn dX8_exchange_55 rfl ⟨by rw [← hr], by rw [← hr]⟩
  refine pw_iload_n 1 dX8_exchange_0 rfl rfl ?_
  obtain ⟨r_2, hc_1, hs⟩ := Option.bind_eq_some_iff.mp hs
  refine pw_callSi [.int a1] (st := []) dX8_exchange_1 mRX8_85 stX8_isNet inRX8 coX8_isNet hyX8_isNet (by decide) (Nat.le_of_ble_eq_true rfl) (conX8_isNet hc_1) ?_
  refine pw_if_ne 11 dX8_exchange_4 (by decide) (fun c_5 => ?_) (fun c_5 => ?_)
  · rw [if_neg c_5] at hs
    refine pw_aload_n 0 dX8_exchange_11 rfl rfl ?_
    refine pw_geti 5 dX8_exchange_12 clRX8 tM0 (Nat.le_of_ble_eq_true rfl) fRX8_88 rfl ?_
    refine pw_iload_n 1 dX8_exchange_15 rfl rfl ?_
    refine pw_ishr dX8_exchange_16 ?_
    refine pw_iconst (1 : Int32) dX8_exchange_17 (by decide) ?_
    refine pw_iand dX8_exchange_18 ?_
    refine pw_topi (fun a3_3 e_a3_3 => ?_)
    replace hs := lt_use hs e_a3_3
    refine pw_istore_n [(3, .int a3_3), (0, .ref 0), (1, .int a1), (2, .int a2)] dX8_exchange_19 rfl (Nat.le_of_ble_eq_true rfl) rfl ?_
    refine pw_aload_n 1 dX8_exchange_20 rfl rfl ?_
    refine pw_iload_n 3 dX8_exchange_21 rfl rfl ?_
    refine pw_if_eq 36 dX8_exchange_22 (by decide) (fun c_4 => ?_) (fun c_4 => ?_)
    · rw [if_pos c_4] at hs
      refine pw_aload_n 1 dX8_exchange_36 rfl rfl ?_
      refine pw_geti 5 dX8_exchange_37 clRX8 tM0 (Nat.le_of_ble_eq_true rfl) fRX8_88 rfl ?_
      refine pw_iconst (1 : Int32) dX8_exchange_40 (by decide) ?_
      refine pw_iload_n 2 dX8_exchange_41 rfl rfl ?_
      refine pw_ishl dX8_exchange_42 ?_
      refine pw_iconst (-1 : Int32) dX8_exchange_43 (by decide) ?_
      refine pw_ixor dX8_exchange_44 ?_
      refine pw_iand dX8_exchange_45 ?_
      exact PW.sub (lv' := [(0, .ref 0), (3, .int a3_3)]) [1, 0] rfl (J46 a3_3 ((rd sg 0 5) &&& (((1 : Int32) <<< (a1 &&& 31)) ^^^ (-1 : Int32))) sg hs)
    · rw [if_neg c_4] at hs
      refine pw_aload_n 1 dX8_exchange_25 rfl rfl ?_
      refine pw_geti 5 dX8_exchange_26 clRX8 tM0 (Nat.le_of_ble_eq_true rfl) fRX8_88 rfl ?_
      refine pw_iconst (1 : Int32) dX8_exchange_29 (by decide) ?_
      refine pw_iload_n 2 dX8_exchange_30 rfl rfl ?_
      refine pw_ishl dX8_exchange_31 ?_
      refine pw_ior dX8_exchange_32 ?_
      refine pw_goto 46 dX8_exchange_33 (by decide) ?_
      exact PW.sub (lv' := [(0, .ref 0), (3, .int a3_3)]) [1, 0] rfl (J46 a3_3 ((rd sg 0 5) ||| ((1 : Int32) <<< (a1 &&& 31))) sg hs)
  · rw [if_pos c_5] at hs
    refine pw_sipush (-1001 : Int32) dX8_exchange_7 (by decide) ?_
    have hr := Option.some.inj hs
    exact pw_ireturn dX8_exchange_10 rfl ⟨by rw [← hr], by rw [← hr]⟩
set_option maxRecDepth 100000 in
set_option maxHeartbeats 400000 in
theorem conX8_areTwo {tab : Tb} {sg : Sg} {a0 : Int32} {a1 : Int32} {oM : Int32} (h : fX8_areTwo a0 a1 = some oM) : Con tab yX8_areTwo cX8_areTwo 2 (some .boolean) 2 42 [.int a0, .int a1] sg (PoI oM sg) := by
  refine Con.of (by decide) (Nat.le_of_ble_eq_true rfl) ?_
  show PW tab RX8 cX8_areTwo 2 (some .boolean) 2 42 (PoI oM sg) 0 [(0, .int a0), (1, .int a1)] [] sg
  have hs := h
  unfold fX8_areTwo at hs
  have J24 : ∀ (s0 : Int32), fX8_areTwo_J24 s0 = some oM → PW tab RX8 cX8_areTwo 2 (some .boolean) 2 42 (PoI oM sg) 24 [] [.int s0] sg := by
    intro s0 hs
    unfold fX8_areTwo_J24 at hs
    obtain ⟨h_8, hs⟩ := gd_some hs
    have hr := Option.some.inj hs
    exact pw_zreturn dX8_areTwo_24 rfl (zb_ok h_8) ⟨by rw [hr], rfl⟩
  have J23 : fX8_areTwo_J23  = some oM → PW tab RX8 cX8_areTwo 2 (some .boolean) 2 42 (PoI oM sg) 23 [] [] sg := by
    intro  hs
    unfold fX8_areTwo_J23 at hs
    refine pw_iconst (0 : Int32) dX8_areTwo_23 (by decide) ?_
    exact PW.sub (lv' := []) [] rfl (J24 (0 : Int32) hs)
  refine pw_iload_n 0 dX8_areTwo_0 rfl rfl ?_
  obtain ⟨r_2, hc_1, hs⟩ := Option.bind_eq_some_iff.mp hs
  refine pw_callSi [.int a0] (st := []) dX8_areTwo_1 mRX8_85 stX8_isNet inRX8 coX8_isNet hyX8_isNet (by decide) (Nat.le_of_ble_eq_true rfl) (conX8_isNet hc_1) ?_
  refine pw_if_eq 23 dX8_areTwo_4 (by decide) (fun c_7 => ?_) (fun c_7 => ?_)
  · rw [if_pos c_7] at hs
    exact PW.sub (lv' := []) [] rfl (J23  hs)
  · rw [if_neg c_7] at hs
    refine pw_iload_n 1 dX8_areTwo_7 rfl rfl ?_
    obtain ⟨r_4, hc_3, hs⟩ := Option.bind_eq_some_iff.mp hs
    refine pw_callSi [.int a1] (st := []) dX8_areTwo_8 mRX8_85 stX8_isNet inRX8 coX8_isNet hyX8_isNet (by decide) (Nat.le_of_ble_eq_true rfl) (conX8_isNet hc_3) ?_
    refine pw_if_eq 23 dX8_areTwo_11 (by decide) (fun c_6 => ?_) (fun c_6 => ?_)
    · rw [if_pos c_6] at hs
      exact PW.sub (lv' := []) [] rfl (J23  hs)
    · rw [if_neg c_6] at hs
      refine pw_iload_n 0 dX8_areTwo_14 rfl rfl ?_
      refine pw_iload_n 1 dX8_areTwo_15 rfl rfl ?_
      refine pw_icmp_eq 23 dX8_areTwo_16 (by decide) (fun c_5 => ?_) (fun c_5 => ?_)
      · rw [if_pos c_5] at hs
        exact PW.sub (lv' := []) [] rfl (J23  hs)
      · rw [if_neg c_5] at hs
        refine pw_iconst (1 : Int32) dX8_areTwo_19 (by decide) ?_
        refine pw_goto 24 dX8_areTwo_20 (by decide) ?_
        exact PW.sub (lv' := []) [] rfl (J24 (1 : Int32) hs)
set_option maxRecDepth 100000 in
set_option maxHeartbeats 400000 in
theorem conX8_turned {tab : Tb} {sg : Sg} {a0 : Int32} {oM : Int32} (h : fX8_turned a0 = some oM) : Con tab yX8_turned cX8_turned 1 (some .int) 0 0 [.int a0] sg (PoI oM sg) := by
  refine Con.of (by decide) (Nat.le_of_ble_eq_true rfl) ?_
  show PW tab RX8 cX8_turned 1 (some .int) 0 0 (PoI oM sg) 0 [(0, .int a0)] [] sg
  have hs := h
  unfold fX8_turned at hs
  have J19 : ∀ (s0 : Int32), fX8_turned_J19 s0 = some oM → PW tab RX8 cX8_turned 1 (some .int) 0 0 (PoI oM sg) 19 [] [.int s0] sg := by
    intro s0 hs
    unfold fX8_turned_J19 at hs
    have hr := Option.some.inj hs
    exact pw_ireturn dX8_turned_19 rfl ⟨by rw [hr], rfl⟩
  refine pw_iload_n 0 dX8_turned_0 rfl rfl ?_
  refine pw_iconst (1 : Int32) dX8_turned_1 (by decide) ?_
  refine pw_icmp_ne 9 dX8_turned_2 (by decide) (fun c_2 => ?_) (fun c_2 => ?_)
  · rw [if_neg c_2] at hs
    refine pw_iload_n 0 dX8_turned_9 rfl rfl ?_
    refine pw_iconst (2 : Int32) dX8_turned_10 (by decide) ?_
    refine pw_icmp_ne 18 dX8_turned_11 (by decide) (fun c_1 => ?_) (fun c_1 => ?_)
    · rw [if_neg c_1] at hs
      refine pw_iload_n 0 dX8_turned_18 rfl rfl ?_
      exact PW.sub (lv' := []) [] rfl (J19 a0 hs)
    · rw [if_pos c_1] at hs
      refine pw_iconst (1 : Int32) dX8_turned_14 (by decide) ?_
      refine pw_goto 19 dX8_turned_15 (by decide) ?_
      exact PW.sub (lv' := []) [] rfl (J19 (1 : Int32) hs)
  · rw [if_pos c_2] at hs
    refine pw_iconst (2 : Int32) dX8_turned_5 (by decide) ?_
    refine pw_goto 19 dX8_turned_6 (by decide) ?_
    exact PW.sub (lv' := []) [] rfl (J19 (2 : Int32) hs)
set_option maxRecDepth 100000 in
set_option maxHeartbeats 400000 in
theorem conX8_tell {sg : Sg} {a1 : Int32} {a2 : Int32} {a3 : Int32} {oM : Int32 × Sg} (h : fX8_tell a1 a2 a3 sg = some oM) : Con tbM yX8_tell cX8_tell 5 (some .int) 3 63 [.ref 0, .int a1, .int a2, .int a3] sg (PoI oM.1 oM.2) := by
  refine Con.of (by decide) (Nat.le_of_ble_eq_true rfl) ?_
  show PW tbM RX8 cX8_tell 5 (some .int) 3 63 (PoI oM.1 oM.2) 0 [(0, .ref 0), (1, .int a1), (2, .int a2), (3, .int a3)] [] sg
  have hs := h
  unfold fX8_tell at hs
  refine pw_iload_n 1 dX8_tell_0 rfl rfl ?_
  refine pw_iload_n 2 dX8_tell_1 rfl rfl ?_
  obtain ⟨r_2, hc_1, hs⟩ := Option.bind_eq_some_iff.mp hs
  refine pw_callSi [.int a1, .int a2] (st := []) dX8_tell_2 mRX8_91 stX8_areTwo inRX8 coX8_areTwo hyX8_areTwo (by decide) (Nat.le_of_ble_eq_true rfl) (conX8_areTwo hc_1) ?_
  refine pw_if_ne 12 dX8_tell_5 (by decide) (fun c_14 => ?_) (fun c_14 => ?_)
  · rw [if_neg c_14] at hs
    refine pw_iload_n 3 dX8_tell_12 rfl rfl ?_
    refine pw_iconst (0 : Int32) dX8_tell_13 (by decide) ?_
    refine pw_iconst (4 : Int32) dX8_tell_14 (by decide) ?_
    obtain ⟨r_4, hc_3, hs⟩ := Option.bind_eq_some_iff.mp hs
    refine pw_callSi [.int a3, .int (0 : Int32), .int (4 : Int32)] (st := []) dX8_tell_15 mRX8_55 stX8_within inRX8 coX8_within hyX8_within (by decide) (Nat.le_of_ble_eq_true rfl) (conX8_within hc_3) ?_
    refine pw_if_ne 25 dX8_tell_18 (by decide) (fun c_13 => ?_) (fun c_13 => ?_)
    · rw [if_neg c_13] at hs
      refine pw_aload_n 0 dX8_tell_25 rfl rfl ?_
      refine pw_getr 6 dX8_tell_26 clRX8 tM0 (Nat.le_of_ble_eq_true rfl) fRX8_19 rfl ?_
      refine pw_bipush (8 : Int32) dX8_tell_29 (by decide) ?_
      refine pw_iload_n 1 dX8_tell_31 rfl rfl ?_
      refine pw_imul dX8_tell_32 ?_
      refine pw_iload_n 2 dX8_tell_33 rfl rfl ?_
      refine pw_iadd dX8_tell_34 ?_
      obtain ⟨h_5, hs⟩ := gd_some hs
      refine pw_iaload dX8_tell_35 tM4 (inb_in h_5) ?_
      refine pw_topi (fun a4_6 e_a4_6 => ?_)
      replace hs := lt_use hs e_a4_6
      refine pw_istore [(4, .int a4_6), (0, .ref 0), (1, .int a1), (2, .int a2), (3, .int a3)] dX8_tell_36 (Nat.le_of_ble_eq_true rfl) rfl ?_
      refine pw_aload_n 1 dX8_tell_38 rfl rfl ?_
      refine pw_getr 6 dX8_tell_39 clRX8 tM0 (Nat.le_of_ble_eq_true rfl) fRX8_19 rfl ?_
      refine pw_bipush (8 : Int32) dX8_tell_42 (by decide) ?_
      refine pw_iload_n 2 dX8_tell_44 rfl rfl ?_
      refine pw_imul dX8_tell_45 ?_
      refine pw_iload_n 3 dX8_tell_46 rfl rfl ?_
      refine pw_iadd dX8_tell_47 ?_
      refine pw_iload_n 4 dX8_tell_48 rfl rfl ?_
      obtain ⟨h_7, hs⟩ := gd_some hs
      refine pw_iastore dX8_tell_49 tM4 (inb_in h_7) ?_
      refine pw_sg (fun sg_8 e_sg_8 => ?_)
      replace hs := lt_use hs e_sg_8
      refine pw_aload_n 1 dX8_tell_50 rfl rfl ?_
      refine pw_getr 6 dX8_tell_51 clRX8 tM0 (Nat.le_of_ble_eq_true rfl) fRX8_19 rfl ?_
      refine pw_bipush (8 : Int32) dX8_tell_54 (by decide) ?_
      refine pw_iload_n 3 dX8_tell_56 rfl rfl ?_
      refine pw_imul dX8_tell_57 ?_
      refine pw_iload_n 2 dX8_tell_58 rfl rfl ?_
      refine pw_iadd dX8_tell_59 ?_
      refine pw_iload_n 4 dX8_tell_60 rfl rfl ?_
      obtain ⟨r_10, hc_9, hs⟩ := Option.bind_eq_some_iff.mp hs
      refine pw_callSi [.int a3] (st := [.int (((8 : Int32) * a2) + a1), .ref 4]) dX8_tell_61 mRX8_95 stX8_turned inRX8 coX8_turned hyX8_turned (by decide) (Nat.le_of_ble_eq_true rfl) (conX8_turned hc_9) ?_
      obtain ⟨h_11, hs⟩ := gd_some hs
      refine pw_iastore dX8_tell_64 tM4 (inb_in h_11) ?_
      refine pw_sg (fun sg_12 e_sg_12 => ?_)
      replace hs := lt_use hs e_sg_12
      refine pw_iload 0 dX8_tell_65 rfl ?_
      have hr := Option.some.inj hs
      exact pw_ireturn dX8_tell_67 rfl ⟨by rw [← hr], by rw [← hr]⟩
    · rw [if_pos c_13] at hs
      refine pw_sipush (-1002 : Int32) dX8_tell_21 (by decide) ?_
      have hr := Option.some.inj hs
      exact pw_ireturn dX8_tell_24 rfl ⟨by rw [← hr], by rw [← hr]⟩
  · rw [if_pos c_14] at hs
    refine pw_sipush (-1001 : Int32) dX8_tell_8 (by decide) ?_
    have hr := Option.some.inj hs
    exact pw_ireturn dX8_tell_11 rfl ⟨by rw [← hr], by rw [← hr]⟩
set_option maxRecDepth 100000 in
set_option maxHeartbeats 400000 in
theorem conX8_coneOf {sg : Sg} {a1 : Int32} {oM : Int32} (h : fX8_coneOf a1 sg = some oM) : Con tbM yX8_coneOf cX8_coneOf 5 (some .int) 1 21 [.ref 0, .int a1] sg (PoI oM sg) := by
  refine Con.of (by decide) (Nat.le_of_ble_eq_true rfl) ?_
  show PW tbM RX8 cX8_coneOf 5 (some .int) 1 21 (PoI oM sg) 0 [(0, .ref 0), (1, .int a1)] [] sg
  have hs := h
  unfold fX8_coneOf at hs
  refine pw_iconst (1 : Int32) dX8_coneOf_0 (by decide) ?_
  refine pw_iload_n 1 dX8_coneOf_1 rfl rfl ?_
  refine pw_ishl dX8_coneOf_2 ?_
  refine pw_topi (fun a2_1 e_a2_1 => ?_)
  replace hs := lt_use hs e_a2_1
  refine pw_istore_n [(2, .int a2_1), (0, .ref 0), (1, .int a1)] dX8_coneOf_3 rfl (Nat.le_of_ble_eq_true rfl) rfl ?_
  refine pw_iconst (0 : Int32) dX8_coneOf_4 (by decide) ?_
  refine pw_istore_n [(3, .int (0 : Int32)), (2, .int a2_1), (0, .ref 0), (1, .int a1)] dX8_coneOf_5 rfl (Nat.le_of_ble_eq_true rfl) rfl ?_
  obtain ⟨t, hL, hs⟩ := Option.bind_eq_some_iff.mp hs
  refine PW.sub [2, 1, 0] (lv' := [(0, .ref 0), (2, .int a2_1), (3, .int (0 : Int32))]) rfl ?_
  refine lpS_pw (T := Int32 × Int32) (X := fun t => PW tbM RX8 cX8_coneOf 5 (some .int) 1 21 (PoI oM sg) 6 [(0, .ref 0), (2, .int t.1), (3, .int t.2)] [] sg) (E := fun t => PW tbM RX8 cX8_coneOf 5 (some .int) 1 21 (PoI oM sg) 71 [(0, .ref 0), (2, .int t.1), (3, .int t.2)] [] sg) (step := (fun t => fX8_coneOf_L6 sg t.1 t.2)) ?_ 300 (a2_1, (0 : Int32)) t hL ?_
  · intro t oL hs hE hC
    obtain ⟨a2, a3⟩ := t
    replace hs : fX8_coneOf_L6 sg a2 a3 = some oL := hs
    show PW tbM RX8 cX8_coneOf 5 (some .int) 1 21 (PoI oM sg) 6 [(0, .ref 0), (2, .int a2), (3, .int a3)] [] sg
    unfold fX8_coneOf_L6 at hs
    refine pw_iload_n 2 dX8_coneOf_6 rfl rfl ?_
    refine pw_bipush (8 : Int32) dX8_coneOf_7 (by decide) ?_
    refine pw_icmp_ge 71 dX8_coneOf_9 (by decide) (fun c_10 => ?_) (fun c_10 => ?_)
    · rw [if_pos c_10] at hs
      exact PW.sub (lv' := [(0, .ref 0), (2, .int a2), (3, .int a3)]) [0, 1, 2] rfl (hE (a2, a3) (Option.some.inj hs).symm)
    · rw [if_neg c_10] at hs
      refine pw_iconst (0 : Int32) dX8_coneOf_12 (by decide) ?_
      refine pw_istore [(4, .int (0 : Int32)), (0, .ref 0), (2, .int a2), (3, .int a3)] dX8_coneOf_13 (Nat.le_of_ble_eq_true rfl) rfl ?_
      obtain ⟨t, hL, hs⟩ := Option.bind_eq_some_iff.mp hs
      refine PW.sub [1, 3, 2, 0] (lv' := [(0, .ref 0), (3, .int a3), (2, .int a2), (4, .int (0 : Int32))]) rfl ?_
      refine lpS_pw (T := Int32 × Int32) (X := fun t => PW tbM RX8 cX8_coneOf 5 (some .int) 1 21 (PoI oM sg) 15 [(0, .ref 0), (3, .int a3), (2, .int t.1), (4, .int t.2)] [] sg) (E := fun t => PW tbM RX8 cX8_coneOf 5 (some .int) 1 21 (PoI oM sg) 65 [(0, .ref 0), (3, .int a3), (2, .int t.1), (4, .int t.2)] [] sg) (step := (fun t => fX8_coneOf_L15 a3 sg t.1 t.2)) ?_ 300 (a2, (0 : Int32)) t hL ?_
      · intro t oL hs hE hC
        obtain ⟨a2, a4⟩ := t
        replace hs : fX8_coneOf_L15 a3 sg a2 a4 = some oL := hs
        show PW tbM RX8 cX8_coneOf 5 (some .int) 1 21 (PoI oM sg) 15 [(0, .ref 0), (3, .int a3), (2, .int a2), (4, .int a4)] [] sg
        unfold fX8_coneOf_L15 at hs
        have J57 : ∀ (a4 : Int32) (s0 : Int32) (s1 : Int32), fX8_coneOf_L15_J57 a3 a4 s0 s1 sg = some oL → PW tbM RX8 cX8_coneOf 5 (some .int) 1 21 (PoI oM sg) 57 [(0, .ref 0), (3, .int a3), (4, .int a4)] [.int s0, .int s1] sg := by
          intro a4 s0 s1 hs
          unfold fX8_coneOf_L15_J57 at hs
          refine pw_ior dX8_coneOf_57 ?_
          refine pw_istore_n [(2, .int (s1 ||| s0)), (0, .ref 0), (3, .int a3), (4, .int a4)] dX8_coneOf_58 rfl (Nat.le_of_ble_eq_true rfl) rfl ?_
          refine pw_iinc 3 (a4 + 1) [(4, .int (a4 + 1)), (2, .int (s1 ||| s0)), (0, .ref 0), (3, .int a3)] dX8_coneOf_59 rfl rfl (Nat.le_of_ble_eq_true rfl) rfl ?_
          refine pw_goto 15 dX8_coneOf_62 (by decide) ?_
          exact PW.sub (lv' := [(0, .ref 0), (3, .int a3), (2, .int (s1 ||| s0)), (4, .int (a4 + 1))]) [2, 3, 1, 0] rfl (hC ((s1 ||| s0), (a4 + 1)) (Option.some.inj hs).symm)
        have J56 : ∀ (a4 : Int32) (s0 : Int32), fX8_coneOf_L15_J56 a3 a4 s0 sg = some oL → PW tbM RX8 cX8_coneOf 5 (some .int) 1 21 (PoI oM sg) 56 [(0, .ref 0), (3, .int a3), (4, .int a4)] [.int s0] sg := by
          intro a4 s0 hs
          unfold fX8_coneOf_L15_J56 at hs
          refine pw_iconst (0 : Int32) dX8_coneOf_56 (by decide) ?_
          exact PW.sub (lv' := [(0, .ref 0), (3, .int a3), (4, .int a4)]) [0, 1, 2] rfl (J57 a4 (0 : Int32) s0 hs)
        refine pw_iload 3 dX8_coneOf_15 rfl ?_
        refine pw_bipush (64 : Int32) dX8_coneOf_17 (by decide) ?_
        refine pw_icmp_ge 65 dX8_coneOf_19 (by decide) (fun c_7 => ?_) (fun c_7 => ?_)
        · rw [if_pos c_7] at hs
          exact PW.sub (lv' := [(0, .ref 0), (3, .int a3), (2, .int a2), (4, .int a4)]) [0, 1, 2, 3] rfl (hE (a2, a4) (Option.some.inj hs).symm)
        · rw [if_neg c_7] at hs
          refine pw_iload_n 2 dX8_coneOf_22 rfl rfl ?_
          refine pw_aload_n 0 dX8_coneOf_23 rfl rfl ?_
          refine pw_getr 20 dX8_coneOf_24 clRX8 tM0 (Nat.le_of_ble_eq_true rfl) fRX8_46 rfl ?_
          refine pw_iload 3 dX8_coneOf_27 rfl ?_
          obtain ⟨h_2, hs⟩ := gd_some hs
          refine pw_iaload dX8_coneOf_29 tM13 (inb_in h_2) ?_
          refine pw_iconst (1 : Int32) dX8_coneOf_30 (by decide) ?_
          refine pw_icmp_ne 56 dX8_coneOf_31 (by decide) (fun c_6 => ?_) (fun c_6 => ?_)
          · rw [if_neg c_6] at hs
            exact PW.sub (lv' := [(0, .ref 0), (3, .int a3), (4, .int a4)]) [0, 1, 3] rfl (J56 a4 a2 hs)
          · rw [if_pos c_6] at hs
            refine pw_iload_n 2 dX8_coneOf_34 rfl rfl ?_
            refine pw_iload 3 dX8_coneOf_35 rfl ?_
            refine pw_bipush (8 : Int32) dX8_coneOf_37 (by decide) ?_
            refine pw_irem dX8_coneOf_39 (by decide) ?_
            obtain ⟨r_4, hc_3, hs⟩ := Option.bind_eq_some_iff.mp hs
            refine pw_callSi [.int a2, .int (a4 - a4 / (8 : Int32) * (8 : Int32))] (st := [.int a2]) dX8_coneOf_40 mRX8_102 stX8_has inRX8 coX8_has hyX8_has (by decide) (Nat.le_of_ble_eq_true rfl) (conX8_has hc_3) ?_
            refine pw_if_eq 56 dX8_coneOf_43 (by decide) (fun c_5 => ?_) (fun c_5 => ?_)
            · rw [if_pos c_5] at hs
              exact PW.sub (lv' := [(0, .ref 0), (3, .int a3), (4, .int a4)]) [0, 1, 3] rfl (J56 a4 a2 hs)
            · rw [if_neg c_5] at hs
              refine pw_iconst (1 : Int32) dX8_coneOf_46 (by decide) ?_
              refine pw_iload 3 dX8_coneOf_47 rfl ?_
              refine pw_bipush (8 : Int32) dX8_coneOf_49 (by decide) ?_
              refine pw_idiv dX8_coneOf_51 (by decide) ?_
              refine pw_ishl dX8_coneOf_52 ?_
              refine pw_goto 57 dX8_coneOf_53 (by decide) ?_
              exact PW.sub (lv' := [(0, .ref 0), (3, .int a3), (4, .int a4)]) [0, 1, 3] rfl (J57 a4 ((1 : Int32) <<< ((a4 / (8 : Int32)) &&& 31)) a2 hs)
      · skip
        obtain ⟨a2_8, a4_9⟩ := t
        replace hs : fX8_coneOf_L6_E65 a3 a2_8 a4_9 sg = some oL := hs
        show PW tbM RX8 cX8_coneOf 5 (some .int) 1 21 (PoI oM sg) 65 [(0, .ref 0), (3, .int a3), (2, .int a2_8), (4, .int a4_9)] [] sg
        unfold fX8_coneOf_L6_E65 at hs
        refine pw_iinc 1 (a3 + 1) [(3, .int (a3 + 1)), (0, .ref 0), (2, .int a2_8), (4, .int a4_9)] dX8_coneOf_65 rfl rfl (Nat.le_of_ble_eq_true rfl) rfl ?_
        refine pw_goto 6 dX8_coneOf_68 (by decide) ?_
        exact PW.sub (lv' := [(0, .ref 0), (2, .int a2_8), (3, .int (a3 + 1))]) [1, 2, 0] rfl (hC (a2_8, (a3 + 1)) (Option.some.inj hs).symm)
  · skip
    obtain ⟨a2_11, a3_12⟩ := t
    replace hs : fX8_coneOf_E71 a2_11 a3_12 sg = some oM := hs
    show PW tbM RX8 cX8_coneOf 5 (some .int) 1 21 (PoI oM sg) 71 [(0, .ref 0), (2, .int a2_11), (3, .int a3_12)] [] sg
    unfold fX8_coneOf_E71 at hs
    refine pw_iload_n 1 dX8_coneOf_71 rfl rfl ?_
    have hr := Option.some.inj hs
    exact pw_ireturn dX8_coneOf_72 rfl ⟨by rw [hr], rfl⟩
set_option maxRecDepth 100000 in
set_option maxHeartbeats 400000 in
theorem conX8_netNow {sg : Sg} {a1 : Int32} {a2 : Int32} {oM : Int32 × Sg} (h : fX8_netNow a1 a2 sg = some oM) : Con tbM yX8_netNow cX8_netNow 3 (some .int) 4 91 [.ref 0, .int a1, .int a2] sg (PoI oM.1 oM.2) := by
  refine Con.of (by decide) (Nat.le_of_ble_eq_true rfl) ?_
  show PW tbM RX8 cX8_netNow 3 (some .int) 4 91 (PoI oM.1 oM.2) 0 [(0, .ref 0), (1, .int a1), (2, .int a2)] [] sg
  have hs := h
  unfold fX8_netNow at hs
  refine pw_aload_n 0 dX8_netNow_0 rfl rfl ?_
  obtain ⟨sg_2, hc_1, hs⟩ := Option.bind_eq_some_iff.mp hs
  refine pw_callVv [] (st := []) dX8_netNow_1 tM0 rfl mRX8_149 imX8_lay seX8_lay inRX8 coX8_lay hyX8_lay (by decide) (Nat.le_of_ble_eq_true rfl) (conX8_lay hc_1) ?_
  refine pw_iload_n 2 dX8_netNow_4 rfl rfl ?_
  by_cases c_6 : a2 = (0 : Int32)
  · rw [if_pos c_6] at hs
    refine pw_tableIn (off := 35) 40 dX8_netNow_5 (by rw [c_6]; decide) (by rw [c_6]; decide) (by rw [c_6]; rfl) (by decide) ?_
    refine pw_aload_n 0 dX8_netNow_40 rfl rfl ?_
    refine pw_getr 11 dX8_netNow_41 clRX8 tM0 (Nat.le_of_ble_eq_true rfl) fRX8_28 rfl ?_
    refine pw_iload_n 1 dX8_netNow_44 rfl rfl ?_
    obtain ⟨h_3, hs⟩ := gd_some hs
    refine pw_iaload dX8_netNow_45 tM7 (inb_in h_3) ?_
    obtain ⟨r_5, hc_4, hs⟩ := Option.bind_eq_some_iff.mp hs
    refine pw_callSi [.int (rd sg_2 7 (Int32.toNatClampNeg a1))] (st := []) dX8_netNow_46 mRX8_109 stX8_ones inRX8 coX8_ones hyX8_ones (by decide) (Nat.le_of_ble_eq_true rfl) (conX8_ones hc_4) ?_
    have hr := Option.some.inj hs
    exact pw_ireturn dX8_netNow_49 rfl ⟨by rw [← hr], by rw [← hr]⟩
  · rw [if_neg c_6] at hs
    by_cases c_10 : a2 = (1 : Int32)
    · rw [if_pos c_10] at hs
      refine pw_tableIn (off := 45) 50 dX8_netNow_5 (by rw [c_10]; decide) (by rw [c_10]; decide) (by rw [c_10]; rfl) (by decide) ?_
      refine pw_aload_n 0 dX8_netNow_50 rfl rfl ?_
      refine pw_getr 12 dX8_netNow_51 clRX8 tM0 (Nat.le_of_ble_eq_true rfl) fRX8_31 rfl ?_
      refine pw_iload_n 1 dX8_netNow_54 rfl rfl ?_
      obtain ⟨h_7, hs⟩ := gd_some hs
      refine pw_iaload dX8_netNow_55 tM8 (inb_in h_7) ?_
      obtain ⟨r_9, hc_8, hs⟩ := Option.bind_eq_some_iff.mp hs
      refine pw_callSi [.int (rd sg_2 8 (Int32.toNatClampNeg a1))] (st := []) dX8_netNow_56 mRX8_109 stX8_ones inRX8 coX8_ones hyX8_ones (by decide) (Nat.le_of_ble_eq_true rfl) (conX8_ones hc_8) ?_
      have hr := Option.some.inj hs
      exact pw_ireturn dX8_netNow_59 rfl ⟨by rw [← hr], by rw [← hr]⟩
    · rw [if_neg c_10] at hs
      by_cases c_12 : a2 = (2 : Int32)
      · rw [if_pos c_12] at hs
        refine pw_tableIn (off := 55) 60 dX8_netNow_5 (by rw [c_12]; decide) (by rw [c_12]; decide) (by rw [c_12]; rfl) (by decide) ?_
        refine pw_aload_n 0 dX8_netNow_60 rfl rfl ?_
        refine pw_getr 16 dX8_netNow_61 clRX8 tM0 (Nat.le_of_ble_eq_true rfl) fRX8_37 rfl ?_
        refine pw_iload_n 1 dX8_netNow_64 rfl rfl ?_
        obtain ⟨h_11, hs⟩ := gd_some hs
        refine pw_iaload dX8_netNow_65 tM10 (inb_in h_11) ?_
        have hr := Option.some.inj hs
        exact pw_ireturn dX8_netNow_66 rfl ⟨by rw [← hr], by rw [← hr]⟩
      · rw [if_neg c_12] at hs
        by_cases c_13 : a2 = (3 : Int32)
        · rw [if_pos c_13] at hs
          refine pw_tableIn (off := 62) 67 dX8_netNow_5 (by rw [c_13]; decide) (by rw [c_13]; decide) (by rw [c_13]; rfl) (by decide) ?_
          refine pw_aload_n 0 dX8_netNow_67 rfl rfl ?_
          refine pw_geti 17 dX8_netNow_68 clRX8 tM0 (Nat.le_of_ble_eq_true rfl) fRX8_118 rfl ?_
          refine pw_iload_n 1 dX8_netNow_71 rfl rfl ?_
          refine pw_ishr dX8_netNow_72 ?_
          refine pw_iconst (1 : Int32) dX8_netNow_73 (by decide) ?_
          refine pw_iand dX8_netNow_74 ?_
          have hr := Option.some.inj hs
          exact pw_ireturn dX8_netNow_75 rfl ⟨by rw [← hr], by rw [← hr]⟩
        · rw [if_neg c_13] at hs
          by_cases c_16 : a2 = (4 : Int32)
          · rw [if_pos c_16] at hs
            refine pw_tableIn (off := 71) 76 dX8_netNow_5 (by rw [c_16]; decide) (by rw [c_16]; decide) (by rw [c_16]; rfl) (by decide) ?_
            refine pw_aload_n 0 dX8_netNow_76 rfl rfl ?_
            refine pw_iload_n 1 dX8_netNow_77 rfl rfl ?_
            obtain ⟨r_15, hc_14, hs⟩ := Option.bind_eq_some_iff.mp hs
            refine pw_callVi [.int a1] (st := []) dX8_netNow_78 tM0 rfl mRX8_152 imX8_coneOf seX8_coneOf inRX8 coX8_coneOf hyX8_coneOf (by decide) (Nat.le_of_ble_eq_true rfl) (conX8_coneOf hc_14) ?_
            have hr := Option.some.inj hs
            exact pw_ireturn dX8_netNow_81 rfl ⟨by rw [← hr], by rw [← hr]⟩
          · rw [if_neg c_16] at hs
            refine pw_tableOut 82 dX8_netNow_5 (by have := lv_neT c_6 (a := 0) (by decide); have := lv_neT c_10 (a := 1) (by decide); have := lv_neT c_12 (a := 2) (by decide); have := lv_neT c_13 (a := 3) (by decide); have := lv_neT c_16 (a := 4) (by decide); omega) (by decide) ?_
            refine pw_aload_n 0 dX8_netNow_82 rfl rfl ?_
            refine pw_geti 5 dX8_netNow_83 clRX8 tM0 (Nat.le_of_ble_eq_true rfl) fRX8_88 rfl ?_
            refine pw_iload_n 1 dX8_netNow_86 rfl rfl ?_
            refine pw_ishr dX8_netNow_87 ?_
            refine pw_iconst (1 : Int32) dX8_netNow_88 (by decide) ?_
            refine pw_iand dX8_netNow_89 ?_
            have hr := Option.some.inj hs
            exact pw_ireturn dX8_netNow_90 rfl ⟨by rw [← hr], by rw [← hr]⟩
set_option maxRecDepth 100000 in
set_option maxHeartbeats 400000 in
theorem conX8_net {sg : Sg} {a1 : Int32} {a2 : Int32} {oM : Int32 × Sg} (h : fX8_net a1 a2 sg = some oM) : Con tbM yX8_net cX8_net 3 (some .int) 5 113 [.ref 0, .int a1, .int a2] sg (PoI oM.1 oM.2) := by
  refine Con.of (by decide) (Nat.le_of_ble_eq_true rfl) ?_
  show PW tbM RX8 cX8_net 3 (some .int) 5 113 (PoI oM.1 oM.2) 0 [(0, .ref 0), (1, .int a1), (2, .int a2)] [] sg
  have hs := h
  unfold fX8_net at hs
  have J32 : ∀ (s0 : Int32) (sg : Sg), fX8_net_J32 s0 sg = some oM → PW tbM RX8 cX8_net 3 (some .int) 5 113 (PoI oM.1 oM.2) 32 [] [.int s0] sg := by
    intro s0 sg hs
    unfold fX8_net_J32 at hs
    have hr := Option.some.inj hs
    exact pw_ireturn dX8_net_32 rfl ⟨by rw [← hr], by rw [← hr]⟩
  refine pw_iload_n 1 dX8_net_0 rfl rfl ?_
  obtain ⟨r_2, hc_1, hs⟩ := Option.bind_eq_some_iff.mp hs
  refine pw_callSi [.int a1] (st := []) dX8_net_1 mRX8_85 stX8_isNet inRX8 coX8_isNet hyX8_isNet (by decide) (Nat.le_of_ble_eq_true rfl) (conX8_isNet hc_1) ?_
  refine pw_if_ne 11 dX8_net_4 (by decide) (fun c_10 => ?_) (fun c_10 => ?_)
  · rw [if_neg c_10] at hs
    refine pw_iload_n 2 dX8_net_11 rfl rfl ?_
    refine pw_iconst (0 : Int32) dX8_net_12 (by decide) ?_
    refine pw_iconst (5 : Int32) dX8_net_13 (by decide) ?_
    obtain ⟨r_4, hc_3, hs⟩ := Option.bind_eq_some_iff.mp hs
    refine pw_callSi [.int a2, .int (0 : Int32), .int (5 : Int32)] (st := []) dX8_net_14 mRX8_55 stX8_within inRX8 coX8_within hyX8_within (by decide) (Nat.le_of_ble_eq_true rfl) (conX8_within hc_3) ?_
    refine pw_if_eq 29 dX8_net_17 (by decide) (fun c_9 => ?_) (fun c_9 => ?_)
    · rw [if_pos c_9] at hs
      refine pw_sipush (-1002 : Int32) dX8_net_29 (by decide) ?_
      exact PW.sub (lv' := []) [] rfl (J32 (-1002 : Int32) sg hs)
    · rw [if_neg c_9] at hs
      refine pw_aload_n 0 dX8_net_20 rfl rfl ?_
      refine pw_iload_n 1 dX8_net_21 rfl rfl ?_
      refine pw_iload_n 2 dX8_net_22 rfl rfl ?_
      obtain ⟨⟨r_6, sg_7⟩, hc_5, hs⟩ := Option.bind_eq_some_iff.mp hs
      replace hs := ltP_use hs
      refine pw_callVi [.int a1, .int a2] (st := []) dX8_net_23 tM0 rfl mRX8_155 imX8_netNow seX8_netNow inRX8 coX8_netNow hyX8_netNow (by decide) (Nat.le_of_ble_eq_true rfl) (conX8_netNow hc_5) ?_
      refine pw_goto 32 dX8_net_26 (by decide) ?_
      exact PW.sub (lv' := []) [] rfl (J32 r_6 sg_7 hs)
  · rw [if_pos c_10] at hs
    refine pw_sipush (-1001 : Int32) dX8_net_7 (by decide) ?_
    have hr := Option.some.inj hs
    exact pw_ireturn dX8_net_10 rfl ⟨by rw [← hr], by rw [← hr]⟩
set_option maxRecDepth 100000 in
set_option maxHeartbeats 400000 in
theorem conX8_rankNow {sg : Sg} {a1 : Int32} {oM : Int32 × Sg} (h : fX8_rankNow a1 sg = some oM) : Con tbM yX8_rankNow cX8_rankNow 2 (some .int) 4 91 [.ref 0, .int a1] sg (PoI oM.1 oM.2) := by
  refine Con.of (by decide) (Nat.le_of_ble_eq_true rfl) ?_
  show PW tbM RX8 cX8_rankNow 2 (some .int) 4 91 (PoI oM.1 oM.2) 0 [(0, .ref 0), (1, .int a1)] [] sg
  have hs := h
  unfold fX8_rankNow at hs
  have J28 : ∀ (s0 : Int32) (sg : Sg), fX8_rankNow_J28 s0 sg = some oM → PW tbM RX8 cX8_rankNow 2 (some .int) 4 91 (PoI oM.1 oM.2) 28 [] [.int s0] sg := by
    intro s0 sg hs
    unfold fX8_rankNow_J28 at hs
    have hr := Option.some.inj hs
    exact pw_ireturn dX8_rankNow_28 rfl ⟨by rw [← hr], by rw [← hr]⟩
  refine pw_aload_n 0 dX8_rankNow_0 rfl rfl ?_
  obtain ⟨sg_2, hc_1, hs⟩ := Option.bind_eq_some_iff.mp hs
  refine pw_callVv [] (st := []) dX8_rankNow_1 tM0 rfl mRX8_149 imX8_lay seX8_lay inRX8 coX8_lay hyX8_lay (by decide) (Nat.le_of_ble_eq_true rfl) (conX8_lay hc_1) ?_
  refine pw_iload_n 1 dX8_rankNow_4 rfl rfl ?_
  refine pw_iconst (0 : Int32) dX8_rankNow_5 (by decide) ?_
  refine pw_aload_n 0 dX8_rankNow_6 rfl rfl ?_
  refine pw_geti 15 dX8_rankNow_7 clRX8 tM0 (Nat.le_of_ble_eq_true rfl) fRX8_112 rfl ?_
  refine pw_iconst (1 : Int32) dX8_rankNow_10 (by decide) ?_
  refine pw_isub dX8_rankNow_11 ?_
  obtain ⟨r_4, hc_3, hs⟩ := Option.bind_eq_some_iff.mp hs
  refine pw_callSi [.int a1, .int (0 : Int32), .int ((rd sg_2 0 15) - (1 : Int32))] (st := []) dX8_rankNow_12 mRX8_55 stX8_within inRX8 coX8_within hyX8_within (by decide) (Nat.le_of_ble_eq_true rfl) (conX8_within hc_3) ?_
  refine pw_if_eq 27 dX8_rankNow_15 (by decide) (fun c_6 => ?_) (fun c_6 => ?_)
  · rw [if_pos c_6] at hs
    refine pw_iconst (-1 : Int32) dX8_rankNow_27 (by decide) ?_
    exact PW.sub (lv' := []) [] rfl (J28 (-1 : Int32) sg_2 hs)
  · rw [if_neg c_6] at hs
    refine pw_aload_n 0 dX8_rankNow_18 rfl rfl ?_
    refine pw_getr 14 dX8_rankNow_19 clRX8 tM0 (Nat.le_of_ble_eq_true rfl) fRX8_34 rfl ?_
    refine pw_iload_n 1 dX8_rankNow_22 rfl rfl ?_
    obtain ⟨h_5, hs⟩ := gd_some hs
    refine pw_iaload dX8_rankNow_23 tM9 (inb_in h_5) ?_
    refine pw_goto 28 dX8_rankNow_24 (by decide) ?_
    exact PW.sub (lv' := []) [] rfl (J28 (rd sg_2 9 (Int32.toNatClampNeg a1)) sg_2 hs)
set_option maxRecDepth 100000 in
set_option maxHeartbeats 400000 in
theorem conX8_rank {sg : Sg} {a1 : Int32} {oM : Int32 × Sg} (h : fX8_rank a1 sg = some oM) : Con tbM yX8_rank cX8_rank 2 (some .int) 5 112 [.ref 0, .int a1] sg (PoI oM.1 oM.2) := by
  refine Con.of (by decide) (Nat.le_of_ble_eq_true rfl) ?_
  show PW tbM RX8 cX8_rank 2 (some .int) 5 112 (PoI oM.1 oM.2) 0 [(0, .ref 0), (1, .int a1)] [] sg
  have hs := h
  unfold fX8_rank at hs
  refine pw_aload_n 0 dX8_rank_0 rfl rfl ?_
  refine pw_iload_n 1 dX8_rank_1 rfl rfl ?_
  obtain ⟨⟨r_2, sg_3⟩, hc_1, hs⟩ := Option.bind_eq_some_iff.mp hs
  replace hs := ltP_use hs
  refine pw_callVi [.int a1] (st := []) dX8_rank_2 tM0 rfl mRX8_158 imX8_rankNow seX8_rankNow inRX8 coX8_rankNow hyX8_rankNow (by decide) (Nat.le_of_ble_eq_true rfl) (conX8_rankNow hc_1) ?_
  have hr := Option.some.inj hs
  exact pw_ireturn dX8_rank_5 rfl ⟨by rw [← hr], by rw [← hr]⟩
set_option maxRecDepth 100000 in
set_option maxHeartbeats 400000 in
theorem conX8_topNow {sg : Sg}  {oM : Int32 × Sg} (h : fX8_topNow  sg = some oM) : Con tbM yX8_topNow cX8_topNow 1 (some .int) 4 91 [.ref 0] sg (PoI oM.1 oM.2) := by
  refine Con.of (by decide) (Nat.le_of_ble_eq_true rfl) ?_
  show PW tbM RX8 cX8_topNow 1 (some .int) 4 91 (PoI oM.1 oM.2) 0 [(0, .ref 0)] [] sg
  have hs := h
  unfold fX8_topNow at hs
  refine pw_aload_n 0 dX8_topNow_0 rfl rfl ?_
  obtain ⟨sg_2, hc_1, hs⟩ := Option.bind_eq_some_iff.mp hs
  refine pw_callVv [] (st := []) dX8_topNow_1 tM0 rfl mRX8_149 imX8_lay seX8_lay inRX8 coX8_lay hyX8_lay (by decide) (Nat.le_of_ble_eq_true rfl) (conX8_lay hc_1) ?_
  refine pw_aload_n 0 dX8_topNow_4 rfl rfl ?_
  refine pw_geti 17 dX8_topNow_5 clRX8 tM0 (Nat.le_of_ble_eq_true rfl) fRX8_118 rfl ?_
  have hr := Option.some.inj hs
  exact pw_ireturn dX8_topNow_8 rfl ⟨by rw [← hr], by rw [← hr]⟩
set_option maxRecDepth 100000 in
set_option maxHeartbeats 400000 in
theorem conX8_top {sg : Sg}  {oM : Int32 × Sg} (h : fX8_top  sg = some oM) : Con tbM yX8_top cX8_top 1 (some .int) 5 111 [.ref 0] sg (PoI oM.1 oM.2) := by
  refine Con.of (by decide) (Nat.le_of_ble_eq_true rfl) ?_
  show PW tbM RX8 cX8_top 1 (some .int) 5 111 (PoI oM.1 oM.2) 0 [(0, .ref 0)] [] sg
  have hs := h
  unfold fX8_top at hs
  refine pw_aload_n 0 dX8_top_0 rfl rfl ?_
  obtain ⟨⟨r_2, sg_3⟩, hc_1, hs⟩ := Option.bind_eq_some_iff.mp hs
  replace hs := ltP_use hs
  refine pw_callVi [] (st := []) dX8_top_1 tM0 rfl mRX8_161 imX8_topNow seX8_topNow inRX8 coX8_topNow hyX8_topNow (by decide) (Nat.le_of_ble_eq_true rfl) (conX8_topNow hc_1) ?_
  have hr := Option.some.inj hs
  exact pw_ireturn dX8_top_4 rfl ⟨by rw [← hr], by rw [← hr]⟩
set_option maxRecDepth 100000 in
set_option maxHeartbeats 400000 in
theorem conX8_linkNow {sg : Sg} {a1 : Int32} {a2 : Int32} {a3 : Int32} {oM : Int32 × Sg} (h : fX8_linkNow a1 a2 a3 sg = some oM) : Con tbM yX8_linkNow cX8_linkNow 5 (some .int) 4 91 [.ref 0, .int a1, .int a2, .int a3] sg (PoI oM.1 oM.2) := by
  refine Con.of (by decide) (Nat.le_of_ble_eq_true rfl) ?_
  show PW tbM RX8 cX8_linkNow 5 (some .int) 4 91 (PoI oM.1 oM.2) 0 [(0, .ref 0), (1, .int a1), (2, .int a2), (3, .int a3)] [] sg
  have hs := h
  unfold fX8_linkNow at hs
  have J82 : ∀ (s0 : Int32) (sg : Sg), fX8_linkNow_J82 s0 sg = some oM → PW tbM RX8 cX8_linkNow 5 (some .int) 4 91 (PoI oM.1 oM.2) 82 [] [.int s0] sg := by
    intro s0 sg hs
    unfold fX8_linkNow_J82 at hs
    have hr := Option.some.inj hs
    exact pw_ireturn dX8_linkNow_82 rfl ⟨by rw [← hr], by rw [← hr]⟩
  refine pw_aload_n 0 dX8_linkNow_0 rfl rfl ?_
  obtain ⟨sg_2, hc_1, hs⟩ := Option.bind_eq_some_iff.mp hs
  refine pw_callVv [] (st := []) dX8_linkNow_1 tM0 rfl mRX8_149 imX8_lay seX8_lay inRX8 coX8_lay hyX8_lay (by decide) (Nat.le_of_ble_eq_true rfl) (conX8_lay hc_1) ?_
  refine pw_bipush (8 : Int32) dX8_linkNow_4 (by decide) ?_
  refine pw_iload_n 1 dX8_linkNow_6 rfl rfl ?_
  refine pw_imul dX8_linkNow_7 ?_
  refine pw_iload_n 2 dX8_linkNow_8 rfl rfl ?_
  refine pw_iadd dX8_linkNow_9 ?_
  refine pw_topi (fun a4_3 e_a4_3 => ?_)
  replace hs := lt_use hs e_a4_3
  refine pw_istore [(4, .int a4_3), (0, .ref 0), (1, .int a1), (2, .int a2), (3, .int a3)] dX8_linkNow_10 (Nat.le_of_ble_eq_true rfl) rfl ?_
  refine pw_iload_n 4 dX8_linkNow_12 rfl rfl ?_
  refine pw_if_ne 26 dX8_linkNow_13 (by decide) (fun c_12 => ?_) (fun c_12 => ?_)
  · rw [if_neg c_12] at hs
    refine pw_iload_n 4 dX8_linkNow_26 rfl rfl ?_
    refine pw_iconst (1 : Int32) dX8_linkNow_27 (by decide) ?_
    refine pw_icmp_ne 41 dX8_linkNow_28 (by decide) (fun c_10 => ?_) (fun c_10 => ?_)
    · rw [if_neg c_10] at hs
      refine pw_iload_n 4 dX8_linkNow_41 rfl rfl ?_
      refine pw_iconst (2 : Int32) dX8_linkNow_42 (by decide) ?_
      refine pw_icmp_ne 60 dX8_linkNow_43 (by decide) (fun c_8 => ?_) (fun c_8 => ?_)
      · rw [if_neg c_8] at hs
        refine pw_iload_n 4 dX8_linkNow_60 rfl rfl ?_
        refine pw_iconst (3 : Int32) dX8_linkNow_61 (by decide) ?_
        refine pw_icmp_ne 75 dX8_linkNow_62 (by decide) (fun c_6 => ?_) (fun c_6 => ?_)
        · rw [if_neg c_6] at hs
          refine pw_aload_n 1 dX8_linkNow_75 rfl rfl ?_
          refine pw_getr 6 dX8_linkNow_76 clRX8 tM0 (Nat.le_of_ble_eq_true rfl) fRX8_19 rfl ?_
          refine pw_iload 0 dX8_linkNow_79 rfl ?_
          obtain ⟨h_4, hs⟩ := gd_some hs
          refine pw_iaload dX8_linkNow_81 tM4 (inb_in h_4) ?_
          exact PW.sub (lv' := []) [] rfl (J82 (rd sg_2 4 (Int32.toNatClampNeg a4_3)) sg_2 hs)
        · rw [if_pos c_6] at hs
          refine pw_aload_n 1 dX8_linkNow_65 rfl rfl ?_
          refine pw_getr 19 dX8_linkNow_66 clRX8 tM0 (Nat.le_of_ble_eq_true rfl) fRX8_43 rfl ?_
          refine pw_iload 0 dX8_linkNow_69 rfl ?_
          obtain ⟨h_5, hs⟩ := gd_some hs
          refine pw_iaload dX8_linkNow_71 tM12 (inb_in h_5) ?_
          refine pw_goto 82 dX8_linkNow_72 (by decide) ?_
          exact PW.sub (lv' := []) [] rfl (J82 (rd sg_2 12 (Int32.toNatClampNeg a4_3)) sg_2 hs)
      · rw [if_pos c_8] at hs
        refine pw_aload_n 1 dX8_linkNow_46 rfl rfl ?_
        refine pw_getr 18 dX8_linkNow_47 clRX8 tM0 (Nat.le_of_ble_eq_true rfl) fRX8_40 rfl ?_
        refine pw_bipush (8 : Int32) dX8_linkNow_50 (by decide) ?_
        refine pw_iload_n 3 dX8_linkNow_52 rfl rfl ?_
        refine pw_imul dX8_linkNow_53 ?_
        refine pw_iload_n 2 dX8_linkNow_54 rfl rfl ?_
        refine pw_iadd dX8_linkNow_55 ?_
        obtain ⟨h_7, hs⟩ := gd_some hs
        refine pw_iaload dX8_linkNow_56 tM11 (inb_in h_7) ?_
        refine pw_goto 82 dX8_linkNow_57 (by decide) ?_
        exact PW.sub (lv' := []) [] rfl (J82 (rd sg_2 11 (Int32.toNatClampNeg (((8 : Int32) * a2) + a1))) sg_2 hs)
    · rw [if_pos c_10] at hs
      refine pw_aload_n 1 dX8_linkNow_31 rfl rfl ?_
      refine pw_getr 18 dX8_linkNow_32 clRX8 tM0 (Nat.le_of_ble_eq_true rfl) fRX8_40 rfl ?_
      refine pw_iload 0 dX8_linkNow_35 rfl ?_
      obtain ⟨h_9, hs⟩ := gd_some hs
      refine pw_iaload dX8_linkNow_37 tM11 (inb_in h_9) ?_
      refine pw_goto 82 dX8_linkNow_38 (by decide) ?_
      exact PW.sub (lv' := []) [] rfl (J82 (rd sg_2 11 (Int32.toNatClampNeg a4_3)) sg_2 hs)
  · rw [if_pos c_12] at hs
    refine pw_aload_n 1 dX8_linkNow_16 rfl rfl ?_
    refine pw_getr 20 dX8_linkNow_17 clRX8 tM0 (Nat.le_of_ble_eq_true rfl) fRX8_46 rfl ?_
    refine pw_iload 0 dX8_linkNow_20 rfl ?_
    obtain ⟨h_11, hs⟩ := gd_some hs
    refine pw_iaload dX8_linkNow_22 tM13 (inb_in h_11) ?_
    refine pw_goto 82 dX8_linkNow_23 (by decide) ?_
    exact PW.sub (lv' := []) [] rfl (J82 (rd sg_2 13 (Int32.toNatClampNeg a4_3)) sg_2 hs)
set_option maxRecDepth 100000 in
set_option maxHeartbeats 400000 in
theorem conX8_link {sg : Sg} {a1 : Int32} {a2 : Int32} {a3 : Int32} {oM : Int32 × Sg} (h : fX8_link a1 a2 a3 sg = some oM) : Con tbM yX8_link cX8_link 4 (some .int) 5 115 [.ref 0, .int a1, .int a2, .int a3] sg (PoI oM.1 oM.2) := by
  refine Con.of (by decide) (Nat.le_of_ble_eq_true rfl) ?_
  show PW tbM RX8 cX8_link 4 (some .int) 5 115 (PoI oM.1 oM.2) 0 [(0, .ref 0), (1, .int a1), (2, .int a2), (3, .int a3)] [] sg
  have hs := h
  unfold fX8_link at hs
  have J34 : ∀ (s0 : Int32) (sg : Sg), fX8_link_J34 s0 sg = some oM → PW tbM RX8 cX8_link 4 (some .int) 5 115 (PoI oM.1 oM.2) 34 [] [.int s0] sg := by
    intro s0 sg hs
    unfold fX8_link_J34 at hs
    have hr := Option.some.inj hs
    exact pw_ireturn dX8_link_34 rfl ⟨by rw [← hr], by rw [← hr]⟩
  refine pw_iload_n 1 dX8_link_0 rfl rfl ?_
  refine pw_iload_n 2 dX8_link_1 rfl rfl ?_
  obtain ⟨r_2, hc_1, hs⟩ := Option.bind_eq_some_iff.mp hs
  refine pw_callSi [.int a1, .int a2] (st := []) dX8_link_2 mRX8_91 stX8_areTwo inRX8 coX8_areTwo hyX8_areTwo (by decide) (Nat.le_of_ble_eq_true rfl) (conX8_areTwo hc_1) ?_
  refine pw_if_ne 12 dX8_link_5 (by decide) (fun c_10 => ?_) (fun c_10 => ?_)
  · rw [if_neg c_10] at hs
    refine pw_iload_n 3 dX8_link_12 rfl rfl ?_
    refine pw_iconst (0 : Int32) dX8_link_13 (by decide) ?_
    refine pw_iconst (4 : Int32) dX8_link_14 (by decide) ?_
    obtain ⟨r_4, hc_3, hs⟩ := Option.bind_eq_some_iff.mp hs
    refine pw_callSi [.int a3, .int (0 : Int32), .int (4 : Int32)] (st := []) dX8_link_15 mRX8_55 stX8_within inRX8 coX8_within hyX8_within (by decide) (Nat.le_of_ble_eq_true rfl) (conX8_within hc_3) ?_
    refine pw_if_eq 31 dX8_link_18 (by decide) (fun c_9 => ?_) (fun c_9 => ?_)
    · rw [if_pos c_9] at hs
      refine pw_sipush (-1002 : Int32) dX8_link_31 (by decide) ?_
      exact PW.sub (lv' := []) [] rfl (J34 (-1002 : Int32) sg hs)
    · rw [if_neg c_9] at hs
      refine pw_aload_n 0 dX8_link_21 rfl rfl ?_
      refine pw_iload_n 1 dX8_link_22 rfl rfl ?_
      refine pw_iload_n 2 dX8_link_23 rfl rfl ?_
      refine pw_iload_n 3 dX8_link_24 rfl rfl ?_
      obtain ⟨⟨r_6, sg_7⟩, hc_5, hs⟩ := Option.bind_eq_some_iff.mp hs
      replace hs := ltP_use hs
      refine pw_callVi [.int a1, .int a2, .int a3] (st := []) dX8_link_25 tM0 rfl mRX8_164 imX8_linkNow seX8_linkNow inRX8 coX8_linkNow hyX8_linkNow (by decide) (Nat.le_of_ble_eq_true rfl) (conX8_linkNow hc_5) ?_
      refine pw_goto 34 dX8_link_28 (by decide) ?_
      exact PW.sub (lv' := []) [] rfl (J34 r_6 sg_7 hs)
  · rw [if_pos c_10] at hs
    refine pw_sipush (-1001 : Int32) dX8_link_8 (by decide) ?_
    have hr := Option.some.inj hs
    exact pw_ireturn dX8_link_11 rfl ⟨by rw [← hr], by rw [← hr]⟩
set_option maxRecDepth 100000 in
set_option maxHeartbeats 400000 in
theorem conX8_lesserOf {sg : Sg} {a1 : Int32} {oM : Int32} (h : fX8_lesserOf a1 sg = some oM) : Con tbM yX8_lesserOf cX8_lesserOf 6 (some .int) 0 0 [.ref 0, .int a1] sg (PoI oM sg) := by
  refine Con.of (by decide) (Nat.le_of_ble_eq_true rfl) ?_
  show PW tbM RX8 cX8_lesserOf 6 (some .int) 0 0 (PoI oM sg) 0 [(0, .ref 0), (1, .int a1)] [] sg
  have hs := h
  unfold fX8_lesserOf at hs
  have J54 : ∀ (s0 : Int32), fX8_lesserOf_J54 s0 sg = some oM → PW tbM RX8 cX8_lesserOf 6 (some .int) 0 0 (PoI oM sg) 54 [] [.int s0] sg := by
    intro s0 hs
    unfold fX8_lesserOf_J54 at hs
    have hr := Option.some.inj hs
    exact pw_ireturn dX8_lesserOf_54 rfl ⟨by rw [hr], rfl⟩
  refine pw_iload_n 1 dX8_lesserOf_0 rfl rfl ?_
  refine pw_bipush (8 : Int32) dX8_lesserOf_1 (by decide) ?_
  refine pw_idiv dX8_lesserOf_3 (by decide) ?_
  refine pw_istore_n [(2, .int (a1 / (8 : Int32))), (0, .ref 0), (1, .int a1)] dX8_lesserOf_4 rfl (Nat.le_of_ble_eq_true rfl) rfl ?_
  refine pw_iload_n 2 dX8_lesserOf_5 rfl rfl ?_
  refine pw_bipush (8 : Int32) dX8_lesserOf_6 (by decide) ?_
  refine pw_irem dX8_lesserOf_8 (by decide) ?_
  refine pw_topi (fun a3_1 e_a3_1 => ?_)
  replace hs := lt_use hs e_a3_1
  refine pw_istore_n [(3, .int a3_1), (2, .int (a1 / (8 : Int32))), (0, .ref 0), (1, .int a1)] dX8_lesserOf_9 rfl (Nat.le_of_ble_eq_true rfl) rfl ?_
  refine pw_aload_n 2 dX8_lesserOf_10 rfl rfl ?_
  refine pw_getr 18 dX8_lesserOf_11 clRX8 tM0 (Nat.le_of_ble_eq_true rfl) fRX8_40 rfl ?_
  refine pw_iload_n 3 dX8_lesserOf_14 rfl rfl ?_
  obtain ⟨h_2, hs⟩ := gd_some hs
  refine pw_iaload dX8_lesserOf_15 tM11 (inb_in h_2) ?_
  refine pw_topi (fun a4_3 e_a4_3 => ?_)
  replace hs := lt_use hs e_a4_3
  refine pw_istore [(4, .int a4_3), (3, .int a3_1), (2, .int (a1 / (8 : Int32))), (0, .ref 0), (1, .int a1)] dX8_lesserOf_16 (Nat.le_of_ble_eq_true rfl) rfl ?_
  refine pw_aload_n 3 dX8_lesserOf_18 rfl rfl ?_
  refine pw_getr 18 dX8_lesserOf_19 clRX8 tM0 (Nat.le_of_ble_eq_true rfl) fRX8_40 rfl ?_
  refine pw_bipush (8 : Int32) dX8_lesserOf_22 (by decide) ?_
  refine pw_iload_n 1 dX8_lesserOf_24 rfl rfl ?_
  refine pw_imul dX8_lesserOf_25 ?_
  refine pw_iload_n 2 dX8_lesserOf_26 rfl rfl ?_
  refine pw_iadd dX8_lesserOf_27 ?_
  obtain ⟨h_4, hs⟩ := gd_some hs
  refine pw_iaload dX8_lesserOf_28 tM11 (inb_in h_4) ?_
  refine pw_topi (fun a5_5 e_a5_5 => ?_)
  replace hs := lt_use hs e_a5_5
  refine pw_istore [(5, .int a5_5), (4, .int a4_3), (3, .int a3_1), (2, .int (a1 / (8 : Int32))), (0, .ref 0), (1, .int a1)] dX8_lesserOf_29 (Nat.le_of_ble_eq_true rfl) rfl ?_
  refine pw_iload_n 3 dX8_lesserOf_31 rfl rfl ?_
  refine pw_iload_n 2 dX8_lesserOf_32 rfl rfl ?_
  refine pw_icmp_lt 40 dX8_lesserOf_33 (by decide) (fun c_7 => ?_) (fun c_7 => ?_)
  · rw [if_pos c_7] at hs
    refine pw_iload 1 dX8_lesserOf_40 rfl ?_
    refine pw_iload 0 dX8_lesserOf_42 rfl ?_
    refine pw_icmp_ge 52 dX8_lesserOf_44 (by decide) (fun c_6 => ?_) (fun c_6 => ?_)
    · rw [if_pos c_6] at hs
      refine pw_iload 0 dX8_lesserOf_52 rfl ?_
      exact PW.sub (lv' := []) [] rfl (J54 a5_5 hs)
    · rw [if_neg c_6] at hs
      refine pw_iload 1 dX8_lesserOf_47 rfl ?_
      refine pw_goto 54 dX8_lesserOf_49 (by decide) ?_
      exact PW.sub (lv' := []) [] rfl (J54 a4_3 hs)
  · rw [if_neg c_7] at hs
    refine pw_iconst (0 : Int32) dX8_lesserOf_36 (by decide) ?_
    refine pw_goto 54 dX8_lesserOf_37 (by decide) ?_
    exact PW.sub (lv' := []) [] rfl (J54 (0 : Int32) hs)
set_option maxRecDepth 100000 in
set_option maxHeartbeats 400000 in
theorem conX8_contradictedNow {sg : Sg} {a1 : Int32} {oM : Int32 × Sg} (h : fX8_contradictedNow a1 sg = some oM) : Con tbM yX8_contradictedNow cX8_contradictedNow 5 (some .int) 4 91 [.ref 0, .int a1] sg (PoI oM.1 oM.2) := by
  refine Con.of (by decide) (Nat.le_of_ble_eq_true rfl) ?_
  show PW tbM RX8 cX8_contradictedNow 5 (some .int) 4 91 (PoI oM.1 oM.2) 0 [(0, .ref 0), (1, .int a1)] [] sg
  have hs := h
  unfold fX8_contradictedNow at hs
  refine pw_aload_n 0 dX8_contradictedNow_0 rfl rfl ?_
  obtain ⟨sg_2, hc_1, hs⟩ := Option.bind_eq_some_iff.mp hs
  refine pw_callVv [] (st := []) dX8_contradictedNow_1 tM0 rfl mRX8_149 imX8_lay seX8_lay inRX8 coX8_lay hyX8_lay (by decide) (Nat.le_of_ble_eq_true rfl) (conX8_lay hc_1) ?_
  refine pw_iconst (0 : Int32) dX8_contradictedNow_4 (by decide) ?_
  refine pw_istore_n [(2, .int (0 : Int32)), (0, .ref 0), (1, .int a1)] dX8_contradictedNow_5 rfl (Nat.le_of_ble_eq_true rfl) rfl ?_
  obtain ⟨u, hL, hs⟩ := Option.bind_eq_some_iff.mp hs
  refine PW.sub [1, 2, 0] (lv' := [(0, .ref 0), (1, .int a1), (2, .int (0 : Int32))]) rfl ?_
  refine lpO_pw (T := Int32) (X := fun t => PW tbM RX8 cX8_contradictedNow 5 (some .int) 4 91 (PoI oM.1 oM.2) 6 [(0, .ref 0), (1, .int a1), (2, .int t)] [] sg_2) (E := fun t => PW tbM RX8 cX8_contradictedNow 5 (some .int) 4 91 (PoI oM.1 oM.2) 93 [(0, .ref 0), (1, .int a1), (2, .int t)] [] sg_2) (PR := fun r => r = oM) (step := (fun t => fX8_contradictedNow_L6 a1 sg_2 t)) ?_ 300 (0 : Int32) u hL ?_ ?_
  · intro t oL hs hE hR hC
    obtain ⟨a2, rfl⟩ : ∃ z, z = t := ⟨t, rfl⟩
    replace hs : fX8_contradictedNow_L6 a1 sg_2 a2 = some oL := hs
    show PW tbM RX8 cX8_contradictedNow 5 (some .int) 4 91 (PoI oM.1 oM.2) 6 [(0, .ref 0), (1, .int a1), (2, .int a2)] [] sg_2
    unfold fX8_contradictedNow_L6 at hs
    have J87 : ∀ (a2 : Int32), fX8_contradictedNow_L6_J87 a1 a2 sg_2 = some oL → PW tbM RX8 cX8_contradictedNow 5 (some .int) 4 91 (PoI oM.1 oM.2) 87 [(0, .ref 0), (1, .int a1), (2, .int a2)] [] sg_2 := by
      intro a2 hs
      unfold fX8_contradictedNow_L6_J87 at hs
      refine pw_iinc 2 (a2 + 1) [(2, .int (a2 + 1)), (0, .ref 0), (1, .int a1)] dX8_contradictedNow_87 rfl rfl (Nat.le_of_ble_eq_true rfl) rfl ?_
      refine pw_goto 6 dX8_contradictedNow_90 (by decide) ?_
      exact PW.sub (lv' := [(0, .ref 0), (1, .int a1), (2, .int (a2 + 1))]) [1, 2, 0] rfl (hC (a2 + 1) (Option.some.inj hs).symm)
    refine pw_iload_n 2 dX8_contradictedNow_6 rfl rfl ?_
    refine pw_bipush (64 : Int32) dX8_contradictedNow_7 (by decide) ?_
    refine pw_icmp_ge 93 dX8_contradictedNow_9 (by decide) (fun c_21 => ?_) (fun c_21 => ?_)
    · rw [if_pos c_21] at hs
      exact PW.sub (lv' := [(0, .ref 0), (1, .int a1), (2, .int a2)]) [0, 1, 2] rfl (hE a2 (Option.some.inj hs).symm)
    · rw [if_neg c_21] at hs
      refine pw_iconst (0 : Int32) dX8_contradictedNow_12 (by decide) ?_
      refine pw_istore_n [(3, .int (0 : Int32)), (0, .ref 0), (1, .int a1), (2, .int a2)] dX8_contradictedNow_13 rfl (Nat.le_of_ble_eq_true rfl) rfl ?_
      refine pw_iconst (0 : Int32) dX8_contradictedNow_14 (by decide) ?_
      refine pw_istore [(4, .int (0 : Int32)), (3, .int (0 : Int32)), (0, .ref 0), (1, .int a1), (2, .int a2)] dX8_contradictedNow_15 (Nat.le_of_ble_eq_true rfl) rfl ?_
      obtain ⟨t, hL, hs⟩ := Option.bind_eq_some_iff.mp hs
      refine PW.sub [2, 3, 4, 1, 0] (lv' := [(0, .ref 0), (1, .int a1), (2, .int a2), (3, .int (0 : Int32)), (4, .int (0 : Int32))]) rfl ?_
      refine lpS_pw (T := Int32 × Int32) (X := fun t => PW tbM RX8 cX8_contradictedNow 5 (some .int) 4 91 (PoI oM.1 oM.2) 17 [(0, .ref 0), (1, .int a1), (2, .int a2), (3, .int t.1), (4, .int t.2)] [] sg_2) (E := fun t => PW tbM RX8 cX8_contradictedNow 5 (some .int) 4 91 (PoI oM.1 oM.2) 72 [(0, .ref 0), (1, .int a1), (2, .int a2), (3, .int t.1), (4, .int t.2)] [] sg_2) (step := (fun t => fX8_contradictedNow_L17 a1 a2 sg_2 t.1 t.2)) ?_ 300 ((0 : Int32), (0 : Int32)) t hL ?_
      · intro t oL hs hE hC
        obtain ⟨a3, a4⟩ := t
        replace hs : fX8_contradictedNow_L17 a1 a2 sg_2 a3 a4 = some oL := hs
        show PW tbM RX8 cX8_contradictedNow 5 (some .int) 4 91 (PoI oM.1 oM.2) 17 [(0, .ref 0), (1, .int a1), (2, .int a2), (3, .int a3), (4, .int a4)] [] sg_2
        unfold fX8_contradictedNow_L17 at hs
        have J64 : ∀ (a4 : Int32) (s0 : Int32) (s1 : Int32), fX8_contradictedNow_L17_J64 a1 a2 a4 s0 s1 sg_2 = some oL → PW tbM RX8 cX8_contradictedNow 5 (some .int) 4 91 (PoI oM.1 oM.2) 64 [(0, .ref 0), (1, .int a1), (2, .int a2), (4, .int a4)] [.int s0, .int s1] sg_2 := by
          intro a4 s0 s1 hs
          unfold fX8_contradictedNow_L17_J64 at hs
          refine pw_iadd dX8_contradictedNow_64 ?_
          refine pw_istore_n [(3, .int (s1 + s0)), (0, .ref 0), (1, .int a1), (2, .int a2), (4, .int a4)] dX8_contradictedNow_65 rfl (Nat.le_of_ble_eq_true rfl) rfl ?_
          refine pw_iinc 4 (a4 + 1) [(4, .int (a4 + 1)), (3, .int (s1 + s0)), (0, .ref 0), (1, .int a1), (2, .int a2)] dX8_contradictedNow_66 rfl rfl (Nat.le_of_ble_eq_true rfl) rfl ?_
          refine pw_goto 17 dX8_contradictedNow_69 (by decide) ?_
          exact PW.sub (lv' := [(0, .ref 0), (1, .int a1), (2, .int a2), (3, .int (s1 + s0)), (4, .int (a4 + 1))]) [2, 3, 4, 1, 0] rfl (hC ((s1 + s0), (a4 + 1)) (Option.some.inj hs).symm)
        have J63 : ∀ (a4 : Int32) (s0 : Int32), fX8_contradictedNow_L17_J63 a1 a2 a4 s0 sg_2 = some oL → PW tbM RX8 cX8_contradictedNow 5 (some .int) 4 91 (PoI oM.1 oM.2) 63 [(0, .ref 0), (1, .int a1), (2, .int a2), (4, .int a4)] [.int s0] sg_2 := by
          intro a4 s0 hs
          unfold fX8_contradictedNow_L17_J63 at hs
          refine pw_iconst (0 : Int32) dX8_contradictedNow_63 (by decide) ?_
          exact PW.sub (lv' := [(0, .ref 0), (1, .int a1), (2, .int a2), (4, .int a4)]) [0, 1, 2, 3] rfl (J64 a4 (0 : Int32) s0 hs)
        have J59 : ∀ (a4 : Int32) (s0 : Int32), fX8_contradictedNow_L17_J59 a1 a2 a4 s0 sg_2 = some oL → PW tbM RX8 cX8_contradictedNow 5 (some .int) 4 91 (PoI oM.1 oM.2) 59 [(0, .ref 0), (1, .int a1), (2, .int a2), (4, .int a4)] [.int s0] sg_2 := by
          intro a4 s0 hs
          unfold fX8_contradictedNow_L17_J59 at hs
          refine pw_iconst (1 : Int32) dX8_contradictedNow_59 (by decide) ?_
          refine pw_goto 64 dX8_contradictedNow_60 (by decide) ?_
          exact PW.sub (lv' := [(0, .ref 0), (1, .int a1), (2, .int a2), (4, .int a4)]) [0, 1, 2, 3] rfl (J64 a4 (1 : Int32) s0 hs)
        refine pw_iload 4 dX8_contradictedNow_17 rfl ?_
        refine pw_bipush (64 : Int32) dX8_contradictedNow_19 (by decide) ?_
        refine pw_icmp_ge 72 dX8_contradictedNow_21 (by decide) (fun c_14 => ?_) (fun c_14 => ?_)
        · rw [if_pos c_14] at hs
          exact PW.sub (lv' := [(0, .ref 0), (1, .int a1), (2, .int a2), (3, .int a3), (4, .int a4)]) [0, 1, 2, 3, 4] rfl (hE (a3, a4) (Option.some.inj hs).symm)
        · rw [if_neg c_14] at hs
          refine pw_iload_n 3 dX8_contradictedNow_24 rfl rfl ?_
          refine pw_aload_n 0 dX8_contradictedNow_25 rfl rfl ?_
          refine pw_iload 4 dX8_contradictedNow_26 rfl ?_
          obtain ⟨r_4, hc_3, hs⟩ := Option.bind_eq_some_iff.mp hs
          refine pw_callVi [.int a4] (st := [.int a3]) dX8_contradictedNow_28 tM0 rfl mRX8_168 imX8_lesserOf seX8_lesserOf inRX8 coX8_lesserOf hyX8_lesserOf (by decide) (Nat.le_of_ble_eq_true rfl) (conX8_lesserOf hc_3) ?_
          refine pw_aload_n 0 dX8_contradictedNow_31 rfl rfl ?_
          refine pw_iload_n 2 dX8_contradictedNow_32 rfl rfl ?_
          obtain ⟨r_6, hc_5, hs⟩ := Option.bind_eq_some_iff.mp hs
          refine pw_callVi [.int a2] (st := [.int r_4, .int a3]) dX8_contradictedNow_33 tM0 rfl mRX8_168 imX8_lesserOf seX8_lesserOf inRX8 coX8_lesserOf hyX8_lesserOf (by decide) (Nat.le_of_ble_eq_true rfl) (conX8_lesserOf hc_5) ?_
          refine pw_icmp_gt 59 dX8_contradictedNow_36 (by decide) (fun c_13 => ?_) (fun c_13 => ?_)
          · rw [if_pos c_13] at hs
            exact PW.sub (lv' := [(0, .ref 0), (1, .int a1), (2, .int a2), (4, .int a4)]) [0, 1, 2, 4] rfl (J59 a4 a3 hs)
          · rw [if_neg c_13] at hs
            refine pw_aload_n 0 dX8_contradictedNow_39 rfl rfl ?_
            refine pw_iload 4 dX8_contradictedNow_40 rfl ?_
            obtain ⟨r_8, hc_7, hs⟩ := Option.bind_eq_some_iff.mp hs
            refine pw_callVi [.int a4] (st := [.int a3]) dX8_contradictedNow_42 tM0 rfl mRX8_168 imX8_lesserOf seX8_lesserOf inRX8 coX8_lesserOf hyX8_lesserOf (by decide) (Nat.le_of_ble_eq_true rfl) (conX8_lesserOf hc_7) ?_
            refine pw_aload_n 0 dX8_contradictedNow_45 rfl rfl ?_
            refine pw_iload_n 2 dX8_contradictedNow_46 rfl rfl ?_
            obtain ⟨r_10, hc_9, hs⟩ := Option.bind_eq_some_iff.mp hs
            refine pw_callVi [.int a2] (st := [.int r_8, .int a3]) dX8_contradictedNow_47 tM0 rfl mRX8_168 imX8_lesserOf seX8_lesserOf inRX8 coX8_lesserOf hyX8_lesserOf (by decide) (Nat.le_of_ble_eq_true rfl) (conX8_lesserOf hc_9) ?_
            refine pw_icmp_ne 63 dX8_contradictedNow_50 (by decide) (fun c_12 => ?_) (fun c_12 => ?_)
            · rw [if_neg c_12] at hs
              exact PW.sub (lv' := [(0, .ref 0), (1, .int a1), (2, .int a2), (4, .int a4)]) [0, 1, 2, 4] rfl (J63 a4 a3 hs)
            · rw [if_pos c_12] at hs
              refine pw_iload 4 dX8_contradictedNow_53 rfl ?_
              refine pw_iload_n 2 dX8_contradictedNow_55 rfl rfl ?_
              refine pw_icmp_ge 63 dX8_contradictedNow_56 (by decide) (fun c_11 => ?_) (fun c_11 => ?_)
              · rw [if_pos c_11] at hs
                exact PW.sub (lv' := [(0, .ref 0), (1, .int a1), (2, .int a2), (4, .int a4)]) [0, 1, 2, 4] rfl (J63 a4 a3 hs)
              · rw [if_neg c_11] at hs
                exact PW.sub (lv' := [(0, .ref 0), (1, .int a1), (2, .int a2), (4, .int a4)]) [0, 1, 2, 4] rfl (J59 a4 a3 hs)
      · skip
        obtain ⟨a3_15, a4_16⟩ := t
        replace hs : fX8_contradictedNow_L6_E72 a1 a2 a3_15 a4_16 sg_2 = some oL := hs
        show PW tbM RX8 cX8_contradictedNow 5 (some .int) 4 91 (PoI oM.1 oM.2) 72 [(0, .ref 0), (1, .int a1), (2, .int a2), (3, .int a3_15), (4, .int a4_16)] [] sg_2
        unfold fX8_contradictedNow_L6_E72 at hs
        refine pw_aload_n 0 dX8_contradictedNow_72 rfl rfl ?_
        refine pw_iload_n 2 dX8_contradictedNow_73 rfl rfl ?_
        obtain ⟨r_18, hc_17, hs⟩ := Option.bind_eq_some_iff.mp hs
        refine pw_callVi [.int a2] (st := []) dX8_contradictedNow_74 tM0 rfl mRX8_168 imX8_lesserOf seX8_lesserOf inRX8 coX8_lesserOf hyX8_lesserOf (by decide) (Nat.le_of_ble_eq_true rfl) (conX8_lesserOf hc_17) ?_
        refine pw_if_le 87 dX8_contradictedNow_77 (by decide) (fun c_20 => ?_) (fun c_20 => ?_)
        · rw [if_pos c_20] at hs
          exact PW.sub (lv' := [(0, .ref 0), (1, .int a1), (2, .int a2)]) [0, 1, 2] rfl (J87 a2 hs)
        · rw [if_neg c_20] at hs
          refine pw_iload_n 3 dX8_contradictedNow_80 rfl rfl ?_
          refine pw_iload_n 1 dX8_contradictedNow_81 rfl rfl ?_
          refine pw_icmp_ne 87 dX8_contradictedNow_82 (by decide) (fun c_19 => ?_) (fun c_19 => ?_)
          · rw [if_neg c_19] at hs
            exact PW.sub (lv' := [(0, .ref 0), (1, .int a1), (2, .int a2)]) [0, 1, 2] rfl (J87 a2 hs)
          · rw [if_pos c_19] at hs
            refine pw_iload_n 2 dX8_contradictedNow_85 rfl rfl ?_
            have hr := hR _ (Option.some.inj hs).symm
            exact pw_ireturn dX8_contradictedNow_86 rfl ⟨by rw [← hr], by rw [← hr]⟩
  · intro t hu
    subst hu
    obtain ⟨a2_22, rfl⟩ : ∃ z, z = t := ⟨t, rfl⟩
    replace hs : fX8_contradictedNow_E93 a1 a2_22 sg_2 = some oM := hs
    show PW tbM RX8 cX8_contradictedNow 5 (some .int) 4 91 (PoI oM.1 oM.2) 93 [(0, .ref 0), (1, .int a1), (2, .int a2_22)] [] sg_2
    unfold fX8_contradictedNow_E93 at hs
    refine pw_iconst (-1 : Int32) dX8_contradictedNow_93 (by decide) ?_
    have hr := Option.some.inj hs
    exact pw_ireturn dX8_contradictedNow_94 rfl ⟨by rw [← hr], by rw [← hr]⟩
  · intro r hu
    subst hu
    exact Option.some.inj hs
set_option maxRecDepth 100000 in
set_option maxHeartbeats 400000 in
theorem conX8_contradicted {sg : Sg} {a1 : Int32} {oM : Int32 × Sg} (h : fX8_contradicted a1 sg = some oM) : Con tbM yX8_contradicted cX8_contradicted 2 (some .int) 5 115 [.ref 0, .int a1] sg (PoI oM.1 oM.2) := by
  refine Con.of (by decide) (Nat.le_of_ble_eq_true rfl) ?_
  show PW tbM RX8 cX8_contradicted 2 (some .int) 5 115 (PoI oM.1 oM.2) 0 [(0, .ref 0), (1, .int a1)] [] sg
  have hs := h
  unfold fX8_contradicted at hs
  refine pw_aload_n 0 dX8_contradicted_0 rfl rfl ?_
  refine pw_iload_n 1 dX8_contradicted_1 rfl rfl ?_
  obtain ⟨⟨r_2, sg_3⟩, hc_1, hs⟩ := Option.bind_eq_some_iff.mp hs
  replace hs := ltP_use hs
  refine pw_callVi [.int a1] (st := []) dX8_contradicted_2 tM0 rfl mRX8_171 imX8_contradictedNow seX8_contradictedNow inRX8 coX8_contradictedNow hyX8_contradictedNow (by decide) (Nat.le_of_ble_eq_true rfl) (conX8_contradictedNow hc_1) ?_
  have hr := Option.some.inj hs
  exact pw_ireturn dX8_contradicted_5 rfl ⟨by rw [← hr], by rw [← hr]⟩
set_option maxRecDepth 100000 in
set_option maxHeartbeats 400000 in
theorem conX8_valleyOfWay {sg : Sg} {a1 : Int32} {oM : Int32 × Sg} (h : fX8_valleyOfWay a1 sg = some oM) : Con tbM yX8_valleyOfWay cX8_valleyOfWay 3 (some .int) 1 23 [.ref 0, .int a1] sg (PoI oM.1 oM.2) := by
  refine Con.of (by decide) (Nat.le_of_ble_eq_true rfl) ?_
  show PW tbM RX8 cX8_valleyOfWay 3 (some .int) 1 23 (PoI oM.1 oM.2) 0 [(0, .ref 0), (1, .int a1)] [] sg
  have hs := h
  unfold fX8_valleyOfWay at hs
  refine pw_aload_n 0 dX8_valleyOfWay_0 rfl rfl ?_
  refine pw_aload_n 0 dX8_valleyOfWay_1 rfl rfl ?_
  refine pw_getr 10 dX8_valleyOfWay_2 clRX8 tM0 (Nat.le_of_ble_eq_true rfl) fRX8_25 rfl ?_
  refine pw_iload_n 1 dX8_valleyOfWay_5 rfl rfl ?_
  obtain ⟨h_1, hs⟩ := gd_some hs
  refine pw_iaload dX8_valleyOfWay_6 tM6 (inb_in h_1) ?_
  refine pw_puti 22 (fty := .int) dX8_valleyOfWay_7 clRX8 tM0 (Nat.le_of_ble_eq_true rfl) fRX8_174 rfl rfl (by decide +kernel) rfl rfl ?_
  refine pw_sg (fun sg_2 e_sg_2 => ?_)
  replace hs := lt_use hs e_sg_2
  refine pw_iconst (0 : Int32) dX8_valleyOfWay_10 (by decide) ?_
  refine pw_istore_n [(2, .int (0 : Int32)), (0, .ref 0), (1, .int a1)] dX8_valleyOfWay_11 rfl (Nat.le_of_ble_eq_true rfl) rfl ?_
  obtain ⟨t, hL, hs⟩ := Option.bind_eq_some_iff.mp hs
  refine PW.sub [1, 2, 0] (lv' := [(0, .ref 0), (1, .int a1), (2, .int (0 : Int32))]) rfl ?_
  refine lpS_pw (T := Int32 × Sg) (X := fun t => PW tbM RX8 cX8_valleyOfWay 3 (some .int) 1 23 (PoI oM.1 oM.2) 12 [(0, .ref 0), (1, .int a1), (2, .int t.1)] [] t.2) (E := fun t => PW tbM RX8 cX8_valleyOfWay 3 (some .int) 1 23 (PoI oM.1 oM.2) 43 [(0, .ref 0), (1, .int a1), (2, .int t.1)] [] t.2) (step := (fun t => fX8_valleyOfWay_L12 a1 t.1 t.2)) ?_ 300 ((0 : Int32), sg_2) t hL ?_
  · intro t oL hs hE hC
    obtain ⟨a2, sg⟩ := t
    replace hs : fX8_valleyOfWay_L12 a1 a2 sg = some oL := hs
    show PW tbM RX8 cX8_valleyOfWay 3 (some .int) 1 23 (PoI oM.1 oM.2) 12 [(0, .ref 0), (1, .int a1), (2, .int a2)] [] sg
    unfold fX8_valleyOfWay_L12 at hs
    refine pw_iload_n 2 dX8_valleyOfWay_12 rfl rfl ?_
    refine pw_aload_n 0 dX8_valleyOfWay_13 rfl rfl ?_
    refine pw_geti 22 dX8_valleyOfWay_14 clRX8 tM0 (Nat.le_of_ble_eq_true rfl) fRX8_174 rfl ?_
    refine pw_icmp_ge 43 dX8_valleyOfWay_17 (by decide) (fun c_6 => ?_) (fun c_6 => ?_)
    · rw [if_pos c_6] at hs
      exact PW.sub (lv' := [(0, .ref 0), (1, .int a1), (2, .int a2)]) [0, 1, 2] rfl (hE (a2, sg) (Option.some.inj hs).symm)
    · rw [if_neg c_6] at hs
      refine pw_aload_n 0 dX8_valleyOfWay_20 rfl rfl ?_
      refine pw_getr 21 dX8_valleyOfWay_21 clRX8 tM0 (Nat.le_of_ble_eq_true rfl) fRX8_49 rfl ?_
      refine pw_iload_n 2 dX8_valleyOfWay_24 rfl rfl ?_
      refine pw_aload_n 0 dX8_valleyOfWay_25 rfl rfl ?_
      refine pw_getr 9 dX8_valleyOfWay_26 clRX8 tM0 (Nat.le_of_ble_eq_true rfl) fRX8_22 rfl ?_
      refine pw_bipush (8 : Int32) dX8_valleyOfWay_29 (by decide) ?_
      refine pw_iload_n 1 dX8_valleyOfWay_31 rfl rfl ?_
      refine pw_imul dX8_valleyOfWay_32 ?_
      refine pw_iload_n 2 dX8_valleyOfWay_33 rfl rfl ?_
      refine pw_iadd dX8_valleyOfWay_34 ?_
      obtain ⟨h_3, hs⟩ := gd_some hs
      refine pw_iaload dX8_valleyOfWay_35 tM5 (inb_in h_3) ?_
      obtain ⟨h_4, hs⟩ := gd_some hs
      refine pw_iastore dX8_valleyOfWay_36 tM14 (inb_in h_4) ?_
      refine pw_sg (fun sg_5 e_sg_5 => ?_)
      replace hs := lt_use hs e_sg_5
      refine pw_iinc 2 (a2 + 1) [(2, .int (a2 + 1)), (0, .ref 0), (1, .int a1)] dX8_valleyOfWay_37 rfl rfl (Nat.le_of_ble_eq_true rfl) rfl ?_
      refine pw_goto 12 dX8_valleyOfWay_40 (by decide) ?_
      exact PW.sub (lv' := [(0, .ref 0), (1, .int a1), (2, .int (a2 + 1))]) [1, 2, 0] rfl (hC ((a2 + 1), sg_5) (Option.some.inj hs).symm)
  · skip
    obtain ⟨a2_7, sg_8⟩ := t
    replace hs : fX8_valleyOfWay_E43 a1 a2_7 sg_8 = some oM := hs
    show PW tbM RX8 cX8_valleyOfWay 3 (some .int) 1 23 (PoI oM.1 oM.2) 43 [(0, .ref 0), (1, .int a1), (2, .int a2_7)] [] sg_8
    unfold fX8_valleyOfWay_E43 at hs
    refine pw_aload_n 0 dX8_valleyOfWay_43 rfl rfl ?_
    obtain ⟨r_10, hc_9, hs⟩ := Option.bind_eq_some_iff.mp hs
    refine pw_callVi [] (st := []) dX8_valleyOfWay_44 tM0 rfl mRX8_177 imX8_valleyOf seX8_valleyOf inRX8 coX8_valleyOf hyX8_valleyOf (by decide) (Nat.le_of_ble_eq_true rfl) (conX8_valleyOf hc_9) ?_
    have hr := Option.some.inj hs
    exact pw_ireturn dX8_valleyOfWay_47 rfl ⟨by rw [← hr], by rw [← hr]⟩
set_option maxRecDepth 100000 in
set_option maxHeartbeats 400000 in
theorem conX8_seenNow {sg : Sg} {a1 : Int32} {a2 : Int32} {oM : Int32 × Sg} (h : fX8_seenNow a1 a2 sg = some oM) : Con tbM yX8_seenNow cX8_seenNow 3 (some .int) 4 91 [.ref 0, .int a1, .int a2] sg (PoI oM.1 oM.2) := by
  refine Con.of (by decide) (Nat.le_of_ble_eq_true rfl) ?_
  show PW tbM RX8 cX8_seenNow 3 (some .int) 4 91 (PoI oM.1 oM.2) 0 [(0, .ref 0), (1, .int a1), (2, .int a2)] [] sg
  have hs := h
  unfold fX8_seenNow at hs
  have J73 : ∀ (s0 : Int32) (sg : Sg), fX8_seenNow_J73 s0 sg = some oM → PW tbM RX8 cX8_seenNow 3 (some .int) 4 91 (PoI oM.1 oM.2) 73 [] [.int s0] sg := by
    intro s0 sg hs
    unfold fX8_seenNow_J73 at hs
    have hr := Option.some.inj hs
    exact pw_ireturn dX8_seenNow_73 rfl ⟨by rw [← hr], by rw [← hr]⟩
  have J41 : ∀ (s0 : Int32) (sg : Sg), fX8_seenNow_J41 s0 sg = some oM → PW tbM RX8 cX8_seenNow 3 (some .int) 4 91 (PoI oM.1 oM.2) 41 [] [.int s0] sg := by
    intro s0 sg hs
    unfold fX8_seenNow_J41 at hs
    have hr := Option.some.inj hs
    exact pw_ireturn dX8_seenNow_41 rfl ⟨by rw [← hr], by rw [← hr]⟩
  refine pw_aload_n 0 dX8_seenNow_0 rfl rfl ?_
  obtain ⟨sg_2, hc_1, hs⟩ := Option.bind_eq_some_iff.mp hs
  refine pw_callVv [] (st := []) dX8_seenNow_1 tM0 rfl mRX8_149 imX8_lay seX8_lay inRX8 coX8_lay hyX8_lay (by decide) (Nat.le_of_ble_eq_true rfl) (conX8_lay hc_1) ?_
  refine pw_iload_n 2 dX8_seenNow_4 rfl rfl ?_
  refine pw_bipush (9 : Int32) dX8_seenNow_5 (by decide) ?_
  refine pw_icmp_le 42 dX8_seenNow_7 (by decide) (fun c_15 => ?_) (fun c_15 => ?_)
  · rw [if_pos c_15] at hs
    refine pw_iload_n 2 dX8_seenNow_42 rfl rfl ?_
    refine pw_if_ne 55 dX8_seenNow_43 (by decide) (fun c_11 => ?_) (fun c_11 => ?_)
    · rw [if_neg c_11] at hs
      refine pw_iload_n 2 dX8_seenNow_55 rfl rfl ?_
      refine pw_iconst (1 : Int32) dX8_seenNow_56 (by decide) ?_
      refine pw_icmp_ne 68 dX8_seenNow_57 (by decide) (fun c_9 => ?_) (fun c_9 => ?_)
      · rw [if_neg c_9] at hs
        refine pw_aload_n 0 dX8_seenNow_68 rfl rfl ?_
        refine pw_iload_n 1 dX8_seenNow_69 rfl rfl ?_
        obtain ⟨⟨r_4, sg_5⟩, hc_3, hs⟩ := Option.bind_eq_some_iff.mp hs
        replace hs := ltP_use hs
        refine pw_callVi [.int a1] (st := []) dX8_seenNow_70 tM0 rfl mRX8_180 imX8_valleyOfWay seX8_valleyOfWay inRX8 coX8_valleyOfWay hyX8_valleyOfWay (by decide) (Nat.le_of_ble_eq_true rfl) (conX8_valleyOfWay hc_3) ?_
        exact PW.sub (lv' := []) [] rfl (J73 r_4 sg_5 hs)
      · rw [if_pos c_9] at hs
        refine pw_aload_n 0 dX8_seenNow_60 rfl rfl ?_
        refine pw_iload_n 1 dX8_seenNow_61 rfl rfl ?_
        obtain ⟨r_8, hc_7, hs⟩ := Option.bind_eq_some_iff.mp hs
        refine pw_callVi [.int a1] (st := []) dX8_seenNow_62 tM0 rfl mRX8_127 imX8_hillOf seX8_hillOf inRX8 coX8_hillOf hyX8_hillOf (by decide) (Nat.le_of_ble_eq_true rfl) (conX8_hillOf hc_7) ?_
        refine pw_goto 73 dX8_seenNow_65 (by decide) ?_
        exact PW.sub (lv' := []) [] rfl (J73 r_8 sg_2 hs)
    · rw [if_pos c_11] at hs
      refine pw_aload_n 0 dX8_seenNow_46 rfl rfl ?_
      refine pw_getr 10 dX8_seenNow_47 clRX8 tM0 (Nat.le_of_ble_eq_true rfl) fRX8_25 rfl ?_
      refine pw_iload_n 1 dX8_seenNow_50 rfl rfl ?_
      obtain ⟨h_10, hs⟩ := gd_some hs
      refine pw_iaload dX8_seenNow_51 tM6 (inb_in h_10) ?_
      refine pw_goto 73 dX8_seenNow_52 (by decide) ?_
      exact PW.sub (lv' := []) [] rfl (J73 (rd sg_2 6 (Int32.toNatClampNeg a1)) sg_2 hs)
  · rw [if_neg c_15] at hs
    refine pw_iload_n 2 dX8_seenNow_10 rfl rfl ?_
    refine pw_bipush (10 : Int32) dX8_seenNow_11 (by decide) ?_
    refine pw_isub dX8_seenNow_13 ?_
    refine pw_aload_n 0 dX8_seenNow_14 rfl rfl ?_
    refine pw_getr 10 dX8_seenNow_15 clRX8 tM0 (Nat.le_of_ble_eq_true rfl) fRX8_25 rfl ?_
    refine pw_iload_n 1 dX8_seenNow_18 rfl rfl ?_
    obtain ⟨h_12, hs⟩ := gd_some hs
    refine pw_iaload dX8_seenNow_19 tM6 (inb_in h_12) ?_
    refine pw_icmp_ge 40 dX8_seenNow_20 (by decide) (fun c_14 => ?_) (fun c_14 => ?_)
    · rw [if_pos c_14] at hs
      refine pw_iconst (-1 : Int32) dX8_seenNow_40 (by decide) ?_
      exact PW.sub (lv' := []) [] rfl (J41 (-1 : Int32) sg_2 hs)
    · rw [if_neg c_14] at hs
      refine pw_aload_n 0 dX8_seenNow_23 rfl rfl ?_
      refine pw_getr 9 dX8_seenNow_24 clRX8 tM0 (Nat.le_of_ble_eq_true rfl) fRX8_22 rfl ?_
      refine pw_bipush (8 : Int32) dX8_seenNow_27 (by decide) ?_
      refine pw_iload_n 1 dX8_seenNow_29 rfl rfl ?_
      refine pw_imul dX8_seenNow_30 ?_
      refine pw_iload_n 2 dX8_seenNow_31 rfl rfl ?_
      refine pw_iadd dX8_seenNow_32 ?_
      refine pw_bipush (10 : Int32) dX8_seenNow_33 (by decide) ?_
      refine pw_isub dX8_seenNow_35 ?_
      obtain ⟨h_13, hs⟩ := gd_some hs
      refine pw_iaload dX8_seenNow_36 tM5 (inb_in h_13) ?_
      refine pw_goto 41 dX8_seenNow_37 (by decide) ?_
      exact PW.sub (lv' := []) [] rfl (J41 (rd sg_2 5 (Int32.toNatClampNeg ((((8 : Int32) * a1) + a2) - (10 : Int32)))) sg_2 hs)
set_option maxRecDepth 100000 in
set_option maxHeartbeats 400000 in
theorem conX8_seen {sg : Sg} {a1 : Int32} {a2 : Int32} {oM : Int32 × Sg} (h : fX8_seen a1 a2 sg = some oM) : Con tbM yX8_seen cX8_seen 3 (some .int) 5 113 [.ref 0, .int a1, .int a2] sg (PoI oM.1 oM.2) := by
  refine Con.of (by decide) (Nat.le_of_ble_eq_true rfl) ?_
  show PW tbM RX8 cX8_seen 3 (some .int) 5 113 (PoI oM.1 oM.2) 0 [(0, .ref 0), (1, .int a1), (2, .int a2)] [] sg
  have hs := h
  unfold fX8_seen at hs
  have J50 : ∀ (s0 : Int32) (sg : Sg), fX8_seen_J50 s0 sg = some oM → PW tbM RX8 cX8_seen 3 (some .int) 5 113 (PoI oM.1 oM.2) 50 [] [.int s0] sg := by
    intro s0 sg hs
    unfold fX8_seen_J50 at hs
    have hr := Option.some.inj hs
    exact pw_ireturn dX8_seen_50 rfl ⟨by rw [← hr], by rw [← hr]⟩
  have J38 : ∀ (a1 : Int32) (a2 : Int32) (sg : Sg), fX8_seen_J38 a1 a2 sg = some oM → PW tbM RX8 cX8_seen 3 (some .int) 5 113 (PoI oM.1 oM.2) 38 [(0, .ref 0), (1, .int a1), (2, .int a2)] [] sg := by
    intro a1 a2 sg hs
    unfold fX8_seen_J38 at hs
    refine pw_aload_n 0 dX8_seen_38 rfl rfl ?_
    refine pw_iload_n 1 dX8_seen_39 rfl rfl ?_
    refine pw_iload_n 2 dX8_seen_40 rfl rfl ?_
    obtain ⟨⟨r_11, sg_12⟩, hc_10, hs⟩ := Option.bind_eq_some_iff.mp hs
    replace hs := ltP_use hs
    refine pw_callVi [.int a1, .int a2] (st := []) dX8_seen_41 tM0 rfl mRX8_183 imX8_seenNow seX8_seenNow inRX8 coX8_seenNow hyX8_seenNow (by decide) (Nat.le_of_ble_eq_true rfl) (conX8_seenNow hc_10) ?_
    refine pw_goto 50 dX8_seen_44 (by decide) ?_
    exact PW.sub (lv' := []) [] rfl (J50 r_11 sg_12 hs)
  refine pw_iload_n 1 dX8_seen_0 rfl rfl ?_
  refine pw_iconst (0 : Int32) dX8_seen_1 (by decide) ?_
  refine pw_aload_n 0 dX8_seen_2 rfl rfl ?_
  refine pw_geti 2 dX8_seen_3 clRX8 tM0 (Nat.le_of_ble_eq_true rfl) fRX8_75 rfl ?_
  refine pw_iconst (1 : Int32) dX8_seen_6 (by decide) ?_
  refine pw_isub dX8_seen_7 ?_
  obtain ⟨r_2, hc_1, hs⟩ := Option.bind_eq_some_iff.mp hs
  refine pw_callSi [.int a1, .int (0 : Int32), .int ((rd sg 0 2) - (1 : Int32))] (st := []) dX8_seen_8 mRX8_55 stX8_within inRX8 coX8_within hyX8_within (by decide) (Nat.le_of_ble_eq_true rfl) (conX8_within hc_1) ?_
  refine pw_if_ne 18 dX8_seen_11 (by decide) (fun c_9 => ?_) (fun c_9 => ?_)
  · rw [if_neg c_9] at hs
    refine pw_iload_n 2 dX8_seen_18 rfl rfl ?_
    refine pw_iconst (0 : Int32) dX8_seen_19 (by decide) ?_
    refine pw_iconst (2 : Int32) dX8_seen_20 (by decide) ?_
    obtain ⟨r_4, hc_3, hs⟩ := Option.bind_eq_some_iff.mp hs
    refine pw_callSi [.int a2, .int (0 : Int32), .int (2 : Int32)] (st := []) dX8_seen_21 mRX8_55 stX8_within inRX8 coX8_within hyX8_within (by decide) (Nat.le_of_ble_eq_true rfl) (conX8_within hc_3) ?_
    refine pw_if_ne 38 dX8_seen_24 (by decide) (fun c_8 => ?_) (fun c_8 => ?_)
    · rw [if_neg c_8] at hs
      exact PW.sub (lv' := [(0, .ref 0), (1, .int a1), (2, .int a2)]) [0, 1, 2] rfl (J38 a1 a2 sg hs)
    · rw [if_pos c_8] at hs
      refine pw_iload_n 2 dX8_seen_27 rfl rfl ?_
      refine pw_bipush (10 : Int32) dX8_seen_28 (by decide) ?_
      refine pw_bipush (15 : Int32) dX8_seen_30 (by decide) ?_
      obtain ⟨r_6, hc_5, hs⟩ := Option.bind_eq_some_iff.mp hs
      refine pw_callSi [.int a2, .int (10 : Int32), .int (15 : Int32)] (st := []) dX8_seen_32 mRX8_55 stX8_within inRX8 coX8_within hyX8_within (by decide) (Nat.le_of_ble_eq_true rfl) (conX8_within hc_5) ?_
      refine pw_if_eq 47 dX8_seen_35 (by decide) (fun c_7 => ?_) (fun c_7 => ?_)
      · rw [if_pos c_7] at hs
        refine pw_sipush (-1002 : Int32) dX8_seen_47 (by decide) ?_
        exact PW.sub (lv' := []) [] rfl (J50 (-1002 : Int32) sg hs)
      · rw [if_neg c_7] at hs
        exact PW.sub (lv' := [(0, .ref 0), (1, .int a1), (2, .int a2)]) [0, 1, 2] rfl (J38 a1 a2 sg hs)
  · rw [if_pos c_9] at hs
    refine pw_sipush (-1001 : Int32) dX8_seen_14 (by decide) ?_
    have hr := Option.some.inj hs
    exact pw_ireturn dX8_seen_17 rfl ⟨by rw [← hr], by rw [← hr]⟩
set_option maxRecDepth 100000 in
set_option maxHeartbeats 400000 in
theorem conX8_behind {tab : Tb} {sg : Sg} {a0 : Int32} {a1 : Int32} {oM : Int32} (h : fX8_behind a0 a1 = some oM) : Con tab yX8_behind cX8_behind 2 (some .int) 0 0 [.int a0, .int a1] sg (PoI oM sg) := by
  refine Con.of (by decide) (Nat.le_of_ble_eq_true rfl) ?_
  show PW tab RX8 cX8_behind 2 (some .int) 0 0 (PoI oM sg) 0 [(0, .int a0), (1, .int a1)] [] sg
  have hs := h
  unfold fX8_behind at hs
  have J41 : ∀ (s0 : Int32), fX8_behind_J41 s0 = some oM → PW tab RX8 cX8_behind 2 (some .int) 0 0 (PoI oM sg) 41 [] [.int s0] sg := by
    intro s0 hs
    unfold fX8_behind_J41 at hs
    have hr := Option.some.inj hs
    exact pw_ireturn dX8_behind_41 rfl ⟨by rw [hr], rfl⟩
  have J36 : fX8_behind_J36  = some oM → PW tab RX8 cX8_behind 2 (some .int) 0 0 (PoI oM sg) 36 [] [] sg := by
    intro  hs
    unfold fX8_behind_J36 at hs
    refine pw_iconst (1 : Int32) dX8_behind_36 (by decide) ?_
    refine pw_goto 41 dX8_behind_37 (by decide) ?_
    exact PW.sub (lv' := []) [] rfl (J41 (1 : Int32) hs)
  have J21 : ∀ (a0 : Int32) (a1 : Int32), fX8_behind_J21 a0 a1 = some oM → PW tab RX8 cX8_behind 2 (some .int) 0 0 (PoI oM sg) 21 [(0, .int a0), (1, .int a1)] [] sg := by
    intro a0 a1 hs
    unfold fX8_behind_J21 at hs
    refine pw_iload_n 1 dX8_behind_21 rfl rfl ?_
    refine pw_iconst (1 : Int32) dX8_behind_22 (by decide) ?_
    refine pw_icmp_eq 36 dX8_behind_23 (by decide) (fun c_7 => ?_) (fun c_7 => ?_)
    · rw [if_pos c_7] at hs
      exact PW.sub (lv' := []) [] rfl (J36  hs)
    · rw [if_neg c_7] at hs
      refine pw_iload_n 0 dX8_behind_26 rfl rfl ?_
      refine pw_iconst (2 : Int32) dX8_behind_27 (by decide) ?_
      refine pw_icmp_eq 36 dX8_behind_28 (by decide) (fun c_6 => ?_) (fun c_6 => ?_)
      · rw [if_pos c_6] at hs
        exact PW.sub (lv' := []) [] rfl (J36  hs)
      · rw [if_neg c_6] at hs
        refine pw_iload_n 0 dX8_behind_31 rfl rfl ?_
        refine pw_iconst (3 : Int32) dX8_behind_32 (by decide) ?_
        refine pw_icmp_ne 40 dX8_behind_33 (by decide) (fun c_5 => ?_) (fun c_5 => ?_)
        · rw [if_neg c_5] at hs
          refine pw_iconst (0 : Int32) dX8_behind_40 (by decide) ?_
          exact PW.sub (lv' := []) [] rfl (J41 (0 : Int32) hs)
        · rw [if_pos c_5] at hs
          exact PW.sub (lv' := []) [] rfl (J36  hs)
  have J19 : fX8_behind_J19  = some oM → PW tab RX8 cX8_behind 2 (some .int) 0 0 (PoI oM sg) 19 [] [] sg := by
    intro  hs
    unfold fX8_behind_J19 at hs
    refine pw_iconst (-1 : Int32) dX8_behind_19 (by decide) ?_
    have hr := Option.some.inj hs
    exact pw_ireturn dX8_behind_20 rfl ⟨by rw [hr], rfl⟩
  refine pw_iload_n 0 dX8_behind_0 rfl rfl ?_
  refine pw_if_eq 19 dX8_behind_1 (by decide) (fun c_4 => ?_) (fun c_4 => ?_)
  · rw [if_pos c_4] at hs
    exact PW.sub (lv' := []) [] rfl (J19  hs)
  · rw [if_neg c_4] at hs
    refine pw_iload_n 1 dX8_behind_4 rfl rfl ?_
    refine pw_iconst (1 : Int32) dX8_behind_5 (by decide) ?_
    refine pw_icmp_ne 21 dX8_behind_6 (by decide) (fun c_3 => ?_) (fun c_3 => ?_)
    · rw [if_neg c_3] at hs
      exact PW.sub (lv' := [(0, .int a0), (1, .int a1)]) [0, 1] rfl (J21 a0 a1 hs)
    · rw [if_pos c_3] at hs
      refine pw_iload_n 0 dX8_behind_9 rfl rfl ?_
      refine pw_iconst (1 : Int32) dX8_behind_10 (by decide) ?_
      refine pw_icmp_eq 19 dX8_behind_11 (by decide) (fun c_2 => ?_) (fun c_2 => ?_)
      · rw [if_pos c_2] at hs
        exact PW.sub (lv' := []) [] rfl (J19  hs)
      · rw [if_neg c_2] at hs
        refine pw_iload_n 0 dX8_behind_14 rfl rfl ?_
        refine pw_iconst (3 : Int32) dX8_behind_15 (by decide) ?_
        refine pw_icmp_ne 21 dX8_behind_16 (by decide) (fun c_1 => ?_) (fun c_1 => ?_)
        · rw [if_neg c_1] at hs
          exact PW.sub (lv' := [(0, .int a0), (1, .int a1)]) [0, 1] rfl (J21 a0 a1 hs)
        · rw [if_pos c_1] at hs
          exact PW.sub (lv' := []) [] rfl (J19  hs)
set_option maxRecDepth 100000 in
set_option maxHeartbeats 400000 in
theorem conX8_layFar {sg : Sg} {a1 : Int32} {oM : Sg} (h : fX8_layFar a1 sg = some oM) : Con tbM yX8_layFar cX8_layFar 7 none 1 21 [.ref 0, .int a1] sg (PoV oM) := by
  refine Con.of (by decide) (Nat.le_of_ble_eq_true rfl) ?_
  show PW tbM RX8 cX8_layFar 7 none 1 21 (PoV oM) 0 [(0, .ref 0), (1, .int a1)] [] sg
  have hs := h
  unfold fX8_layFar at hs
  refine pw_iconst (0 : Int32) dX8_layFar_0 (by decide) ?_
  refine pw_istore_n [(2, .int (0 : Int32)), (0, .ref 0), (1, .int a1)] dX8_layFar_1 rfl (Nat.le_of_ble_eq_true rfl) rfl ?_
  obtain ⟨t, hL, hs⟩ := Option.bind_eq_some_iff.mp hs
  refine PW.sub [1, 2, 0] (lv' := [(0, .ref 0), (1, .int a1), (2, .int (0 : Int32))]) rfl ?_
  refine lpS_pw (T := Int32 × Sg) (X := fun t => PW tbM RX8 cX8_layFar 7 none 1 21 (PoV oM) 2 [(0, .ref 0), (1, .int a1), (2, .int t.1)] [] t.2) (E := fun t => PW tbM RX8 cX8_layFar 7 none 1 21 (PoV oM) 34 [(0, .ref 0), (1, .int a1), (2, .int t.1)] [] t.2) (step := (fun t => fX8_layFar_L2 a1 t.1 t.2)) ?_ 300 ((0 : Int32), sg) t hL ?_
  · intro t oL hs hE hC
    obtain ⟨a2, sg⟩ := t
    replace hs : fX8_layFar_L2 a1 a2 sg = some oL := hs
    show PW tbM RX8 cX8_layFar 7 none 1 21 (PoV oM) 2 [(0, .ref 0), (1, .int a1), (2, .int a2)] [] sg
    unfold fX8_layFar_L2 at hs
    have J27 : ∀ (a2 : Int32) (s0 : Int32) (s1 : Int32) (sg : Sg), fX8_layFar_L2_J27 a1 a2 s0 s1 sg = some oL → PW tbM RX8 cX8_layFar 7 none 1 21 (PoV oM) 27 [(0, .ref 0), (1, .int a1), (2, .int a2)] [.int s0, .int s1, .ref 15] sg := by
      intro a2 s0 s1 sg hs
      unfold fX8_layFar_L2_J27 at hs
      obtain ⟨h_3, hs⟩ := gd_some hs
      refine pw_iastore dX8_layFar_27 tM15 (inb_in h_3) ?_
      refine pw_sg (fun sg_4 e_sg_4 => ?_)
      replace hs := lt_use hs e_sg_4
      refine pw_iinc 2 (a2 + 1) [(2, .int (a2 + 1)), (0, .ref 0), (1, .int a1)] dX8_layFar_28 rfl rfl (Nat.le_of_ble_eq_true rfl) rfl ?_
      refine pw_goto 2 dX8_layFar_31 (by decide) ?_
      exact PW.sub (lv' := [(0, .ref 0), (1, .int a1), (2, .int (a2 + 1))]) [1, 2, 0] rfl (hC ((a2 + 1), sg_4) (Option.some.inj hs).symm)
    refine pw_iload_n 2 dX8_layFar_2 rfl rfl ?_
    refine pw_bipush (16 : Int32) dX8_layFar_3 (by decide) ?_
    refine pw_icmp_ge 34 dX8_layFar_5 (by decide) (fun c_2 => ?_) (fun c_2 => ?_)
    · rw [if_pos c_2] at hs
      exact PW.sub (lv' := [(0, .ref 0), (1, .int a1), (2, .int a2)]) [0, 1, 2] rfl (hE (a2, sg) (Option.some.inj hs).symm)
    · rw [if_neg c_2] at hs
      refine pw_aload_n 0 dX8_layFar_8 rfl rfl ?_
      refine pw_getr 23 dX8_layFar_9 clRX8 tM0 (Nat.le_of_ble_eq_true rfl) fRX8_52 rfl ?_
      refine pw_iload_n 2 dX8_layFar_12 rfl rfl ?_
      refine pw_iload_n 2 dX8_layFar_13 rfl rfl ?_
      refine pw_bipush (8 : Int32) dX8_layFar_14 (by decide) ?_
      refine pw_irem dX8_layFar_16 (by decide) ?_
      refine pw_iload_n 1 dX8_layFar_17 rfl rfl ?_
      refine pw_icmp_ne 25 dX8_layFar_18 (by decide) (fun c_1 => ?_) (fun c_1 => ?_)
      · rw [if_neg c_1] at hs
        refine pw_bipush (99 : Int32) dX8_layFar_25 (by decide) ?_
        exact PW.sub (lv' := [(0, .ref 0), (1, .int a1), (2, .int a2)]) [0, 1, 2] rfl (J27 a2 (99 : Int32) a2 sg hs)
      · rw [if_pos c_1] at hs
        refine pw_iconst (0 : Int32) dX8_layFar_21 (by decide) ?_
        refine pw_goto 27 dX8_layFar_22 (by decide) ?_
        exact PW.sub (lv' := [(0, .ref 0), (1, .int a1), (2, .int a2)]) [0, 1, 2] rfl (J27 a2 (0 : Int32) a2 sg hs)
  · skip
    obtain ⟨a2_5, sg_6⟩ := t
    replace hs : fX8_layFar_E34 a1 a2_5 sg_6 = some oM := hs
    show PW tbM RX8 cX8_layFar 7 none 1 21 (PoV oM) 34 [(0, .ref 0), (1, .int a1), (2, .int a2_5)] [] sg_6
    unfold fX8_layFar_E34 at hs
    refine pw_iconst (0 : Int32) dX8_layFar_34 (by decide) ?_
    refine pw_istore_n [(2, .int (0 : Int32)), (0, .ref 0), (1, .int a1)] dX8_layFar_35 rfl (Nat.le_of_ble_eq_true rfl) rfl ?_
    obtain ⟨t, hL, hs⟩ := Option.bind_eq_some_iff.mp hs
    refine PW.sub [1, 0] (lv' := [(0, .ref 0), (2, .int (0 : Int32))]) rfl ?_
    refine lpS_pw (T := Int32 × Sg) (X := fun t => PW tbM RX8 cX8_layFar 7 none 1 21 (PoV oM) 36 [(0, .ref 0), (2, .int t.1)] [] t.2) (E := fun t => PW tbM RX8 cX8_layFar 7 none 1 21 (PoV oM) 158 [(0, .ref 0), (2, .int t.1)] [] t.2) (step := (fun t => fX8_layFar_L36 t.1 t.2)) ?_ 300 ((0 : Int32), sg_6) t hL ?_
    · intro t oL hs hE hC
      obtain ⟨a2_5, sg_6⟩ := t
      replace hs : fX8_layFar_L36 a2_5 sg_6 = some oL := hs
      show PW tbM RX8 cX8_layFar 7 none 1 21 (PoV oM) 36 [(0, .ref 0), (2, .int a2_5)] [] sg_6
      unfold fX8_layFar_L36 at hs
      refine pw_iload_n 1 dX8_layFar_36 rfl rfl ?_
      refine pw_bipush (16 : Int32) dX8_layFar_37 (by decide) ?_
      refine pw_icmp_ge 158 dX8_layFar_39 (by decide) (fun c_23 => ?_) (fun c_23 => ?_)
      · rw [if_pos c_23] at hs
        exact PW.sub (lv' := [(0, .ref 0), (2, .int a2_5)]) [0, 1] rfl (hE (a2_5, sg_6) (Option.some.inj hs).symm)
      · rw [if_neg c_23] at hs
        refine pw_iconst (0 : Int32) dX8_layFar_42 (by decide) ?_
        refine pw_istore_n [(3, .int (0 : Int32)), (0, .ref 0), (2, .int a2_5)] dX8_layFar_43 rfl (Nat.le_of_ble_eq_true rfl) rfl ?_
        obtain ⟨t, hL, hs⟩ := Option.bind_eq_some_iff.mp hs
        refine PW.sub [1, 2, 0] (lv' := [(0, .ref 0), (2, .int a2_5), (3, .int (0 : Int32))]) rfl ?_
        refine lpS_pw (T := Int32 × Sg) (X := fun t => PW tbM RX8 cX8_layFar 7 none 1 21 (PoV oM) 44 [(0, .ref 0), (2, .int a2_5), (3, .int t.1)] [] t.2) (E := fun t => PW tbM RX8 cX8_layFar 7 none 1 21 (PoV oM) 152 [(0, .ref 0), (2, .int a2_5), (3, .int t.1)] [] t.2) (step := (fun t => fX8_layFar_L44 a2_5 t.1 t.2)) ?_ 300 ((0 : Int32), sg_6) t hL ?_
        · intro t oL hs hE hC
          obtain ⟨a3, sg_6⟩ := t
          replace hs : fX8_layFar_L44 a2_5 a3 sg_6 = some oL := hs
          show PW tbM RX8 cX8_layFar 7 none 1 21 (PoV oM) 44 [(0, .ref 0), (2, .int a2_5), (3, .int a3)] [] sg_6
          unfold fX8_layFar_L44 at hs
          refine pw_iload_n 2 dX8_layFar_44 rfl rfl ?_
          refine pw_bipush (16 : Int32) dX8_layFar_45 (by decide) ?_
          refine pw_icmp_ge 152 dX8_layFar_47 (by decide) (fun c_20 => ?_) (fun c_20 => ?_)
          · rw [if_pos c_20] at hs
            exact PW.sub (lv' := [(0, .ref 0), (2, .int a2_5), (3, .int a3)]) [0, 1, 2] rfl (hE (a3, sg_6) (Option.some.inj hs).symm)
          · rw [if_neg c_20] at hs
            refine pw_iconst (0 : Int32) dX8_layFar_50 (by decide) ?_
            refine pw_istore [(4, .int (0 : Int32)), (0, .ref 0), (2, .int a2_5), (3, .int a3)] dX8_layFar_51 (Nat.le_of_ble_eq_true rfl) rfl ?_
            obtain ⟨t, hL, hs⟩ := Option.bind_eq_some_iff.mp hs
            refine PW.sub [1, 2, 3, 0] (lv' := [(0, .ref 0), (2, .int a2_5), (3, .int a3), (4, .int (0 : Int32))]) rfl ?_
            refine lpS_pw (T := Int32 × Sg) (X := fun t => PW tbM RX8 cX8_layFar 7 none 1 21 (PoV oM) 53 [(0, .ref 0), (2, .int a2_5), (3, .int a3), (4, .int t.1)] [] t.2) (E := fun t => PW tbM RX8 cX8_layFar 7 none 1 21 (PoV oM) 146 [(0, .ref 0), (2, .int a2_5), (3, .int a3), (4, .int t.1)] [] t.2) (step := (fun t => fX8_layFar_L53 a2_5 a3 t.1 t.2)) ?_ 300 ((0 : Int32), sg_6) t hL ?_
            · intro t oL hs hE hC
              obtain ⟨a4, sg_6⟩ := t
              replace hs : fX8_layFar_L53 a2_5 a3 a4 sg_6 = some oL := hs
              show PW tbM RX8 cX8_layFar 7 none 1 21 (PoV oM) 53 [(0, .ref 0), (2, .int a2_5), (3, .int a3), (4, .int a4)] [] sg_6
              unfold fX8_layFar_L53 at hs
              have J139 : ∀ (a4 : Int32) (s0 : Int32) (s1 : Int32) (sg_6 : Sg), fX8_layFar_L53_J139 a2_5 a3 a4 s0 s1 sg_6 = some oL → PW tbM RX8 cX8_layFar 7 none 1 21 (PoV oM) 139 [(0, .ref 0), (2, .int a2_5), (3, .int a3), (4, .int a4)] [.int s0, .int s1, .ref 15] sg_6 := by
                intro a4 s0 s1 sg_6 hs
                unfold fX8_layFar_L53_J139 at hs
                obtain ⟨h_16, hs⟩ := gd_some hs
                refine pw_iastore dX8_layFar_139 tM15 (inb_in h_16) ?_
                refine pw_sg (fun sg_17 e_sg_17 => ?_)
                replace hs := lt_use hs e_sg_17
                refine pw_iinc 3 (a4 + 1) [(4, .int (a4 + 1)), (0, .ref 0), (2, .int a2_5), (3, .int a3)] dX8_layFar_140 rfl rfl (Nat.le_of_ble_eq_true rfl) rfl ?_
                refine pw_goto 53 dX8_layFar_143 (by decide) ?_
                exact PW.sub (lv' := [(0, .ref 0), (2, .int a2_5), (3, .int a3), (4, .int (a4 + 1))]) [1, 2, 3, 0] rfl (hC ((a4 + 1), sg_17) (Option.some.inj hs).symm)
              have J110 : ∀ (a4 : Int32) (s0 : Int32) (sg_6 : Sg), fX8_layFar_L53_J110 a2_5 a3 a4 s0 sg_6 = some oL → PW tbM RX8 cX8_layFar 7 none 1 21 (PoV oM) 110 [(0, .ref 0), (2, .int a2_5), (3, .int a3), (4, .int a4)] [.int s0] sg_6 := by
                intro a4 s0 sg_6 hs
                unfold fX8_layFar_L53_J110 at hs
                refine pw_istore [(6, .int s0), (0, .ref 0), (2, .int a2_5), (3, .int a3), (4, .int a4)] dX8_layFar_110 (Nat.le_of_ble_eq_true rfl) rfl ?_
                refine pw_aload_n 1 dX8_layFar_112 rfl rfl ?_
                refine pw_getr 23 dX8_layFar_113 clRX8 tM0 (Nat.le_of_ble_eq_true rfl) fRX8_52 rfl ?_
                refine pw_iload_n 3 dX8_layFar_116 rfl rfl ?_
                refine pw_iload 0 dX8_layFar_117 rfl ?_
                refine pw_aload_n 1 dX8_layFar_119 rfl rfl ?_
                refine pw_getr 23 dX8_layFar_120 clRX8 tM0 (Nat.le_of_ble_eq_true rfl) fRX8_52 rfl ?_
                refine pw_iload_n 3 dX8_layFar_123 rfl rfl ?_
                obtain ⟨h_13, hs⟩ := gd_some hs
                refine pw_iaload dX8_layFar_124 tM15 (inb_in h_13) ?_
                refine pw_icmp_ge 133 dX8_layFar_125 (by decide) (fun c_15 => ?_) (fun c_15 => ?_)
                · rw [if_pos c_15] at hs
                  refine pw_aload_n 1 dX8_layFar_133 rfl rfl ?_
                  refine pw_getr 23 dX8_layFar_134 clRX8 tM0 (Nat.le_of_ble_eq_true rfl) fRX8_52 rfl ?_
                  refine pw_iload_n 3 dX8_layFar_137 rfl rfl ?_
                  obtain ⟨h_14, hs⟩ := gd_some hs
                  refine pw_iaload dX8_layFar_138 tM15 (inb_in h_14) ?_
                  exact PW.sub (lv' := [(0, .ref 0), (2, .int a2_5), (3, .int a3), (4, .int a4)]) [1, 2, 3, 4] rfl (J139 a4 (rd sg_6 15 (Int32.toNatClampNeg a3)) a3 sg_6 hs)
                · rw [if_neg c_15] at hs
                  refine pw_iload 0 dX8_layFar_128 rfl ?_
                  refine pw_goto 139 dX8_layFar_130 (by decide) ?_
                  exact PW.sub (lv' := [(0, .ref 0), (2, .int a2_5), (3, .int a3), (4, .int a4)]) [1, 2, 3, 4] rfl (J139 a4 s0 a3 sg_6 hs)
              refine pw_iload 3 dX8_layFar_53 rfl ?_
              refine pw_bipush (8 : Int32) dX8_layFar_55 (by decide) ?_
              refine pw_icmp_ge 146 dX8_layFar_57 (by decide) (fun c_12 => ?_) (fun c_12 => ?_)
              · rw [if_pos c_12] at hs
                exact PW.sub (lv' := [(0, .ref 0), (2, .int a2_5), (3, .int a3), (4, .int a4)]) [0, 1, 2, 3] rfl (hE (a4, sg_6) (Option.some.inj hs).symm)
              · rw [if_neg c_12] at hs
                refine pw_aload_n 0 dX8_layFar_60 rfl rfl ?_
                refine pw_getr 20 dX8_layFar_61 clRX8 tM0 (Nat.le_of_ble_eq_true rfl) fRX8_46 rfl ?_
                refine pw_bipush (8 : Int32) dX8_layFar_64 (by decide) ?_
                refine pw_iload_n 2 dX8_layFar_66 rfl rfl ?_
                refine pw_bipush (8 : Int32) dX8_layFar_67 (by decide) ?_
                refine pw_irem dX8_layFar_69 (by decide) ?_
                refine pw_imul dX8_layFar_70 ?_
                refine pw_iload 3 dX8_layFar_71 rfl ?_
                refine pw_iadd dX8_layFar_73 ?_
                obtain ⟨h_7, hs⟩ := gd_some hs
                refine pw_iaload dX8_layFar_74 tM13 (inb_in h_7) ?_
                refine pw_iload_n 2 dX8_layFar_75 rfl rfl ?_
                refine pw_bipush (8 : Int32) dX8_layFar_76 (by decide) ?_
                refine pw_idiv dX8_layFar_78 (by decide) ?_
                obtain ⟨r_9, hc_8, hs⟩ := Option.bind_eq_some_iff.mp hs
                refine pw_callSi [.int (rd sg_6 13 (Int32.toNatClampNeg (((8 : Int32) * (a3 - a3 / (8 : Int32) * (8 : Int32))) + a4))), .int (a3 / (8 : Int32))] (st := []) dX8_layFar_79 mRX8_186 stX8_behind inRX8 coX8_behind hyX8_behind (by decide) (Nat.le_of_ble_eq_true rfl) (conX8_behind hc_8) ?_
                refine pw_istore [(5, .int r_9), (0, .ref 0), (2, .int a2_5), (3, .int a3), (4, .int a4)] dX8_layFar_82 (Nat.le_of_ble_eq_true rfl) rfl ?_
                refine pw_iload 0 dX8_layFar_84 rfl ?_
                refine pw_iconst (-1 : Int32) dX8_layFar_86 (by decide) ?_
                refine pw_icmp_ne 95 dX8_layFar_87 (by decide) (fun c_11 => ?_) (fun c_11 => ?_)
                · rw [if_neg c_11] at hs
                  refine pw_aload_n 1 dX8_layFar_95 rfl rfl ?_
                  refine pw_getr 23 dX8_layFar_96 clRX8 tM0 (Nat.le_of_ble_eq_true rfl) fRX8_52 rfl ?_
                  refine pw_bipush (8 : Int32) dX8_layFar_99 (by decide) ?_
                  refine pw_iload 0 dX8_layFar_101 rfl ?_
                  refine pw_imul dX8_layFar_103 ?_
                  refine pw_iload 4 dX8_layFar_104 rfl ?_
                  refine pw_iadd dX8_layFar_106 ?_
                  obtain ⟨h_10, hs⟩ := gd_some hs
                  refine pw_iaload dX8_layFar_107 tM15 (inb_in h_10) ?_
                  refine pw_iconst (1 : Int32) dX8_layFar_108 (by decide) ?_
                  refine pw_iadd dX8_layFar_109 ?_
                  exact PW.sub (lv' := [(0, .ref 0), (2, .int a2_5), (3, .int a3), (4, .int a4)]) [1, 2, 3, 4] rfl (J110 a4 ((rd sg_6 15 (Int32.toNatClampNeg (((8 : Int32) * r_9) + a4))) + (1 : Int32)) sg_6 hs)
                · rw [if_pos c_11] at hs
                  refine pw_bipush (99 : Int32) dX8_layFar_90 (by decide) ?_
                  refine pw_goto 110 dX8_layFar_92 (by decide) ?_
                  exact PW.sub (lv' := [(0, .ref 0), (2, .int a2_5), (3, .int a3), (4, .int a4)]) [1, 2, 3, 4] rfl (J110 a4 (99 : Int32) sg_6 hs)
            · skip
              obtain ⟨a4_18, sg_19⟩ := t
              replace hs : fX8_layFar_L44_E146 a2_5 a3 a4_18 sg_19 = some oL := hs
              show PW tbM RX8 cX8_layFar 7 none 1 21 (PoV oM) 146 [(0, .ref 0), (2, .int a2_5), (3, .int a3), (4, .int a4_18)] [] sg_19
              unfold fX8_layFar_L44_E146 at hs
              refine pw_iinc 2 (a3 + 1) [(3, .int (a3 + 1)), (0, .ref 0), (2, .int a2_5), (4, .int a4_18)] dX8_layFar_146 rfl rfl (Nat.le_of_ble_eq_true rfl) rfl ?_
              refine pw_goto 44 dX8_layFar_149 (by decide) ?_
              exact PW.sub (lv' := [(0, .ref 0), (2, .int a2_5), (3, .int (a3 + 1))]) [1, 2, 0] rfl (hC ((a3 + 1), sg_19) (Option.some.inj hs).symm)
        · skip
          obtain ⟨a3_21, sg_22⟩ := t
          replace hs : fX8_layFar_L36_E152 a2_5 a3_21 sg_22 = some oL := hs
          show PW tbM RX8 cX8_layFar 7 none 1 21 (PoV oM) 152 [(0, .ref 0), (2, .int a2_5), (3, .int a3_21)] [] sg_22
          unfold fX8_layFar_L36_E152 at hs
          refine pw_iinc 1 (a2_5 + 1) [(2, .int (a2_5 + 1)), (0, .ref 0), (3, .int a3_21)] dX8_layFar_152 rfl rfl (Nat.le_of_ble_eq_true rfl) rfl ?_
          refine pw_goto 36 dX8_layFar_155 (by decide) ?_
          exact PW.sub (lv' := [(0, .ref 0), (2, .int (a2_5 + 1))]) [1, 0] rfl (hC ((a2_5 + 1), sg_22) (Option.some.inj hs).symm)
    · skip
      obtain ⟨a2_24, sg_25⟩ := t
      replace hs : fX8_layFar_E158 a2_24 sg_25 = some oM := hs
      show PW tbM RX8 cX8_layFar 7 none 1 21 (PoV oM) 158 [(0, .ref 0), (2, .int a2_24)] [] sg_25
      unfold fX8_layFar_E158 at hs
      have hr := Option.some.inj hs
      exact pw_return dX8_layFar_158 rfl ⟨rfl, hr⟩
set_option maxRecDepth 100000 in
set_option maxHeartbeats 400000 in
theorem conX8_nearNow {sg : Sg} {a1 : Int32} {a2 : Int32} {a3 : Int32} {oM : Int32 × Sg} (h : fX8_nearNow a1 a2 a3 sg = some oM) : Con tbM yX8_nearNow cX8_nearNow 6 (some .int) 4 91 [.ref 0, .int a1, .int a2, .int a3] sg (PoI oM.1 oM.2) := by
  refine Con.of (by decide) (Nat.le_of_ble_eq_true rfl) ?_
  show PW tbM RX8 cX8_nearNow 6 (some .int) 4 91 (PoI oM.1 oM.2) 0 [(0, .ref 0), (1, .int a1), (2, .int a2), (3, .int a3)] [] sg
  have hs := h
  unfold fX8_nearNow at hs
  have J29 : ∀ (s0 : Int32) (sg : Sg), fX8_nearNow_J29 s0 sg = some oM → PW tbM RX8 cX8_nearNow 6 (some .int) 4 91 (PoI oM.1 oM.2) 29 [] [.int s0] sg := by
    intro s0 sg hs
    unfold fX8_nearNow_J29 at hs
    have hr := Option.some.inj hs
    exact pw_ireturn dX8_nearNow_29 rfl ⟨by rw [← hr], by rw [← hr]⟩
  have J28 : ∀ (sg : Sg), fX8_nearNow_J28 sg = some oM → PW tbM RX8 cX8_nearNow 6 (some .int) 4 91 (PoI oM.1 oM.2) 28 [] [] sg := by
    intro sg hs
    unfold fX8_nearNow_J28 at hs
    refine pw_iconst (-1 : Int32) dX8_nearNow_28 (by decide) ?_
    exact PW.sub (lv' := []) [] rfl (J29 (-1 : Int32) sg hs)
  refine pw_aload_n 0 dX8_nearNow_0 rfl rfl ?_
  obtain ⟨sg_2, hc_1, hs⟩ := Option.bind_eq_some_iff.mp hs
  refine pw_callVv [] (st := []) dX8_nearNow_1 tM0 rfl mRX8_149 imX8_lay seX8_lay inRX8 coX8_lay hyX8_lay (by decide) (Nat.le_of_ble_eq_true rfl) (conX8_lay hc_1) ?_
  refine pw_iload_n 1 dX8_nearNow_4 rfl rfl ?_
  refine pw_iload_n 2 dX8_nearNow_5 rfl rfl ?_
  refine pw_icmp_ne 30 dX8_nearNow_6 (by decide) (fun c_22 => ?_) (fun c_22 => ?_)
  · rw [if_neg c_22] at hs
    refine pw_aload_n 0 dX8_nearNow_30 rfl rfl ?_
    refine pw_iload_n 2 dX8_nearNow_31 rfl rfl ?_
    obtain ⟨sg_4, hc_3, hs⟩ := Option.bind_eq_some_iff.mp hs
    refine pw_callVv [.int a2] (st := []) dX8_nearNow_32 tM0 rfl mRX8_189 imX8_layFar seX8_layFar inRX8 coX8_layFar hyX8_layFar (by decide) (Nat.le_of_ble_eq_true rfl) (conX8_layFar hc_3) ?_
    refine pw_aload_n 0 dX8_nearNow_35 rfl rfl ?_
    refine pw_getr 23 dX8_nearNow_36 clRX8 tM0 (Nat.le_of_ble_eq_true rfl) fRX8_52 rfl ?_
    refine pw_iload_n 1 dX8_nearNow_39 rfl rfl ?_
    obtain ⟨h_5, hs⟩ := gd_some hs
    refine pw_iaload dX8_nearNow_40 tM15 (inb_in h_5) ?_
    refine pw_bipush (99 : Int32) dX8_nearNow_41 (by decide) ?_
    refine pw_icmp_lt 48 dX8_nearNow_43 (by decide) (fun c_17 => ?_) (fun c_17 => ?_)
    · rw [if_pos c_17] at hs
      refine pw_iconst (0 : Int32) dX8_nearNow_48 (by decide) ?_
      refine pw_istore [(4, .int (0 : Int32)), (0, .ref 0), (1, .int a1), (2, .int a2), (3, .int a3)] dX8_nearNow_49 (Nat.le_of_ble_eq_true rfl) rfl ?_
      obtain ⟨u, hL, hs⟩ := Option.bind_eq_some_iff.mp hs
      refine PW.sub [1, 2, 4, 0] (lv' := [(0, .ref 0), (1, .int a1), (3, .int a3), (4, .int (0 : Int32))]) rfl ?_
      refine lpO_pw (T := Int32) (X := fun t => PW tbM RX8 cX8_nearNow 6 (some .int) 4 91 (PoI oM.1 oM.2) 51 [(0, .ref 0), (1, .int a1), (3, .int a3), (4, .int t)] [] sg_4) (E := fun t => PW tbM RX8 cX8_nearNow 6 (some .int) 4 91 (PoI oM.1 oM.2) 120 [(0, .ref 0), (1, .int a1), (3, .int a3), (4, .int t)] [] sg_4) (PR := fun r => r = oM) (step := (fun t => fX8_nearNow_L51 a1 a3 sg_4 t)) ?_ 300 (0 : Int32) u hL ?_ ?_
      · intro t oL hs hE hR hC
        obtain ⟨a4, rfl⟩ : ∃ z, z = t := ⟨t, rfl⟩
        replace hs : fX8_nearNow_L51 a1 a3 sg_4 a4 = some oL := hs
        show PW tbM RX8 cX8_nearNow 6 (some .int) 4 91 (PoI oM.1 oM.2) 51 [(0, .ref 0), (1, .int a1), (3, .int a3), (4, .int a4)] [] sg_4
        unfold fX8_nearNow_L51 at hs
        have J114 : ∀ (a4 : Int32), fX8_nearNow_L51_J114 a1 a3 a4 sg_4 = some oL → PW tbM RX8 cX8_nearNow 6 (some .int) 4 91 (PoI oM.1 oM.2) 114 [(0, .ref 0), (1, .int a1), (3, .int a3), (4, .int a4)] [] sg_4 := by
          intro a4 hs
          unfold fX8_nearNow_L51_J114 at hs
          refine pw_iinc 3 (a4 + 1) [(4, .int (a4 + 1)), (0, .ref 0), (1, .int a1), (3, .int a3)] dX8_nearNow_114 rfl rfl (Nat.le_of_ble_eq_true rfl) rfl ?_
          refine pw_goto 51 dX8_nearNow_117 (by decide) ?_
          exact PW.sub (lv' := [(0, .ref 0), (1, .int a1), (3, .int a3), (4, .int (a4 + 1))]) [1, 2, 3, 0] rfl (hC (a4 + 1) (Option.some.inj hs).symm)
        refine pw_iload 3 dX8_nearNow_51 rfl ?_
        refine pw_bipush (8 : Int32) dX8_nearNow_53 (by decide) ?_
        refine pw_icmp_ge 120 dX8_nearNow_55 (by decide) (fun c_14 => ?_) (fun c_14 => ?_)
        · rw [if_pos c_14] at hs
          exact PW.sub (lv' := [(0, .ref 0), (1, .int a1), (3, .int a3), (4, .int a4)]) [0, 1, 2, 3] rfl (hE a4 (Option.some.inj hs).symm)
        · rw [if_neg c_14] at hs
          refine pw_iload_n 2 dX8_nearNow_58 rfl rfl ?_
          refine pw_iconst (1 : Int32) dX8_nearNow_59 (by decide) ?_
          refine pw_icmp_ne 120 dX8_nearNow_60 (by decide) (fun c_13 => ?_) (fun c_13 => ?_)
          · rw [if_neg c_13] at hs
            exact PW.sub (lv' := [(0, .ref 0), (1, .int a1), (3, .int a3), (4, .int a4)]) [0, 1, 2, 3] rfl (hE a4 (Option.some.inj hs).symm)
          · rw [if_pos c_13] at hs
            refine pw_aload_n 0 dX8_nearNow_63 rfl rfl ?_
            refine pw_getr 20 dX8_nearNow_64 clRX8 tM0 (Nat.le_of_ble_eq_true rfl) fRX8_46 rfl ?_
            refine pw_bipush (8 : Int32) dX8_nearNow_67 (by decide) ?_
            refine pw_iload_n 1 dX8_nearNow_69 rfl rfl ?_
            refine pw_imul dX8_nearNow_70 ?_
            refine pw_iload 3 dX8_nearNow_71 rfl ?_
            refine pw_iadd dX8_nearNow_73 ?_
            obtain ⟨h_6, hs⟩ := gd_some hs
            refine pw_iaload dX8_nearNow_74 tM13 (inb_in h_6) ?_
            refine pw_iconst (0 : Int32) dX8_nearNow_75 (by decide) ?_
            obtain ⟨r_8, hc_7, hs⟩ := Option.bind_eq_some_iff.mp hs
            refine pw_callSi [.int (rd sg_4 13 (Int32.toNatClampNeg (((8 : Int32) * a1) + a4))), .int (0 : Int32)] (st := []) dX8_nearNow_76 mRX8_186 stX8_behind inRX8 coX8_behind hyX8_behind (by decide) (Nat.le_of_ble_eq_true rfl) (conX8_behind hc_7) ?_
            refine pw_istore [(5, .int r_8), (0, .ref 0), (1, .int a1), (3, .int a3), (4, .int a4)] dX8_nearNow_79 (Nat.le_of_ble_eq_true rfl) rfl ?_
            refine pw_iload 0 dX8_nearNow_81 rfl ?_
            refine pw_iconst (-1 : Int32) dX8_nearNow_83 (by decide) ?_
            refine pw_icmp_eq 114 dX8_nearNow_84 (by decide) (fun c_12 => ?_) (fun c_12 => ?_)
            · rw [if_pos c_12] at hs
              exact PW.sub (lv' := [(0, .ref 0), (1, .int a1), (3, .int a3), (4, .int a4)]) [1, 2, 3, 4] rfl (J114 a4 hs)
            · rw [if_neg c_12] at hs
              refine pw_aload_n 1 dX8_nearNow_87 rfl rfl ?_
              refine pw_getr 23 dX8_nearNow_88 clRX8 tM0 (Nat.le_of_ble_eq_true rfl) fRX8_52 rfl ?_
              refine pw_bipush (8 : Int32) dX8_nearNow_91 (by decide) ?_
              refine pw_iload 0 dX8_nearNow_93 rfl ?_
              refine pw_imul dX8_nearNow_95 ?_
              refine pw_iload 4 dX8_nearNow_96 rfl ?_
              refine pw_iadd dX8_nearNow_98 ?_
              obtain ⟨h_9, hs⟩ := gd_some hs
              refine pw_iaload dX8_nearNow_99 tM15 (inb_in h_9) ?_
              refine pw_iconst (1 : Int32) dX8_nearNow_100 (by decide) ?_
              refine pw_iadd dX8_nearNow_101 ?_
              refine pw_aload_n 1 dX8_nearNow_102 rfl rfl ?_
              refine pw_getr 23 dX8_nearNow_103 clRX8 tM0 (Nat.le_of_ble_eq_true rfl) fRX8_52 rfl ?_
              refine pw_iload_n 2 dX8_nearNow_106 rfl rfl ?_
              obtain ⟨h_10, hs⟩ := gd_some hs
              refine pw_iaload dX8_nearNow_107 tM15 (inb_in h_10) ?_
              refine pw_icmp_ne 114 dX8_nearNow_108 (by decide) (fun c_11 => ?_) (fun c_11 => ?_)
              · rw [if_neg c_11] at hs
                exact PW.sub (lv' := [(0, .ref 0), (1, .int a1), (3, .int a3), (4, .int a4)]) [1, 2, 3, 4] rfl (J114 a4 hs)
              · rw [if_pos c_11] at hs
                refine pw_iload 4 dX8_nearNow_111 rfl ?_
                have hr := hR _ (Option.some.inj hs).symm
                exact pw_ireturn dX8_nearNow_113 rfl ⟨by rw [← hr], by rw [← hr]⟩
      · intro t hu
        subst hu
        obtain ⟨a4_15, rfl⟩ : ∃ z, z = t := ⟨t, rfl⟩
        replace hs : fX8_nearNow_E120 a1 a3 a4_15 sg_4 = some oM := hs
        show PW tbM RX8 cX8_nearNow 6 (some .int) 4 91 (PoI oM.1 oM.2) 120 [(0, .ref 0), (1, .int a1), (3, .int a3), (4, .int a4_15)] [] sg_4
        unfold fX8_nearNow_E120 at hs
        refine pw_aload_n 0 dX8_nearNow_120 rfl rfl ?_
        refine pw_getr 23 dX8_nearNow_121 clRX8 tM0 (Nat.le_of_ble_eq_true rfl) fRX8_52 rfl ?_
        refine pw_iload_n 1 dX8_nearNow_124 rfl rfl ?_
        obtain ⟨h_16, hs⟩ := gd_some hs
        refine pw_iaload dX8_nearNow_125 tM15 (inb_in h_16) ?_
        have hr := Option.some.inj hs
        exact pw_ireturn dX8_nearNow_126 rfl ⟨by rw [← hr], by rw [← hr]⟩
      · intro r hu
        subst hu
        exact Option.some.inj hs
    · rw [if_neg c_17] at hs
      refine pw_iconst (-1 : Int32) dX8_nearNow_46 (by decide) ?_
      have hr := Option.some.inj hs
      exact pw_ireturn dX8_nearNow_47 rfl ⟨by rw [← hr], by rw [← hr]⟩
  · rw [if_pos c_22] at hs
    refine pw_iload_n 3 dX8_nearNow_9 rfl rfl ?_
    refine pw_if_ne 28 dX8_nearNow_10 (by decide) (fun c_21 => ?_) (fun c_21 => ?_)
    · rw [if_neg c_21] at hs
      exact PW.sub (lv' := []) [] rfl (J28 sg_2 hs)
    · rw [if_pos c_21] at hs
      refine pw_aload_n 0 dX8_nearNow_13 rfl rfl ?_
      refine pw_geti 13 dX8_nearNow_14 clRX8 tM0 (Nat.le_of_ble_eq_true rfl) fRX8_99 rfl ?_
      refine pw_iload_n 1 dX8_nearNow_17 rfl rfl ?_
      obtain ⟨r_19, hc_18, hs⟩ := Option.bind_eq_some_iff.mp hs
      refine pw_callSi [.int (rd sg_2 0 13), .int a1] (st := []) dX8_nearNow_18 mRX8_102 stX8_has inRX8 coX8_has hyX8_has (by decide) (Nat.le_of_ble_eq_true rfl) (conX8_has hc_18) ?_
      refine pw_if_eq 28 dX8_nearNow_21 (by decide) (fun c_20 => ?_) (fun c_20 => ?_)
      · rw [if_pos c_20] at hs
        exact PW.sub (lv' := []) [] rfl (J28 sg_2 hs)
      · rw [if_neg c_20] at hs
        refine pw_iconst (0 : Int32) dX8_nearNow_24 (by decide) ?_
        refine pw_goto 29 dX8_nearNow_25 (by decide) ?_
        exact PW.sub (lv' := []) [] rfl (J29 (0 : Int32) sg_2 hs)
set_option maxRecDepth 100000 in
set_option maxHeartbeats 400000 in
theorem conX8_near {sg : Sg} {a1 : Int32} {a2 : Int32} {a3 : Int32} {oM : Int32 × Sg} (h : fX8_near a1 a2 a3 sg = some oM) : Con tbM yX8_near cX8_near 4 (some .int) 5 116 [.ref 0, .int a1, .int a2, .int a3] sg (PoI oM.1 oM.2) := by
  refine Con.of (by decide) (Nat.le_of_ble_eq_true rfl) ?_
  show PW tbM RX8 cX8_near 4 (some .int) 5 116 (PoI oM.1 oM.2) 0 [(0, .ref 0), (1, .int a1), (2, .int a2), (3, .int a3)] [] sg
  have hs := h
  unfold fX8_near at hs
  have J40 : ∀ (s0 : Int32) (sg : Sg), fX8_near_J40 s0 sg = some oM → PW tbM RX8 cX8_near 4 (some .int) 5 116 (PoI oM.1 oM.2) 40 [] [.int s0] sg := by
    intro s0 sg hs
    unfold fX8_near_J40 at hs
    have hr := Option.some.inj hs
    exact pw_ireturn dX8_near_40 rfl ⟨by rw [← hr], by rw [← hr]⟩
  have J14 : ∀ (sg : Sg), fX8_near_J14 sg = some oM → PW tbM RX8 cX8_near 4 (some .int) 5 116 (PoI oM.1 oM.2) 14 [] [] sg := by
    intro sg hs
    unfold fX8_near_J14 at hs
    refine pw_sipush (-1001 : Int32) dX8_near_14 (by decide) ?_
    have hr := Option.some.inj hs
    exact pw_ireturn dX8_near_17 rfl ⟨by rw [← hr], by rw [← hr]⟩
  refine pw_iload_n 1 dX8_near_0 rfl rfl ?_
  obtain ⟨r_2, hc_1, hs⟩ := Option.bind_eq_some_iff.mp hs
  refine pw_callSi [.int a1] (st := []) dX8_near_1 mRX8_85 stX8_isNet inRX8 coX8_isNet hyX8_isNet (by decide) (Nat.le_of_ble_eq_true rfl) (conX8_isNet hc_1) ?_
  refine pw_if_eq 14 dX8_near_4 (by decide) (fun c_13 => ?_) (fun c_13 => ?_)
  · rw [if_pos c_13] at hs
    exact PW.sub (lv' := []) [] rfl (J14 sg hs)
  · rw [if_neg c_13] at hs
    refine pw_iload_n 2 dX8_near_7 rfl rfl ?_
    obtain ⟨r_4, hc_3, hs⟩ := Option.bind_eq_some_iff.mp hs
    refine pw_callSi [.int a2] (st := []) dX8_near_8 mRX8_85 stX8_isNet inRX8 coX8_isNet hyX8_isNet (by decide) (Nat.le_of_ble_eq_true rfl) (conX8_isNet hc_3) ?_
    refine pw_if_ne 18 dX8_near_11 (by decide) (fun c_12 => ?_) (fun c_12 => ?_)
    · rw [if_neg c_12] at hs
      refine pw_iload_n 3 dX8_near_18 rfl rfl ?_
      refine pw_iconst (0 : Int32) dX8_near_19 (by decide) ?_
      refine pw_iconst (1 : Int32) dX8_near_20 (by decide) ?_
      obtain ⟨r_6, hc_5, hs⟩ := Option.bind_eq_some_iff.mp hs
      refine pw_callSi [.int a3, .int (0 : Int32), .int (1 : Int32)] (st := []) dX8_near_21 mRX8_55 stX8_within inRX8 coX8_within hyX8_within (by decide) (Nat.le_of_ble_eq_true rfl) (conX8_within hc_5) ?_
      refine pw_if_eq 37 dX8_near_24 (by decide) (fun c_11 => ?_) (fun c_11 => ?_)
      · rw [if_pos c_11] at hs
        refine pw_sipush (-1002 : Int32) dX8_near_37 (by decide) ?_
        exact PW.sub (lv' := []) [] rfl (J40 (-1002 : Int32) sg hs)
      · rw [if_neg c_11] at hs
        refine pw_aload_n 0 dX8_near_27 rfl rfl ?_
        refine pw_iload_n 1 dX8_near_28 rfl rfl ?_
        refine pw_iload_n 2 dX8_near_29 rfl rfl ?_
        refine pw_iload_n 3 dX8_near_30 rfl rfl ?_
        obtain ⟨⟨r_8, sg_9⟩, hc_7, hs⟩ := Option.bind_eq_some_iff.mp hs
        replace hs := ltP_use hs
        refine pw_callVi [.int a1, .int a2, .int a3] (st := []) dX8_near_31 tM0 rfl mRX8_193 imX8_nearNow seX8_nearNow inRX8 coX8_nearNow hyX8_nearNow (by decide) (Nat.le_of_ble_eq_true rfl) (conX8_nearNow hc_7) ?_
        refine pw_goto 40 dX8_near_34 (by decide) ?_
        exact PW.sub (lv' := []) [] rfl (J40 r_8 sg_9 hs)
    · rw [if_pos c_12] at hs
      exact PW.sub (lv' := []) [] rfl (J14 sg hs)
set_option maxRecDepth 100000 in
set_option maxHeartbeats 400000 in
theorem conX8_linksOf {sg : Sg} {a1 : Int32} {oM : Int32} (h : fX8_linksOf a1 sg = some oM) : Con tbM yX8_linksOf cX8_linksOf 7 (some .int) 1 25 [.ref 0, .int a1] sg (PoI oM sg) := by
  refine Con.of (by decide) (Nat.le_of_ble_eq_true rfl) ?_
  show PW tbM RX8 cX8_linksOf 7 (some .int) 1 25 (PoI oM sg) 0 [(0, .ref 0), (1, .int a1)] [] sg
  have hs := h
  unfold fX8_linksOf at hs
  refine pw_iconst (0 : Int32) dX8_linksOf_0 (by decide) ?_
  refine pw_istore_n [(2, .int (0 : Int32)), (0, .ref 0), (1, .int a1)] dX8_linksOf_1 rfl (Nat.le_of_ble_eq_true rfl) rfl ?_
  refine pw_iconst (0 : Int32) dX8_linksOf_2 (by decide) ?_
  refine pw_istore_n [(3, .int (0 : Int32)), (2, .int (0 : Int32)), (0, .ref 0), (1, .int a1)] dX8_linksOf_3 rfl (Nat.le_of_ble_eq_true rfl) rfl ?_
  obtain ⟨t, hL, hs⟩ := Option.bind_eq_some_iff.mp hs
  refine PW.sub [2, 3, 1, 0] (lv' := [(0, .ref 0), (1, .int a1), (2, .int (0 : Int32)), (3, .int (0 : Int32))]) rfl ?_
  refine lpS_pw (T := Int32 × Int32) (X := fun t => PW tbM RX8 cX8_linksOf 7 (some .int) 1 25 (PoI oM sg) 4 [(0, .ref 0), (1, .int a1), (2, .int t.1), (3, .int t.2)] [] sg) (E := fun t => PW tbM RX8 cX8_linksOf 7 (some .int) 1 25 (PoI oM sg) 194 [(0, .ref 0), (1, .int a1), (2, .int t.1), (3, .int t.2)] [] sg) (step := (fun t => fX8_linksOf_L4 a1 sg t.1 t.2)) ?_ 300 ((0 : Int32), (0 : Int32)) t hL ?_
  · intro t oL hs hE hC
    obtain ⟨a2, a3⟩ := t
    replace hs : fX8_linksOf_L4 a1 sg a2 a3 = some oL := hs
    show PW tbM RX8 cX8_linksOf 7 (some .int) 1 25 (PoI oM sg) 4 [(0, .ref 0), (1, .int a1), (2, .int a2), (3, .int a3)] [] sg
    unfold fX8_linksOf_L4 at hs
    have J186 : ∀ (a3 : Int32) (s0 : Int32) (s1 : Int32), fX8_linksOf_L4_J186 a1 a3 s0 s1 sg = some oL → PW tbM RX8 cX8_linksOf 7 (some .int) 1 25 (PoI oM sg) 186 [(0, .ref 0), (1, .int a1), (3, .int a3)] [.int s0, .int s1] sg := by
      intro a3 s0 s1 hs
      unfold fX8_linksOf_L4_J186 at hs
      refine pw_iadd dX8_linksOf_186 ?_
      refine pw_istore_n [(2, .int (s1 + s0)), (0, .ref 0), (1, .int a1), (3, .int a3)] dX8_linksOf_187 rfl (Nat.le_of_ble_eq_true rfl) rfl ?_
      refine pw_iinc 3 (a3 + 1) [(3, .int (a3 + 1)), (2, .int (s1 + s0)), (0, .ref 0), (1, .int a1)] dX8_linksOf_188 rfl rfl (Nat.le_of_ble_eq_true rfl) rfl ?_
      refine pw_goto 4 dX8_linksOf_191 (by decide) ?_
      exact PW.sub (lv' := [(0, .ref 0), (1, .int a1), (2, .int (s1 + s0)), (3, .int (a3 + 1))]) [2, 3, 1, 0] rfl (hC ((s1 + s0), (a3 + 1)) (Option.some.inj hs).symm)
    have J185 : ∀ (a3 : Int32) (s0 : Int32), fX8_linksOf_L4_J185 a1 a3 s0 sg = some oL → PW tbM RX8 cX8_linksOf 7 (some .int) 1 25 (PoI oM sg) 185 [(0, .ref 0), (1, .int a1), (3, .int a3)] [.int s0] sg := by
      intro a3 s0 hs
      unfold fX8_linksOf_L4_J185 at hs
      refine pw_iconst (0 : Int32) dX8_linksOf_185 (by decide) ?_
      exact PW.sub (lv' := [(0, .ref 0), (1, .int a1), (3, .int a3)]) [0, 1, 2] rfl (J186 a3 (0 : Int32) s0 hs)
    have J181 : ∀ (a3 : Int32) (s0 : Int32), fX8_linksOf_L4_J181 a1 a3 s0 sg = some oL → PW tbM RX8 cX8_linksOf 7 (some .int) 1 25 (PoI oM sg) 181 [(0, .ref 0), (1, .int a1), (3, .int a3)] [.int s0] sg := by
      intro a3 s0 hs
      unfold fX8_linksOf_L4_J181 at hs
      refine pw_iconst (1 : Int32) dX8_linksOf_181 (by decide) ?_
      refine pw_goto 186 dX8_linksOf_182 (by decide) ?_
      exact PW.sub (lv' := [(0, .ref 0), (1, .int a1), (3, .int a3)]) [0, 1, 2] rfl (J186 a3 (1 : Int32) s0 hs)
    have J163 : ∀ (a2 : Int32) (a3 : Int32) (a4 : Int32) (a5 : Int32) (s0 : Int32), fX8_linksOf_L4_J163 a1 a2 a3 a4 a5 s0 sg = some oL → PW tbM RX8 cX8_linksOf 7 (some .int) 1 25 (PoI oM sg) 163 [(0, .ref 0), (1, .int a1), (2, .int a2), (3, .int a3), (4, .int a4), (5, .int a5)] [.int s0] sg := by
      intro a2 a3 a4 a5 s0 hs
      unfold fX8_linksOf_L4_J163 at hs
      refine pw_istore [(6, .int s0), (0, .ref 0), (1, .int a1), (2, .int a2), (3, .int a3), (4, .int a4), (5, .int a5)] dX8_linksOf_163 (Nat.le_of_ble_eq_true rfl) rfl ?_
      refine pw_iload_n 3 dX8_linksOf_165 rfl rfl ?_
      refine pw_iload 5 dX8_linksOf_166 rfl ?_
      refine pw_if_eq 185 dX8_linksOf_168 (by decide) (fun c_31 => ?_) (fun c_31 => ?_)
      · rw [if_pos c_31] at hs
        exact PW.sub (lv' := [(0, .ref 0), (1, .int a1), (3, .int a3)]) [1, 2, 4] rfl (J185 a3 a2 hs)
      · rw [if_neg c_31] at hs
        refine pw_iload 6 dX8_linksOf_171 rfl ?_
        refine pw_if_ne 181 dX8_linksOf_173 (by decide) (fun c_30 => ?_) (fun c_30 => ?_)
        · rw [if_neg c_30] at hs
          exact PW.sub (lv' := [(0, .ref 0), (1, .int a1), (3, .int a3)]) [1, 2, 4] rfl (J181 a3 a2 hs)
        · rw [if_pos c_30] at hs
          refine pw_iload 0 dX8_linksOf_176 rfl ?_
          refine pw_if_eq 185 dX8_linksOf_178 (by decide) (fun c_29 => ?_) (fun c_29 => ?_)
          · rw [if_pos c_29] at hs
            exact PW.sub (lv' := [(0, .ref 0), (1, .int a1), (3, .int a3)]) [1, 2, 4] rfl (J185 a3 a2 hs)
          · rw [if_neg c_29] at hs
            exact PW.sub (lv' := [(0, .ref 0), (1, .int a1), (3, .int a3)]) [1, 2, 4] rfl (J181 a3 a2 hs)
    have J162 : ∀ (a2 : Int32) (a3 : Int32) (a4 : Int32) (a5 : Int32), fX8_linksOf_L4_J162 a1 a2 a3 a4 a5 sg = some oL → PW tbM RX8 cX8_linksOf 7 (some .int) 1 25 (PoI oM sg) 162 [(0, .ref 0), (1, .int a1), (2, .int a2), (3, .int a3), (4, .int a4), (5, .int a5)] [] sg := by
      intro a2 a3 a4 a5 hs
      unfold fX8_linksOf_L4_J162 at hs
      refine pw_iconst (0 : Int32) dX8_linksOf_162 (by decide) ?_
      exact PW.sub (lv' := [(0, .ref 0), (1, .int a1), (2, .int a2), (3, .int a3), (4, .int a4), (5, .int a5)]) [0, 1, 2, 3, 4, 5] rfl (J163 a2 a3 a4 a5 (0 : Int32) hs)
    have J158 : ∀ (a2 : Int32) (a3 : Int32) (a4 : Int32) (a5 : Int32), fX8_linksOf_L4_J158 a1 a2 a3 a4 a5 sg = some oL → PW tbM RX8 cX8_linksOf 7 (some .int) 1 25 (PoI oM sg) 158 [(0, .ref 0), (1, .int a1), (2, .int a2), (3, .int a3), (4, .int a4), (5, .int a5)] [] sg := by
      intro a2 a3 a4 a5 hs
      unfold fX8_linksOf_L4_J158 at hs
      refine pw_iconst (1 : Int32) dX8_linksOf_158 (by decide) ?_
      refine pw_goto 163 dX8_linksOf_159 (by decide) ?_
      exact PW.sub (lv' := [(0, .ref 0), (1, .int a1), (2, .int a2), (3, .int a3), (4, .int a4), (5, .int a5)]) [0, 1, 2, 3, 4, 5] rfl (J163 a2 a3 a4 a5 (1 : Int32) hs)
    have J128 : ∀ (a2 : Int32) (a3 : Int32) (a4 : Int32) (a5 : Int32), fX8_linksOf_L4_J128 a1 a2 a3 a4 a5 sg = some oL → PW tbM RX8 cX8_linksOf 7 (some .int) 1 25 (PoI oM sg) 128 [(0, .ref 0), (1, .int a1), (2, .int a2), (3, .int a3), (4, .int a4), (5, .int a5)] [] sg := by
      intro a2 a3 a4 a5 hs
      unfold fX8_linksOf_L4_J128 at hs
      refine pw_iload_n 1 dX8_linksOf_128 rfl rfl ?_
      refine pw_bipush (8 : Int32) dX8_linksOf_129 (by decide) ?_
      refine pw_icmp_ne 162 dX8_linksOf_131 (by decide) (fun c_28 => ?_) (fun c_28 => ?_)
      · rw [if_neg c_28] at hs
        exact PW.sub (lv' := [(0, .ref 0), (1, .int a1), (2, .int a2), (3, .int a3), (4, .int a4), (5, .int a5)]) [0, 1, 2, 3, 4, 5] rfl (J162 a2 a3 a4 a5 hs)
      · rw [if_pos c_28] at hs
        refine pw_aload_n 0 dX8_linksOf_134 rfl rfl ?_
        refine pw_getr 6 dX8_linksOf_135 clRX8 tM0 (Nat.le_of_ble_eq_true rfl) fRX8_19 rfl ?_
        refine pw_iload_n 3 dX8_linksOf_138 rfl rfl ?_
        obtain ⟨h_23, hs⟩ := gd_some hs
        refine pw_iaload dX8_linksOf_139 tM4 (inb_in h_23) ?_
        refine pw_if_le 162 dX8_linksOf_140 (by decide) (fun c_27 => ?_) (fun c_27 => ?_)
        · rw [if_pos c_27] at hs
          exact PW.sub (lv' := [(0, .ref 0), (1, .int a1), (2, .int a2), (3, .int a3), (4, .int a4), (5, .int a5)]) [0, 1, 2, 3, 4, 5] rfl (J162 a2 a3 a4 a5 hs)
        · rw [if_neg c_27] at hs
          refine pw_aload_n 0 dX8_linksOf_143 rfl rfl ?_
          refine pw_getr 6 dX8_linksOf_144 clRX8 tM0 (Nat.le_of_ble_eq_true rfl) fRX8_19 rfl ?_
          refine pw_iload_n 3 dX8_linksOf_147 rfl rfl ?_
          obtain ⟨h_24, hs⟩ := gd_some hs
          refine pw_iaload dX8_linksOf_148 tM4 (inb_in h_24) ?_
          refine pw_aload_n 0 dX8_linksOf_149 rfl rfl ?_
          refine pw_getr 20 dX8_linksOf_150 clRX8 tM0 (Nat.le_of_ble_eq_true rfl) fRX8_46 rfl ?_
          refine pw_iload_n 3 dX8_linksOf_153 rfl rfl ?_
          obtain ⟨h_25, hs⟩ := gd_some hs
          refine pw_iaload dX8_linksOf_154 tM13 (inb_in h_25) ?_
          refine pw_icmp_eq 162 dX8_linksOf_155 (by decide) (fun c_26 => ?_) (fun c_26 => ?_)
          · rw [if_pos c_26] at hs
            exact PW.sub (lv' := [(0, .ref 0), (1, .int a1), (2, .int a2), (3, .int a3), (4, .int a4), (5, .int a5)]) [0, 1, 2, 3, 4, 5] rfl (J162 a2 a3 a4 a5 hs)
          · rw [if_neg c_26] at hs
            exact PW.sub (lv' := [(0, .ref 0), (1, .int a1), (2, .int a2), (3, .int a3), (4, .int a4), (5, .int a5)]) [0, 1, 2, 3, 4, 5] rfl (J158 a2 a3 a4 a5 hs)
    have J105 : ∀ (a2 : Int32) (a3 : Int32) (a4 : Int32) (s0 : Int32), fX8_linksOf_L4_J105 a1 a2 a3 a4 s0 sg = some oL → PW tbM RX8 cX8_linksOf 7 (some .int) 1 25 (PoI oM sg) 105 [(0, .ref 0), (1, .int a1), (2, .int a2), (3, .int a3), (4, .int a4)] [.int s0] sg := by
      intro a2 a3 a4 s0 hs
      unfold fX8_linksOf_L4_J105 at hs
      refine pw_istore [(5, .int s0), (0, .ref 0), (1, .int a1), (2, .int a2), (3, .int a3), (4, .int a4)] dX8_linksOf_105 (Nat.le_of_ble_eq_true rfl) rfl ?_
      refine pw_iload_n 2 dX8_linksOf_107 rfl rfl ?_
      refine pw_bipush (7 : Int32) dX8_linksOf_108 (by decide) ?_
      refine pw_icmp_ne 128 dX8_linksOf_110 (by decide) (fun c_22 => ?_) (fun c_22 => ?_)
      · rw [if_neg c_22] at hs
        exact PW.sub (lv' := [(0, .ref 0), (1, .int a1), (2, .int a2), (3, .int a3), (4, .int a4), (5, .int s0)]) [1, 2, 3, 4, 5, 0] rfl (J128 a2 a3 a4 s0 hs)
      · rw [if_pos c_22] at hs
        refine pw_aload_n 1 dX8_linksOf_113 rfl rfl ?_
        refine pw_getr 6 dX8_linksOf_114 clRX8 tM0 (Nat.le_of_ble_eq_true rfl) fRX8_19 rfl ?_
        refine pw_iload_n 4 dX8_linksOf_117 rfl rfl ?_
        obtain ⟨h_19, hs⟩ := gd_some hs
        refine pw_iaload dX8_linksOf_118 tM4 (inb_in h_19) ?_
        refine pw_aload_n 1 dX8_linksOf_119 rfl rfl ?_
        refine pw_getr 20 dX8_linksOf_120 clRX8 tM0 (Nat.le_of_ble_eq_true rfl) fRX8_46 rfl ?_
        refine pw_iload_n 4 dX8_linksOf_123 rfl rfl ?_
        obtain ⟨h_20, hs⟩ := gd_some hs
        refine pw_iaload dX8_linksOf_124 tM13 (inb_in h_20) ?_
        refine pw_icmp_eq 158 dX8_linksOf_125 (by decide) (fun c_21 => ?_) (fun c_21 => ?_)
        · rw [if_pos c_21] at hs
          exact PW.sub (lv' := [(0, .ref 0), (1, .int a1), (2, .int a2), (3, .int a3), (4, .int a4), (5, .int s0)]) [1, 2, 3, 4, 5, 0] rfl (J158 a2 a3 a4 s0 hs)
        · rw [if_neg c_21] at hs
          exact PW.sub (lv' := [(0, .ref 0), (1, .int a1), (2, .int a2), (3, .int a3), (4, .int a4), (5, .int s0)]) [1, 2, 3, 4, 5, 0] rfl (J128 a2 a3 a4 s0 hs)
    have J104 : ∀ (a2 : Int32) (a3 : Int32) (a4 : Int32), fX8_linksOf_L4_J104 a1 a2 a3 a4 sg = some oL → PW tbM RX8 cX8_linksOf 7 (some .int) 1 25 (PoI oM sg) 104 [(0, .ref 0), (1, .int a1), (2, .int a2), (3, .int a3), (4, .int a4)] [] sg := by
      intro a2 a3 a4 hs
      unfold fX8_linksOf_L4_J104 at hs
      refine pw_iconst (0 : Int32) dX8_linksOf_104 (by decide) ?_
      exact PW.sub (lv' := [(0, .ref 0), (1, .int a1), (2, .int a2), (3, .int a3), (4, .int a4)]) [0, 1, 2, 3, 4] rfl (J105 a2 a3 a4 (0 : Int32) hs)
    have J100 : ∀ (a2 : Int32) (a3 : Int32) (a4 : Int32), fX8_linksOf_L4_J100 a1 a2 a3 a4 sg = some oL → PW tbM RX8 cX8_linksOf 7 (some .int) 1 25 (PoI oM sg) 100 [(0, .ref 0), (1, .int a1), (2, .int a2), (3, .int a3), (4, .int a4)] [] sg := by
      intro a2 a3 a4 hs
      unfold fX8_linksOf_L4_J100 at hs
      refine pw_iconst (1 : Int32) dX8_linksOf_100 (by decide) ?_
      refine pw_goto 105 dX8_linksOf_101 (by decide) ?_
      exact PW.sub (lv' := [(0, .ref 0), (1, .int a1), (2, .int a2), (3, .int a3), (4, .int a4)]) [0, 1, 2, 3, 4] rfl (J105 a2 a3 a4 (1 : Int32) hs)
    have J87 : ∀ (a2 : Int32) (a3 : Int32) (a4 : Int32), fX8_linksOf_L4_J87 a1 a2 a3 a4 sg = some oL → PW tbM RX8 cX8_linksOf 7 (some .int) 1 25 (PoI oM sg) 87 [(0, .ref 0), (1, .int a1), (2, .int a2), (3, .int a3), (4, .int a4)] [] sg := by
      intro a2 a3 a4 hs
      unfold fX8_linksOf_L4_J87 at hs
      refine pw_iload_n 1 dX8_linksOf_87 rfl rfl ?_
      refine pw_iconst (5 : Int32) dX8_linksOf_88 (by decide) ?_
      refine pw_icmp_ne 104 dX8_linksOf_89 (by decide) (fun c_18 => ?_) (fun c_18 => ?_)
      · rw [if_neg c_18] at hs
        exact PW.sub (lv' := [(0, .ref 0), (1, .int a1), (2, .int a2), (3, .int a3), (4, .int a4)]) [0, 1, 2, 3, 4] rfl (J104 a2 a3 a4 hs)
      · rw [if_pos c_18] at hs
        refine pw_aload_n 0 dX8_linksOf_92 rfl rfl ?_
        refine pw_iload_n 3 dX8_linksOf_93 rfl rfl ?_
        obtain ⟨r_16, hc_15, hs⟩ := Option.bind_eq_some_iff.mp hs
        refine pw_callVi [.int a3] (st := []) dX8_linksOf_94 tM0 rfl mRX8_168 imX8_lesserOf seX8_lesserOf inRX8 coX8_lesserOf hyX8_lesserOf (by decide) (Nat.le_of_ble_eq_true rfl) (conX8_lesserOf hc_15) ?_
        refine pw_if_le 104 dX8_linksOf_97 (by decide) (fun c_17 => ?_) (fun c_17 => ?_)
        · rw [if_pos c_17] at hs
          exact PW.sub (lv' := [(0, .ref 0), (1, .int a1), (2, .int a2), (3, .int a3), (4, .int a4)]) [0, 1, 2, 3, 4] rfl (J104 a2 a3 a4 hs)
        · rw [if_neg c_17] at hs
          exact PW.sub (lv' := [(0, .ref 0), (1, .int a1), (2, .int a2), (3, .int a3), (4, .int a4)]) [0, 1, 2, 3, 4] rfl (J100 a2 a3 a4 hs)
    have J72 : ∀ (a2 : Int32) (a3 : Int32) (a4 : Int32), fX8_linksOf_L4_J72 a1 a2 a3 a4 sg = some oL → PW tbM RX8 cX8_linksOf 7 (some .int) 1 25 (PoI oM sg) 72 [(0, .ref 0), (1, .int a1), (2, .int a2), (3, .int a3), (4, .int a4)] [] sg := by
      intro a2 a3 a4 hs
      unfold fX8_linksOf_L4_J72 at hs
      refine pw_iload_n 1 dX8_linksOf_72 rfl rfl ?_
      refine pw_iconst (4 : Int32) dX8_linksOf_73 (by decide) ?_
      refine pw_icmp_ne 87 dX8_linksOf_74 (by decide) (fun c_14 => ?_) (fun c_14 => ?_)
      · rw [if_neg c_14] at hs
        exact PW.sub (lv' := [(0, .ref 0), (1, .int a1), (2, .int a2), (3, .int a3), (4, .int a4)]) [0, 1, 2, 3, 4] rfl (J87 a2 a3 a4 hs)
      · rw [if_pos c_14] at hs
        refine pw_aload_n 0 dX8_linksOf_77 rfl rfl ?_
        refine pw_getr 20 dX8_linksOf_78 clRX8 tM0 (Nat.le_of_ble_eq_true rfl) fRX8_46 rfl ?_
        refine pw_iload_n 3 dX8_linksOf_81 rfl rfl ?_
        obtain ⟨h_12, hs⟩ := gd_some hs
        refine pw_iaload dX8_linksOf_82 tM13 (inb_in h_12) ?_
        refine pw_iconst (4 : Int32) dX8_linksOf_83 (by decide) ?_
        refine pw_icmp_eq 100 dX8_linksOf_84 (by decide) (fun c_13 => ?_) (fun c_13 => ?_)
        · rw [if_pos c_13] at hs
          exact PW.sub (lv' := [(0, .ref 0), (1, .int a1), (2, .int a2), (3, .int a3), (4, .int a4)]) [0, 1, 2, 3, 4] rfl (J100 a2 a3 a4 hs)
        · rw [if_neg c_13] at hs
          exact PW.sub (lv' := [(0, .ref 0), (1, .int a1), (2, .int a2), (3, .int a3), (4, .int a4)]) [0, 1, 2, 3, 4] rfl (J87 a2 a3 a4 hs)
    have J57 : ∀ (a2 : Int32) (a3 : Int32) (a4 : Int32), fX8_linksOf_L4_J57 a1 a2 a3 a4 sg = some oL → PW tbM RX8 cX8_linksOf 7 (some .int) 1 25 (PoI oM sg) 57 [(0, .ref 0), (1, .int a1), (2, .int a2), (3, .int a3), (4, .int a4)] [] sg := by
      intro a2 a3 a4 hs
      unfold fX8_linksOf_L4_J57 at hs
      refine pw_iload_n 1 dX8_linksOf_57 rfl rfl ?_
      refine pw_iconst (3 : Int32) dX8_linksOf_58 (by decide) ?_
      refine pw_icmp_ne 72 dX8_linksOf_59 (by decide) (fun c_11 => ?_) (fun c_11 => ?_)
      · rw [if_neg c_11] at hs
        exact PW.sub (lv' := [(0, .ref 0), (1, .int a1), (2, .int a2), (3, .int a3), (4, .int a4)]) [0, 1, 2, 3, 4] rfl (J72 a2 a3 a4 hs)
      · rw [if_pos c_11] at hs
        refine pw_aload_n 0 dX8_linksOf_62 rfl rfl ?_
        refine pw_getr 20 dX8_linksOf_63 clRX8 tM0 (Nat.le_of_ble_eq_true rfl) fRX8_46 rfl ?_
        refine pw_iload_n 3 dX8_linksOf_66 rfl rfl ?_
        obtain ⟨h_9, hs⟩ := gd_some hs
        refine pw_iaload dX8_linksOf_67 tM13 (inb_in h_9) ?_
        refine pw_iconst (3 : Int32) dX8_linksOf_68 (by decide) ?_
        refine pw_icmp_eq 100 dX8_linksOf_69 (by decide) (fun c_10 => ?_) (fun c_10 => ?_)
        · rw [if_pos c_10] at hs
          exact PW.sub (lv' := [(0, .ref 0), (1, .int a1), (2, .int a2), (3, .int a3), (4, .int a4)]) [0, 1, 2, 3, 4] rfl (J100 a2 a3 a4 hs)
        · rw [if_neg c_10] at hs
          exact PW.sub (lv' := [(0, .ref 0), (1, .int a1), (2, .int a2), (3, .int a3), (4, .int a4)]) [0, 1, 2, 3, 4] rfl (J72 a2 a3 a4 hs)
    have J35 : ∀ (a2 : Int32) (a3 : Int32) (s0 : Int32), fX8_linksOf_L4_J35 a1 a2 a3 s0 sg = some oL → PW tbM RX8 cX8_linksOf 7 (some .int) 1 25 (PoI oM sg) 35 [(0, .ref 0), (1, .int a1), (2, .int a2), (3, .int a3)] [.int s0] sg := by
      intro a2 a3 s0 hs
      unfold fX8_linksOf_L4_J35 at hs
      refine pw_istore [(4, .int s0), (0, .ref 0), (1, .int a1), (2, .int a2), (3, .int a3)] dX8_linksOf_35 (Nat.le_of_ble_eq_true rfl) rfl ?_
      refine pw_iload_n 2 dX8_linksOf_37 rfl rfl ?_
      refine pw_iconst (1 : Int32) dX8_linksOf_38 (by decide) ?_
      refine pw_icmp_eq 100 dX8_linksOf_39 (by decide) (fun c_8 => ?_) (fun c_8 => ?_)
      · rw [if_pos c_8] at hs
        exact PW.sub (lv' := [(0, .ref 0), (1, .int a1), (2, .int a2), (3, .int a3), (4, .int s0)]) [1, 2, 3, 4, 0] rfl (J100 a2 a3 s0 hs)
      · rw [if_neg c_8] at hs
        refine pw_iload_n 2 dX8_linksOf_42 rfl rfl ?_
        refine pw_iconst (2 : Int32) dX8_linksOf_43 (by decide) ?_
        refine pw_icmp_ne 57 dX8_linksOf_44 (by decide) (fun c_7 => ?_) (fun c_7 => ?_)
        · rw [if_neg c_7] at hs
          exact PW.sub (lv' := [(0, .ref 0), (1, .int a1), (2, .int a2), (3, .int a3), (4, .int s0)]) [1, 2, 3, 4, 0] rfl (J57 a2 a3 s0 hs)
        · rw [if_pos c_7] at hs
          refine pw_aload_n 1 dX8_linksOf_47 rfl rfl ?_
          refine pw_getr 20 dX8_linksOf_48 clRX8 tM0 (Nat.le_of_ble_eq_true rfl) fRX8_46 rfl ?_
          refine pw_iload_n 4 dX8_linksOf_51 rfl rfl ?_
          obtain ⟨h_5, hs⟩ := gd_some hs
          refine pw_iaload dX8_linksOf_52 tM13 (inb_in h_5) ?_
          refine pw_iconst (3 : Int32) dX8_linksOf_53 (by decide) ?_
          refine pw_icmp_lt 100 dX8_linksOf_54 (by decide) (fun c_6 => ?_) (fun c_6 => ?_)
          · rw [if_pos c_6] at hs
            exact PW.sub (lv' := [(0, .ref 0), (1, .int a1), (2, .int a2), (3, .int a3), (4, .int s0)]) [1, 2, 3, 4, 0] rfl (J100 a2 a3 s0 hs)
          · rw [if_neg c_6] at hs
            exact PW.sub (lv' := [(0, .ref 0), (1, .int a1), (2, .int a2), (3, .int a3), (4, .int s0)]) [1, 2, 3, 4, 0] rfl (J57 a2 a3 s0 hs)
    have J34 : ∀ (a2 : Int32) (a3 : Int32), fX8_linksOf_L4_J34 a1 a2 a3 sg = some oL → PW tbM RX8 cX8_linksOf 7 (some .int) 1 25 (PoI oM sg) 34 [(0, .ref 0), (1, .int a1), (2, .int a2), (3, .int a3)] [] sg := by
      intro a2 a3 hs
      unfold fX8_linksOf_L4_J34 at hs
      refine pw_iconst (0 : Int32) dX8_linksOf_34 (by decide) ?_
      exact PW.sub (lv' := [(0, .ref 0), (1, .int a1), (2, .int a2), (3, .int a3)]) [0, 1, 2, 3] rfl (J35 a2 a3 (0 : Int32) hs)
    refine pw_iload_n 3 dX8_linksOf_4 rfl rfl ?_
    refine pw_bipush (64 : Int32) dX8_linksOf_5 (by decide) ?_
    refine pw_icmp_ge 194 dX8_linksOf_7 (by decide) (fun c_4 => ?_) (fun c_4 => ?_)
    · rw [if_pos c_4] at hs
      exact PW.sub (lv' := [(0, .ref 0), (1, .int a1), (2, .int a2), (3, .int a3)]) [0, 1, 2, 3] rfl (hE (a2, a3) (Option.some.inj hs).symm)
    · rw [if_neg c_4] at hs
      refine pw_iload_n 3 dX8_linksOf_10 rfl rfl ?_
      refine pw_bipush (8 : Int32) dX8_linksOf_11 (by decide) ?_
      refine pw_idiv dX8_linksOf_13 (by decide) ?_
      refine pw_iload_n 3 dX8_linksOf_14 rfl rfl ?_
      refine pw_bipush (8 : Int32) dX8_linksOf_15 (by decide) ?_
      refine pw_irem dX8_linksOf_17 (by decide) ?_
      refine pw_icmp_ge 34 dX8_linksOf_18 (by decide) (fun c_3 => ?_) (fun c_3 => ?_)
      · rw [if_pos c_3] at hs
        exact PW.sub (lv' := [(0, .ref 0), (1, .int a1), (2, .int a2), (3, .int a3)]) [0, 1, 2, 3] rfl (J34 a2 a3 hs)
      · rw [if_neg c_3] at hs
        refine pw_aload_n 0 dX8_linksOf_21 rfl rfl ?_
        refine pw_getr 20 dX8_linksOf_22 clRX8 tM0 (Nat.le_of_ble_eq_true rfl) fRX8_46 rfl ?_
        refine pw_iload_n 3 dX8_linksOf_25 rfl rfl ?_
        obtain ⟨h_1, hs⟩ := gd_some hs
        refine pw_iaload dX8_linksOf_26 tM13 (inb_in h_1) ?_
        refine pw_if_le 34 dX8_linksOf_27 (by decide) (fun c_2 => ?_) (fun c_2 => ?_)
        · rw [if_pos c_2] at hs
          exact PW.sub (lv' := [(0, .ref 0), (1, .int a1), (2, .int a2), (3, .int a3)]) [0, 1, 2, 3] rfl (J34 a2 a3 hs)
        · rw [if_neg c_2] at hs
          refine pw_iconst (1 : Int32) dX8_linksOf_30 (by decide) ?_
          refine pw_goto 35 dX8_linksOf_31 (by decide) ?_
          exact PW.sub (lv' := [(0, .ref 0), (1, .int a1), (2, .int a2), (3, .int a3)]) [0, 1, 2, 3] rfl (J35 a2 a3 (1 : Int32) hs)
  · skip
    obtain ⟨a2_32, a3_33⟩ := t
    replace hs : fX8_linksOf_E194 a1 a2_32 a3_33 sg = some oM := hs
    show PW tbM RX8 cX8_linksOf 7 (some .int) 1 25 (PoI oM sg) 194 [(0, .ref 0), (1, .int a1), (2, .int a2_32), (3, .int a3_33)] [] sg
    unfold fX8_linksOf_E194 at hs
    refine pw_iload_n 2 dX8_linksOf_194 rfl rfl ?_
    have hr := Option.some.inj hs
    exact pw_ireturn dX8_linksOf_195 rfl ⟨by rw [hr], rfl⟩
set_option maxRecDepth 100000 in
set_option maxHeartbeats 400000 in
theorem conX8_withValley {sg : Sg}  {oM : Int32 × Sg} (h : fX8_withValley  sg = some oM) : Con tbM yX8_withValley cX8_withValley 3 (some .int) 2 45 [.ref 0] sg (PoI oM.1 oM.2) := by
  refine Con.of (by decide) (Nat.le_of_ble_eq_true rfl) ?_
  show PW tbM RX8 cX8_withValley 3 (some .int) 2 45 (PoI oM.1 oM.2) 0 [(0, .ref 0)] [] sg
  have hs := h
  unfold fX8_withValley at hs
  refine pw_iconst (0 : Int32) dX8_withValley_0 (by decide) ?_
  refine pw_istore_n [(1, .int (0 : Int32)), (0, .ref 0)] dX8_withValley_1 rfl (Nat.le_of_ble_eq_true rfl) rfl ?_
  refine pw_iconst (0 : Int32) dX8_withValley_2 (by decide) ?_
  refine pw_istore_n [(2, .int (0 : Int32)), (1, .int (0 : Int32)), (0, .ref 0)] dX8_withValley_3 rfl (Nat.le_of_ble_eq_true rfl) rfl ?_
  obtain ⟨t, hL, hs⟩ := Option.bind_eq_some_iff.mp hs
  refine PW.sub [2, 1, 0] (lv' := [(0, .ref 0), (1, .int (0 : Int32)), (2, .int (0 : Int32))]) rfl ?_
  refine lpS_pw (T := Int32 × Int32 × Sg) (X := fun t => PW tbM RX8 cX8_withValley 3 (some .int) 2 45 (PoI oM.1 oM.2) 4 [(0, .ref 0), (1, .int t.1), (2, .int t.2.1)] [] t.2.2) (E := fun t => PW tbM RX8 cX8_withValley 3 (some .int) 2 45 (PoI oM.1 oM.2) 35 [(0, .ref 0), (1, .int t.1), (2, .int t.2.1)] [] t.2.2) (step := (fun t => fX8_withValley_L4 t.1 t.2.1 t.2.2)) ?_ 300 ((0 : Int32), (0 : Int32), sg) t hL ?_
  · intro t oL hs hE hC
    obtain ⟨a1, a2, sg⟩ := t
    replace hs : fX8_withValley_L4 a1 a2 sg = some oL := hs
    show PW tbM RX8 cX8_withValley 3 (some .int) 2 45 (PoI oM.1 oM.2) 4 [(0, .ref 0), (1, .int a1), (2, .int a2)] [] sg
    unfold fX8_withValley_L4 at hs
    have J27 : ∀ (a2 : Int32) (s0 : Int32) (s1 : Int32) (sg : Sg), fX8_withValley_L4_J27 a2 s0 s1 sg = some oL → PW tbM RX8 cX8_withValley 3 (some .int) 2 45 (PoI oM.1 oM.2) 27 [(0, .ref 0), (2, .int a2)] [.int s0, .int s1] sg := by
      intro a2 s0 s1 sg hs
      unfold fX8_withValley_L4_J27 at hs
      refine pw_iadd dX8_withValley_27 ?_
      refine pw_istore_n [(1, .int (s1 + s0)), (0, .ref 0), (2, .int a2)] dX8_withValley_28 rfl (Nat.le_of_ble_eq_true rfl) rfl ?_
      refine pw_iinc 2 (a2 + 1) [(2, .int (a2 + 1)), (1, .int (s1 + s0)), (0, .ref 0)] dX8_withValley_29 rfl rfl (Nat.le_of_ble_eq_true rfl) rfl ?_
      refine pw_goto 4 dX8_withValley_32 (by decide) ?_
      exact PW.sub (lv' := [(0, .ref 0), (1, .int (s1 + s0)), (2, .int (a2 + 1))]) [2, 1, 0] rfl (hC ((s1 + s0), (a2 + 1), sg) (Option.some.inj hs).symm)
    refine pw_iload_n 2 dX8_withValley_4 rfl rfl ?_
    refine pw_aload_n 0 dX8_withValley_5 rfl rfl ?_
    refine pw_geti 2 dX8_withValley_6 clRX8 tM0 (Nat.le_of_ble_eq_true rfl) fRX8_75 rfl ?_
    refine pw_icmp_ge 35 dX8_withValley_9 (by decide) (fun c_6 => ?_) (fun c_6 => ?_)
    · rw [if_pos c_6] at hs
      exact PW.sub (lv' := [(0, .ref 0), (1, .int a1), (2, .int a2)]) [0, 1, 2] rfl (hE (a1, a2, sg) (Option.some.inj hs).symm)
    · rw [if_neg c_6] at hs
      refine pw_iload_n 1 dX8_withValley_12 rfl rfl ?_
      refine pw_aload_n 0 dX8_withValley_13 rfl rfl ?_
      refine pw_iload_n 2 dX8_withValley_14 rfl rfl ?_
      obtain ⟨⟨r_2, sg_3⟩, hc_1, hs⟩ := Option.bind_eq_some_iff.mp hs
      replace hs := ltP_use hs
      refine pw_callVi [.int a2] (st := [.int a1]) dX8_withValley_15 tM0 rfl mRX8_180 imX8_valleyOfWay seX8_valleyOfWay inRX8 coX8_valleyOfWay hyX8_valleyOfWay (by decide) (Nat.le_of_ble_eq_true rfl) (conX8_valleyOfWay hc_1) ?_
      refine pw_iconst (-1 : Int32) dX8_withValley_18 (by decide) ?_
      refine pw_icmp_ne 26 dX8_withValley_19 (by decide) (fun c_5 => ?_) (fun c_5 => ?_)
      · rw [if_neg c_5] at hs
        refine pw_iconst (1 : Int32) dX8_withValley_26 (by decide) ?_
        exact PW.sub (lv' := [(0, .ref 0), (2, .int a2)]) [0, 2] rfl (J27 a2 (1 : Int32) a1 sg_3 hs)
      · rw [if_pos c_5] at hs
        refine pw_iconst (0 : Int32) dX8_withValley_22 (by decide) ?_
        refine pw_goto 27 dX8_withValley_23 (by decide) ?_
        exact PW.sub (lv' := [(0, .ref 0), (2, .int a2)]) [0, 2] rfl (J27 a2 (0 : Int32) a1 sg_3 hs)
  · skip
    obtain ⟨a1_7, a2_8, sg_9⟩ := t
    replace hs : fX8_withValley_E35 a1_7 a2_8 sg_9 = some oM := hs
    show PW tbM RX8 cX8_withValley 3 (some .int) 2 45 (PoI oM.1 oM.2) 35 [(0, .ref 0), (1, .int a1_7), (2, .int a2_8)] [] sg_9
    unfold fX8_withValley_E35 at hs
    refine pw_iload_n 1 dX8_withValley_35 rfl rfl ?_
    have hr := Option.some.inj hs
    exact pw_ireturn dX8_withValley_36 rfl ⟨by rw [← hr], by rw [← hr]⟩
set_option maxRecDepth 100000 in
set_option maxHeartbeats 400000 in
theorem conX8_howMany {sg : Sg} {a1 : Int32} {oM : Int32 × Sg} (h : fX8_howMany a1 sg = some oM) : Con tbM yX8_howMany cX8_howMany 2 (some .int) 4 91 [.ref 0, .int a1] sg (PoI oM.1 oM.2) := by
  refine Con.of (by decide) (Nat.le_of_ble_eq_true rfl) ?_
  show PW tbM RX8 cX8_howMany 2 (some .int) 4 91 (PoI oM.1 oM.2) 0 [(0, .ref 0), (1, .int a1)] [] sg
  have hs := h
  unfold fX8_howMany at hs
  have J114 : ∀ (s0 : Int32) (sg : Sg), fX8_howMany_J114 s0 sg = some oM → PW tbM RX8 cX8_howMany 2 (some .int) 4 91 (PoI oM.1 oM.2) 114 [] [.int s0] sg := by
    intro s0 sg hs
    unfold fX8_howMany_J114 at hs
    have hr := Option.some.inj hs
    exact pw_ireturn dX8_howMany_114 rfl ⟨by rw [← hr], by rw [← hr]⟩
  refine pw_aload_n 0 dX8_howMany_0 rfl rfl ?_
  obtain ⟨sg_2, hc_1, hs⟩ := Option.bind_eq_some_iff.mp hs
  refine pw_callVv [] (st := []) dX8_howMany_1 tM0 rfl mRX8_149 imX8_lay seX8_lay inRX8 coX8_lay hyX8_lay (by decide) (Nat.le_of_ble_eq_true rfl) (conX8_lay hc_1) ?_
  refine pw_iload_n 1 dX8_howMany_4 rfl rfl ?_
  by_cases c_3 : a1 = (0 : Int32)
  · rw [if_pos c_3] at hs
    refine pw_tableIn (off := 63) 68 dX8_howMany_5 (by rw [c_3]; decide) (by rw [c_3]; decide) (by rw [c_3]; rfl) (by decide) ?_
    refine pw_aload_n 0 dX8_howMany_68 rfl rfl ?_
    refine pw_geti 2 dX8_howMany_69 clRX8 tM0 (Nat.le_of_ble_eq_true rfl) fRX8_75 rfl ?_
    have hr := Option.some.inj hs
    exact pw_ireturn dX8_howMany_72 rfl ⟨by rw [← hr], by rw [← hr]⟩
  · rw [if_neg c_3] at hs
    by_cases c_9 : a1 = (1 : Int32)
    · rw [if_pos c_9] at hs
      refine pw_tableIn (off := 88) 93 dX8_howMany_5 (by rw [c_9]; decide) (by rw [c_9]; decide) (by rw [c_9]; rfl) (by decide) ?_
      refine pw_iload_n 1 dX8_howMany_93 rfl rfl ?_
      refine pw_iconst (1 : Int32) dX8_howMany_94 (by decide) ?_
      refine pw_bipush (8 : Int32) dX8_howMany_95 (by decide) ?_
      obtain ⟨r_5, hc_4, hs⟩ := Option.bind_eq_some_iff.mp hs
      refine pw_callSi [.int a1, .int (1 : Int32), .int (8 : Int32)] (st := []) dX8_howMany_97 mRX8_55 stX8_within inRX8 coX8_within hyX8_within (by decide) (Nat.le_of_ble_eq_true rfl) (conX8_within hc_4) ?_
      refine pw_if_eq 111 dX8_howMany_100 (by decide) (fun c_8 => ?_) (fun c_8 => ?_)
      · rw [if_pos c_8] at hs
        refine pw_sipush (-1002 : Int32) dX8_howMany_111 (by decide) ?_
        exact PW.sub (lv' := []) [] rfl (J114 (-1002 : Int32) sg_2 hs)
      · rw [if_neg c_8] at hs
        refine pw_aload_n 0 dX8_howMany_103 rfl rfl ?_
        refine pw_iload_n 1 dX8_howMany_104 rfl rfl ?_
        obtain ⟨r_7, hc_6, hs⟩ := Option.bind_eq_some_iff.mp hs
        refine pw_callVi [.int a1] (st := []) dX8_howMany_105 tM0 rfl mRX8_199 imX8_linksOf seX8_linksOf inRX8 coX8_linksOf hyX8_linksOf (by decide) (Nat.le_of_ble_eq_true rfl) (conX8_linksOf hc_6) ?_
        refine pw_goto 114 dX8_howMany_108 (by decide) ?_
        exact PW.sub (lv' := []) [] rfl (J114 r_7 sg_2 hs)
    · rw [if_neg c_9] at hs
      by_cases c_15 : a1 = (2 : Int32)
      · rw [if_pos c_15] at hs
        refine pw_tableIn (off := 88) 93 dX8_howMany_5 (by rw [c_15]; decide) (by rw [c_15]; decide) (by rw [c_15]; rfl) (by decide) ?_
        refine pw_iload_n 1 dX8_howMany_93 rfl rfl ?_
        refine pw_iconst (1 : Int32) dX8_howMany_94 (by decide) ?_
        refine pw_bipush (8 : Int32) dX8_howMany_95 (by decide) ?_
        obtain ⟨r_11, hc_10, hs⟩ := Option.bind_eq_some_iff.mp hs
        refine pw_callSi [.int a1, .int (1 : Int32), .int (8 : Int32)] (st := []) dX8_howMany_97 mRX8_55 stX8_within inRX8 coX8_within hyX8_within (by decide) (Nat.le_of_ble_eq_true rfl) (conX8_within hc_10) ?_
        refine pw_if_eq 111 dX8_howMany_100 (by decide) (fun c_14 => ?_) (fun c_14 => ?_)
        · rw [if_pos c_14] at hs
          refine pw_sipush (-1002 : Int32) dX8_howMany_111 (by decide) ?_
          exact PW.sub (lv' := []) [] rfl (J114 (-1002 : Int32) sg_2 hs)
        · rw [if_neg c_14] at hs
          refine pw_aload_n 0 dX8_howMany_103 rfl rfl ?_
          refine pw_iload_n 1 dX8_howMany_104 rfl rfl ?_
          obtain ⟨r_13, hc_12, hs⟩ := Option.bind_eq_some_iff.mp hs
          refine pw_callVi [.int a1] (st := []) dX8_howMany_105 tM0 rfl mRX8_199 imX8_linksOf seX8_linksOf inRX8 coX8_linksOf hyX8_linksOf (by decide) (Nat.le_of_ble_eq_true rfl) (conX8_linksOf hc_12) ?_
          refine pw_goto 114 dX8_howMany_108 (by decide) ?_
          exact PW.sub (lv' := []) [] rfl (J114 r_13 sg_2 hs)
      · rw [if_neg c_15] at hs
        by_cases c_21 : a1 = (3 : Int32)
        · rw [if_pos c_21] at hs
          refine pw_tableIn (off := 88) 93 dX8_howMany_5 (by rw [c_21]; decide) (by rw [c_21]; decide) (by rw [c_21]; rfl) (by decide) ?_
          refine pw_iload_n 1 dX8_howMany_93 rfl rfl ?_
          refine pw_iconst (1 : Int32) dX8_howMany_94 (by decide) ?_
          refine pw_bipush (8 : Int32) dX8_howMany_95 (by decide) ?_
          obtain ⟨r_17, hc_16, hs⟩ := Option.bind_eq_some_iff.mp hs
          refine pw_callSi [.int a1, .int (1 : Int32), .int (8 : Int32)] (st := []) dX8_howMany_97 mRX8_55 stX8_within inRX8 coX8_within hyX8_within (by decide) (Nat.le_of_ble_eq_true rfl) (conX8_within hc_16) ?_
          refine pw_if_eq 111 dX8_howMany_100 (by decide) (fun c_20 => ?_) (fun c_20 => ?_)
          · rw [if_pos c_20] at hs
            refine pw_sipush (-1002 : Int32) dX8_howMany_111 (by decide) ?_
            exact PW.sub (lv' := []) [] rfl (J114 (-1002 : Int32) sg_2 hs)
          · rw [if_neg c_20] at hs
            refine pw_aload_n 0 dX8_howMany_103 rfl rfl ?_
            refine pw_iload_n 1 dX8_howMany_104 rfl rfl ?_
            obtain ⟨r_19, hc_18, hs⟩ := Option.bind_eq_some_iff.mp hs
            refine pw_callVi [.int a1] (st := []) dX8_howMany_105 tM0 rfl mRX8_199 imX8_linksOf seX8_linksOf inRX8 coX8_linksOf hyX8_linksOf (by decide) (Nat.le_of_ble_eq_true rfl) (conX8_linksOf hc_18) ?_
            refine pw_goto 114 dX8_howMany_108 (by decide) ?_
            exact PW.sub (lv' := []) [] rfl (J114 r_19 sg_2 hs)
        · rw [if_neg c_21] at hs
          by_cases c_27 : a1 = (4 : Int32)
          · rw [if_pos c_27] at hs
            refine pw_tableIn (off := 88) 93 dX8_howMany_5 (by rw [c_27]; decide) (by rw [c_27]; decide) (by rw [c_27]; rfl) (by decide) ?_
            refine pw_iload_n 1 dX8_howMany_93 rfl rfl ?_
            refine pw_iconst (1 : Int32) dX8_howMany_94 (by decide) ?_
            refine pw_bipush (8 : Int32) dX8_howMany_95 (by decide) ?_
            obtain ⟨r_23, hc_22, hs⟩ := Option.bind_eq_some_iff.mp hs
            refine pw_callSi [.int a1, .int (1 : Int32), .int (8 : Int32)] (st := []) dX8_howMany_97 mRX8_55 stX8_within inRX8 coX8_within hyX8_within (by decide) (Nat.le_of_ble_eq_true rfl) (conX8_within hc_22) ?_
            refine pw_if_eq 111 dX8_howMany_100 (by decide) (fun c_26 => ?_) (fun c_26 => ?_)
            · rw [if_pos c_26] at hs
              refine pw_sipush (-1002 : Int32) dX8_howMany_111 (by decide) ?_
              exact PW.sub (lv' := []) [] rfl (J114 (-1002 : Int32) sg_2 hs)
            · rw [if_neg c_26] at hs
              refine pw_aload_n 0 dX8_howMany_103 rfl rfl ?_
              refine pw_iload_n 1 dX8_howMany_104 rfl rfl ?_
              obtain ⟨r_25, hc_24, hs⟩ := Option.bind_eq_some_iff.mp hs
              refine pw_callVi [.int a1] (st := []) dX8_howMany_105 tM0 rfl mRX8_199 imX8_linksOf seX8_linksOf inRX8 coX8_linksOf hyX8_linksOf (by decide) (Nat.le_of_ble_eq_true rfl) (conX8_linksOf hc_24) ?_
              refine pw_goto 114 dX8_howMany_108 (by decide) ?_
              exact PW.sub (lv' := []) [] rfl (J114 r_25 sg_2 hs)
          · rw [if_neg c_27] at hs
            by_cases c_33 : a1 = (5 : Int32)
            · rw [if_pos c_33] at hs
              refine pw_tableIn (off := 88) 93 dX8_howMany_5 (by rw [c_33]; decide) (by rw [c_33]; decide) (by rw [c_33]; rfl) (by decide) ?_
              refine pw_iload_n 1 dX8_howMany_93 rfl rfl ?_
              refine pw_iconst (1 : Int32) dX8_howMany_94 (by decide) ?_
              refine pw_bipush (8 : Int32) dX8_howMany_95 (by decide) ?_
              obtain ⟨r_29, hc_28, hs⟩ := Option.bind_eq_some_iff.mp hs
              refine pw_callSi [.int a1, .int (1 : Int32), .int (8 : Int32)] (st := []) dX8_howMany_97 mRX8_55 stX8_within inRX8 coX8_within hyX8_within (by decide) (Nat.le_of_ble_eq_true rfl) (conX8_within hc_28) ?_
              refine pw_if_eq 111 dX8_howMany_100 (by decide) (fun c_32 => ?_) (fun c_32 => ?_)
              · rw [if_pos c_32] at hs
                refine pw_sipush (-1002 : Int32) dX8_howMany_111 (by decide) ?_
                exact PW.sub (lv' := []) [] rfl (J114 (-1002 : Int32) sg_2 hs)
              · rw [if_neg c_32] at hs
                refine pw_aload_n 0 dX8_howMany_103 rfl rfl ?_
                refine pw_iload_n 1 dX8_howMany_104 rfl rfl ?_
                obtain ⟨r_31, hc_30, hs⟩ := Option.bind_eq_some_iff.mp hs
                refine pw_callVi [.int a1] (st := []) dX8_howMany_105 tM0 rfl mRX8_199 imX8_linksOf seX8_linksOf inRX8 coX8_linksOf hyX8_linksOf (by decide) (Nat.le_of_ble_eq_true rfl) (conX8_linksOf hc_30) ?_
                refine pw_goto 114 dX8_howMany_108 (by decide) ?_
                exact PW.sub (lv' := []) [] rfl (J114 r_31 sg_2 hs)
            · rw [if_neg c_33] at hs
              by_cases c_38 : a1 = (6 : Int32)
              · rw [if_pos c_38] at hs
                refine pw_tableIn (off := 68) 73 dX8_howMany_5 (by rw [c_38]; decide) (by rw [c_38]; decide) (by rw [c_38]; rfl) (by decide) ?_
                refine pw_aload_n 0 dX8_howMany_73 rfl rfl ?_
                obtain ⟨⟨r_35, sg_36⟩, hc_34, hs⟩ := Option.bind_eq_some_iff.mp hs
                replace hs := ltP_use hs
                refine pw_callVi [] (st := []) dX8_howMany_74 tM0 rfl mRX8_196 imX8_withValley seX8_withValley inRX8 coX8_withValley hyX8_withValley (by decide) (Nat.le_of_ble_eq_true rfl) (conX8_withValley hc_34) ?_
                have hr := Option.some.inj hs
                exact pw_ireturn dX8_howMany_77 rfl ⟨by rw [← hr], by rw [← hr]⟩
              · rw [if_neg c_38] at hs
                by_cases c_44 : a1 = (7 : Int32)
                · rw [if_pos c_44] at hs
                  refine pw_tableIn (off := 88) 93 dX8_howMany_5 (by rw [c_44]; decide) (by rw [c_44]; decide) (by rw [c_44]; rfl) (by decide) ?_
                  refine pw_iload_n 1 dX8_howMany_93 rfl rfl ?_
                  refine pw_iconst (1 : Int32) dX8_howMany_94 (by decide) ?_
                  refine pw_bipush (8 : Int32) dX8_howMany_95 (by decide) ?_
                  obtain ⟨r_40, hc_39, hs⟩ := Option.bind_eq_some_iff.mp hs
                  refine pw_callSi [.int a1, .int (1 : Int32), .int (8 : Int32)] (st := []) dX8_howMany_97 mRX8_55 stX8_within inRX8 coX8_within hyX8_within (by decide) (Nat.le_of_ble_eq_true rfl) (conX8_within hc_39) ?_
                  refine pw_if_eq 111 dX8_howMany_100 (by decide) (fun c_43 => ?_) (fun c_43 => ?_)
                  · rw [if_pos c_43] at hs
                    refine pw_sipush (-1002 : Int32) dX8_howMany_111 (by decide) ?_
                    exact PW.sub (lv' := []) [] rfl (J114 (-1002 : Int32) sg_2 hs)
                  · rw [if_neg c_43] at hs
                    refine pw_aload_n 0 dX8_howMany_103 rfl rfl ?_
                    refine pw_iload_n 1 dX8_howMany_104 rfl rfl ?_
                    obtain ⟨r_42, hc_41, hs⟩ := Option.bind_eq_some_iff.mp hs
                    refine pw_callVi [.int a1] (st := []) dX8_howMany_105 tM0 rfl mRX8_199 imX8_linksOf seX8_linksOf inRX8 coX8_linksOf hyX8_linksOf (by decide) (Nat.le_of_ble_eq_true rfl) (conX8_linksOf hc_41) ?_
                    refine pw_goto 114 dX8_howMany_108 (by decide) ?_
                    exact PW.sub (lv' := []) [] rfl (J114 r_42 sg_2 hs)
                · rw [if_neg c_44] at hs
                  by_cases c_50 : a1 = (8 : Int32)
                  · rw [if_pos c_50] at hs
                    refine pw_tableIn (off := 88) 93 dX8_howMany_5 (by rw [c_50]; decide) (by rw [c_50]; decide) (by rw [c_50]; rfl) (by decide) ?_
                    refine pw_iload_n 1 dX8_howMany_93 rfl rfl ?_
                    refine pw_iconst (1 : Int32) dX8_howMany_94 (by decide) ?_
                    refine pw_bipush (8 : Int32) dX8_howMany_95 (by decide) ?_
                    obtain ⟨r_46, hc_45, hs⟩ := Option.bind_eq_some_iff.mp hs
                    refine pw_callSi [.int a1, .int (1 : Int32), .int (8 : Int32)] (st := []) dX8_howMany_97 mRX8_55 stX8_within inRX8 coX8_within hyX8_within (by decide) (Nat.le_of_ble_eq_true rfl) (conX8_within hc_45) ?_
                    refine pw_if_eq 111 dX8_howMany_100 (by decide) (fun c_49 => ?_) (fun c_49 => ?_)
                    · rw [if_pos c_49] at hs
                      refine pw_sipush (-1002 : Int32) dX8_howMany_111 (by decide) ?_
                      exact PW.sub (lv' := []) [] rfl (J114 (-1002 : Int32) sg_2 hs)
                    · rw [if_neg c_49] at hs
                      refine pw_aload_n 0 dX8_howMany_103 rfl rfl ?_
                      refine pw_iload_n 1 dX8_howMany_104 rfl rfl ?_
                      obtain ⟨r_48, hc_47, hs⟩ := Option.bind_eq_some_iff.mp hs
                      refine pw_callVi [.int a1] (st := []) dX8_howMany_105 tM0 rfl mRX8_199 imX8_linksOf seX8_linksOf inRX8 coX8_linksOf hyX8_linksOf (by decide) (Nat.le_of_ble_eq_true rfl) (conX8_linksOf hc_47) ?_
                      refine pw_goto 114 dX8_howMany_108 (by decide) ?_
                      exact PW.sub (lv' := []) [] rfl (J114 r_48 sg_2 hs)
                  · rw [if_neg c_50] at hs
                    by_cases c_51 : a1 = (9 : Int32)
                    · rw [if_pos c_51] at hs
                      refine pw_tableIn (off := 73) 78 dX8_howMany_5 (by rw [c_51]; decide) (by rw [c_51]; decide) (by rw [c_51]; rfl) (by decide) ?_
                      refine pw_aload_n 0 dX8_howMany_78 rfl rfl ?_
                      refine pw_geti 0 dX8_howMany_79 clRX8 tM0 (Nat.le_of_ble_eq_true rfl) fRX8_59 rfl ?_
                      have hr := Option.some.inj hs
                      exact pw_ireturn dX8_howMany_82 rfl ⟨by rw [← hr], by rw [← hr]⟩
                    · rw [if_neg c_51] at hs
                      by_cases c_52 : a1 = (10 : Int32)
                      · rw [if_pos c_52] at hs
                        refine pw_tableIn (off := 78) 83 dX8_howMany_5 (by rw [c_52]; decide) (by rw [c_52]; decide) (by rw [c_52]; rfl) (by decide) ?_
                        refine pw_aload_n 0 dX8_howMany_83 rfl rfl ?_
                        refine pw_geti 5 dX8_howMany_84 clRX8 tM0 (Nat.le_of_ble_eq_true rfl) fRX8_88 rfl ?_
                        have hr := Option.some.inj hs
                        exact pw_ireturn dX8_howMany_87 rfl ⟨by rw [← hr], by rw [← hr]⟩
                      · rw [if_neg c_52] at hs
                        by_cases c_53 : a1 = (11 : Int32)
                        · rw [if_pos c_53] at hs
                          refine pw_tableIn (off := 83) 88 dX8_howMany_5 (by rw [c_53]; decide) (by rw [c_53]; decide) (by rw [c_53]; rfl) (by decide) ?_
                          refine pw_aload_n 0 dX8_howMany_88 rfl rfl ?_
                          refine pw_geti 7 dX8_howMany_89 clRX8 tM0 (Nat.le_of_ble_eq_true rfl) fRX8_78 rfl ?_
                          have hr := Option.some.inj hs
                          exact pw_ireturn dX8_howMany_92 rfl ⟨by rw [← hr], by rw [← hr]⟩
                        · rw [if_neg c_53] at hs
                          refine pw_tableOut 93 dX8_howMany_5 (by have := lv_neT c_3 (a := 0) (by decide); have := lv_neT c_9 (a := 1) (by decide); have := lv_neT c_15 (a := 2) (by decide); have := lv_neT c_21 (a := 3) (by decide); have := lv_neT c_27 (a := 4) (by decide); have := lv_neT c_33 (a := 5) (by decide); have := lv_neT c_38 (a := 6) (by decide); have := lv_neT c_44 (a := 7) (by decide); have := lv_neT c_50 (a := 8) (by decide); have := lv_neT c_51 (a := 9) (by decide); have := lv_neT c_52 (a := 10) (by decide); have := lv_neT c_53 (a := 11) (by decide); omega) (by decide) ?_
                          refine pw_iload_n 1 dX8_howMany_93 rfl rfl ?_
                          refine pw_iconst (1 : Int32) dX8_howMany_94 (by decide) ?_
                          refine pw_bipush (8 : Int32) dX8_howMany_95 (by decide) ?_
                          obtain ⟨r_55, hc_54, hs⟩ := Option.bind_eq_some_iff.mp hs
                          refine pw_callSi [.int a1, .int (1 : Int32), .int (8 : Int32)] (st := []) dX8_howMany_97 mRX8_55 stX8_within inRX8 coX8_within hyX8_within (by decide) (Nat.le_of_ble_eq_true rfl) (conX8_within hc_54) ?_
                          refine pw_if_eq 111 dX8_howMany_100 (by decide) (fun c_58 => ?_) (fun c_58 => ?_)
                          · rw [if_pos c_58] at hs
                            refine pw_sipush (-1002 : Int32) dX8_howMany_111 (by decide) ?_
                            exact PW.sub (lv' := []) [] rfl (J114 (-1002 : Int32) sg_2 hs)
                          · rw [if_neg c_58] at hs
                            refine pw_aload_n 0 dX8_howMany_103 rfl rfl ?_
                            refine pw_iload_n 1 dX8_howMany_104 rfl rfl ?_
                            obtain ⟨r_57, hc_56, hs⟩ := Option.bind_eq_some_iff.mp hs
                            refine pw_callVi [.int a1] (st := []) dX8_howMany_105 tM0 rfl mRX8_199 imX8_linksOf seX8_linksOf inRX8 coX8_linksOf hyX8_linksOf (by decide) (Nat.le_of_ble_eq_true rfl) (conX8_linksOf hc_56) ?_
                            refine pw_goto 114 dX8_howMany_108 (by decide) ?_
                            exact PW.sub (lv' := []) [] rfl (J114 r_57 sg_2 hs)
set_option maxRecDepth 100000 in
set_option maxHeartbeats 400000 in
theorem conX8_count {sg : Sg} {a1 : Int32} {oM : Int32 × Sg} (h : fX8_count a1 sg = some oM) : Con tbM yX8_count cX8_count 2 (some .int) 5 112 [.ref 0, .int a1] sg (PoI oM.1 oM.2) := by
  refine Con.of (by decide) (Nat.le_of_ble_eq_true rfl) ?_
  show PW tbM RX8 cX8_count 2 (some .int) 5 112 (PoI oM.1 oM.2) 0 [(0, .ref 0), (1, .int a1)] [] sg
  have hs := h
  unfold fX8_count at hs
  refine pw_aload_n 0 dX8_count_0 rfl rfl ?_
  refine pw_iload_n 1 dX8_count_1 rfl rfl ?_
  obtain ⟨⟨r_2, sg_3⟩, hc_1, hs⟩ := Option.bind_eq_some_iff.mp hs
  replace hs := ltP_use hs
  refine pw_callVi [.int a1] (st := []) dX8_count_2 tM0 rfl mRX8_202 imX8_howMany seX8_howMany inRX8 coX8_howMany hyX8_howMany (by decide) (Nat.le_of_ble_eq_true rfl) (conX8_howMany hc_1) ?_
  have hr := Option.some.inj hs
  exact pw_ireturn dX8_count_5 rfl ⟨by rw [← hr], by rw [← hr]⟩
set_option maxRecDepth 100000 in
set_option maxHeartbeats 400000 in
theorem conX8_mix {sg : Sg} {a1 : Int64} {oM : Sg} (h : fX8_mix a1 sg = some oM) : Con tbM yX8_mix cX8_mix 3 none 0 0 [.ref 0, .long a1] sg (PoV oM) := by
  refine Con.of (by decide) (Nat.le_of_ble_eq_true rfl) ?_
  show PW tbM RX8 cX8_mix 3 none 0 0 (PoV oM) 0 [(0, .ref 0), (1, .long a1)] [] sg
  have hs := h
  unfold fX8_mix at hs
  refine pw_aload_n 0 dX8_mix_0 rfl rfl ?_
  refine pw_ldc2 dX8_mix_1 kRX8_205 ?_
  refine pw_aload_n 0 dX8_mix_4 rfl rfl ?_
  refine pw_getl 24 dX8_mix_5 clRX8 tM0 (Nat.le_of_ble_eq_true rfl) fRX8_207 rfl ?_
  refine pw_lmul dX8_mix_8 ?_
  refine pw_lload_n 1 dX8_mix_9 rfl rfl ?_
  refine pw_ladd dX8_mix_10 ?_
  refine pw_putl 24 (fty := .long) dX8_mix_11 clRX8 tM0 (Nat.le_of_ble_eq_true rfl) fRX8_207 rfl rfl (by decide +kernel) rfl rfl ?_
  refine pw_sg (fun sg_1 e_sg_1 => ?_)
  replace hs := lt_use hs e_sg_1
  have hr := Option.some.inj hs
  exact pw_return dX8_mix_14 rfl ⟨rfl, hr⟩
set_option maxRecDepth 100000 in
set_option maxHeartbeats 400000 in
theorem conX8_mixNets {sg : Sg}  {oM : Sg} (h : fX8_mixNets  sg = some oM) : Con tbM yX8_mixNets cX8_mixNets 4 none 5 116 [.ref 0] sg (PoV oM) := by
  refine Con.of (by decide) (Nat.le_of_ble_eq_true rfl) ?_
  show PW tbM RX8 cX8_mixNets 4 none 5 116 (PoV oM) 0 [(0, .ref 0)] [] sg
  have hs := h
  unfold fX8_mixNets at hs
  refine pw_iconst (0 : Int32) dX8_mixNets_0 (by decide) ?_
  refine pw_istore_n [(1, .int (0 : Int32)), (0, .ref 0)] dX8_mixNets_1 rfl (Nat.le_of_ble_eq_true rfl) rfl ?_
  obtain ⟨t, hL, hs⟩ := Option.bind_eq_some_iff.mp hs
  refine PW.sub [1, 0] (lv' := [(0, .ref 0), (1, .int (0 : Int32))]) rfl ?_
  refine lpS_pw (T := Int32 × Sg) (X := fun t => PW tbM RX8 cX8_mixNets 4 none 5 116 (PoV oM) 2 [(0, .ref 0), (1, .int t.1)] [] t.2) (E := fun t => PW tbM RX8 cX8_mixNets 4 none 5 116 (PoV oM) 39 [(0, .ref 0), (1, .int t.1)] [] t.2) (step := (fun t => fX8_mixNets_L2 t.1 t.2)) ?_ 300 ((0 : Int32), sg) t hL ?_
  · intro t oL hs hE hC
    obtain ⟨a1, sg⟩ := t
    replace hs : fX8_mixNets_L2 a1 sg = some oL := hs
    show PW tbM RX8 cX8_mixNets 4 none 5 116 (PoV oM) 2 [(0, .ref 0), (1, .int a1)] [] sg
    unfold fX8_mixNets_L2 at hs
    refine pw_iload_n 1 dX8_mixNets_2 rfl rfl ?_
    refine pw_bipush (8 : Int32) dX8_mixNets_3 (by decide) ?_
    refine pw_icmp_ge 39 dX8_mixNets_5 (by decide) (fun c_10 => ?_) (fun c_10 => ?_)
    · rw [if_pos c_10] at hs
      exact PW.sub (lv' := [(0, .ref 0), (1, .int a1)]) [0, 1] rfl (hE (a1, sg) (Option.some.inj hs).symm)
    · rw [if_neg c_10] at hs
      refine pw_iconst (0 : Int32) dX8_mixNets_8 (by decide) ?_
      refine pw_istore_n [(2, .int (0 : Int32)), (0, .ref 0), (1, .int a1)] dX8_mixNets_9 rfl (Nat.le_of_ble_eq_true rfl) rfl ?_
      obtain ⟨t, hL, hs⟩ := Option.bind_eq_some_iff.mp hs
      refine PW.sub [1, 2, 0] (lv' := [(0, .ref 0), (1, .int a1), (2, .int (0 : Int32))]) rfl ?_
      refine lpS_pw (T := Int32 × Sg) (X := fun t => PW tbM RX8 cX8_mixNets 4 none 5 116 (PoV oM) 10 [(0, .ref 0), (1, .int a1), (2, .int t.1)] [] t.2) (E := fun t => PW tbM RX8 cX8_mixNets 4 none 5 116 (PoV oM) 33 [(0, .ref 0), (1, .int a1), (2, .int t.1)] [] t.2) (step := (fun t => fX8_mixNets_L10 a1 t.1 t.2)) ?_ 300 ((0 : Int32), sg) t hL ?_
      · intro t oL hs hE hC
        obtain ⟨a2, sg⟩ := t
        replace hs : fX8_mixNets_L10 a1 a2 sg = some oL := hs
        show PW tbM RX8 cX8_mixNets 4 none 5 116 (PoV oM) 10 [(0, .ref 0), (1, .int a1), (2, .int a2)] [] sg
        unfold fX8_mixNets_L10 at hs
        refine pw_iload_n 2 dX8_mixNets_10 rfl rfl ?_
        refine pw_bipush (6 : Int32) dX8_mixNets_11 (by decide) ?_
        refine pw_icmp_ge 33 dX8_mixNets_13 (by decide) (fun c_7 => ?_) (fun c_7 => ?_)
        · rw [if_pos c_7] at hs
          exact PW.sub (lv' := [(0, .ref 0), (1, .int a1), (2, .int a2)]) [0, 1, 2] rfl (hE (a2, sg) (Option.some.inj hs).symm)
        · rw [if_neg c_7] at hs
          refine pw_aload_n 0 dX8_mixNets_16 rfl rfl ?_
          refine pw_aload_n 0 dX8_mixNets_17 rfl rfl ?_
          refine pw_iload_n 1 dX8_mixNets_18 rfl rfl ?_
          refine pw_iload_n 2 dX8_mixNets_19 rfl rfl ?_
          obtain ⟨⟨r_2, sg_3⟩, hc_1, hs⟩ := Option.bind_eq_some_iff.mp hs
          replace hs := ltP_use hs
          refine pw_callVi [.int a1, .int a2] (st := [.ref 0]) dX8_mixNets_20 tM0 rfl mRX8_155 imX8_netNow seX8_netNow inRX8 coX8_netNow hyX8_netNow (by decide) (Nat.le_of_ble_eq_true rfl) (conX8_netNow hc_1) ?_
          refine pw_i2l dX8_mixNets_23 ?_
          obtain ⟨sg_6, hc_5, hs⟩ := Option.bind_eq_some_iff.mp hs
          refine pw_callVv [.long (Int32.toInt64 r_2)] (st := []) dX8_mixNets_24 tM0 rfl mRX8_211 imX8_mix seX8_mix inRX8 coX8_mix hyX8_mix (by decide) (Nat.le_of_ble_eq_true rfl) (conX8_mix hc_5) ?_
          refine pw_iinc 2 (a2 + 1) [(2, .int (a2 + 1)), (0, .ref 0), (1, .int a1)] dX8_mixNets_27 rfl rfl (Nat.le_of_ble_eq_true rfl) rfl ?_
          refine pw_goto 10 dX8_mixNets_30 (by decide) ?_
          exact PW.sub (lv' := [(0, .ref 0), (1, .int a1), (2, .int (a2 + 1))]) [1, 2, 0] rfl (hC ((a2 + 1), sg_6) (Option.some.inj hs).symm)
      · skip
        obtain ⟨a2_8, sg_9⟩ := t
        replace hs : fX8_mixNets_L2_E33 a1 a2_8 sg_9 = some oL := hs
        show PW tbM RX8 cX8_mixNets 4 none 5 116 (PoV oM) 33 [(0, .ref 0), (1, .int a1), (2, .int a2_8)] [] sg_9
        unfold fX8_mixNets_L2_E33 at hs
        refine pw_iinc 1 (a1 + 1) [(1, .int (a1 + 1)), (0, .ref 0), (2, .int a2_8)] dX8_mixNets_33 rfl rfl (Nat.le_of_ble_eq_true rfl) rfl ?_
        refine pw_goto 2 dX8_mixNets_36 (by decide) ?_
        exact PW.sub (lv' := [(0, .ref 0), (1, .int (a1 + 1))]) [1, 0] rfl (hC ((a1 + 1), sg_9) (Option.some.inj hs).symm)
  · skip
    obtain ⟨a1_11, sg_12⟩ := t
    replace hs : fX8_mixNets_E39 a1_11 sg_12 = some oM := hs
    show PW tbM RX8 cX8_mixNets 4 none 5 116 (PoV oM) 39 [(0, .ref 0), (1, .int a1_11)] [] sg_12
    unfold fX8_mixNets_E39 at hs
    refine pw_iconst (0 : Int32) dX8_mixNets_39 (by decide) ?_
    refine pw_istore_n [(1, .int (0 : Int32)), (0, .ref 0)] dX8_mixNets_40 rfl (Nat.le_of_ble_eq_true rfl) rfl ?_
    obtain ⟨t, hL, hs⟩ := Option.bind_eq_some_iff.mp hs
    refine PW.sub [1, 0] (lv' := [(0, .ref 0), (1, .int (0 : Int32))]) rfl ?_
    refine lpS_pw (T := Int32 × Sg) (X := fun t => PW tbM RX8 cX8_mixNets 4 none 5 116 (PoV oM) 41 [(0, .ref 0), (1, .int t.1)] [] t.2) (E := fun t => PW tbM RX8 cX8_mixNets 4 none 5 116 (PoV oM) 63 [(0, .ref 0), (1, .int t.1)] [] t.2) (step := (fun t => fX8_mixNets_L41 t.1 t.2)) ?_ 300 ((0 : Int32), sg_12) t hL ?_
    · intro t oL hs hE hC
      obtain ⟨a1_11, sg_12⟩ := t
      replace hs : fX8_mixNets_L41 a1_11 sg_12 = some oL := hs
      show PW tbM RX8 cX8_mixNets 4 none 5 116 (PoV oM) 41 [(0, .ref 0), (1, .int a1_11)] [] sg_12
      unfold fX8_mixNets_L41 at hs
      refine pw_iload_n 1 dX8_mixNets_41 rfl rfl ?_
      refine pw_bipush (8 : Int32) dX8_mixNets_42 (by decide) ?_
      refine pw_icmp_ge 63 dX8_mixNets_44 (by decide) (fun c_19 => ?_) (fun c_19 => ?_)
      · rw [if_pos c_19] at hs
        exact PW.sub (lv' := [(0, .ref 0), (1, .int a1_11)]) [0, 1] rfl (hE (a1_11, sg_12) (Option.some.inj hs).symm)
      · rw [if_neg c_19] at hs
        refine pw_aload_n 0 dX8_mixNets_47 rfl rfl ?_
        refine pw_aload_n 0 dX8_mixNets_48 rfl rfl ?_
        refine pw_iload_n 1 dX8_mixNets_49 rfl rfl ?_
        obtain ⟨⟨r_14, sg_15⟩, hc_13, hs⟩ := Option.bind_eq_some_iff.mp hs
        replace hs := ltP_use hs
        refine pw_callVi [.int a1_11] (st := [.ref 0]) dX8_mixNets_50 tM0 rfl mRX8_158 imX8_rankNow seX8_rankNow inRX8 coX8_rankNow hyX8_rankNow (by decide) (Nat.le_of_ble_eq_true rfl) (conX8_rankNow hc_13) ?_
        refine pw_i2l dX8_mixNets_53 ?_
        obtain ⟨sg_18, hc_17, hs⟩ := Option.bind_eq_some_iff.mp hs
        refine pw_callVv [.long (Int32.toInt64 r_14)] (st := []) dX8_mixNets_54 tM0 rfl mRX8_211 imX8_mix seX8_mix inRX8 coX8_mix hyX8_mix (by decide) (Nat.le_of_ble_eq_true rfl) (conX8_mix hc_17) ?_
        refine pw_iinc 1 (a1_11 + 1) [(1, .int (a1_11 + 1)), (0, .ref 0)] dX8_mixNets_57 rfl rfl (Nat.le_of_ble_eq_true rfl) rfl ?_
        refine pw_goto 41 dX8_mixNets_60 (by decide) ?_
        exact PW.sub (lv' := [(0, .ref 0), (1, .int (a1_11 + 1))]) [1, 0] rfl (hC ((a1_11 + 1), sg_18) (Option.some.inj hs).symm)
    · skip
      obtain ⟨a1_20, sg_21⟩ := t
      replace hs : fX8_mixNets_E63 a1_20 sg_21 = some oM := hs
      show PW tbM RX8 cX8_mixNets 4 none 5 116 (PoV oM) 63 [(0, .ref 0), (1, .int a1_20)] [] sg_21
      unfold fX8_mixNets_E63 at hs
      refine pw_aload_n 0 dX8_mixNets_63 rfl rfl ?_
      refine pw_aload_n 0 dX8_mixNets_64 rfl rfl ?_
      obtain ⟨⟨r_23, sg_24⟩, hc_22, hs⟩ := Option.bind_eq_some_iff.mp hs
      replace hs := ltP_use hs
      refine pw_callVi [] (st := [.ref 0]) dX8_mixNets_65 tM0 rfl mRX8_161 imX8_topNow seX8_topNow inRX8 coX8_topNow hyX8_topNow (by decide) (Nat.le_of_ble_eq_true rfl) (conX8_topNow hc_22) ?_
      refine pw_i2l dX8_mixNets_68 ?_
      obtain ⟨sg_27, hc_26, hs⟩ := Option.bind_eq_some_iff.mp hs
      refine pw_callVv [.long (Int32.toInt64 r_23)] (st := []) dX8_mixNets_69 tM0 rfl mRX8_211 imX8_mix seX8_mix inRX8 coX8_mix hyX8_mix (by decide) (Nat.le_of_ble_eq_true rfl) (conX8_mix hc_26) ?_
      refine pw_iconst (0 : Int32) dX8_mixNets_72 (by decide) ?_
      refine pw_istore_n [(1, .int (0 : Int32)), (0, .ref 0)] dX8_mixNets_73 rfl (Nat.le_of_ble_eq_true rfl) rfl ?_
      obtain ⟨t, hL, hs⟩ := Option.bind_eq_some_iff.mp hs
      refine PW.sub [1, 0] (lv' := [(0, .ref 0), (1, .int (0 : Int32))]) rfl ?_
      refine lpS_pw (T := Int32 × Sg) (X := fun t => PW tbM RX8 cX8_mixNets 4 none 5 116 (PoV oM) 74 [(0, .ref 0), (1, .int t.1)] [] t.2) (E := fun t => PW tbM RX8 cX8_mixNets 4 none 5 116 (PoV oM) 127 [(0, .ref 0), (1, .int t.1)] [] t.2) (step := (fun t => fX8_mixNets_L74 t.1 t.2)) ?_ 300 ((0 : Int32), sg_27) t hL ?_
      · intro t oL hs hE hC
        obtain ⟨a1_20, sg_21⟩ := t
        replace hs : fX8_mixNets_L74 a1_20 sg_21 = some oL := hs
        show PW tbM RX8 cX8_mixNets 4 none 5 116 (PoV oM) 74 [(0, .ref 0), (1, .int a1_20)] [] sg_21
        unfold fX8_mixNets_L74 at hs
        refine pw_iload_n 1 dX8_mixNets_74 rfl rfl ?_
        refine pw_bipush (8 : Int32) dX8_mixNets_75 (by decide) ?_
        refine pw_icmp_ge 127 dX8_mixNets_77 (by decide) (fun c_40 => ?_) (fun c_40 => ?_)
        · rw [if_pos c_40] at hs
          exact PW.sub (lv' := [(0, .ref 0), (1, .int a1_20)]) [0, 1] rfl (hE (a1_20, sg_21) (Option.some.inj hs).symm)
        · rw [if_neg c_40] at hs
          refine pw_iload_n 1 dX8_mixNets_80 rfl rfl ?_
          refine pw_iconst (1 : Int32) dX8_mixNets_81 (by decide) ?_
          refine pw_iadd dX8_mixNets_82 ?_
          refine pw_istore_n [(2, .int (a1_20 + (1 : Int32))), (0, .ref 0), (1, .int a1_20)] dX8_mixNets_83 rfl (Nat.le_of_ble_eq_true rfl) rfl ?_
          obtain ⟨t, hL, hs⟩ := Option.bind_eq_some_iff.mp hs
          refine PW.sub [1, 2, 0] (lv' := [(0, .ref 0), (1, .int a1_20), (2, .int (a1_20 + (1 : Int32)))]) rfl ?_
          refine lpS_pw (T := Int32 × Sg) (X := fun t => PW tbM RX8 cX8_mixNets 4 none 5 116 (PoV oM) 84 [(0, .ref 0), (1, .int a1_20), (2, .int t.1)] [] t.2) (E := fun t => PW tbM RX8 cX8_mixNets 4 none 5 116 (PoV oM) 121 [(0, .ref 0), (1, .int a1_20), (2, .int t.1)] [] t.2) (step := (fun t => fX8_mixNets_L84 a1_20 t.1 t.2)) ?_ 300 ((a1_20 + (1 : Int32)), sg_21) t hL ?_
          · intro t oL hs hE hC
            obtain ⟨a2, sg_21⟩ := t
            replace hs : fX8_mixNets_L84 a1_20 a2 sg_21 = some oL := hs
            show PW tbM RX8 cX8_mixNets 4 none 5 116 (PoV oM) 84 [(0, .ref 0), (1, .int a1_20), (2, .int a2)] [] sg_21
            unfold fX8_mixNets_L84 at hs
            refine pw_iload_n 2 dX8_mixNets_84 rfl rfl ?_
            refine pw_bipush (8 : Int32) dX8_mixNets_85 (by decide) ?_
            refine pw_icmp_ge 121 dX8_mixNets_87 (by decide) (fun c_37 => ?_) (fun c_37 => ?_)
            · rw [if_pos c_37] at hs
              exact PW.sub (lv' := [(0, .ref 0), (1, .int a1_20), (2, .int a2)]) [0, 1, 2] rfl (hE (a2, sg_21) (Option.some.inj hs).symm)
            · rw [if_neg c_37] at hs
              refine pw_iconst (0 : Int32) dX8_mixNets_90 (by decide) ?_
              refine pw_istore_n [(3, .int (0 : Int32)), (0, .ref 0), (1, .int a1_20), (2, .int a2)] dX8_mixNets_91 rfl (Nat.le_of_ble_eq_true rfl) rfl ?_
              obtain ⟨t, hL, hs⟩ := Option.bind_eq_some_iff.mp hs
              refine PW.sub [1, 2, 3, 0] (lv' := [(0, .ref 0), (1, .int a1_20), (2, .int a2), (3, .int (0 : Int32))]) rfl ?_
              refine lpS_pw (T := Int32 × Sg) (X := fun t => PW tbM RX8 cX8_mixNets 4 none 5 116 (PoV oM) 92 [(0, .ref 0), (1, .int a1_20), (2, .int a2), (3, .int t.1)] [] t.2) (E := fun t => PW tbM RX8 cX8_mixNets 4 none 5 116 (PoV oM) 115 [(0, .ref 0), (1, .int a1_20), (2, .int a2), (3, .int t.1)] [] t.2) (step := (fun t => fX8_mixNets_L92 a1_20 a2 t.1 t.2)) ?_ 300 ((0 : Int32), sg_21) t hL ?_
              · intro t oL hs hE hC
                obtain ⟨a3, sg_21⟩ := t
                replace hs : fX8_mixNets_L92 a1_20 a2 a3 sg_21 = some oL := hs
                show PW tbM RX8 cX8_mixNets 4 none 5 116 (PoV oM) 92 [(0, .ref 0), (1, .int a1_20), (2, .int a2), (3, .int a3)] [] sg_21
                unfold fX8_mixNets_L92 at hs
                refine pw_iload_n 3 dX8_mixNets_92 rfl rfl ?_
                refine pw_iconst (5 : Int32) dX8_mixNets_93 (by decide) ?_
                refine pw_icmp_ge 115 dX8_mixNets_94 (by decide) (fun c_34 => ?_) (fun c_34 => ?_)
                · rw [if_pos c_34] at hs
                  exact PW.sub (lv' := [(0, .ref 0), (1, .int a1_20), (2, .int a2), (3, .int a3)]) [0, 1, 2, 3] rfl (hE (a3, sg_21) (Option.some.inj hs).symm)
                · rw [if_neg c_34] at hs
                  refine pw_aload_n 0 dX8_mixNets_97 rfl rfl ?_
                  refine pw_aload_n 0 dX8_mixNets_98 rfl rfl ?_
                  refine pw_iload_n 1 dX8_mixNets_99 rfl rfl ?_
                  refine pw_iload_n 2 dX8_mixNets_100 rfl rfl ?_
                  refine pw_iload_n 3 dX8_mixNets_101 rfl rfl ?_
                  obtain ⟨⟨r_29, sg_30⟩, hc_28, hs⟩ := Option.bind_eq_some_iff.mp hs
                  replace hs := ltP_use hs
                  refine pw_callVi [.int a1_20, .int a2, .int a3] (st := [.ref 0]) dX8_mixNets_102 tM0 rfl mRX8_164 imX8_linkNow seX8_linkNow inRX8 coX8_linkNow hyX8_linkNow (by decide) (Nat.le_of_ble_eq_true rfl) (conX8_linkNow hc_28) ?_
                  refine pw_i2l dX8_mixNets_105 ?_
                  obtain ⟨sg_33, hc_32, hs⟩ := Option.bind_eq_some_iff.mp hs
                  refine pw_callVv [.long (Int32.toInt64 r_29)] (st := []) dX8_mixNets_106 tM0 rfl mRX8_211 imX8_mix seX8_mix inRX8 coX8_mix hyX8_mix (by decide) (Nat.le_of_ble_eq_true rfl) (conX8_mix hc_32) ?_
                  refine pw_iinc 3 (a3 + 1) [(3, .int (a3 + 1)), (0, .ref 0), (1, .int a1_20), (2, .int a2)] dX8_mixNets_109 rfl rfl (Nat.le_of_ble_eq_true rfl) rfl ?_
                  refine pw_goto 92 dX8_mixNets_112 (by decide) ?_
                  exact PW.sub (lv' := [(0, .ref 0), (1, .int a1_20), (2, .int a2), (3, .int (a3 + 1))]) [1, 2, 3, 0] rfl (hC ((a3 + 1), sg_33) (Option.some.inj hs).symm)
              · skip
                obtain ⟨a3_35, sg_36⟩ := t
                replace hs : fX8_mixNets_L84_E115 a1_20 a2 a3_35 sg_36 = some oL := hs
                show PW tbM RX8 cX8_mixNets 4 none 5 116 (PoV oM) 115 [(0, .ref 0), (1, .int a1_20), (2, .int a2), (3, .int a3_35)] [] sg_36
                unfold fX8_mixNets_L84_E115 at hs
                refine pw_iinc 2 (a2 + 1) [(2, .int (a2 + 1)), (0, .ref 0), (1, .int a1_20), (3, .int a3_35)] dX8_mixNets_115 rfl rfl (Nat.le_of_ble_eq_true rfl) rfl ?_
                refine pw_goto 84 dX8_mixNets_118 (by decide) ?_
                exact PW.sub (lv' := [(0, .ref 0), (1, .int a1_20), (2, .int (a2 + 1))]) [1, 2, 0] rfl (hC ((a2 + 1), sg_36) (Option.some.inj hs).symm)
          · skip
            obtain ⟨a2_38, sg_39⟩ := t
            replace hs : fX8_mixNets_L74_E121 a1_20 a2_38 sg_39 = some oL := hs
            show PW tbM RX8 cX8_mixNets 4 none 5 116 (PoV oM) 121 [(0, .ref 0), (1, .int a1_20), (2, .int a2_38)] [] sg_39
            unfold fX8_mixNets_L74_E121 at hs
            refine pw_iinc 1 (a1_20 + 1) [(1, .int (a1_20 + 1)), (0, .ref 0), (2, .int a2_38)] dX8_mixNets_121 rfl rfl (Nat.le_of_ble_eq_true rfl) rfl ?_
            refine pw_goto 74 dX8_mixNets_124 (by decide) ?_
            exact PW.sub (lv' := [(0, .ref 0), (1, .int (a1_20 + 1))]) [1, 0] rfl (hC ((a1_20 + 1), sg_39) (Option.some.inj hs).symm)
      · skip
        obtain ⟨a1_41, sg_42⟩ := t
        replace hs : fX8_mixNets_E127 a1_41 sg_42 = some oM := hs
        show PW tbM RX8 cX8_mixNets 4 none 5 116 (PoV oM) 127 [(0, .ref 0), (1, .int a1_41)] [] sg_42
        unfold fX8_mixNets_E127 at hs
        refine pw_iconst (0 : Int32) dX8_mixNets_127 (by decide) ?_
        refine pw_istore_n [(1, .int (0 : Int32)), (0, .ref 0)] dX8_mixNets_128 rfl (Nat.le_of_ble_eq_true rfl) rfl ?_
        obtain ⟨t, hL, hs⟩ := Option.bind_eq_some_iff.mp hs
        refine PW.sub [1, 0] (lv' := [(0, .ref 0), (1, .int (0 : Int32))]) rfl ?_
        refine lpS_pw (T := Int32 × Sg) (X := fun t => PW tbM RX8 cX8_mixNets 4 none 5 116 (PoV oM) 129 [(0, .ref 0), (1, .int t.1)] [] t.2) (E := fun t => PW tbM RX8 cX8_mixNets 4 none 5 116 (PoV oM) 159 [(0, .ref 0), (1, .int t.1)] [] t.2) (step := (fun t => fX8_mixNets_L129 t.1 t.2)) ?_ 300 ((0 : Int32), sg_42) t hL ?_
        · intro t oL hs hE hC
          obtain ⟨a1_41, sg_42⟩ := t
          replace hs : fX8_mixNets_L129 a1_41 sg_42 = some oL := hs
          show PW tbM RX8 cX8_mixNets 4 none 5 116 (PoV oM) 129 [(0, .ref 0), (1, .int a1_41)] [] sg_42
          unfold fX8_mixNets_L129 at hs
          refine pw_iload_n 1 dX8_mixNets_129 rfl rfl ?_
          refine pw_bipush (64 : Int32) dX8_mixNets_130 (by decide) ?_
          refine pw_icmp_ge 159 dX8_mixNets_132 (by decide) (fun c_49 => ?_) (fun c_49 => ?_)
          · rw [if_pos c_49] at hs
            exact PW.sub (lv' := [(0, .ref 0), (1, .int a1_41)]) [0, 1] rfl (hE (a1_41, sg_42) (Option.some.inj hs).symm)
          · rw [if_neg c_49] at hs
            refine pw_aload_n 0 dX8_mixNets_135 rfl rfl ?_
            refine pw_aload_n 0 dX8_mixNets_136 rfl rfl ?_
            refine pw_iload_n 1 dX8_mixNets_137 rfl rfl ?_
            refine pw_bipush (8 : Int32) dX8_mixNets_138 (by decide) ?_
            refine pw_idiv dX8_mixNets_140 (by decide) ?_
            refine pw_iload_n 1 dX8_mixNets_141 rfl rfl ?_
            refine pw_bipush (8 : Int32) dX8_mixNets_142 (by decide) ?_
            refine pw_irem dX8_mixNets_144 (by decide) ?_
            refine pw_iconst (0 : Int32) dX8_mixNets_145 (by decide) ?_
            obtain ⟨⟨r_44, sg_45⟩, hc_43, hs⟩ := Option.bind_eq_some_iff.mp hs
            replace hs := ltP_use hs
            refine pw_callVi [.int (a1_41 / (8 : Int32)), .int (a1_41 - a1_41 / (8 : Int32) * (8 : Int32)), .int (0 : Int32)] (st := [.ref 0]) dX8_mixNets_146 tM0 rfl mRX8_193 imX8_nearNow seX8_nearNow inRX8 coX8_nearNow hyX8_nearNow (by decide) (Nat.le_of_ble_eq_true rfl) (conX8_nearNow hc_43) ?_
            refine pw_i2l dX8_mixNets_149 ?_
            obtain ⟨sg_48, hc_47, hs⟩ := Option.bind_eq_some_iff.mp hs
            refine pw_callVv [.long (Int32.toInt64 r_44)] (st := []) dX8_mixNets_150 tM0 rfl mRX8_211 imX8_mix seX8_mix inRX8 coX8_mix hyX8_mix (by decide) (Nat.le_of_ble_eq_true rfl) (conX8_mix hc_47) ?_
            refine pw_iinc 1 (a1_41 + 1) [(1, .int (a1_41 + 1)), (0, .ref 0)] dX8_mixNets_153 rfl rfl (Nat.le_of_ble_eq_true rfl) rfl ?_
            refine pw_goto 129 dX8_mixNets_156 (by decide) ?_
            exact PW.sub (lv' := [(0, .ref 0), (1, .int (a1_41 + 1))]) [1, 0] rfl (hC ((a1_41 + 1), sg_48) (Option.some.inj hs).symm)
        · skip
          obtain ⟨a1_50, sg_51⟩ := t
          replace hs : fX8_mixNets_E159 a1_50 sg_51 = some oM := hs
          show PW tbM RX8 cX8_mixNets 4 none 5 116 (PoV oM) 159 [(0, .ref 0), (1, .int a1_50)] [] sg_51
          unfold fX8_mixNets_E159 at hs
          have hr := Option.some.inj hs
          exact pw_return dX8_mixNets_159 rfl ⟨rfl, hr⟩
set_option maxRecDepth 100000 in
set_option maxHeartbeats 400000 in
theorem conX8_digest {sg : Sg}  {oM : Int64 × Sg} (h : fX8_digest  sg = some oM) : Con tbM yX8_digest cX8_digest 3 (some .long) 6 139 [.ref 0] sg (PoL oM.1 oM.2) := by
  refine Con.of (by decide) (Nat.le_of_ble_eq_true rfl) ?_
  show PW tbM RX8 cX8_digest 3 (some .long) 6 139 (PoL oM.1 oM.2) 0 [(0, .ref 0)] [] sg
  have hs := h
  unfold fX8_digest at hs
  refine pw_aload_n 0 dX8_digest_0 rfl rfl ?_
  refine pw_ldc2 dX8_digest_1 kRX8_215 ?_
  refine pw_putl 24 (fty := .long) dX8_digest_4 clRX8 tM0 (Nat.le_of_ble_eq_true rfl) fRX8_207 rfl rfl (by decide +kernel) rfl rfl ?_
  refine pw_sg (fun sg_1 e_sg_1 => ?_)
  replace hs := lt_use hs e_sg_1
  refine pw_aload_n 0 dX8_digest_7 rfl rfl ?_
  obtain ⟨sg_3, hc_2, hs⟩ := Option.bind_eq_some_iff.mp hs
  refine pw_callVv [] (st := []) dX8_digest_8 tM0 rfl mRX8_217 imX8_mixNets seX8_mixNets inRX8 coX8_mixNets hyX8_mixNets (by decide) (Nat.le_of_ble_eq_true rfl) (conX8_mixNets hc_2) ?_
  refine pw_iconst (0 : Int32) dX8_digest_11 (by decide) ?_
  refine pw_istore_n [(1, .int (0 : Int32)), (0, .ref 0)] dX8_digest_12 rfl (Nat.le_of_ble_eq_true rfl) rfl ?_
  obtain ⟨t, hL, hs⟩ := Option.bind_eq_some_iff.mp hs
  refine PW.sub [1, 0] (lv' := [(0, .ref 0), (1, .int (0 : Int32))]) rfl ?_
  refine lpS_pw (T := Int32 × Sg) (X := fun t => PW tbM RX8 cX8_digest 3 (some .long) 6 139 (PoL oM.1 oM.2) 13 [(0, .ref 0), (1, .int t.1)] [] t.2) (E := fun t => PW tbM RX8 cX8_digest 3 (some .long) 6 139 (PoL oM.1 oM.2) 34 [(0, .ref 0), (1, .int t.1)] [] t.2) (step := (fun t => fX8_digest_L13 t.1 t.2)) ?_ 300 ((0 : Int32), sg_3) t hL ?_
  · intro t oL hs hE hC
    obtain ⟨a1, sg⟩ := t
    replace hs : fX8_digest_L13 a1 sg = some oL := hs
    show PW tbM RX8 cX8_digest 3 (some .long) 6 139 (PoL oM.1 oM.2) 13 [(0, .ref 0), (1, .int a1)] [] sg
    unfold fX8_digest_L13 at hs
    refine pw_iload_n 1 dX8_digest_13 rfl rfl ?_
    refine pw_iconst (4 : Int32) dX8_digest_14 (by decide) ?_
    refine pw_icmp_ge 34 dX8_digest_15 (by decide) (fun c_10 => ?_) (fun c_10 => ?_)
    · rw [if_pos c_10] at hs
      exact PW.sub (lv' := [(0, .ref 0), (1, .int a1)]) [0, 1] rfl (hE (a1, sg) (Option.some.inj hs).symm)
    · rw [if_neg c_10] at hs
      refine pw_aload_n 0 dX8_digest_18 rfl rfl ?_
      refine pw_aload_n 0 dX8_digest_19 rfl rfl ?_
      refine pw_iload_n 1 dX8_digest_20 rfl rfl ?_
      obtain ⟨⟨r_5, sg_6⟩, hc_4, hs⟩ := Option.bind_eq_some_iff.mp hs
      replace hs := ltP_use hs
      refine pw_callVi [.int a1] (st := [.ref 0]) dX8_digest_21 tM0 rfl mRX8_171 imX8_contradictedNow seX8_contradictedNow inRX8 coX8_contradictedNow hyX8_contradictedNow (by decide) (Nat.le_of_ble_eq_true rfl) (conX8_contradictedNow hc_4) ?_
      refine pw_i2l dX8_digest_24 ?_
      obtain ⟨sg_9, hc_8, hs⟩ := Option.bind_eq_some_iff.mp hs
      refine pw_callVv [.long (Int32.toInt64 r_5)] (st := []) dX8_digest_25 tM0 rfl mRX8_211 imX8_mix seX8_mix inRX8 coX8_mix hyX8_mix (by decide) (Nat.le_of_ble_eq_true rfl) (conX8_mix hc_8) ?_
      refine pw_iinc 1 (a1 + 1) [(1, .int (a1 + 1)), (0, .ref 0)] dX8_digest_28 rfl rfl (Nat.le_of_ble_eq_true rfl) rfl ?_
      refine pw_goto 13 dX8_digest_31 (by decide) ?_
      exact PW.sub (lv' := [(0, .ref 0), (1, .int (a1 + 1))]) [1, 0] rfl (hC ((a1 + 1), sg_9) (Option.some.inj hs).symm)
  · skip
    obtain ⟨a1_11, sg_12⟩ := t
    replace hs : fX8_digest_E34 a1_11 sg_12 = some oM := hs
    show PW tbM RX8 cX8_digest 3 (some .long) 6 139 (PoL oM.1 oM.2) 34 [(0, .ref 0), (1, .int a1_11)] [] sg_12
    unfold fX8_digest_E34 at hs
    refine pw_iconst (0 : Int32) dX8_digest_34 (by decide) ?_
    refine pw_istore_n [(1, .int (0 : Int32)), (0, .ref 0)] dX8_digest_35 rfl (Nat.le_of_ble_eq_true rfl) rfl ?_
    obtain ⟨t, hL, hs⟩ := Option.bind_eq_some_iff.mp hs
    refine PW.sub [1, 0] (lv' := [(0, .ref 0), (1, .int (0 : Int32))]) rfl ?_
    refine lpS_pw (T := Int32 × Sg) (X := fun t => PW tbM RX8 cX8_digest 3 (some .long) 6 139 (PoL oM.1 oM.2) 36 [(0, .ref 0), (1, .int t.1)] [] t.2) (E := fun t => PW tbM RX8 cX8_digest 3 (some .long) 6 139 (PoL oM.1 oM.2) 74 [(0, .ref 0), (1, .int t.1)] [] t.2) (step := (fun t => fX8_digest_L36 t.1 t.2)) ?_ 300 ((0 : Int32), sg_12) t hL ?_
    · intro t oL hs hE hC
      obtain ⟨a1_11, sg_12⟩ := t
      replace hs : fX8_digest_L36 a1_11 sg_12 = some oL := hs
      show PW tbM RX8 cX8_digest 3 (some .long) 6 139 (PoL oM.1 oM.2) 36 [(0, .ref 0), (1, .int a1_11)] [] sg_12
      unfold fX8_digest_L36 at hs
      refine pw_iload_n 1 dX8_digest_36 rfl rfl ?_
      refine pw_aload_n 0 dX8_digest_37 rfl rfl ?_
      refine pw_geti 2 dX8_digest_38 clRX8 tM0 (Nat.le_of_ble_eq_true rfl) fRX8_75 rfl ?_
      refine pw_icmp_ge 74 dX8_digest_41 (by decide) (fun c_22 => ?_) (fun c_22 => ?_)
      · rw [if_pos c_22] at hs
        exact PW.sub (lv' := [(0, .ref 0), (1, .int a1_11)]) [0, 1] rfl (hE (a1_11, sg_12) (Option.some.inj hs).symm)
      · rw [if_neg c_22] at hs
        refine pw_iconst (0 : Int32) dX8_digest_44 (by decide) ?_
        refine pw_istore_n [(2, .int (0 : Int32)), (0, .ref 0), (1, .int a1_11)] dX8_digest_45 rfl (Nat.le_of_ble_eq_true rfl) rfl ?_
        obtain ⟨t, hL, hs⟩ := Option.bind_eq_some_iff.mp hs
        refine PW.sub [1, 2, 0] (lv' := [(0, .ref 0), (1, .int a1_11), (2, .int (0 : Int32))]) rfl ?_
        refine lpS_pw (T := Int32 × Sg) (X := fun t => PW tbM RX8 cX8_digest 3 (some .long) 6 139 (PoL oM.1 oM.2) 46 [(0, .ref 0), (1, .int a1_11), (2, .int t.1)] [] t.2) (E := fun t => PW tbM RX8 cX8_digest 3 (some .long) 6 139 (PoL oM.1 oM.2) 68 [(0, .ref 0), (1, .int a1_11), (2, .int t.1)] [] t.2) (step := (fun t => fX8_digest_L46 a1_11 t.1 t.2)) ?_ 300 ((0 : Int32), sg_12) t hL ?_
        · intro t oL hs hE hC
          obtain ⟨a2, sg_12⟩ := t
          replace hs : fX8_digest_L46 a1_11 a2 sg_12 = some oL := hs
          show PW tbM RX8 cX8_digest 3 (some .long) 6 139 (PoL oM.1 oM.2) 46 [(0, .ref 0), (1, .int a1_11), (2, .int a2)] [] sg_12
          unfold fX8_digest_L46 at hs
          refine pw_iload_n 2 dX8_digest_46 rfl rfl ?_
          refine pw_iconst (3 : Int32) dX8_digest_47 (by decide) ?_
          refine pw_icmp_ge 68 dX8_digest_48 (by decide) (fun c_19 => ?_) (fun c_19 => ?_)
          · rw [if_pos c_19] at hs
            exact PW.sub (lv' := [(0, .ref 0), (1, .int a1_11), (2, .int a2)]) [0, 1, 2] rfl (hE (a2, sg_12) (Option.some.inj hs).symm)
          · rw [if_neg c_19] at hs
            refine pw_aload_n 0 dX8_digest_51 rfl rfl ?_
            refine pw_aload_n 0 dX8_digest_52 rfl rfl ?_
            refine pw_iload_n 1 dX8_digest_53 rfl rfl ?_
            refine pw_iload_n 2 dX8_digest_54 rfl rfl ?_
            obtain ⟨⟨r_14, sg_15⟩, hc_13, hs⟩ := Option.bind_eq_some_iff.mp hs
            replace hs := ltP_use hs
            refine pw_callVi [.int a1_11, .int a2] (st := [.ref 0]) dX8_digest_55 tM0 rfl mRX8_183 imX8_seenNow seX8_seenNow inRX8 coX8_seenNow hyX8_seenNow (by decide) (Nat.le_of_ble_eq_true rfl) (conX8_seenNow hc_13) ?_
            refine pw_i2l dX8_digest_58 ?_
            obtain ⟨sg_18, hc_17, hs⟩ := Option.bind_eq_some_iff.mp hs
            refine pw_callVv [.long (Int32.toInt64 r_14)] (st := []) dX8_digest_59 tM0 rfl mRX8_211 imX8_mix seX8_mix inRX8 coX8_mix hyX8_mix (by decide) (Nat.le_of_ble_eq_true rfl) (conX8_mix hc_17) ?_
            refine pw_iinc 2 (a2 + 1) [(2, .int (a2 + 1)), (0, .ref 0), (1, .int a1_11)] dX8_digest_62 rfl rfl (Nat.le_of_ble_eq_true rfl) rfl ?_
            refine pw_goto 46 dX8_digest_65 (by decide) ?_
            exact PW.sub (lv' := [(0, .ref 0), (1, .int a1_11), (2, .int (a2 + 1))]) [1, 2, 0] rfl (hC ((a2 + 1), sg_18) (Option.some.inj hs).symm)
        · skip
          obtain ⟨a2_20, sg_21⟩ := t
          replace hs : fX8_digest_L36_E68 a1_11 a2_20 sg_21 = some oL := hs
          show PW tbM RX8 cX8_digest 3 (some .long) 6 139 (PoL oM.1 oM.2) 68 [(0, .ref 0), (1, .int a1_11), (2, .int a2_20)] [] sg_21
          unfold fX8_digest_L36_E68 at hs
          refine pw_iinc 1 (a1_11 + 1) [(1, .int (a1_11 + 1)), (0, .ref 0), (2, .int a2_20)] dX8_digest_68 rfl rfl (Nat.le_of_ble_eq_true rfl) rfl ?_
          refine pw_goto 36 dX8_digest_71 (by decide) ?_
          exact PW.sub (lv' := [(0, .ref 0), (1, .int (a1_11 + 1))]) [1, 0] rfl (hC ((a1_11 + 1), sg_21) (Option.some.inj hs).symm)
    · skip
      obtain ⟨a1_23, sg_24⟩ := t
      replace hs : fX8_digest_E74 a1_23 sg_24 = some oM := hs
      show PW tbM RX8 cX8_digest 3 (some .long) 6 139 (PoL oM.1 oM.2) 74 [(0, .ref 0), (1, .int a1_23)] [] sg_24
      unfold fX8_digest_E74 at hs
      refine pw_iconst (0 : Int32) dX8_digest_74 (by decide) ?_
      refine pw_istore_n [(1, .int (0 : Int32)), (0, .ref 0)] dX8_digest_75 rfl (Nat.le_of_ble_eq_true rfl) rfl ?_
      obtain ⟨t, hL, hs⟩ := Option.bind_eq_some_iff.mp hs
      refine PW.sub [1, 0] (lv' := [(0, .ref 0), (1, .int (0 : Int32))]) rfl ?_
      refine lpS_pw (T := Int32 × Sg) (X := fun t => PW tbM RX8 cX8_digest 3 (some .long) 6 139 (PoL oM.1 oM.2) 76 [(0, .ref 0), (1, .int t.1)] [] t.2) (E := fun t => PW tbM RX8 cX8_digest 3 (some .long) 6 139 (PoL oM.1 oM.2) 101 [(0, .ref 0), (1, .int t.1)] [] t.2) (step := (fun t => fX8_digest_L76 t.1 t.2)) ?_ 300 ((0 : Int32), sg_24) t hL ?_
      · intro t oL hs hE hC
        obtain ⟨a1_23, sg_24⟩ := t
        replace hs : fX8_digest_L76 a1_23 sg_24 = some oL := hs
        show PW tbM RX8 cX8_digest 3 (some .long) 6 139 (PoL oM.1 oM.2) 76 [(0, .ref 0), (1, .int a1_23)] [] sg_24
        unfold fX8_digest_L76 at hs
        refine pw_iload_n 1 dX8_digest_76 rfl rfl ?_
        refine pw_aload_n 0 dX8_digest_77 rfl rfl ?_
        refine pw_geti 0 dX8_digest_78 clRX8 tM0 (Nat.le_of_ble_eq_true rfl) fRX8_59 rfl ?_
        refine pw_icmp_ge 101 dX8_digest_81 (by decide) (fun c_28 => ?_) (fun c_28 => ?_)
        · rw [if_pos c_28] at hs
          exact PW.sub (lv' := [(0, .ref 0), (1, .int a1_23)]) [0, 1] rfl (hE (a1_23, sg_24) (Option.some.inj hs).symm)
        · rw [if_neg c_28] at hs
          refine pw_aload_n 0 dX8_digest_84 rfl rfl ?_
          refine pw_aload_n 0 dX8_digest_85 rfl rfl ?_
          refine pw_getr 1 dX8_digest_86 clRX8 tM0 (Nat.le_of_ble_eq_true rfl) fRX8_7 rfl ?_
          refine pw_iload_n 1 dX8_digest_89 rfl rfl ?_
          obtain ⟨h_25, hs⟩ := gd_some hs
          refine pw_iaload dX8_digest_90 tM1 (inb_in h_25) ?_
          refine pw_i2l dX8_digest_91 ?_
          obtain ⟨sg_27, hc_26, hs⟩ := Option.bind_eq_some_iff.mp hs
          refine pw_callVv [.long (Int32.toInt64 (rd sg_24 1 (Int32.toNatClampNeg a1_23)))] (st := []) dX8_digest_92 tM0 rfl mRX8_211 imX8_mix seX8_mix inRX8 coX8_mix hyX8_mix (by decide) (Nat.le_of_ble_eq_true rfl) (conX8_mix hc_26) ?_
          refine pw_iinc 1 (a1_23 + 1) [(1, .int (a1_23 + 1)), (0, .ref 0)] dX8_digest_95 rfl rfl (Nat.le_of_ble_eq_true rfl) rfl ?_
          refine pw_goto 76 dX8_digest_98 (by decide) ?_
          exact PW.sub (lv' := [(0, .ref 0), (1, .int (a1_23 + 1))]) [1, 0] rfl (hC ((a1_23 + 1), sg_27) (Option.some.inj hs).symm)
      · skip
        obtain ⟨a1_29, sg_30⟩ := t
        replace hs : fX8_digest_E101 a1_29 sg_30 = some oM := hs
        show PW tbM RX8 cX8_digest 3 (some .long) 6 139 (PoL oM.1 oM.2) 101 [(0, .ref 0), (1, .int a1_29)] [] sg_30
        unfold fX8_digest_E101 at hs
        refine pw_iconst (0 : Int32) dX8_digest_101 (by decide) ?_
        refine pw_istore_n [(1, .int (0 : Int32)), (0, .ref 0)] dX8_digest_102 rfl (Nat.le_of_ble_eq_true rfl) rfl ?_
        obtain ⟨t, hL, hs⟩ := Option.bind_eq_some_iff.mp hs
        refine PW.sub [1, 0] (lv' := [(0, .ref 0), (1, .int (0 : Int32))]) rfl ?_
        refine lpS_pw (T := Int32 × Sg) (X := fun t => PW tbM RX8 cX8_digest 3 (some .long) 6 139 (PoL oM.1 oM.2) 103 [(0, .ref 0), (1, .int t.1)] [] t.2) (E := fun t => PW tbM RX8 cX8_digest 3 (some .long) 6 139 (PoL oM.1 oM.2) 125 [(0, .ref 0), (1, .int t.1)] [] t.2) (step := (fun t => fX8_digest_L103 t.1 t.2)) ?_ 300 ((0 : Int32), sg_30) t hL ?_
        · intro t oL hs hE hC
          obtain ⟨a1_29, sg_30⟩ := t
          replace hs : fX8_digest_L103 a1_29 sg_30 = some oL := hs
          show PW tbM RX8 cX8_digest 3 (some .long) 6 139 (PoL oM.1 oM.2) 103 [(0, .ref 0), (1, .int a1_29)] [] sg_30
          unfold fX8_digest_L103 at hs
          refine pw_iload_n 1 dX8_digest_103 rfl rfl ?_
          refine pw_bipush (12 : Int32) dX8_digest_104 (by decide) ?_
          refine pw_icmp_ge 125 dX8_digest_106 (by decide) (fun c_37 => ?_) (fun c_37 => ?_)
          · rw [if_pos c_37] at hs
            exact PW.sub (lv' := [(0, .ref 0), (1, .int a1_29)]) [0, 1] rfl (hE (a1_29, sg_30) (Option.some.inj hs).symm)
          · rw [if_neg c_37] at hs
            refine pw_aload_n 0 dX8_digest_109 rfl rfl ?_
            refine pw_aload_n 0 dX8_digest_110 rfl rfl ?_
            refine pw_iload_n 1 dX8_digest_111 rfl rfl ?_
            obtain ⟨⟨r_32, sg_33⟩, hc_31, hs⟩ := Option.bind_eq_some_iff.mp hs
            replace hs := ltP_use hs
            refine pw_callVi [.int a1_29] (st := [.ref 0]) dX8_digest_112 tM0 rfl mRX8_202 imX8_howMany seX8_howMany inRX8 coX8_howMany hyX8_howMany (by decide) (Nat.le_of_ble_eq_true rfl) (conX8_howMany hc_31) ?_
            refine pw_i2l dX8_digest_115 ?_
            obtain ⟨sg_36, hc_35, hs⟩ := Option.bind_eq_some_iff.mp hs
            refine pw_callVv [.long (Int32.toInt64 r_32)] (st := []) dX8_digest_116 tM0 rfl mRX8_211 imX8_mix seX8_mix inRX8 coX8_mix hyX8_mix (by decide) (Nat.le_of_ble_eq_true rfl) (conX8_mix hc_35) ?_
            refine pw_iinc 1 (a1_29 + 1) [(1, .int (a1_29 + 1)), (0, .ref 0)] dX8_digest_119 rfl rfl (Nat.le_of_ble_eq_true rfl) rfl ?_
            refine pw_goto 103 dX8_digest_122 (by decide) ?_
            exact PW.sub (lv' := [(0, .ref 0), (1, .int (a1_29 + 1))]) [1, 0] rfl (hC ((a1_29 + 1), sg_36) (Option.some.inj hs).symm)
        · skip
          obtain ⟨a1_38, sg_39⟩ := t
          replace hs : fX8_digest_E125 a1_38 sg_39 = some oM := hs
          show PW tbM RX8 cX8_digest 3 (some .long) 6 139 (PoL oM.1 oM.2) 125 [(0, .ref 0), (1, .int a1_38)] [] sg_39
          unfold fX8_digest_E125 at hs
          refine pw_aload_n 0 dX8_digest_125 rfl rfl ?_
          refine pw_getl 24 dX8_digest_126 clRX8 tM0 (Nat.le_of_ble_eq_true rfl) fRX8_207 rfl ?_
          have hr := Option.some.inj hs
          exact pw_lreturn dX8_digest_129 rfl ⟨by rw [← hr], by rw [← hr]⟩
set_option maxRecDepth 100000 in
set_option maxHeartbeats 400000 in
theorem conJ6_bitCount_0f7a4 {tab : Tb} {sg : Sg} {a0 : Int32} {oM : Int32} (h : fJ6_bitCount_0f7a4 a0 = some oM) : Con tab yJ6_bitCount_0f7a4 cJ6_bitCount_0f7a4 1 (some .int) 0 0 [.int a0] sg (PoI oM sg) := by
  refine Con.of (by decide) (Nat.le_of_ble_eq_true rfl) ?_
  show PW tab RJ6 cJ6_bitCount_0f7a4 1 (some .int) 0 0 (PoI oM sg) 0 [(0, .int a0)] [] sg
  have hs := h
  unfold fJ6_bitCount_0f7a4 at hs
  refine pw_iload_n 0 dJ6_bitCount_0f7a4_0 rfl rfl ?_
  refine pw_iload_n 0 dJ6_bitCount_0f7a4_1 rfl rfl ?_
  refine pw_iconst (1 : Int32) dJ6_bitCount_0f7a4_2 (by decide) ?_
  refine pw_iushr dJ6_bitCount_0f7a4_3 ?_
  refine pw_ldcw dJ6_bitCount_0f7a4_4 kRJ6_265 ?_
  refine pw_iand dJ6_bitCount_0f7a4_7 ?_
  refine pw_isub dJ6_bitCount_0f7a4_8 ?_
  refine pw_topi (fun a0_1 e_a0_1 => ?_)
  replace hs := lt_use hs e_a0_1
  refine pw_istore_n [(0, .int a0_1)] dJ6_bitCount_0f7a4_9 rfl (Nat.le_of_ble_eq_true rfl) rfl ?_
  refine pw_iload_n 0 dJ6_bitCount_0f7a4_10 rfl rfl ?_
  refine pw_ldcw dJ6_bitCount_0f7a4_11 kRJ6_266 ?_
  refine pw_iand dJ6_bitCount_0f7a4_14 ?_
  refine pw_iload_n 0 dJ6_bitCount_0f7a4_15 rfl rfl ?_
  refine pw_iconst (2 : Int32) dJ6_bitCount_0f7a4_16 (by decide) ?_
  refine pw_iushr dJ6_bitCount_0f7a4_17 ?_
  refine pw_ldcw dJ6_bitCount_0f7a4_18 kRJ6_266 ?_
  refine pw_iand dJ6_bitCount_0f7a4_21 ?_
  refine pw_iadd dJ6_bitCount_0f7a4_22 ?_
  refine pw_topi (fun a0_2 e_a0_2 => ?_)
  replace hs := lt_use hs e_a0_2
  refine pw_istore_n [(0, .int a0_2)] dJ6_bitCount_0f7a4_23 rfl (Nat.le_of_ble_eq_true rfl) rfl ?_
  refine pw_iload_n 0 dJ6_bitCount_0f7a4_24 rfl rfl ?_
  refine pw_iload_n 0 dJ6_bitCount_0f7a4_25 rfl rfl ?_
  refine pw_iconst (4 : Int32) dJ6_bitCount_0f7a4_26 (by decide) ?_
  refine pw_iushr dJ6_bitCount_0f7a4_27 ?_
  refine pw_iadd dJ6_bitCount_0f7a4_28 ?_
  refine pw_ldcw dJ6_bitCount_0f7a4_29 kRJ6_267 ?_
  refine pw_iand dJ6_bitCount_0f7a4_32 ?_
  refine pw_topi (fun a0_3 e_a0_3 => ?_)
  replace hs := lt_use hs e_a0_3
  refine pw_istore_n [(0, .int a0_3)] dJ6_bitCount_0f7a4_33 rfl (Nat.le_of_ble_eq_true rfl) rfl ?_
  refine pw_iload_n 0 dJ6_bitCount_0f7a4_34 rfl rfl ?_
  refine pw_iload_n 0 dJ6_bitCount_0f7a4_35 rfl rfl ?_
  refine pw_bipush (8 : Int32) dJ6_bitCount_0f7a4_36 (by decide) ?_
  refine pw_iushr dJ6_bitCount_0f7a4_38 ?_
  refine pw_iadd dJ6_bitCount_0f7a4_39 ?_
  refine pw_topi (fun a0_4 e_a0_4 => ?_)
  replace hs := lt_use hs e_a0_4
  refine pw_istore_n [(0, .int a0_4)] dJ6_bitCount_0f7a4_40 rfl (Nat.le_of_ble_eq_true rfl) rfl ?_
  refine pw_iload_n 0 dJ6_bitCount_0f7a4_41 rfl rfl ?_
  refine pw_iload_n 0 dJ6_bitCount_0f7a4_42 rfl rfl ?_
  refine pw_bipush (16 : Int32) dJ6_bitCount_0f7a4_43 (by decide) ?_
  refine pw_iushr dJ6_bitCount_0f7a4_45 ?_
  refine pw_iadd dJ6_bitCount_0f7a4_46 ?_
  refine pw_topi (fun a0_5 e_a0_5 => ?_)
  replace hs := lt_use hs e_a0_5
  refine pw_istore_n [(0, .int a0_5)] dJ6_bitCount_0f7a4_47 rfl (Nat.le_of_ble_eq_true rfl) rfl ?_
  refine pw_iload_n 0 dJ6_bitCount_0f7a4_48 rfl rfl ?_
  refine pw_bipush (63 : Int32) dJ6_bitCount_0f7a4_49 (by decide) ?_
  refine pw_iand dJ6_bitCount_0f7a4_51 ?_
  have hr := Option.some.inj hs
  exact pw_ireturn dJ6_bitCount_0f7a4_52 rfl ⟨by rw [hr], rfl⟩
