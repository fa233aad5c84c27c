theorem pn_eq {own : String} {cc : ByteArray} {nL rF rC rS rL : Nat} {tabF : Tb} {sgF : Sg} {n0 pc : Nat} {lv : List (Nat × Value)} {st : List Value} {tab : Tb} {cells slots : Nat} (st2 : List Value) (tab2 : Tb) (c2 s2 : Nat) (h1 : st = st2) (h2 : tab = tab2) (h3 : cells = c2) (h4 : slots = s2) (k : PN own cc nL rF rC rS rL tabF sgF n0 pc lv st2 tab2 c2 s2) : PN own cc nL rF rC rS rL tabF sgF n0 pc lv st tab cells slots := by
  subst h1; subst h2; subst h3; subst h4; exact k
theorem acI : Cond.arrayClass .int ∈ gl := tb 37 (by decide +kernel) rfl
theorem imOI : Cond.instanceMethod objectInit ∈ gl := tb 18 (by decide +kernel) rfl
theorem coOI : Cond.code objectInit ⟨#[0xb1]⟩ 1 none ∈ gl := tb 19 (by decide +kernel) rfl
theorem cl_RX7_7 : Cond.classLink RX7 7 RX4 ∈ gl := tb 20 (by decide +kernel) rfl
theorem cl_RX7_16 : Cond.classLink RX7 16 RX6 ∈ gl := tb 38 (by decide +kernel) rfl
theorem cl_RX7_23 : Cond.classLink RX7 23 RX1 ∈ gl := tb 69 (by decide +kernel) rfl
theorem cl_RX7_30 : Cond.classLink RX7 30 RX3 ∈ gl := tb 103 (by decide +kernel) rfl
theorem cl_RX7_37 : Cond.classLink RX7 37 RX2 ∈ gl := tb 127 (by decide +kernel) rfl
theorem cl_RX7_44 : Cond.classLink RX7 44 RX5 ∈ gl := tb 146 (by decide +kernel) rfl
theorem cl_RL_7 : Cond.classLink RL 7 RX7 ∈ gl := tb 12 (by decide +kernel) rfl
theorem cl_RL_10 : Cond.classLink RL 10 RX8 ∈ gl := tb 464 (by decide +kernel) rfl
theorem is_RX7 : Cond.instantiable RX7 9 ∈ gl := tb 13 (by decide +kernel) rfl
theorem is_RX4 : Cond.instantiable RX4 2 ∈ gl := tb 21 (by decide +kernel) rfl
theorem is_RX6 : Cond.instantiable RX6 5 ∈ gl := tb 39 (by decide +kernel) rfl
theorem is_RX1 : Cond.instantiable RX1 6 ∈ gl := tb 70 (by decide +kernel) rfl
theorem is_RX3 : Cond.instantiable RX3 4 ∈ gl := tb 104 (by decide +kernel) rfl
theorem is_RX2 : Cond.instantiable RX2 3 ∈ gl := tb 128 (by decide +kernel) rfl
theorem is_RX5 : Cond.instantiable RX5 3 ∈ gl := tb 147 (by decide +kernel) rfl
theorem is_RX8 : Cond.instantiable RX8 25 ∈ gl := tb 465 (by decide +kernel) rfl
theorem ml_RX7_1 : Cond.methodLink RX7 1 objectInit ∈ gl := tb 17 (by decide +kernel) rfl
theorem ml_RX7_9 : Cond.methodLink RX7 9 yX4_init ∈ gl := tb 22 (by decide +kernel) rfl
theorem ml_RX7_18 : Cond.methodLink RX7 18 yX6_init ∈ gl := tb 40 (by decide +kernel) rfl
theorem ml_RX7_25 : Cond.methodLink RX7 25 yX1_init ∈ gl := tb 71 (by decide +kernel) rfl
theorem ml_RX7_32 : Cond.methodLink RX7 32 yX3_init ∈ gl := tb 105 (by decide +kernel) rfl
theorem ml_RX7_39 : Cond.methodLink RX7 39 yX2_init ∈ gl := tb 129 (by decide +kernel) rfl
theorem ml_RX7_46 : Cond.methodLink RX7 46 yX5_init ∈ gl := tb 148 (by decide +kernel) rfl
theorem ml_RX1_3 : Cond.methodLink RX1 3 objectInit ∈ gl := tb 74 (by decide +kernel) rfl
theorem ml_RX2_3 : Cond.methodLink RX2 3 objectInit ∈ gl := tb 132 (by decide +kernel) rfl
theorem ml_RX3_3 : Cond.methodLink RX3 3 objectInit ∈ gl := tb 108 (by decide +kernel) rfl
theorem ml_RX4_3 : Cond.methodLink RX4 3 objectInit ∈ gl := tb 25 (by decide +kernel) rfl
theorem ml_RX5_3 : Cond.methodLink RX5 3 objectInit ∈ gl := tb 151 (by decide +kernel) rfl
theorem ml_RX6_3 : Cond.methodLink RX6 3 objectInit ∈ gl := tb 43 (by decide +kernel) rfl
theorem ml_RL_9 : Cond.methodLink RL 9 yX7_init ∈ gl := tb 14 (by decide +kernel) rfl
theorem ml_RL_12 : Cond.methodLink RL 12 yX8_init ∈ gl := tb 466 (by decide +kernel) rfl
theorem ml_RX8_1 : Cond.methodLink RX8 1 objectInit ∈ gl := tb 469 (by decide +kernel) rfl
theorem coX1_init : Cond.code yX1_init cX1_init 1 none ∈ gl := tb 73 (by decide +kernel) rfl
theorem hyX1_init : yX1_init.cls ≠ "java/lang/invoke/MethodHandle" ∧ yX1_init.cls ≠ "java/lang/invoke/VarHandle" ∧ (parseMethodDescriptor yX1_init.desc).map (fun d => d.parameters.length) = some 0 := by decide +kernel
theorem imX1_init : Cond.instanceMethod yX1_init ∈ gl := tb 72 (by decide +kernel) rfl
theorem coX2_init : Cond.code yX2_init cX2_init 1 none ∈ gl := tb 131 (by decide +kernel) rfl
theorem hyX2_init : yX2_init.cls ≠ "java/lang/invoke/MethodHandle" ∧ yX2_init.cls ≠ "java/lang/invoke/VarHandle" ∧ (parseMethodDescriptor yX2_init.desc).map (fun d => d.parameters.length) = some 0 := by decide +kernel
theorem imX2_init : Cond.instanceMethod yX2_init ∈ gl := tb 130 (by decide +kernel) rfl
theorem coX3_init : Cond.code yX3_init cX3_init 1 none ∈ gl := tb 107 (by decide +kernel) rfl
theorem hyX3_init : yX3_init.cls ≠ "java/lang/invoke/MethodHandle" ∧ yX3_init.cls ≠ "java/lang/invoke/VarHandle" ∧ (parseMethodDescriptor yX3_init.desc).map (fun d => d.parameters.length) = some 0 := by decide +kernel
theorem imX3_init : Cond.instanceMethod yX3_init ∈ gl := tb 106 (by decide +kernel) rfl
theorem coX4_init : Cond.code yX4_init cX4_init 1 none ∈ gl := tb 24 (by decide +kernel) rfl
theorem hyX4_init : yX4_init.cls ≠ "java/lang/invoke/MethodHandle" ∧ yX4_init.cls ≠ "java/lang/invoke/VarHandle" ∧ (parseMethodDescriptor yX4_init.desc).map (fun d => d.parameters.length) = some 0 := by decide +kernel
theorem imX4_init : Cond.instanceMethod yX4_init ∈ gl := tb 23 (by decide +kernel) rfl
theorem coX5_init : Cond.code yX5_init cX5_init 1 none ∈ gl := tb 150 (by decide +kernel) rfl
theorem hyX5_init : yX5_init.cls ≠ "java/lang/invoke/MethodHandle" ∧ yX5_init.cls ≠ "java/lang/invoke/VarHandle" ∧ (parseMethodDescriptor yX5_init.desc).map (fun d => d.parameters.length) = some 0 := by decide +kernel
theorem imX5_init : Cond.instanceMethod yX5_init ∈ gl := tb 149 (by decide +kernel) rfl
theorem coX6_init : Cond.code yX6_init cX6_init 1 none ∈ gl := tb 42 (by decide +kernel) rfl
theorem hyX6_init : yX6_init.cls ≠ "java/lang/invoke/MethodHandle" ∧ yX6_init.cls ≠ "java/lang/invoke/VarHandle" ∧ (parseMethodDescriptor yX6_init.desc).map (fun d => d.parameters.length) = some 0 := by decide +kernel
theorem imX6_init : Cond.instanceMethod yX6_init ∈ gl := tb 41 (by decide +kernel) rfl
theorem coX7_init : Cond.code yX7_init cX7_init 1 none ∈ gl := tb 16 (by decide +kernel) rfl
theorem hyX7_init : yX7_init.cls ≠ "java/lang/invoke/MethodHandle" ∧ yX7_init.cls ≠ "java/lang/invoke/VarHandle" ∧ (parseMethodDescriptor yX7_init.desc).map (fun d => d.parameters.length) = some 0 := by decide +kernel
theorem imX7_init : Cond.instanceMethod yX7_init ∈ gl := tb 15 (by decide +kernel) rfl
theorem coX8_init : Cond.code yX8_init cX8_init 1 none ∈ gl := tb 468 (by decide +kernel) rfl
theorem hyX8_init : yX8_init.cls ≠ "java/lang/invoke/MethodHandle" ∧ yX8_init.cls ≠ "java/lang/invoke/VarHandle" ∧ (parseMethodDescriptor yX8_init.desc).map (fun d => d.parameters.length) = some 0 := by decide +kernel
theorem imX8_init : Cond.instanceMethod yX8_init ∈ gl := tb 467 (by decide +kernel) rfl
set_option maxRecDepth 100000 in
set_option maxHeartbeats 400000 in
theorem ncX4_init : NCon yX4_init cX4_init 1 1 1 6 12 [.inr (6, [(3, 0), (3, 0), (3, 0), (3, 0), (3, 0), (3, 0), (3, 0), (1, 0), (1, 0)]), .inr (3, [(3, 0), (1, 0)])] 1 [.inr (6, [(3, 0), (3, 0), (3, 0), (3, 0), (3, 0), (3, 0), (3, 0), (1, 0), (1, 0)]), .inr (3, [(0, 2), (1, 0)]), .inl 6] zsg := by
  refine NCon.of (by decide) rfl (Nat.le_refl 1) ?_
  show PN RX4 cX4_init 1 1 1 6 12 [.inr (6, [(3, 0), (3, 0), (3, 0), (3, 0), (3, 0), (3, 0), (3, 0), (1, 0), (1, 0)]), .inr (3, [(0, 2), (1, 0)]), .inl 6] zsg 2 0 [(0, .ref 1)] [] [.inr (6, [(3, 0), (3, 0), (3, 0), (3, 0), (3, 0), (3, 0), (3, 0), (1, 0), (1, 0)]), .inr (3, [(3, 0), (1, 0)])] 0 0
  refine pn_aload_n 0 dX4_init_0 rfl rfl ?_
  refine pn_objInit dX4_init_1 ml_RX4_3 imOI coOI (Nat.le_of_ble_eq_true rfl) (Nat.le_of_ble_eq_true rfl) ?_
  refine pn_aload_n 0 dX4_init_4 rfl rfl ?_
  refine pn_bipush (6 : Int32) dX4_init_5 (by decide) ?_
  refine pn_newa 6 dX4_init_7 acI (by decide) (by decide) (by decide) rfl (Nat.le_of_ble_eq_true rfl) (Nat.le_of_ble_eq_true rfl) (Nat.le_of_ble_eq_true rfl) ?_
  refine pn_eq [.ref 2, .ref 1] [.inr (6, [(3, 0), (3, 0), (3, 0), (3, 0), (3, 0), (3, 0), (3, 0), (1, 0), (1, 0)]), .inr (3, [(3, 0), (1, 0)]), .inl 6] 1 6 rfl rfl rfl rfl ?_
  refine pn_putr 0 [.inr (6, [(3, 0), (3, 0), (3, 0), (3, 0), (3, 0), (3, 0), (3, 0), (1, 0), (1, 0)]), .inr (3, [(0, 2), (1, 0)]), .inl 6] (fty := (.array .int)) dX4_init_9 clRX4 (by rfl) (Nat.le_of_ble_eq_true rfl) fRX4_9 rfl rfl rfl (by decide +kernel) (fun _ => rfl) (fun _ => rfl) rfl ?_
  refine pn_aload_n 0 dX4_init_12 rfl rfl ?_
  refine pn_iconst (0 : Int32) dX4_init_13 (by decide) ?_
  refine pn_puti 1 (fty := .int) dX4_init_14 clRX4 (by rfl) (Nat.le_of_ble_eq_true rfl) fRX4_15 rfl rfl (by decide +kernel) rfl rfl ?_
  exact pn_return dX4_init_17 rfl rfl rfl rfl
set_option maxRecDepth 100000 in
set_option maxHeartbeats 400000 in
theorem ncX6_init : NCon yX6_init cX6_init 1 1 4 168 12 [.inr (6, [(0, 1), (3, 0), (3, 0), (3, 0), (3, 0), (3, 0), (3, 0), (1, 0), (1, 0)]), .inr (3, [(0, 2), (1, 0)]), .inl 6, .inr (5, [(3, 0), (3, 0), (3, 0), (3, 0), (1, 0)])] 3 [.inr (6, [(0, 1), (3, 0), (3, 0), (3, 0), (3, 0), (3, 0), (3, 0), (1, 0), (1, 0)]), .inr (3, [(0, 2), (1, 0)]), .inl 6, .inr (5, [(0, 4), (0, 5), (0, 6), (0, 7), (1, 0)]), .inl 72, .inl 12, .inl 72, .inl 12] zsg := by
  refine NCon.of (by decide) rfl (Nat.le_refl 1) ?_
  show PN RX6 cX6_init 1 1 4 168 12 [.inr (6, [(0, 1), (3, 0), (3, 0), (3, 0), (3, 0), (3, 0), (3, 0), (1, 0), (1, 0)]), .inr (3, [(0, 2), (1, 0)]), .inl 6, .inr (5, [(0, 4), (0, 5), (0, 6), (0, 7), (1, 0)]), .inl 72, .inl 12, .inl 72, .inl 12] zsg 4 0 [(0, .ref 3)] [] [.inr (6, [(0, 1), (3, 0), (3, 0), (3, 0), (3, 0), (3, 0), (3, 0), (1, 0), (1, 0)]), .inr (3, [(0, 2), (1, 0)]), .inl 6, .inr (5, [(3, 0), (3, 0), (3, 0), (3, 0), (1, 0)])] 0 0
  refine pn_aload_n 0 dX6_init_0 rfl rfl ?_
  refine pn_objInit dX6_init_1 ml_RX6_3 imOI coOI (Nat.le_of_ble_eq_true rfl) (Nat.le_of_ble_eq_true rfl) ?_
  refine pn_aload_n 0 dX6_init_4 rfl rfl ?_
  refine pn_bipush (72 : Int32) dX6_init_5 (by decide) ?_
  refine pn_newa 72 dX6_init_7 acI (by decide) (by decide) (by decide) rfl (Nat.le_of_ble_eq_true rfl) (Nat.le_of_ble_eq_true rfl) (Nat.le_of_ble_eq_true rfl) ?_
  refine pn_eq [.ref 4, .ref 3] [.inr (6, [(0, 1), (3, 0), (3, 0), (3, 0), (3, 0), (3, 0), (3, 0), (1, 0), (1, 0)]), .inr (3, [(0, 2), (1, 0)]), .inl 6, .inr (5, [(3, 0), (3, 0), (3, 0), (3, 0), (1, 0)]), .inl 72] 1 72 rfl rfl rfl rfl ?_
  refine pn_putr 0 [.inr (6, [(0, 1), (3, 0), (3, 0), (3, 0), (3, 0), (3, 0), (3, 0), (1, 0), (1, 0)]), .inr (3, [(0, 2), (1, 0)]), .inl 6, .inr (5, [(0, 4), (3, 0), (3, 0), (3, 0), (1, 0)]), .inl 72] (fty := (.array .int)) dX6_init_9 clRX6 (by rfl) (Nat.le_of_ble_eq_true rfl) fRX6_9 rfl rfl rfl (by decide +kernel) (fun _ => rfl) (fun _ => rfl) rfl ?_
  refine pn_aload_n 0 dX6_init_12 rfl rfl ?_
  refine pn_bipush (12 : Int32) dX6_init_13 (by decide) ?_
  refine pn_newa 12 dX6_init_15 acI (by decide) (by decide) (by decide) rfl (Nat.le_of_ble_eq_true rfl) (Nat.le_of_ble_eq_true rfl) (Nat.le_of_ble_eq_true rfl) ?_
  refine pn_eq [.ref 5, .ref 3] [.inr (6, [(0, 1), (3, 0), (3, 0), (3, 0), (3, 0), (3, 0), (3, 0), (1, 0), (1, 0)]), .inr (3, [(0, 2), (1, 0)]), .inl 6, .inr (5, [(0, 4), (3, 0), (3, 0), (3, 0), (1, 0)]), .inl 72, .inl 12] 2 84 rfl rfl rfl rfl ?_
  refine pn_putr 1 [.inr (6, [(0, 1), (3, 0), (3, 0), (3, 0), (3, 0), (3, 0), (3, 0), (1, 0), (1, 0)]), .inr (3, [(0, 2), (1, 0)]), .inl 6, .inr (5, [(0, 4), (0, 5), (3, 0), (3, 0), (1, 0)]), .inl 72, .inl 12] (fty := (.array .int)) dX6_init_17 clRX6 (by rfl) (Nat.le_of_ble_eq_true rfl) fRX6_15 rfl rfl rfl (by decide +kernel) (fun _ => rfl) (fun _ => rfl) rfl ?_
  refine pn_aload_n 0 dX6_init_20 rfl rfl ?_
  refine pn_bipush (72 : Int32) dX6_init_21 (by decide) ?_
  refine pn_newa 72 dX6_init_23 acI (by decide) (by decide) (by decide) rfl (Nat.le_of_ble_eq_true rfl) (Nat.le_of_ble_eq_true rfl) (Nat.le_of_ble_eq_true rfl) ?_
  refine pn_eq [.ref 6, .ref 3] [.inr (6, [(0, 1), (3, 0), (3, 0), (3, 0), (3, 0), (3, 0), (3, 0), (1, 0), (1, 0)]), .inr (3, [(0, 2), (1, 0)]), .inl 6, .inr (5, [(0, 4), (0, 5), (3, 0), (3, 0), (1, 0)]), .inl 72, .inl 12, .inl 72] 3 156 rfl rfl rfl rfl ?_
  refine pn_putr 2 [.inr (6, [(0, 1), (3, 0), (3, 0), (3, 0), (3, 0), (3, 0), (3, 0), (1, 0), (1, 0)]), .inr (3, [(0, 2), (1, 0)]), .inl 6, .inr (5, [(0, 4), (0, 5), (0, 6), (3, 0), (1, 0)]), .inl 72, .inl 12, .inl 72] (fty := (.array .int)) dX6_init_25 clRX6 (by rfl) (Nat.le_of_ble_eq_true rfl) fRX6_18 rfl rfl rfl (by decide +kernel) (fun _ => rfl) (fun _ => rfl) rfl ?_
  refine pn_aload_n 0 dX6_init_28 rfl rfl ?_
  refine pn_bipush (12 : Int32) dX6_init_29 (by decide) ?_
  refine pn_newa 12 dX6_init_31 acI (by decide) (by decide) (by decide) rfl (Nat.le_of_ble_eq_true rfl) (Nat.le_of_ble_eq_true rfl) (Nat.le_of_ble_eq_true rfl) ?_
  refine pn_eq [.ref 7, .ref 3] [.inr (6, [(0, 1), (3, 0), (3, 0), (3, 0), (3, 0), (3, 0), (3, 0), (1, 0), (1, 0)]), .inr (3, [(0, 2), (1, 0)]), .inl 6, .inr (5, [(0, 4), (0, 5), (0, 6), (3, 0), (1, 0)]), .inl 72, .inl 12, .inl 72, .inl 12] 4 168 rfl rfl rfl rfl ?_
  refine pn_putr 3 [.inr (6, [(0, 1), (3, 0), (3, 0), (3, 0), (3, 0), (3, 0), (3, 0), (1, 0), (1, 0)]), .inr (3, [(0, 2), (1, 0)]), .inl 6, .inr (5, [(0, 4), (0, 5), (0, 6), (0, 7), (1, 0)]), .inl 72, .inl 12, .inl 72, .inl 12] (fty := (.array .int)) dX6_init_33 clRX6 (by rfl) (Nat.le_of_ble_eq_true rfl) fRX6_21 rfl rfl rfl (by decide +kernel) (fun _ => rfl) (fun _ => rfl) rfl ?_
  refine pn_aload_n 0 dX6_init_36 rfl rfl ?_
  refine pn_iconst (0 : Int32) dX6_init_37 (by decide) ?_
  refine pn_puti 4 (fty := .int) dX6_init_38 clRX6 (by rfl) (Nat.le_of_ble_eq_true rfl) fRX6_24 rfl rfl (by decide +kernel) rfl rfl ?_
  exact pn_return dX6_init_41 rfl rfl rfl rfl
set_option maxRecDepth 100000 in
set_option maxHeartbeats 400000 in
theorem ncX1_init : NCon yX1_init cX1_init 1 1 5 96 12 [.inr (6, [(0, 1), (0, 3), (3, 0), (3, 0), (3, 0), (3, 0), (3, 0), (1, 0), (1, 0)]), .inr (3, [(0, 2), (1, 0)]), .inl 6, .inr (5, [(0, 4), (0, 5), (0, 6), (0, 7), (1, 0)]), .inl 72, .inl 12, .inl 72, .inl 12, .inr (0, [(3, 0), (3, 0), (3, 0), (3, 0), (3, 0), (1, 0)])] 8 [.inr (6, [(0, 1), (0, 3), (3, 0), (3, 0), (3, 0), (3, 0), (3, 0), (1, 0), (1, 0)]), .inr (3, [(0, 2), (1, 0)]), .inl 6, .inr (5, [(0, 4), (0, 5), (0, 6), (0, 7), (1, 0)]), .inl 72, .inl 12, .inl 72, .inl 12, .inr (0, [(0, 9), (0, 10), (0, 11), (0, 12), (0, 13), (1, 0)]), .inl 8, .inl 8, .inl 8, .inl 8, .inl 64] zsg := by
  refine NCon.of (by decide) rfl (Nat.le_refl 1) ?_
  show PN RX1 cX1_init 1 1 5 96 12 [.inr (6, [(0, 1), (0, 3), (3, 0), (3, 0), (3, 0), (3, 0), (3, 0), (1, 0), (1, 0)]), .inr (3, [(0, 2), (1, 0)]), .inl 6, .inr (5, [(0, 4), (0, 5), (0, 6), (0, 7), (1, 0)]), .inl 72, .inl 12, .inl 72, .inl 12, .inr (0, [(0, 9), (0, 10), (0, 11), (0, 12), (0, 13), (1, 0)]), .inl 8, .inl 8, .inl 8, .inl 8, .inl 64] zsg 9 0 [(0, .ref 8)] [] [.inr (6, [(0, 1), (0, 3), (3, 0), (3, 0), (3, 0), (3, 0), (3, 0), (1, 0), (1, 0)]), .inr (3, [(0, 2), (1, 0)]), .inl 6, .inr (5, [(0, 4), (0, 5), (0, 6), (0, 7), (1, 0)]), .inl 72, .inl 12, .inl 72, .inl 12, .inr (0, [(3, 0), (3, 0), (3, 0), (3, 0), (3, 0), (1, 0)])] 0 0
  refine pn_aload_n 0 dX1_init_0 rfl rfl ?_
  refine pn_objInit dX1_init_1 ml_RX1_3 imOI coOI (Nat.le_of_ble_eq_true rfl) (Nat.le_of_ble_eq_true rfl) ?_
  refine pn_aload_n 0 dX1_init_4 rfl rfl ?_
  refine pn_bipush (8 : Int32) dX1_init_5 (by decide) ?_
  refine pn_newa 8 dX1_init_7 acI (by decide) (by decide) (by decide) rfl (Nat.le_of_ble_eq_true rfl) (Nat.le_of_ble_eq_true rfl) (Nat.le_of_ble_eq_true rfl) ?_
  refine pn_eq [.ref 9, .ref 8] [.inr (6, [(0, 1), (0, 3), (3, 0), (3, 0), (3, 0), (3, 0), (3, 0), (1, 0), (1, 0)]), .inr (3, [(0, 2), (1, 0)]), .inl 6, .inr (5, [(0, 4), (0, 5), (0, 6), (0, 7), (1, 0)]), .inl 72, .inl 12, .inl 72, .inl 12, .inr (0, [(3, 0), (3, 0), (3, 0), (3, 0), (3, 0), (1, 0)]), .inl 8] 1 8 rfl rfl rfl rfl ?_
  refine pn_putr 0 [.inr (6, [(0, 1), (0, 3), (3, 0), (3, 0), (3, 0), (3, 0), (3, 0), (1, 0), (1, 0)]), .inr (3, [(0, 2), (1, 0)]), .inl 6, .inr (5, [(0, 4), (0, 5), (0, 6), (0, 7), (1, 0)]), .inl 72, .inl 12, .inl 72, .inl 12, .inr (0, [(0, 9), (3, 0), (3, 0), (3, 0), (3, 0), (1, 0)]), .inl 8] (fty := (.array .int)) dX1_init_9 clRX1 (by rfl) (Nat.le_of_ble_eq_true rfl) fRX1_9 rfl rfl rfl (by decide +kernel) (fun _ => rfl) (fun _ => rfl) rfl ?_
  refine pn_aload_n 0 dX1_init_12 rfl rfl ?_
  refine pn_bipush (8 : Int32) dX1_init_13 (by decide) ?_
  refine pn_newa 8 dX1_init_15 acI (by decide) (by decide) (by decide) rfl (Nat.le_of_ble_eq_true rfl) (Nat.le_of_ble_eq_true rfl) (Nat.le_of_ble_eq_true rfl) ?_
  refine pn_eq [.ref 10, .ref 8] [.inr (6, [(0, 1), (0, 3), (3, 0), (3, 0), (3, 0), (3, 0), (3, 0), (1, 0), (1, 0)]), .inr (3, [(0, 2), (1, 0)]), .inl 6, .inr (5, [(0, 4), (0, 5), (0, 6), (0, 7), (1, 0)]), .inl 72, .inl 12, .inl 72, .inl 12, .inr (0, [(0, 9), (3, 0), (3, 0), (3, 0), (3, 0), (1, 0)]), .inl 8, .inl 8] 2 16 rfl rfl rfl rfl ?_
  refine pn_putr 1 [.inr (6, [(0, 1), (0, 3), (3, 0), (3, 0), (3, 0), (3, 0), (3, 0), (1, 0), (1, 0)]), .inr (3, [(0, 2), (1, 0)]), .inl 6, .inr (5, [(0, 4), (0, 5), (0, 6), (0, 7), (1, 0)]), .inl 72, .inl 12, .inl 72, .inl 12, .inr (0, [(0, 9), (0, 10), (3, 0), (3, 0), (3, 0), (1, 0)]), .inl 8, .inl 8] (fty := (.array .int)) dX1_init_17 clRX1 (by rfl) (Nat.le_of_ble_eq_true rfl) fRX1_15 rfl rfl rfl (by decide +kernel) (fun _ => rfl) (fun _ => rfl) rfl ?_
  refine pn_aload_n 0 dX1_init_20 rfl rfl ?_
  refine pn_bipush (8 : Int32) dX1_init_21 (by decide) ?_
  refine pn_newa 8 dX1_init_23 acI (by decide) (by decide) (by decide) rfl (Nat.le_of_ble_eq_true rfl) (Nat.le_of_ble_eq_true rfl) (Nat.le_of_ble_eq_true rfl) ?_
  refine pn_eq [.ref 11, .ref 8] [.inr (6, [(0, 1), (0, 3), (3, 0), (3, 0), (3, 0), (3, 0), (3, 0), (1, 0), (1, 0)]), .inr (3, [(0, 2), (1, 0)]), .inl 6, .inr (5, [(0, 4), (0, 5), (0, 6), (0, 7), (1, 0)]), .inl 72, .inl 12, .inl 72, .inl 12, .inr (0, [(0, 9), (0, 10), (3, 0), (3, 0), (3, 0), (1, 0)]), .inl 8, .inl 8, .inl 8] 3 24 rfl rfl rfl rfl ?_
  refine pn_putr 2 [.inr (6, [(0, 1), (0, 3), (3, 0), (3, 0), (3, 0), (3, 0), (3, 0), (1, 0), (1, 0)]), .inr (3, [(0, 2), (1, 0)]), .inl 6, .inr (5, [(0, 4), (0, 5), (0, 6), (0, 7), (1, 0)]), .inl 72, .inl 12, .inl 72, .inl 12, .inr (0, [(0, 9), (0, 10), (0, 11), (3, 0), (3, 0), (1, 0)]), .inl 8, .inl 8, .inl 8] (fty := (.array .int)) dX1_init_25 clRX1 (by rfl) (Nat.le_of_ble_eq_true rfl) fRX1_18 rfl rfl rfl (by decide +kernel) (fun _ => rfl) (fun _ => rfl) rfl ?_
  refine pn_aload_n 0 dX1_init_28 rfl rfl ?_
  refine pn_bipush (8 : Int32) dX1_init_29 (by decide) ?_
  refine pn_newa 8 dX1_init_31 acI (by decide) (by decide) (by decide) rfl (Nat.le_of_ble_eq_true rfl) (Nat.le_of_ble_eq_true rfl) (Nat.le_of_ble_eq_true rfl) ?_
  refine pn_eq [.ref 12, .ref 8] [.inr (6, [(0, 1), (0, 3), (3, 0), (3, 0), (3, 0), (3, 0), (3, 0), (1, 0), (1, 0)]), .inr (3, [(0, 2), (1, 0)]), .inl 6, .inr (5, [(0, 4), (0, 5), (0, 6), (0, 7), (1, 0)]), .inl 72, .inl 12, .inl 72, .inl 12, .inr (0, [(0, 9), (0, 10), (0, 11), (3, 0), (3, 0), (1, 0)]), .inl 8, .inl 8, .inl 8, .inl 8] 4 32 rfl rfl rfl rfl ?_
  refine pn_putr 3 [.inr (6, [(0, 1), (0, 3), (3, 0), (3, 0), (3, 0), (3, 0), (3, 0), (1, 0), (1, 0)]), .inr (3, [(0, 2), (1, 0)]), .inl 6, .inr (5, [(0, 4), (0, 5), (0, 6), (0, 7), (1, 0)]), .inl 72, .inl 12, .inl 72, .inl 12, .inr (0, [(0, 9), (0, 10), (0, 11), (0, 12), (3, 0), (1, 0)]), .inl 8, .inl 8, .inl 8, .inl 8] (fty := (.array .int)) dX1_init_33 clRX1 (by rfl) (Nat.le_of_ble_eq_true rfl) fRX1_21 rfl rfl rfl (by decide +kernel) (fun _ => rfl) (fun _ => rfl) rfl ?_
  refine pn_aload_n 0 dX1_init_36 rfl rfl ?_
  refine pn_bipush (64 : Int32) dX1_init_37 (by decide) ?_
  refine pn_newa 64 dX1_init_39 acI (by decide) (by decide) (by decide) rfl (Nat.le_of_ble_eq_true rfl) (Nat.le_of_ble_eq_true rfl) (Nat.le_of_ble_eq_true rfl) ?_
  refine pn_eq [.ref 13, .ref 8] [.inr (6, [(0, 1), (0, 3), (3, 0), (3, 0), (3, 0), (3, 0), (3, 0), (1, 0), (1, 0)]), .inr (3, [(0, 2), (1, 0)]), .inl 6, .inr (5, [(0, 4), (0, 5), (0, 6), (0, 7), (1, 0)]), .inl 72, .inl 12, .inl 72, .inl 12, .inr (0, [(0, 9), (0, 10), (0, 11), (0, 12), (3, 0), (1, 0)]), .inl 8, .inl 8, .inl 8, .inl 8, .inl 64] 5 96 rfl rfl rfl rfl ?_
  refine pn_putr 4 [.inr (6, [(0, 1), (0, 3), (3, 0), (3, 0), (3, 0), (3, 0), (3, 0), (1, 0), (1, 0)]), .inr (3, [(0, 2), (1, 0)]), .inl 6, .inr (5, [(0, 4), (0, 5), (0, 6), (0, 7), (1, 0)]), .inl 72, .inl 12, .inl 72, .inl 12, .inr (0, [(0, 9), (0, 10), (0, 11), (0, 12), (0, 13), (1, 0)]), .inl 8, .inl 8, .inl 8, .inl 8, .inl 64] (fty := (.array .int)) dX1_init_41 clRX1 (by rfl) (Nat.le_of_ble_eq_true rfl) fRX1_24 rfl rfl rfl (by decide +kernel) (fun _ => rfl) (fun _ => rfl) rfl ?_
  refine pn_aload_n 0 dX1_init_44 rfl rfl ?_
  refine pn_iconst (0 : Int32) dX1_init_45 (by decide) ?_
  refine pn_puti 5 (fty := .int) dX1_init_46 clRX1 (by rfl) (Nat.le_of_ble_eq_true rfl) fRX1_27 rfl rfl (by decide +kernel) rfl rfl ?_
  exact pn_return dX1_init_49 rfl rfl rfl rfl
set_option maxRecDepth 100000 in
set_option maxHeartbeats 400000 in
theorem ncX3_init : NCon yX3_init cX3_init 1 1 2 16 12 [.inr (6, [(0, 1), (0, 3), (0, 8), (3, 0), (3, 0), (3, 0), (3, 0), (1, 0), (1, 0)]), .inr (3, [(0, 2), (1, 0)]), .inl 6, .inr (5, [(0, 4), (0, 5), (0, 6), (0, 7), (1, 0)]), .inl 72, .inl 12, .inl 72, .inl 12, .inr (0, [(0, 9), (0, 10), (0, 11), (0, 12), (0, 13), (1, 0)]), .inl 8, .inl 8, .inl 8, .inl 8, .inl 64, .inr (2, [(3, 0), (3, 0), (1, 0), (1, 0)])] 14 [.inr (6, [(0, 1), (0, 3), (0, 8), (3, 0), (3, 0), (3, 0), (3, 0), (1, 0), (1, 0)]), .inr (3, [(0, 2), (1, 0)]), .inl 6, .inr (5, [(0, 4), (0, 5), (0, 6), (0, 7), (1, 0)]), .inl 72, .inl 12, .inl 72, .inl 12, .inr (0, [(0, 9), (0, 10), (0, 11), (0, 12), (0, 13), (1, 0)]), .inl 8, .inl 8, .inl 8, .inl 8, .inl 64, .inr (2, [(0, 15), (0, 16), (1, 0), (1, 0)]), .inl 8, .inl 8] zsg := by
  refine NCon.of (by decide) rfl (Nat.le_refl 1) ?_
  show PN RX3 cX3_init 1 1 2 16 12 [.inr (6, [(0, 1), (0, 3), (0, 8), (3, 0), (3, 0), (3, 0), (3, 0), (1, 0), (1, 0)]), .inr (3, [(0, 2), (1, 0)]), .inl 6, .inr (5, [(0, 4), (0, 5), (0, 6), (0, 7), (1, 0)]), .inl 72, .inl 12, .inl 72, .inl 12, .inr (0, [(0, 9), (0, 10), (0, 11), (0, 12), (0, 13), (1, 0)]), .inl 8, .inl 8, .inl 8, .inl 8, .inl 64, .inr (2, [(0, 15), (0, 16), (1, 0), (1, 0)]), .inl 8, .inl 8] zsg 15 0 [(0, .ref 14)] [] [.inr (6, [(0, 1), (0, 3), (0, 8), (3, 0), (3, 0), (3, 0), (3, 0), (1, 0), (1, 0)]), .inr (3, [(0, 2), (1, 0)]), .inl 6, .inr (5, [(0, 4), (0, 5), (0, 6), (0, 7), (1, 0)]), .inl 72, .inl 12, .inl 72, .inl 12, .inr (0, [(0, 9), (0, 10), (0, 11), (0, 12), (0, 13), (1, 0)]), .inl 8, .inl 8, .inl 8, .inl 8, .inl 64, .inr (2, [(3, 0), (3, 0), (1, 0), (1, 0)])] 0 0
  refine pn_aload_n 0 dX3_init_0 rfl rfl ?_
  refine pn_objInit dX3_init_1 ml_RX3_3 imOI coOI (Nat.le_of_ble_eq_true rfl) (Nat.le_of_ble_eq_true rfl) ?_
  refine pn_aload_n 0 dX3_init_4 rfl rfl ?_
  refine pn_bipush (8 : Int32) dX3_init_5 (by decide) ?_
  refine pn_newa 8 dX3_init_7 acI (by decide) (by decide) (by decide) rfl (Nat.le_of_ble_eq_true rfl) (Nat.le_of_ble_eq_true rfl) (Nat.le_of_ble_eq_true rfl) ?_
  refine pn_eq [.ref 15, .ref 14] [.inr (6, [(0, 1), (0, 3), (0, 8), (3, 0), (3, 0), (3, 0), (3, 0), (1, 0), (1, 0)]), .inr (3, [(0, 2), (1, 0)]), .inl 6, .inr (5, [(0, 4), (0, 5), (0, 6), (0, 7), (1, 0)]), .inl 72, .inl 12, .inl 72, .inl 12, .inr (0, [(0, 9), (0, 10), (0, 11), (0, 12), (0, 13), (1, 0)]), .inl 8, .inl 8, .inl 8, .inl 8, .inl 64, .inr (2, [(3, 0), (3, 0), (1, 0), (1, 0)]), .inl 8] 1 8 rfl rfl rfl rfl ?_
  refine pn_putr 0 [.inr (6, [(0, 1), (0, 3), (0, 8), (3, 0), (3, 0), (3, 0), (3, 0), (1, 0), (1, 0)]), .inr (3, [(0, 2), (1, 0)]), .inl 6, .inr (5, [(0, 4), (0, 5), (0, 6), (0, 7), (1, 0)]), .inl 72, .inl 12, .inl 72, .inl 12, .inr (0, [(0, 9), (0, 10), (0, 11), (0, 12), (0, 13), (1, 0)]), .inl 8, .inl 8, .inl 8, .inl 8, .inl 64, .inr (2, [(0, 15), (3, 0), (1, 0), (1, 0)]), .inl 8] (fty := (.array .int)) dX3_init_9 clRX3 (by rfl) (Nat.le_of_ble_eq_true rfl) fRX3_9 rfl rfl rfl (by decide +kernel) (fun _ => rfl) (fun _ => rfl) rfl ?_
  refine pn_aload_n 0 dX3_init_12 rfl rfl ?_
  refine pn_bipush (8 : Int32) dX3_init_13 (by decide) ?_
  refine pn_newa 8 dX3_init_15 acI (by decide) (by decide) (by decide) rfl (Nat.le_of_ble_eq_true rfl) (Nat.le_of_ble_eq_true rfl) (Nat.le_of_ble_eq_true rfl) ?_
  refine pn_eq [.ref 16, .ref 14] [.inr (6, [(0, 1), (0, 3), (0, 8), (3, 0), (3, 0), (3, 0), (3, 0), (1, 0), (1, 0)]), .inr (3, [(0, 2), (1, 0)]), .inl 6, .inr (5, [(0, 4), (0, 5), (0, 6), (0, 7), (1, 0)]), .inl 72, .inl 12, .inl 72, .inl 12, .inr (0, [(0, 9), (0, 10), (0, 11), (0, 12), (0, 13), (1, 0)]), .inl 8, .inl 8, .inl 8, .inl 8, .inl 64, .inr (2, [(0, 15), (3, 0), (1, 0), (1, 0)]), .inl 8, .inl 8] 2 16 rfl rfl rfl rfl ?_
  refine pn_putr 1 [.inr (6, [(0, 1), (0, 3), (0, 8), (3, 0), (3, 0), (3, 0), (3, 0), (1, 0), (1, 0)]), .inr (3, [(0, 2), (1, 0)]), .inl 6, .inr (5, [(0, 4), (0, 5), (0, 6), (0, 7), (1, 0)]), .inl 72, .inl 12, .inl 72, .inl 12, .inr (0, [(0, 9), (0, 10), (0, 11), (0, 12), (0, 13), (1, 0)]), .inl 8, .inl 8, .inl 8, .inl 8, .inl 64, .inr (2, [(0, 15), (0, 16), (1, 0), (1, 0)]), .inl 8, .inl 8] (fty := (.array .int)) dX3_init_17 clRX3 (by rfl) (Nat.le_of_ble_eq_true rfl) fRX3_15 rfl rfl rfl (by decide +kernel) (fun _ => rfl) (fun _ => rfl) rfl ?_
  refine pn_aload_n 0 dX3_init_20 rfl rfl ?_
  refine pn_iconst (0 : Int32) dX3_init_21 (by decide) ?_
  refine pn_puti 2 (fty := .int) dX3_init_22 clRX3 (by rfl) (Nat.le_of_ble_eq_true rfl) fRX3_18 rfl rfl (by decide +kernel) rfl rfl ?_
  refine pn_aload_n 0 dX3_init_25 rfl rfl ?_
  refine pn_iconst (0 : Int32) dX3_init_26 (by decide) ?_
  refine pn_puti 3 (fty := .int) dX3_init_27 clRX3 (by rfl) (Nat.le_of_ble_eq_true rfl) fRX3_22 rfl rfl (by decide +kernel) rfl rfl ?_
  exact pn_return dX3_init_30 rfl rfl rfl rfl
set_option maxRecDepth 100000 in
set_option maxHeartbeats 400000 in
theorem ncX2_init : NCon yX2_init cX2_init 1 1 3 136 12 [.inr (6, [(0, 1), (0, 3), (0, 8), (0, 14), (3, 0), (3, 0), (3, 0), (1, 0), (1, 0)]), .inr (3, [(0, 2), (1, 0)]), .inl 6, .inr (5, [(0, 4), (0, 5), (0, 6), (0, 7), (1, 0)]), .inl 72, .inl 12, .inl 72, .inl 12, .inr (0, [(0, 9), (0, 10), (0, 11), (0, 12), (0, 13), (1, 0)]), .inl 8, .inl 8, .inl 8, .inl 8, .inl 64, .inr (2, [(0, 15), (0, 16), (1, 0), (1, 0)]), .inl 8, .inl 8, .inr (1, [(3, 0), (3, 0), (3, 0)])] 17 [.inr (6, [(0, 1), (0, 3), (0, 8), (0, 14), (3, 0), (3, 0), (3, 0), (1, 0), (1, 0)]), .inr (3, [(0, 2), (1, 0)]), .inl 6, .inr (5, [(0, 4), (0, 5), (0, 6), (0, 7), (1, 0)]), .inl 72, .inl 12, .inl 72, .inl 12, .inr (0, [(0, 9), (0, 10), (0, 11), (0, 12), (0, 13), (1, 0)]), .inl 8, .inl 8, .inl 8, .inl 8, .inl 64, .inr (2, [(0, 15), (0, 16), (1, 0), (1, 0)]), .inl 8, .inl 8, .inr (1, [(0, 18), (0, 19), (0, 20)]), .inl 64, .inl 64, .inl 8] zsg := by
  refine NCon.of (by decide) rfl (Nat.le_refl 1) ?_
  show PN RX2 cX2_init 1 1 3 136 12 [.inr (6, [(0, 1), (0, 3), (0, 8), (0, 14), (3, 0), (3, 0), (3, 0), (1, 0), (1, 0)]), .inr (3, [(0, 2), (1, 0)]), .inl 6, .inr (5, [(0, 4), (0, 5), (0, 6), (0, 7), (1, 0)]), .inl 72, .inl 12, .inl 72, .inl 12, .inr (0, [(0, 9), (0, 10), (0, 11), (0, 12), (0, 13), (1, 0)]), .inl 8, .inl 8, .inl 8, .inl 8, .inl 64, .inr (2, [(0, 15), (0, 16), (1, 0), (1, 0)]), .inl 8, .inl 8, .inr (1, [(0, 18), (0, 19), (0, 20)]), .inl 64, .inl 64, .inl 8] zsg 18 0 [(0, .ref 17)] [] [.inr (6, [(0, 1), (0, 3), (0, 8), (0, 14), (3, 0), (3, 0), (3, 0), (1, 0), (1, 0)]), .inr (3, [(0, 2), (1, 0)]), .inl 6, .inr (5, [(0, 4), (0, 5), (0, 6), (0, 7), (1, 0)]), .inl 72, .inl 12, .inl 72, .inl 12, .inr (0, [(0, 9), (0, 10), (0, 11), (0, 12), (0, 13), (1, 0)]), .inl 8, .inl 8, .inl 8, .inl 8, .inl 64, .inr (2, [(0, 15), (0, 16), (1, 0), (1, 0)]), .inl 8, .inl 8, .inr (1, [(3, 0), (3, 0), (3, 0)])] 0 0
  refine pn_aload_n 0 dX2_init_0 rfl rfl ?_
  refine pn_objInit dX2_init_1 ml_RX2_3 imOI coOI (Nat.le_of_ble_eq_true rfl) (Nat.le_of_ble_eq_true rfl) ?_
  refine pn_aload_n 0 dX2_init_4 rfl rfl ?_
  refine pn_bipush (64 : Int32) dX2_init_5 (by decide) ?_
  refine pn_newa 64 dX2_init_7 acI (by decide) (by decide) (by decide) rfl (Nat.le_of_ble_eq_true rfl) (Nat.le_of_ble_eq_true rfl) (Nat.le_of_ble_eq_true rfl) ?_
  refine pn_eq [.ref 18, .ref 17] [.inr (6, [(0, 1), (0, 3), (0, 8), (0, 14), (3, 0), (3, 0), (3, 0), (1, 0), (1, 0)]), .inr (3, [(0, 2), (1, 0)]), .inl 6, .inr (5, [(0, 4), (0, 5), (0, 6), (0, 7), (1, 0)]), .inl 72, .inl 12, .inl 72, .inl 12, .inr (0, [(0, 9), (0, 10), (0, 11), (0, 12), (0, 13), (1, 0)]), .inl 8, .inl 8, .inl 8, .inl 8, .inl 64, .inr (2, [(0, 15), (0, 16), (1, 0), (1, 0)]), .inl 8, .inl 8, .inr (1, [(3, 0), (3, 0), (3, 0)]), .inl 64] 1 64 rfl rfl rfl rfl ?_
  refine pn_putr 0 [.inr (6, [(0, 1), (0, 3), (0, 8), (0, 14), (3, 0), (3, 0), (3, 0), (1, 0), (1, 0)]), .inr (3, [(0, 2), (1, 0)]), .inl 6, .inr (5, [(0, 4), (0, 5), (0, 6), (0, 7), (1, 0)]), .inl 72, .inl 12, .inl 72, .inl 12, .inr (0, [(0, 9), (0, 10), (0, 11), (0, 12), (0, 13), (1, 0)]), .inl 8, .inl 8, .inl 8, .inl 8, .inl 64, .inr (2, [(0, 15), (0, 16), (1, 0), (1, 0)]), .inl 8, .inl 8, .inr (1, [(0, 18), (3, 0), (3, 0)]), .inl 64] (fty := (.array .int)) dX2_init_9 clRX2 (by rfl) (Nat.le_of_ble_eq_true rfl) fRX2_9 rfl rfl rfl (by decide +kernel) (fun _ => rfl) (fun _ => rfl) rfl ?_
  refine pn_aload_n 0 dX2_init_12 rfl rfl ?_
  refine pn_bipush (64 : Int32) dX2_init_13 (by decide) ?_
  refine pn_newa 64 dX2_init_15 acI (by decide) (by decide) (by decide) rfl (Nat.le_of_ble_eq_true rfl) (Nat.le_of_ble_eq_true rfl) (Nat.le_of_ble_eq_true rfl) ?_
  refine pn_eq [.ref 19, .ref 17] [.inr (6, [(0, 1), (0, 3), (0, 8), (0, 14), (3, 0), (3, 0), (3, 0), (1, 0), (1, 0)]), .inr (3, [(0, 2), (1, 0)]), .inl 6, .inr (5, [(0, 4), (0, 5), (0, 6), (0, 7), (1, 0)]), .inl 72, .inl 12, .inl 72, .inl 12, .inr (0, [(0, 9), (0, 10), (0, 11), (0, 12), (0, 13), (1, 0)]), .inl 8, .inl 8, .inl 8, .inl 8, .inl 64, .inr (2, [(0, 15), (0, 16), (1, 0), (1, 0)]), .inl 8, .inl 8, .inr (1, [(0, 18), (3, 0), (3, 0)]), .inl 64, .inl 64] 2 128 rfl rfl rfl rfl ?_
  refine pn_putr 1 [.inr (6, [(0, 1), (0, 3), (0, 8), (0, 14), (3, 0), (3, 0), (3, 0), (1, 0), (1, 0)]), .inr (3, [(0, 2), (1, 0)]), .inl 6, .inr (5, [(0, 4), (0, 5), (0, 6), (0, 7), (1, 0)]), .inl 72, .inl 12, .inl 72, .inl 12, .inr (0, [(0, 9), (0, 10), (0, 11), (0, 12), (0, 13), (1, 0)]), .inl 8, .inl 8, .inl 8, .inl 8, .inl 64, .inr (2, [(0, 15), (0, 16), (1, 0), (1, 0)]), .inl 8, .inl 8, .inr (1, [(0, 18), (0, 19), (3, 0)]), .inl 64, .inl 64] (fty := (.array .int)) dX2_init_17 clRX2 (by rfl) (Nat.le_of_ble_eq_true rfl) fRX2_15 rfl rfl rfl (by decide +kernel) (fun _ => rfl) (fun _ => rfl) rfl ?_
  refine pn_aload_n 0 dX2_init_20 rfl rfl ?_
  refine pn_bipush (8 : Int32) dX2_init_21 (by decide) ?_
  refine pn_newa 8 dX2_init_23 acI (by decide) (by decide) (by decide) rfl (Nat.le_of_ble_eq_true rfl) (Nat.le_of_ble_eq_true rfl) (Nat.le_of_ble_eq_true rfl) ?_
  refine pn_eq [.ref 20, .ref 17] [.inr (6, [(0, 1), (0, 3), (0, 8), (0, 14), (3, 0), (3, 0), (3, 0), (1, 0), (1, 0)]), .inr (3, [(0, 2), (1, 0)]), .inl 6, .inr (5, [(0, 4), (0, 5), (0, 6), (0, 7), (1, 0)]), .inl 72, .inl 12, .inl 72, .inl 12, .inr (0, [(0, 9), (0, 10), (0, 11), (0, 12), (0, 13), (1, 0)]), .inl 8, .inl 8, .inl 8, .inl 8, .inl 64, .inr (2, [(0, 15), (0, 16), (1, 0), (1, 0)]), .inl 8, .inl 8, .inr (1, [(0, 18), (0, 19), (3, 0)]), .inl 64, .inl 64, .inl 8] 3 136 rfl rfl rfl rfl ?_
  refine pn_putr 2 [.inr (6, [(0, 1), (0, 3), (0, 8), (0, 14), (3, 0), (3, 0), (3, 0), (1, 0), (1, 0)]), .inr (3, [(0, 2), (1, 0)]), .inl 6, .inr (5, [(0, 4), (0, 5), (0, 6), (0, 7), (1, 0)]), .inl 72, .inl 12, .inl 72, .inl 12, .inr (0, [(0, 9), (0, 10), (0, 11), (0, 12), (0, 13), (1, 0)]), .inl 8, .inl 8, .inl 8, .inl 8, .inl 64, .inr (2, [(0, 15), (0, 16), (1, 0), (1, 0)]), .inl 8, .inl 8, .inr (1, [(0, 18), (0, 19), (0, 20)]), .inl 64, .inl 64, .inl 8] (fty := (.array .int)) dX2_init_25 clRX2 (by rfl) (Nat.le_of_ble_eq_true rfl) fRX2_18 rfl rfl rfl (by decide +kernel) (fun _ => rfl) (fun _ => rfl) rfl ?_
  exact pn_return dX2_init_28 rfl rfl rfl rfl
set_option maxRecDepth 100000 in
set_option maxHeartbeats 400000 in
theorem ncX5_init : NCon yX5_init cX5_init 1 1 3 160 12 [.inr (6, [(0, 1), (0, 3), (0, 8), (0, 14), (0, 17), (3, 0), (3, 0), (1, 0), (1, 0)]), .inr (3, [(0, 2), (1, 0)]), .inl 6, .inr (5, [(0, 4), (0, 5), (0, 6), (0, 7), (1, 0)]), .inl 72, .inl 12, .inl 72, .inl 12, .inr (0, [(0, 9), (0, 10), (0, 11), (0, 12), (0, 13), (1, 0)]), .inl 8, .inl 8, .inl 8, .inl 8, .inl 64, .inr (2, [(0, 15), (0, 16), (1, 0), (1, 0)]), .inl 8, .inl 8, .inr (1, [(0, 18), (0, 19), (0, 20)]), .inl 64, .inl 64, .inl 8, .inr (4, [(3, 0), (3, 0), (3, 0)])] 21 [.inr (6, [(0, 1), (0, 3), (0, 8), (0, 14), (0, 17), (3, 0), (3, 0), (1, 0), (1, 0)]), .inr (3, [(0, 2), (1, 0)]), .inl 6, .inr (5, [(0, 4), (0, 5), (0, 6), (0, 7), (1, 0)]), .inl 72, .inl 12, .inl 72, .inl 12, .inr (0, [(0, 9), (0, 10), (0, 11), (0, 12), (0, 13), (1, 0)]), .inl 8, .inl 8, .inl 8, .inl 8, .inl 64, .inr (2, [(0, 15), (0, 16), (1, 0), (1, 0)]), .inl 8, .inl 8, .inr (1, [(0, 18), (0, 19), (0, 20)]), .inl 64, .inl 64, .inl 8, .inr (4, [(0, 22), (0, 23), (0, 24)]), .inl 128, .inl 16, .inl 16] zsg := by
  refine NCon.of (by decide) rfl (Nat.le_refl 1) ?_
  show PN RX5 cX5_init 1 1 3 160 12 [.inr (6, [(0, 1), (0, 3), (0, 8), (0, 14), (0, 17), (3, 0), (3, 0), (1, 0), (1, 0)]), .inr (3, [(0, 2), (1, 0)]), .inl 6, .inr (5, [(0, 4), (0, 5), (0, 6), (0, 7), (1, 0)]), .inl 72, .inl 12, .inl 72, .inl 12, .inr (0, [(0, 9), (0, 10), (0, 11), (0, 12), (0, 13), (1, 0)]), .inl 8, .inl 8, .inl 8, .inl 8, .inl 64, .inr (2, [(0, 15), (0, 16), (1, 0), (1, 0)]), .inl 8, .inl 8, .inr (1, [(0, 18), (0, 19), (0, 20)]), .inl 64, .inl 64, .inl 8, .inr (4, [(0, 22), (0, 23), (0, 24)]), .inl 128, .inl 16, .inl 16] zsg 22 0 [(0, .ref 21)] [] [.inr (6, [(0, 1), (0, 3), (0, 8), (0, 14), (0, 17), (3, 0), (3, 0), (1, 0), (1, 0)]), .inr (3, [(0, 2), (1, 0)]), .inl 6, .inr (5, [(0, 4), (0, 5), (0, 6), (0, 7), (1, 0)]), .inl 72, .inl 12, .inl 72, .inl 12, .inr (0, [(0, 9), (0, 10), (0, 11), (0, 12), (0, 13), (1, 0)]), .inl 8, .inl 8, .inl 8, .inl 8, .inl 64, .inr (2, [(0, 15), (0, 16), (1, 0), (1, 0)]), .inl 8, .inl 8, .inr (1, [(0, 18), (0, 19), (0, 20)]), .inl 64, .inl 64, .inl 8, .inr (4, [(3, 0), (3, 0), (3, 0)])] 0 0
  refine pn_aload_n 0 dX5_init_0 rfl rfl ?_
  refine pn_objInit dX5_init_1 ml_RX5_3 imOI coOI (Nat.le_of_ble_eq_true rfl) (Nat.le_of_ble_eq_true rfl) ?_
  refine pn_aload_n 0 dX5_init_4 rfl rfl ?_
  refine pn_sipush (128 : Int32) dX5_init_5 (by decide) ?_
  refine pn_newa 128 dX5_init_8 acI (by decide) (by decide) (by decide) rfl (Nat.le_of_ble_eq_true rfl) (Nat.le_of_ble_eq_true rfl) (Nat.le_of_ble_eq_true rfl) ?_
  refine pn_eq [.ref 22, .ref 21] [.inr (6, [(0, 1), (0, 3), (0, 8), (0, 14), (0, 17), (3, 0), (3, 0), (1, 0), (1, 0)]), .inr (3, [(0, 2), (1, 0)]), .inl 6, .inr (5, [(0, 4), (0, 5), (0, 6), (0, 7), (1, 0)]), .inl 72, .inl 12, .inl 72, .inl 12, .inr (0, [(0, 9), (0, 10), (0, 11), (0, 12), (0, 13), (1, 0)]), .inl 8, .inl 8, .inl 8, .inl 8, .inl 64, .inr (2, [(0, 15), (0, 16), (1, 0), (1, 0)]), .inl 8, .inl 8, .inr (1, [(0, 18), (0, 19), (0, 20)]), .inl 64, .inl 64, .inl 8, .inr (4, [(3, 0), (3, 0), (3, 0)]), .inl 128] 1 128 rfl rfl rfl rfl ?_
  refine pn_putr 0 [.inr (6, [(0, 1), (0, 3), (0, 8), (0, 14), (0, 17), (3, 0), (3, 0), (1, 0), (1, 0)]), .inr (3, [(0, 2), (1, 0)]), .inl 6, .inr (5, [(0, 4), (0, 5), (0, 6), (0, 7), (1, 0)]), .inl 72, .inl 12, .inl 72, .inl 12, .inr (0, [(0, 9), (0, 10), (0, 11), (0, 12), (0, 13), (1, 0)]), .inl 8, .inl 8, .inl 8, .inl 8, .inl 64, .inr (2, [(0, 15), (0, 16), (1, 0), (1, 0)]), .inl 8, .inl 8, .inr (1, [(0, 18), (0, 19), (0, 20)]), .inl 64, .inl 64, .inl 8, .inr (4, [(0, 22), (3, 0), (3, 0)]), .inl 128] (fty := (.array .int)) dX5_init_10 clRX5 (by rfl) (Nat.le_of_ble_eq_true rfl) fRX5_11 rfl rfl rfl (by decide +kernel) (fun _ => rfl) (fun _ => rfl) rfl ?_
  refine pn_aload_n 0 dX5_init_13 rfl rfl ?_
  refine pn_bipush (16 : Int32) dX5_init_14 (by decide) ?_
  refine pn_newa 16 dX5_init_16 acI (by decide) (by decide) (by decide) rfl (Nat.le_of_ble_eq_true rfl) (Nat.le_of_ble_eq_true rfl) (Nat.le_of_ble_eq_true rfl) ?_
  refine pn_eq [.ref 23, .ref 21] [.inr (6, [(0, 1), (0, 3), (0, 8), (0, 14), (0, 17), (3, 0), (3, 0), (1, 0), (1, 0)]), .inr (3, [(0, 2), (1, 0)]), .inl 6, .inr (5, [(0, 4), (0, 5), (0, 6), (0, 7), (1, 0)]), .inl 72, .inl 12, .inl 72, .inl 12, .inr (0, [(0, 9), (0, 10), (0, 11), (0, 12), (0, 13), (1, 0)]), .inl 8, .inl 8, .inl 8, .inl 8, .inl 64, .inr (2, [(0, 15), (0, 16), (1, 0), (1, 0)]), .inl 8, .inl 8, .inr (1, [(0, 18), (0, 19), (0, 20)]), .inl 64, .inl 64, .inl 8, .inr (4, [(0, 22), (3, 0), (3, 0)]), .inl 128, .inl 16] 2 144 rfl rfl rfl rfl ?_
  refine pn_putr 1 [.inr (6, [(0, 1), (0, 3), (0, 8), (0, 14), (0, 17), (3, 0), (3, 0), (1, 0), (1, 0)]), .inr (3, [(0, 2), (1, 0)]), .inl 6, .inr (5, [(0, 4), (0, 5), (0, 6), (0, 7), (1, 0)]), .inl 72, .inl 12, .inl 72, .inl 12, .inr (0, [(0, 9), (0, 10), (0, 11), (0, 12), (0, 13), (1, 0)]), .inl 8, .inl 8, .inl 8, .inl 8, .inl 64, .inr (2, [(0, 15), (0, 16), (1, 0), (1, 0)]), .inl 8, .inl 8, .inr (1, [(0, 18), (0, 19), (0, 20)]), .inl 64, .inl 64, .inl 8, .inr (4, [(0, 22), (0, 23), (3, 0)]), .inl 128, .inl 16] (fty := (.array .int)) dX5_init_18 clRX5 (by rfl) (Nat.le_of_ble_eq_true rfl) fRX5_15 rfl rfl rfl (by decide +kernel) (fun _ => rfl) (fun _ => rfl) rfl ?_
  refine pn_aload_n 0 dX5_init_21 rfl rfl ?_
  refine pn_bipush (16 : Int32) dX5_init_22 (by decide) ?_
  refine pn_newa 16 dX5_init_24 acI (by decide) (by decide) (by decide) rfl (Nat.le_of_ble_eq_true rfl) (Nat.le_of_ble_eq_true rfl) (Nat.le_of_ble_eq_true rfl) ?_
  refine pn_eq [.ref 24, .ref 21] [.inr (6, [(0, 1), (0, 3), (0, 8), (0, 14), (0, 17), (3, 0), (3, 0), (1, 0), (1, 0)]), .inr (3, [(0, 2), (1, 0)]), .inl 6, .inr (5, [(0, 4), (0, 5), (0, 6), (0, 7), (1, 0)]), .inl 72, .inl 12, .inl 72, .inl 12, .inr (0, [(0, 9), (0, 10), (0, 11), (0, 12), (0, 13), (1, 0)]), .inl 8, .inl 8, .inl 8, .inl 8, .inl 64, .inr (2, [(0, 15), (0, 16), (1, 0), (1, 0)]), .inl 8, .inl 8, .inr (1, [(0, 18), (0, 19), (0, 20)]), .inl 64, .inl 64, .inl 8, .inr (4, [(0, 22), (0, 23), (3, 0)]), .inl 128, .inl 16, .inl 16] 3 160 rfl rfl rfl rfl ?_
  refine pn_putr 2 [.inr (6, [(0, 1), (0, 3), (0, 8), (0, 14), (0, 17), (3, 0), (3, 0), (1, 0), (1, 0)]), .inr (3, [(0, 2), (1, 0)]), .inl 6, .inr (5, [(0, 4), (0, 5), (0, 6), (0, 7), (1, 0)]), .inl 72, .inl 12, .inl 72, .inl 12, .inr (0, [(0, 9), (0, 10), (0, 11), (0, 12), (0, 13), (1, 0)]), .inl 8, .inl 8, .inl 8, .inl 8, .inl 64, .inr (2, [(0, 15), (0, 16), (1, 0), (1, 0)]), .inl 8, .inl 8, .inr (1, [(0, 18), (0, 19), (0, 20)]), .inl 64, .inl 64, .inl 8, .inr (4, [(0, 22), (0, 23), (0, 24)]), .inl 128, .inl 16, .inl 16] (fty := (.array .int)) dX5_init_26 clRX5 (by rfl) (Nat.le_of_ble_eq_true rfl) fRX5_18 rfl rfl rfl (by decide +kernel) (fun _ => rfl) (fun _ => rfl) rfl ?_
  exact pn_return dX5_init_29 rfl rfl rfl rfl
set_option maxRecDepth 100000 in
set_option maxHeartbeats 400000 in
theorem ncX7_init {sg0 : Sg} (h : fX7_refresh zsg = some sg0) : NCon yX7_init cX7_init 1 6 25 669 132 [.inr (6, [(3, 0), (3, 0), (3, 0), (3, 0), (3, 0), (3, 0), (3, 0), (1, 0), (1, 0)])] 0 tbC sg0 := by
  refine NCon.of (by decide) rfl (Nat.le_refl 1) ?_
  show PN RX7 cX7_init 1 6 25 669 132 tbC sg0 1 0 [(0, .ref 0)] [] [.inr (6, [(3, 0), (3, 0), (3, 0), (3, 0), (3, 0), (3, 0), (3, 0), (1, 0), (1, 0)])] 0 0
  refine pn_aload_n 0 dX7_init_0 rfl rfl ?_
  refine pn_objInit dX7_init_1 ml_RX7_1 imOI coOI (Nat.le_of_ble_eq_true rfl) (Nat.le_of_ble_eq_true rfl) ?_
  refine pn_aload_n 0 dX7_init_4 rfl rfl ?_
  refine pn_new [(3, 0), (1, 0)] [.null, .int 0] dX7_init_5 clRX4 cl_RX7_7 is_RX4 inRX4 (fun _ _ => rfl) (by decide +kernel) rfl (Nat.le_of_ble_eq_true rfl) (Nat.le_of_ble_eq_true rfl) (Nat.le_of_ble_eq_true rfl) ?_
  refine pn_eq [.ref 1, .ref 0] [.inr (6, [(3, 0), (3, 0), (3, 0), (3, 0), (3, 0), (3, 0), (3, 0), (1, 0), (1, 0)]), .inr (3, [(3, 0), (1, 0)])] 1 2 rfl rfl rfl rfl ?_
  refine pn_dup dX7_init_8 rfl ?_
  refine pn_callI dX7_init_9 rfl ml_RX7_9 imX4_init inRX4 coX4_init hyX4_init (by decide) (Nat.le_of_ble_eq_true rfl) rfl (Nat.le_of_ble_eq_true rfl) (Nat.le_of_ble_eq_true rfl) (Nat.le_of_ble_eq_true rfl) ncX4_init ?_
  refine pn_eq [.ref 1, .ref 0] [.inr (6, [(3, 0), (3, 0), (3, 0), (3, 0), (3, 0), (3, 0), (3, 0), (1, 0), (1, 0)]), .inr (3, [(0, 2), (1, 0)]), .inl 6] 2 8 rfl rfl rfl rfl ?_
  refine pn_putr 0 [.inr (6, [(0, 1), (3, 0), (3, 0), (3, 0), (3, 0), (3, 0), (3, 0), (1, 0), (1, 0)]), .inr (3, [(0, 2), (1, 0)]), .inl 6] (fty := (.object "HillWays$Page")) dX7_init_12 clRX7 (by rfl) (Nat.le_of_ble_eq_true rfl) fRX7_10 rfl rfl rfl (by decide +kernel) (fun _ => rfl) (fun _ => rfl) rfl ?_
  refine pn_aload_n 0 dX7_init_15 rfl rfl ?_
  refine pn_new [(3, 0), (3, 0), (3, 0), (3, 0), (1, 0)] [.null, .null, .null, .null, .int 0] dX7_init_16 clRX6 cl_RX7_16 is_RX6 inRX6 (fun _ _ => rfl) (by decide +kernel) rfl (Nat.le_of_ble_eq_true rfl) (Nat.le_of_ble_eq_true rfl) (Nat.le_of_ble_eq_true rfl) ?_
  refine pn_eq [.ref 3, .ref 0] [.inr (6, [(0, 1), (3, 0), (3, 0), (3, 0), (3, 0), (3, 0), (3, 0), (1, 0), (1, 0)]), .inr (3, [(0, 2), (1, 0)]), .inl 6, .inr (5, [(3, 0), (3, 0), (3, 0), (3, 0), (1, 0)])] 3 13 rfl rfl rfl rfl ?_
  refine pn_dup dX7_init_19 rfl ?_
  refine pn_callI dX7_init_20 rfl ml_RX7_18 imX6_init inRX6 coX6_init hyX6_init (by decide) (Nat.le_of_ble_eq_true rfl) rfl (Nat.le_of_ble_eq_true rfl) (Nat.le_of_ble_eq_true rfl) (Nat.le_of_ble_eq_true rfl) ncX6_init ?_
  refine pn_eq [.ref 3, .ref 0] [.inr (6, [(0, 1), (3, 0), (3, 0), (3, 0), (3, 0), (3, 0), (3, 0), (1, 0), (1, 0)]), .inr (3, [(0, 2), (1, 0)]), .inl 6, .inr (5, [(0, 4), (0, 5), (0, 6), (0, 7), (1, 0)]), .inl 72, .inl 12, .inl 72, .inl 12] 7 181 rfl rfl rfl rfl ?_
  refine pn_putr 1 [.inr (6, [(0, 1), (0, 3), (3, 0), (3, 0), (3, 0), (3, 0), (3, 0), (1, 0), (1, 0)]), .inr (3, [(0, 2), (1, 0)]), .inl 6, .inr (5, [(0, 4), (0, 5), (0, 6), (0, 7), (1, 0)]), .inl 72, .inl 12, .inl 72, .inl 12] (fty := (.object "HillWays$Ways")) dX7_init_23 clRX7 (by rfl) (Nat.le_of_ble_eq_true rfl) fRX7_19 rfl rfl rfl (by decide +kernel) (fun _ => rfl) (fun _ => rfl) rfl ?_
  refine pn_aload_n 0 dX7_init_26 rfl rfl ?_
  refine pn_new [(3, 0), (3, 0), (3, 0), (3, 0), (3, 0), (1, 0)] [.null, .null, .null, .null, .null, .int 0] dX7_init_27 clRX1 cl_RX7_23 is_RX1 inRX1 (fun _ _ => rfl) (by decide +kernel) rfl (Nat.le_of_ble_eq_true rfl) (Nat.le_of_ble_eq_true rfl) (Nat.le_of_ble_eq_true rfl) ?_
  refine pn_eq [.ref 8, .ref 0] [.inr (6, [(0, 1), (0, 3), (3, 0), (3, 0), (3, 0), (3, 0), (3, 0), (1, 0), (1, 0)]), .inr (3, [(0, 2), (1, 0)]), .inl 6, .inr (5, [(0, 4), (0, 5), (0, 6), (0, 7), (1, 0)]), .inl 72, .inl 12, .inl 72, .inl 12, .inr (0, [(3, 0), (3, 0), (3, 0), (3, 0), (3, 0), (1, 0)])] 8 187 rfl rfl rfl rfl ?_
  refine pn_dup dX7_init_30 rfl ?_
  refine pn_callI dX7_init_31 rfl ml_RX7_25 imX1_init inRX1 coX1_init hyX1_init (by decide) (Nat.le_of_ble_eq_true rfl) rfl (Nat.le_of_ble_eq_true rfl) (Nat.le_of_ble_eq_true rfl) (Nat.le_of_ble_eq_true rfl) ncX1_init ?_
  refine pn_eq [.ref 8, .ref 0] [.inr (6, [(0, 1), (0, 3), (3, 0), (3, 0), (3, 0), (3, 0), (3, 0), (1, 0), (1, 0)]), .inr (3, [(0, 2), (1, 0)]), .inl 6, .inr (5, [(0, 4), (0, 5), (0, 6), (0, 7), (1, 0)]), .inl 72, .inl 12, .inl 72, .inl 12, .inr (0, [(0, 9), (0, 10), (0, 11), (0, 12), (0, 13), (1, 0)]), .inl 8, .inl 8, .inl 8, .inl 8, .inl 64] 13 283 rfl rfl rfl rfl ?_
  refine pn_putr 2 [.inr (6, [(0, 1), (0, 3), (0, 8), (3, 0), (3, 0), (3, 0), (3, 0), (1, 0), (1, 0)]), .inr (3, [(0, 2), (1, 0)]), .inl 6, .inr (5, [(0, 4), (0, 5), (0, 6), (0, 7), (1, 0)]), .inl 72, .inl 12, .inl 72, .inl 12, .inr (0, [(0, 9), (0, 10), (0, 11), (0, 12), (0, 13), (1, 0)]), .inl 8, .inl 8, .inl 8, .inl 8, .inl 64] (fty := (.object "HillWays$Links")) dX7_init_34 clRX7 (by rfl) (Nat.le_of_ble_eq_true rfl) fRX7_26 rfl rfl rfl (by decide +kernel) (fun _ => rfl) (fun _ => rfl) rfl ?_
  refine pn_aload_n 0 dX7_init_37 rfl rfl ?_
  refine pn_new [(3, 0), (3, 0), (1, 0), (1, 0)] [.null, .null, .int 0, .int 0] dX7_init_38 clRX3 cl_RX7_30 is_RX3 inRX3 (fun _ _ => rfl) (by decide +kernel) rfl (Nat.le_of_ble_eq_true rfl) (Nat.le_of_ble_eq_true rfl) (Nat.le_of_ble_eq_true rfl) ?_
  refine pn_eq [.ref 14, .ref 0] [.inr (6, [(0, 1), (0, 3), (0, 8), (3, 0), (3, 0), (3, 0), (3, 0), (1, 0), (1, 0)]), .inr (3, [(0, 2), (1, 0)]), .inl 6, .inr (5, [(0, 4), (0, 5), (0, 6), (0, 7), (1, 0)]), .inl 72, .inl 12, .inl 72, .inl 12, .inr (0, [(0, 9), (0, 10), (0, 11), (0, 12), (0, 13), (1, 0)]), .inl 8, .inl 8, .inl 8, .inl 8, .inl 64, .inr (2, [(3, 0), (3, 0), (1, 0), (1, 0)])] 14 287 rfl rfl rfl rfl ?_
  refine pn_dup dX7_init_41 rfl ?_
  refine pn_callI dX7_init_42 rfl ml_RX7_32 imX3_init inRX3 coX3_init hyX3_init (by decide) (Nat.le_of_ble_eq_true rfl) rfl (Nat.le_of_ble_eq_true rfl) (Nat.le_of_ble_eq_true rfl) (Nat.le_of_ble_eq_true rfl) ncX3_init ?_
  refine pn_eq [.ref 14, .ref 0] [.inr (6, [(0, 1), (0, 3), (0, 8), (3, 0), (3, 0), (3, 0), (3, 0), (1, 0), (1, 0)]), .inr (3, [(0, 2), (1, 0)]), .inl 6, .inr (5, [(0, 4), (0, 5), (0, 6), (0, 7), (1, 0)]), .inl 72, .inl 12, .inl 72, .inl 12, .inr (0, [(0, 9), (0, 10), (0, 11), (0, 12), (0, 13), (1, 0)]), .inl 8, .inl 8, .inl 8, .inl 8, .inl 64, .inr (2, [(0, 15), (0, 16), (1, 0), (1, 0)]), .inl 8, .inl 8] 16 303 rfl rfl rfl rfl ?_
  refine pn_putr 3 [.inr (6, [(0, 1), (0, 3), (0, 8), (0, 14), (3, 0), (3, 0), (3, 0), (1, 0), (1, 0)]), .inr (3, [(0, 2), (1, 0)]), .inl 6, .inr (5, [(0, 4), (0, 5), (0, 6), (0, 7), (1, 0)]), .inl 72, .inl 12, .inl 72, .inl 12, .inr (0, [(0, 9), (0, 10), (0, 11), (0, 12), (0, 13), (1, 0)]), .inl 8, .inl 8, .inl 8, .inl 8, .inl 64, .inr (2, [(0, 15), (0, 16), (1, 0), (1, 0)]), .inl 8, .inl 8] (fty := (.object "HillWays$Order")) dX7_init_45 clRX7 (by rfl) (Nat.le_of_ble_eq_true rfl) fRX7_33 rfl rfl rfl (by decide +kernel) (fun _ => rfl) (fun _ => rfl) rfl ?_
  refine pn_aload_n 0 dX7_init_48 rfl rfl ?_
  refine pn_new [(3, 0), (3, 0), (3, 0)] [.null, .null, .null] dX7_init_49 clRX2 cl_RX7_37 is_RX2 inRX2 (fun _ _ => rfl) (by decide +kernel) rfl (Nat.le_of_ble_eq_true rfl) (Nat.le_of_ble_eq_true rfl) (Nat.le_of_ble_eq_true rfl) ?_
  refine pn_eq [.ref 17, .ref 0] [.inr (6, [(0, 1), (0, 3), (0, 8), (0, 14), (3, 0), (3, 0), (3, 0), (1, 0), (1, 0)]), .inr (3, [(0, 2), (1, 0)]), .inl 6, .inr (5, [(0, 4), (0, 5), (0, 6), (0, 7), (1, 0)]), .inl 72, .inl 12, .inl 72, .inl 12, .inr (0, [(0, 9), (0, 10), (0, 11), (0, 12), (0, 13), (1, 0)]), .inl 8, .inl 8, .inl 8, .inl 8, .inl 64, .inr (2, [(0, 15), (0, 16), (1, 0), (1, 0)]), .inl 8, .inl 8, .inr (1, [(3, 0), (3, 0), (3, 0)])] 17 306 rfl rfl rfl rfl ?_
  refine pn_dup dX7_init_52 rfl ?_
  refine pn_callI dX7_init_53 rfl ml_RX7_39 imX2_init inRX2 coX2_init hyX2_init (by decide) (Nat.le_of_ble_eq_true rfl) rfl (Nat.le_of_ble_eq_true rfl) (Nat.le_of_ble_eq_true rfl) (Nat.le_of_ble_eq_true rfl) ncX2_init ?_
  refine pn_eq [.ref 17, .ref 0] [.inr (6, [(0, 1), (0, 3), (0, 8), (0, 14), (3, 0), (3, 0), (3, 0), (1, 0), (1, 0)]), .inr (3, [(0, 2), (1, 0)]), .inl 6, .inr (5, [(0, 4), (0, 5), (0, 6), (0, 7), (1, 0)]), .inl 72, .inl 12, .inl 72, .inl 12, .inr (0, [(0, 9), (0, 10), (0, 11), (0, 12), (0, 13), (1, 0)]), .inl 8, .inl 8, .inl 8, .inl 8, .inl 64, .inr (2, [(0, 15), (0, 16), (1, 0), (1, 0)]), .inl 8, .inl 8, .inr (1, [(0, 18), (0, 19), (0, 20)]), .inl 64, .inl 64, .inl 8] 20 442 rfl rfl rfl rfl ?_
  refine pn_putr 4 [.inr (6, [(0, 1), (0, 3), (0, 8), (0, 14), (0, 17), (3, 0), (3, 0), (1, 0), (1, 0)]), .inr (3, [(0, 2), (1, 0)]), .inl 6, .inr (5, [(0, 4), (0, 5), (0, 6), (0, 7), (1, 0)]), .inl 72, .inl 12, .inl 72, .inl 12, .inr (0, [(0, 9), (0, 10), (0, 11), (0, 12), (0, 13), (1, 0)]), .inl 8, .inl 8, .inl 8, .inl 8, .inl 64, .inr (2, [(0, 15), (0, 16), (1, 0), (1, 0)]), .inl 8, .inl 8, .inr (1, [(0, 18), (0, 19), (0, 20)]), .inl 64, .inl 64, .inl 8] (fty := (.object "HillWays$Names")) dX7_init_56 clRX7 (by rfl) (Nat.le_of_ble_eq_true rfl) fRX7_40 rfl rfl rfl (by decide +kernel) (fun _ => rfl) (fun _ => rfl) rfl ?_
  refine pn_aload_n 0 dX7_init_59 rfl rfl ?_
  refine pn_new [(3, 0), (3, 0), (3, 0)] [.null, .null, .null] dX7_init_60 clRX5 cl_RX7_44 is_RX5 inRX5 (fun _ _ => rfl) (by decide +kernel) rfl (Nat.le_of_ble_eq_true rfl) (Nat.le_of_ble_eq_true rfl) (Nat.le_of_ble_eq_true rfl) ?_
  refine pn_eq [.ref 21, .ref 0] [.inr (6, [(0, 1), (0, 3), (0, 8), (0, 14), (0, 17), (3, 0), (3, 0), (1, 0), (1, 0)]), .inr (3, [(0, 2), (1, 0)]), .inl 6, .inr (5, [(0, 4), (0, 5), (0, 6), (0, 7), (1, 0)]), .inl 72, .inl 12, .inl 72, .inl 12, .inr (0, [(0, 9), (0, 10), (0, 11), (0, 12), (0, 13), (1, 0)]), .inl 8, .inl 8, .inl 8, .inl 8, .inl 64, .inr (2, [(0, 15), (0, 16), (1, 0), (1, 0)]), .inl 8, .inl 8, .inr (1, [(0, 18), (0, 19), (0, 20)]), .inl 64, .inl 64, .inl 8, .inr (4, [(3, 0), (3, 0), (3, 0)])] 21 445 rfl rfl rfl rfl ?_
  refine pn_dup dX7_init_63 rfl ?_
  refine pn_callI dX7_init_64 rfl ml_RX7_46 imX5_init inRX5 coX5_init hyX5_init (by decide) (Nat.le_of_ble_eq_true rfl) rfl (Nat.le_of_ble_eq_true rfl) (Nat.le_of_ble_eq_true rfl) (Nat.le_of_ble_eq_true rfl) ncX5_init ?_
  refine pn_eq [.ref 21, .ref 0] [.inr (6, [(0, 1), (0, 3), (0, 8), (0, 14), (0, 17), (3, 0), (3, 0), (1, 0), (1, 0)]), .inr (3, [(0, 2), (1, 0)]), .inl 6, .inr (5, [(0, 4), (0, 5), (0, 6), (0, 7), (1, 0)]), .inl 72, .inl 12, .inl 72, .inl 12, .inr (0, [(0, 9), (0, 10), (0, 11), (0, 12), (0, 13), (1, 0)]), .inl 8, .inl 8, .inl 8, .inl 8, .inl 64, .inr (2, [(0, 15), (0, 16), (1, 0), (1, 0)]), .inl 8, .inl 8, .inr (1, [(0, 18), (0, 19), (0, 20)]), .inl 64, .inl 64, .inl 8, .inr (4, [(0, 22), (0, 23), (0, 24)]), .inl 128, .inl 16, .inl 16] 24 605 rfl rfl rfl rfl ?_
  refine pn_putr 5 [.inr (6, [(0, 1), (0, 3), (0, 8), (0, 14), (0, 17), (0, 21), (3, 0), (1, 0), (1, 0)]), .inr (3, [(0, 2), (1, 0)]), .inl 6, .inr (5, [(0, 4), (0, 5), (0, 6), (0, 7), (1, 0)]), .inl 72, .inl 12, .inl 72, .inl 12, .inr (0, [(0, 9), (0, 10), (0, 11), (0, 12), (0, 13), (1, 0)]), .inl 8, .inl 8, .inl 8, .inl 8, .inl 64, .inr (2, [(0, 15), (0, 16), (1, 0), (1, 0)]), .inl 8, .inl 8, .inr (1, [(0, 18), (0, 19), (0, 20)]), .inl 64, .inl 64, .inl 8, .inr (4, [(0, 22), (0, 23), (0, 24)]), .inl 128, .inl 16, .inl 16] (fty := (.object "HillWays$Rows")) dX7_init_67 clRX7 (by rfl) (Nat.le_of_ble_eq_true rfl) fRX7_47 rfl rfl rfl (by decide +kernel) (fun _ => rfl) (fun _ => rfl) rfl ?_
  refine pn_aload_n 0 dX7_init_70 rfl rfl ?_
  refine pn_bipush (64 : Int32) dX7_init_71 (by decide) ?_
  refine pn_newa 64 dX7_init_73 acI (by decide) (by decide) (by decide) rfl (Nat.le_of_ble_eq_true rfl) (Nat.le_of_ble_eq_true rfl) (Nat.le_of_ble_eq_true rfl) ?_
  refine pn_eq [.ref 25, .ref 0] [.inr (6, [(0, 1), (0, 3), (0, 8), (0, 14), (0, 17), (0, 21), (3, 0), (1, 0), (1, 0)]), .inr (3, [(0, 2), (1, 0)]), .inl 6, .inr (5, [(0, 4), (0, 5), (0, 6), (0, 7), (1, 0)]), .inl 72, .inl 12, .inl 72, .inl 12, .inr (0, [(0, 9), (0, 10), (0, 11), (0, 12), (0, 13), (1, 0)]), .inl 8, .inl 8, .inl 8, .inl 8, .inl 64, .inr (2, [(0, 15), (0, 16), (1, 0), (1, 0)]), .inl 8, .inl 8, .inr (1, [(0, 18), (0, 19), (0, 20)]), .inl 64, .inl 64, .inl 8, .inr (4, [(0, 22), (0, 23), (0, 24)]), .inl 128, .inl 16, .inl 16, .inl 64] 25 669 rfl rfl rfl rfl ?_
  refine pn_putr 6 [.inr (6, [(0, 1), (0, 3), (0, 8), (0, 14), (0, 17), (0, 21), (0, 25), (1, 0), (1, 0)]), .inr (3, [(0, 2), (1, 0)]), .inl 6, .inr (5, [(0, 4), (0, 5), (0, 6), (0, 7), (1, 0)]), .inl 72, .inl 12, .inl 72, .inl 12, .inr (0, [(0, 9), (0, 10), (0, 11), (0, 12), (0, 13), (1, 0)]), .inl 8, .inl 8, .inl 8, .inl 8, .inl 64, .inr (2, [(0, 15), (0, 16), (1, 0), (1, 0)]), .inl 8, .inl 8, .inr (1, [(0, 18), (0, 19), (0, 20)]), .inl 64, .inl 64, .inl 8, .inr (4, [(0, 22), (0, 23), (0, 24)]), .inl 128, .inl 16, .inl 16, .inl 64] (fty := (.array .int)) dX7_init_75 clRX7 (by rfl) (Nat.le_of_ble_eq_true rfl) fRX7_51 rfl rfl rfl (by decide +kernel) (fun _ => rfl) (fun _ => rfl) rfl ?_
  refine pn_aload_n 0 dX7_init_78 rfl rfl ?_
  refine pn_iconst (0 : Int32) dX7_init_79 (by decide) ?_
  refine pn_puti 7 (fty := .int) dX7_init_80 clRX7 (by rfl) (Nat.le_of_ble_eq_true rfl) fRX7_55 rfl rfl (by decide +kernel) rfl rfl ?_
  refine pn_aload_n 0 dX7_init_83 rfl rfl ?_
  refine pn_iconst (0 : Int32) dX7_init_84 (by decide) ?_
  refine pn_puti 8 (fty := .int) dX7_init_85 clRX7 (by rfl) (Nat.le_of_ble_eq_true rfl) fRX7_59 rfl rfl (by decide +kernel) rfl rfl ?_
  refine pn_aload_n 0 dX7_init_88 rfl rfl ?_
  exact pn_callRet (fk := _) dX7_init_89 dX7_init_92 (by rfl) rfl mRX7_62 imX7_refresh seX7_refresh inRX7 coX7_refresh hyX7_refresh (by decide) rfl rfl rfl (conX7_refresh h)
set_option maxRecDepth 100000 in
set_option maxHeartbeats 400000 in
theorem ncX8_init : NCon yX8_init cX8_init 1 1 15 534 12 [.inr (7, [(1, 0), (3, 0), (1, 0), (3, 0), (3, 0), (1, 0), (3, 0), (1, 0), (1, 0), (3, 0), (3, 0), (3, 0), (3, 0), (1, 0), (3, 0), (1, 0), (3, 0), (1, 0), (3, 0), (3, 0), (3, 0), (3, 0), (1, 0), (3, 0), (2, 0)])] 0 tbM zsg := by
  refine NCon.of (by decide) rfl (Nat.le_refl 1) ?_
  show PN RX8 cX8_init 1 1 15 534 12 tbM zsg 1 0 [(0, .ref 0)] [] [.inr (7, [(1, 0), (3, 0), (1, 0), (3, 0), (3, 0), (1, 0), (3, 0), (1, 0), (1, 0), (3, 0), (3, 0), (3, 0), (3, 0), (1, 0), (3, 0), (1, 0), (3, 0), (1, 0), (3, 0), (3, 0), (3, 0), (3, 0), (1, 0), (3, 0), (2, 0)])] 0 0
  refine pn_aload_n 0 dX8_init_0 rfl rfl ?_
  refine pn_objInit dX8_init_1 ml_RX8_1 imOI coOI (Nat.le_of_ble_eq_true rfl) (Nat.le_of_ble_eq_true rfl) ?_
  refine pn_aload_n 0 dX8_init_4 rfl rfl ?_
  refine pn_bipush (6 : Int32) dX8_init_5 (by decide) ?_
  refine pn_newa 6 dX8_init_7 acI (by decide) (by decide) (by decide) rfl (Nat.le_of_ble_eq_true rfl) (Nat.le_of_ble_eq_true rfl) (Nat.le_of_ble_eq_true rfl) ?_
  refine pn_eq [.ref 1, .ref 0] [.inr (7, [(1, 0), (3, 0), (1, 0), (3, 0), (3, 0), (1, 0), (3, 0), (1, 0), (1, 0), (3, 0), (3, 0), (3, 0), (3, 0), (1, 0), (3, 0), (1, 0), (3, 0), (1, 0), (3, 0), (3, 0), (3, 0), (3, 0), (1, 0), (3, 0), (2, 0)]), .inl 6] 1 6 rfl rfl rfl rfl ?_
  refine pn_putr 1 [.inr (7, [(1, 0), (0, 1), (1, 0), (3, 0), (3, 0), (1, 0), (3, 0), (1, 0), (1, 0), (3, 0), (3, 0), (3, 0), (3, 0), (1, 0), (3, 0), (1, 0), (3, 0), (1, 0), (3, 0), (3, 0), (3, 0), (3, 0), (1, 0), (3, 0), (2, 0)]), .inl 6] (fty := (.array .int)) dX8_init_9 clRX8 (by rfl) (Nat.le_of_ble_eq_true rfl) fRX8_7 rfl rfl rfl (by decide +kernel) (fun _ => rfl) (fun _ => rfl) rfl ?_
  refine pn_aload_n 0 dX8_init_12 rfl rfl ?_
  refine pn_bipush (96 : Int32) dX8_init_13 (by decide) ?_
  refine pn_newa 96 dX8_init_15 acI (by decide) (by decide) (by decide) rfl (Nat.le_of_ble_eq_true rfl) (Nat.le_of_ble_eq_true rfl) (Nat.le_of_ble_eq_true rfl) ?_
  refine pn_eq [.ref 2, .ref 0] [.inr (7, [(1, 0), (0, 1), (1, 0), (3, 0), (3, 0), (1, 0), (3, 0), (1, 0), (1, 0), (3, 0), (3, 0), (3, 0), (3, 0), (1, 0), (3, 0), (1, 0), (3, 0), (1, 0), (3, 0), (3, 0), (3, 0), (3, 0), (1, 0), (3, 0), (2, 0)]), .inl 6, .inl 96] 2 102 rfl rfl rfl rfl ?_
  refine pn_putr 3 [.inr (7, [(1, 0), (0, 1), (1, 0), (0, 2), (3, 0), (1, 0), (3, 0), (1, 0), (1, 0), (3, 0), (3, 0), (3, 0), (3, 0), (1, 0), (3, 0), (1, 0), (3, 0), (1, 0), (3, 0), (3, 0), (3, 0), (3, 0), (1, 0), (3, 0), (2, 0)]), .inl 6, .inl 96] (fty := (.array .int)) dX8_init_17 clRX8 (by rfl) (Nat.le_of_ble_eq_true rfl) fRX8_13 rfl rfl rfl (by decide +kernel) (fun _ => rfl) (fun _ => rfl) rfl ?_
  refine pn_aload_n 0 dX8_init_20 rfl rfl ?_
  refine pn_bipush (12 : Int32) dX8_init_21 (by decide) ?_
  refine pn_newa 12 dX8_init_23 acI (by decide) (by decide) (by decide) rfl (Nat.le_of_ble_eq_true rfl) (Nat.le_of_ble_eq_true rfl) (Nat.le_of_ble_eq_true rfl) ?_
  refine pn_eq [.ref 3, .ref 0] [.inr (7, [(1, 0), (0, 1), (1, 0), (0, 2), (3, 0), (1, 0), (3, 0), (1, 0), (1, 0), (3, 0), (3, 0), (3, 0), (3, 0), (1, 0), (3, 0), (1, 0), (3, 0), (1, 0), (3, 0), (3, 0), (3, 0), (3, 0), (1, 0), (3, 0), (2, 0)]), .inl 6, .inl 96, .inl 12] 3 114 rfl rfl rfl rfl ?_
  refine pn_putr 4 [.inr (7, [(1, 0), (0, 1), (1, 0), (0, 2), (0, 3), (1, 0), (3, 0), (1, 0), (1, 0), (3, 0), (3, 0), (3, 0), (3, 0), (1, 0), (3, 0), (1, 0), (3, 0), (1, 0), (3, 0), (3, 0), (3, 0), (3, 0), (1, 0), (3, 0), (2, 0)]), .inl 6, .inl 96, .inl 12] (fty := (.array .int)) dX8_init_25 clRX8 (by rfl) (Nat.le_of_ble_eq_true rfl) fRX8_16 rfl rfl rfl (by decide +kernel) (fun _ => rfl) (fun _ => rfl) rfl ?_
  refine pn_aload_n 0 dX8_init_28 rfl rfl ?_
  refine pn_bipush (64 : Int32) dX8_init_29 (by decide) ?_
  refine pn_newa 64 dX8_init_31 acI (by decide) (by decide) (by decide) rfl (Nat.le_of_ble_eq_true rfl) (Nat.le_of_ble_eq_true rfl) (Nat.le_of_ble_eq_true rfl) ?_
  refine pn_eq [.ref 4, .ref 0] [.inr (7, [(1, 0), (0, 1), (1, 0), (0, 2), (0, 3), (1, 0), (3, 0), (1, 0), (1, 0), (3, 0), (3, 0), (3, 0), (3, 0), (1, 0), (3, 0), (1, 0), (3, 0), (1, 0), (3, 0), (3, 0), (3, 0), (3, 0), (1, 0), (3, 0), (2, 0)]), .inl 6, .inl 96, .inl 12, .inl 64] 4 178 rfl rfl rfl rfl ?_
  refine pn_putr 6 [.inr (7, [(1, 0), (0, 1), (1, 0), (0, 2), (0, 3), (1, 0), (0, 4), (1, 0), (1, 0), (3, 0), (3, 0), (3, 0), (3, 0), (1, 0), (3, 0), (1, 0), (3, 0), (1, 0), (3, 0), (3, 0), (3, 0), (3, 0), (1, 0), (3, 0), (2, 0)]), .inl 6, .inl 96, .inl 12, .inl 64] (fty := (.array .int)) dX8_init_33 clRX8 (by rfl) (Nat.le_of_ble_eq_true rfl) fRX8_19 rfl rfl rfl (by decide +kernel) (fun _ => rfl) (fun _ => rfl) rfl ?_
  refine pn_aload_n 0 dX8_init_36 rfl rfl ?_
  refine pn_bipush (96 : Int32) dX8_init_37 (by decide) ?_
  refine pn_newa 96 dX8_init_39 acI (by decide) (by decide) (by decide) rfl (Nat.le_of_ble_eq_true rfl) (Nat.le_of_ble_eq_true rfl) (Nat.le_of_ble_eq_true rfl) ?_
  refine pn_eq [.ref 5, .ref 0] [.inr (7, [(1, 0), (0, 1), (1, 0), (0, 2), (0, 3), (1, 0), (0, 4), (1, 0), (1, 0), (3, 0), (3, 0), (3, 0), (3, 0), (1, 0), (3, 0), (1, 0), (3, 0), (1, 0), (3, 0), (3, 0), (3, 0), (3, 0), (1, 0), (3, 0), (2, 0)]), .inl 6, .inl 96, .inl 12, .inl 64, .inl 96] 5 274 rfl rfl rfl rfl ?_
  refine pn_putr 9 [.inr (7, [(1, 0), (0, 1), (1, 0), (0, 2), (0, 3), (1, 0), (0, 4), (1, 0), (1, 0), (0, 5), (3, 0), (3, 0), (3, 0), (1, 0), (3, 0), (1, 0), (3, 0), (1, 0), (3, 0), (3, 0), (3, 0), (3, 0), (1, 0), (3, 0), (2, 0)]), .inl 6, .inl 96, .inl 12, .inl 64, .inl 96] (fty := (.array .int)) dX8_init_41 clRX8 (by rfl) (Nat.le_of_ble_eq_true rfl) fRX8_22 rfl rfl rfl (by decide +kernel) (fun _ => rfl) (fun _ => rfl) rfl ?_
  refine pn_aload_n 0 dX8_init_44 rfl rfl ?_
  refine pn_bipush (12 : Int32) dX8_init_45 (by decide) ?_
  refine pn_newa 12 dX8_init_47 acI (by decide) (by decide) (by decide) rfl (Nat.le_of_ble_eq_true rfl) (Nat.le_of_ble_eq_true rfl) (Nat.le_of_ble_eq_true rfl) ?_
  refine pn_eq [.ref 6, .ref 0] [.inr (7, [(1, 0), (0, 1), (1, 0), (0, 2), (0, 3), (1, 0), (0, 4), (1, 0), (1, 0), (0, 5), (3, 0), (3, 0), (3, 0), (1, 0), (3, 0), (1, 0), (3, 0), (1, 0), (3, 0), (3, 0), (3, 0), (3, 0), (1, 0), (3, 0), (2, 0)]), .inl 6, .inl 96, .inl 12, .inl 64, .inl 96, .inl 12] 6 286 rfl rfl rfl rfl ?_
  refine pn_putr 10 [.inr (7, [(1, 0), (0, 1), (1, 0), (0, 2), (0, 3), (1, 0), (0, 4), (1, 0), (1, 0), (0, 5), (0, 6), (3, 0), (3, 0), (1, 0), (3, 0), (1, 0), (3, 0), (1, 0), (3, 0), (3, 0), (3, 0), (3, 0), (1, 0), (3, 0), (2, 0)]), .inl 6, .inl 96, .inl 12, .inl 64, .inl 96, .inl 12] (fty := (.array .int)) dX8_init_49 clRX8 (by rfl) (Nat.le_of_ble_eq_true rfl) fRX8_25 rfl rfl rfl (by decide +kernel) (fun _ => rfl) (fun _ => rfl) rfl ?_
  refine pn_aload_n 0 dX8_init_52 rfl rfl ?_
  refine pn_bipush (8 : Int32) dX8_init_53 (by decide) ?_
  refine pn_newa 8 dX8_init_55 acI (by decide) (by decide) (by decide) rfl (Nat.le_of_ble_eq_true rfl) (Nat.le_of_ble_eq_true rfl) (Nat.le_of_ble_eq_true rfl) ?_
  refine pn_eq [.ref 7, .ref 0] [.inr (7, [(1, 0), (0, 1), (1, 0), (0, 2), (0, 3), (1, 0), (0, 4), (1, 0), (1, 0), (0, 5), (0, 6), (3, 0), (3, 0), (1, 0), (3, 0), (1, 0), (3, 0), (1, 0), (3, 0), (3, 0), (3, 0), (3, 0), (1, 0), (3, 0), (2, 0)]), .inl 6, .inl 96, .inl 12, .inl 64, .inl 96, .inl 12, .inl 8] 7 294 rfl rfl rfl rfl ?_
  refine pn_putr 11 [.inr (7, [(1, 0), (0, 1), (1, 0), (0, 2), (0, 3), (1, 0), (0, 4), (1, 0), (1, 0), (0, 5), (0, 6), (0, 7), (3, 0), (1, 0), (3, 0), (1, 0), (3, 0), (1, 0), (3, 0), (3, 0), (3, 0), (3, 0), (1, 0), (3, 0), (2, 0)]), .inl 6, .inl 96, .inl 12, .inl 64, .inl 96, .inl 12, .inl 8] (fty := (.array .int)) dX8_init_57 clRX8 (by rfl) (Nat.le_of_ble_eq_true rfl) fRX8_28 rfl rfl rfl (by decide +kernel) (fun _ => rfl) (fun _ => rfl) rfl ?_
  refine pn_aload_n 0 dX8_init_60 rfl rfl ?_
  refine pn_bipush (8 : Int32) dX8_init_61 (by decide) ?_
  refine pn_newa 8 dX8_init_63 acI (by decide) (by decide) (by decide) rfl (Nat.le_of_ble_eq_true rfl) (Nat.le_of_ble_eq_true rfl) (Nat.le_of_ble_eq_true rfl) ?_
  refine pn_eq [.ref 8, .ref 0] [.inr (7, [(1, 0), (0, 1), (1, 0), (0, 2), (0, 3), (1, 0), (0, 4), (1, 0), (1, 0), (0, 5), (0, 6), (0, 7), (3, 0), (1, 0), (3, 0), (1, 0), (3, 0), (1, 0), (3, 0), (3, 0), (3, 0), (3, 0), (1, 0), (3, 0), (2, 0)]), .inl 6, .inl 96, .inl 12, .inl 64, .inl 96, .inl 12, .inl 8, .inl 8] 8 302 rfl rfl rfl rfl ?_
  refine pn_putr 12 [.inr (7, [(1, 0), (0, 1), (1, 0), (0, 2), (0, 3), (1, 0), (0, 4), (1, 0), (1, 0), (0, 5), (0, 6), (0, 7), (0, 8), (1, 0), (3, 0), (1, 0), (3, 0), (1, 0), (3, 0), (3, 0), (3, 0), (3, 0), (1, 0), (3, 0), (2, 0)]), .inl 6, .inl 96, .inl 12, .inl 64, .inl 96, .inl 12, .inl 8, .inl 8] (fty := (.array .int)) dX8_init_65 clRX8 (by rfl) (Nat.le_of_ble_eq_true rfl) fRX8_31 rfl rfl rfl (by decide +kernel) (fun _ => rfl) (fun _ => rfl) rfl ?_
  refine pn_aload_n 0 dX8_init_68 rfl rfl ?_
  refine pn_bipush (8 : Int32) dX8_init_69 (by decide) ?_
  refine pn_newa 8 dX8_init_71 acI (by decide) (by decide) (by decide) rfl (Nat.le_of_ble_eq_true rfl) (Nat.le_of_ble_eq_true rfl) (Nat.le_of_ble_eq_true rfl) ?_
  refine pn_eq [.ref 9, .ref 0] [.inr (7, [(1, 0), (0, 1), (1, 0), (0, 2), (0, 3), (1, 0), (0, 4), (1, 0), (1, 0), (0, 5), (0, 6), (0, 7), (0, 8), (1, 0), (3, 0), (1, 0), (3, 0), (1, 0), (3, 0), (3, 0), (3, 0), (3, 0), (1, 0), (3, 0), (2, 0)]), .inl 6, .inl 96, .inl 12, .inl 64, .inl 96, .inl 12, .inl 8, .inl 8, .inl 8] 9 310 rfl rfl rfl rfl ?_
  refine pn_putr 14 [.inr (7, [(1, 0), (0, 1), (1, 0), (0, 2), (0, 3), (1, 0), (0, 4), (1, 0), (1, 0), (0, 5), (0, 6), (0, 7), (0, 8), (1, 0), (0, 9), (1, 0), (3, 0), (1, 0), (3, 0), (3, 0), (3, 0), (3, 0), (1, 0), (3, 0), (2, 0)]), .inl 6, .inl 96, .inl 12, .inl 64, .inl 96, .inl 12, .inl 8, .inl 8, .inl 8] (fty := (.array .int)) dX8_init_73 clRX8 (by rfl) (Nat.le_of_ble_eq_true rfl) fRX8_34 rfl rfl rfl (by decide +kernel) (fun _ => rfl) (fun _ => rfl) rfl ?_
  refine pn_aload_n 0 dX8_init_76 rfl rfl ?_
  refine pn_bipush (8 : Int32) dX8_init_77 (by decide) ?_
  refine pn_newa 8 dX8_init_79 acI (by decide) (by decide) (by decide) rfl (Nat.le_of_ble_eq_true rfl) (Nat.le_of_ble_eq_true rfl) (Nat.le_of_ble_eq_true rfl) ?_
  refine pn_eq [.ref 10, .ref 0] [.inr (7, [(1, 0), (0, 1), (1, 0), (0, 2), (0, 3), (1, 0), (0, 4), (1, 0), (1, 0), (0, 5), (0, 6), (0, 7), (0, 8), (1, 0), (0, 9), (1, 0), (3, 0), (1, 0), (3, 0), (3, 0), (3, 0), (3, 0), (1, 0), (3, 0), (2, 0)]), .inl 6, .inl 96, .inl 12, .inl 64, .inl 96, .inl 12, .inl 8, .inl 8, .inl 8, .inl 8] 10 318 rfl rfl rfl rfl ?_
  refine pn_putr 16 [.inr (7, [(1, 0), (0, 1), (1, 0), (0, 2), (0, 3), (1, 0), (0, 4), (1, 0), (1, 0), (0, 5), (0, 6), (0, 7), (0, 8), (1, 0), (0, 9), (1, 0), (0, 10), (1, 0), (3, 0), (3, 0), (3, 0), (3, 0), (1, 0), (3, 0), (2, 0)]), .inl 6, .inl 96, .inl 12, .inl 64, .inl 96, .inl 12, .inl 8, .inl 8, .inl 8, .inl 8] (fty := (.array .int)) dX8_init_81 clRX8 (by rfl) (Nat.le_of_ble_eq_true rfl) fRX8_37 rfl rfl rfl (by decide +kernel) (fun _ => rfl) (fun _ => rfl) rfl ?_
  refine pn_aload_n 0 dX8_init_84 rfl rfl ?_
  refine pn_bipush (64 : Int32) dX8_init_85 (by decide) ?_
  refine pn_newa 64 dX8_init_87 acI (by decide) (by decide) (by decide) rfl (Nat.le_of_ble_eq_true rfl) (Nat.le_of_ble_eq_true rfl) (Nat.le_of_ble_eq_true rfl) ?_
  refine pn_eq [.ref 11, .ref 0] [.inr (7, [(1, 0), (0, 1), (1, 0), (0, 2), (0, 3), (1, 0), (0, 4), (1, 0), (1, 0), (0, 5), (0, 6), (0, 7), (0, 8), (1, 0), (0, 9), (1, 0), (0, 10), (1, 0), (3, 0), (3, 0), (3, 0), (3, 0), (1, 0), (3, 0), (2, 0)]), .inl 6, .inl 96, .inl 12, .inl 64, .inl 96, .inl 12, .inl 8, .inl 8, .inl 8, .inl 8, .inl 64] 11 382 rfl rfl rfl rfl ?_
  refine pn_putr 18 [.inr (7, [(1, 0), (0, 1), (1, 0), (0, 2), (0, 3), (1, 0), (0, 4), (1, 0), (1, 0), (0, 5), (0, 6), (0, 7), (0, 8), (1, 0), (0, 9), (1, 0), (0, 10), (1, 0), (0, 11), (3, 0), (3, 0), (3, 0), (1, 0), (3, 0), (2, 0)]), .inl 6, .inl 96, .inl 12, .inl 64, .inl 96, .inl 12, .inl 8, .inl 8, .inl 8, .inl 8, .inl 64] (fty := (.array .int)) dX8_init_89 clRX8 (by rfl) (Nat.le_of_ble_eq_true rfl) fRX8_40 rfl rfl rfl (by decide +kernel) (fun _ => rfl) (fun _ => rfl) rfl ?_
  refine pn_aload_n 0 dX8_init_92 rfl rfl ?_
  refine pn_bipush (64 : Int32) dX8_init_93 (by decide) ?_
  refine pn_newa 64 dX8_init_95 acI (by decide) (by decide) (by decide) rfl (Nat.le_of_ble_eq_true rfl) (Nat.le_of_ble_eq_true rfl) (Nat.le_of_ble_eq_true rfl) ?_
  refine pn_eq [.ref 12, .ref 0] [.inr (7, [(1, 0), (0, 1), (1, 0), (0, 2), (0, 3), (1, 0), (0, 4), (1, 0), (1, 0), (0, 5), (0, 6), (0, 7), (0, 8), (1, 0), (0, 9), (1, 0), (0, 10), (1, 0), (0, 11), (3, 0), (3, 0), (3, 0), (1, 0), (3, 0), (2, 0)]), .inl 6, .inl 96, .inl 12, .inl 64, .inl 96, .inl 12, .inl 8, .inl 8, .inl 8, .inl 8, .inl 64, .inl 64] 12 446 rfl rfl rfl rfl ?_
  refine pn_putr 19 [.inr (7, [(1, 0), (0, 1), (1, 0), (0, 2), (0, 3), (1, 0), (0, 4), (1, 0), (1, 0), (0, 5), (0, 6), (0, 7), (0, 8), (1, 0), (0, 9), (1, 0), (0, 10), (1, 0), (0, 11), (0, 12), (3, 0), (3, 0), (1, 0), (3, 0), (2, 0)]), .inl 6, .inl 96, .inl 12, .inl 64, .inl 96, .inl 12, .inl 8, .inl 8, .inl 8, .inl 8, .inl 64, .inl 64] (fty := (.array .int)) dX8_init_97 clRX8 (by rfl) (Nat.le_of_ble_eq_true rfl) fRX8_43 rfl rfl rfl (by decide +kernel) (fun _ => rfl) (fun _ => rfl) rfl ?_
  refine pn_aload_n 0 dX8_init_100 rfl rfl ?_
  refine pn_bipush (64 : Int32) dX8_init_101 (by decide) ?_
  refine pn_newa 64 dX8_init_103 acI (by decide) (by decide) (by decide) rfl (Nat.le_of_ble_eq_true rfl) (Nat.le_of_ble_eq_true rfl) (Nat.le_of_ble_eq_true rfl) ?_
  refine pn_eq [.ref 13, .ref 0] [.inr (7, [(1, 0), (0, 1), (1, 0), (0, 2), (0, 3), (1, 0), (0, 4), (1, 0), (1, 0), (0, 5), (0, 6), (0, 7), (0, 8), (1, 0), (0, 9), (1, 0), (0, 10), (1, 0), (0, 11), (0, 12), (3, 0), (3, 0), (1, 0), (3, 0), (2, 0)]), .inl 6, .inl 96, .inl 12, .inl 64, .inl 96, .inl 12, .inl 8, .inl 8, .inl 8, .inl 8, .inl 64, .inl 64, .inl 64] 13 510 rfl rfl rfl rfl ?_
  refine pn_putr 20 [.inr (7, [(1, 0), (0, 1), (1, 0), (0, 2), (0, 3), (1, 0), (0, 4), (1, 0), (1, 0), (0, 5), (0, 6), (0, 7), (0, 8), (1, 0), (0, 9), (1, 0), (0, 10), (1, 0), (0, 11), (0, 12), (0, 13), (3, 0), (1, 0), (3, 0), (2, 0)]), .inl 6, .inl 96, .inl 12, .inl 64, .inl 96, .inl 12, .inl 8, .inl 8, .inl 8, .inl 8, .inl 64, .inl 64, .inl 64] (fty := (.array .int)) dX8_init_105 clRX8 (by rfl) (Nat.le_of_ble_eq_true rfl) fRX8_46 rfl rfl rfl (by decide +kernel) (fun _ => rfl) (fun _ => rfl) rfl ?_
  refine pn_aload_n 0 dX8_init_108 rfl rfl ?_
  refine pn_bipush (8 : Int32) dX8_init_109 (by decide) ?_
  refine pn_newa 8 dX8_init_111 acI (by decide) (by decide) (by decide) rfl (Nat.le_of_ble_eq_true rfl) (Nat.le_of_ble_eq_true rfl) (Nat.le_of_ble_eq_true rfl) ?_
  refine pn_eq [.ref 14, .ref 0] [.inr (7, [(1, 0), (0, 1), (1, 0), (0, 2), (0, 3), (1, 0), (0, 4), (1, 0), (1, 0), (0, 5), (0, 6), (0, 7), (0, 8), (1, 0), (0, 9), (1, 0), (0, 10), (1, 0), (0, 11), (0, 12), (0, 13), (3, 0), (1, 0), (3, 0), (2, 0)]), .inl 6, .inl 96, .inl 12, .inl 64, .inl 96, .inl 12, .inl 8, .inl 8, .inl 8, .inl 8, .inl 64, .inl 64, .inl 64, .inl 8] 14 518 rfl rfl rfl rfl ?_
  refine pn_putr 21 [.inr (7, [(1, 0), (0, 1), (1, 0), (0, 2), (0, 3), (1, 0), (0, 4), (1, 0), (1, 0), (0, 5), (0, 6), (0, 7), (0, 8), (1, 0), (0, 9), (1, 0), (0, 10), (1, 0), (0, 11), (0, 12), (0, 13), (0, 14), (1, 0), (3, 0), (2, 0)]), .inl 6, .inl 96, .inl 12, .inl 64, .inl 96, .inl 12, .inl 8, .inl 8, .inl 8, .inl 8, .inl 64, .inl 64, .inl 64, .inl 8] (fty := (.array .int)) dX8_init_113 clRX8 (by rfl) (Nat.le_of_ble_eq_true rfl) fRX8_49 rfl rfl rfl (by decide +kernel) (fun _ => rfl) (fun _ => rfl) rfl ?_
  refine pn_aload_n 0 dX8_init_116 rfl rfl ?_
  refine pn_bipush (16 : Int32) dX8_init_117 (by decide) ?_
  refine pn_newa 16 dX8_init_119 acI (by decide) (by decide) (by decide) rfl (Nat.le_of_ble_eq_true rfl) (Nat.le_of_ble_eq_true rfl) (Nat.le_of_ble_eq_true rfl) ?_
  refine pn_eq [.ref 15, .ref 0] [.inr (7, [(1, 0), (0, 1), (1, 0), (0, 2), (0, 3), (1, 0), (0, 4), (1, 0), (1, 0), (0, 5), (0, 6), (0, 7), (0, 8), (1, 0), (0, 9), (1, 0), (0, 10), (1, 0), (0, 11), (0, 12), (0, 13), (0, 14), (1, 0), (3, 0), (2, 0)]), .inl 6, .inl 96, .inl 12, .inl 64, .inl 96, .inl 12, .inl 8, .inl 8, .inl 8, .inl 8, .inl 64, .inl 64, .inl 64, .inl 8, .inl 16] 15 534 rfl rfl rfl rfl ?_
  refine pn_putr 23 [.inr (7, [(1, 0), (0, 1), (1, 0), (0, 2), (0, 3), (1, 0), (0, 4), (1, 0), (1, 0), (0, 5), (0, 6), (0, 7), (0, 8), (1, 0), (0, 9), (1, 0), (0, 10), (1, 0), (0, 11), (0, 12), (0, 13), (0, 14), (1, 0), (0, 15), (2, 0)]), .inl 6, .inl 96, .inl 12, .inl 64, .inl 96, .inl 12, .inl 8, .inl 8, .inl 8, .inl 8, .inl 64, .inl 64, .inl 64, .inl 8, .inl 16] (fty := (.array .int)) dX8_init_121 clRX8 (by rfl) (Nat.le_of_ble_eq_true rfl) fRX8_52 rfl rfl rfl (by decide +kernel) (fun _ => rfl) (fun _ => rfl) rfl ?_
  exact pn_return dX8_init_124 rfl rfl rfl rfl
