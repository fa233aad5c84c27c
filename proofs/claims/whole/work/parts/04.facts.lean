def tbC : Tb := [.inr (6, [(0, 1), (0, 3), (0, 8), (0, 14), (0, 17), (0, 21), (0, 25), (1, 0), (1, 0)]), .inr (3, [(0, 2), (1, 0)]), .inl 6, .inr (5, [(0, 4), (0, 5), (0, 6), (0, 7), (1, 0)]), .inl 72, .inl 12, .inl 72, .inl 12, .inr (0, [(0, 9), (0, 10), (0, 11), (0, 12), (0, 13), (1, 0)]), .inl 8, .inl 8, .inl 8, .inl 8, .inl 64, .inr (2, [(0, 15), (0, 16), (1, 0), (1, 0)]), .inl 8, .inl 8, .inr (1, [(0, 18), (0, 19), (0, 20)]), .inl 64, .inl 64, .inl 8, .inr (4, [(0, 22), (0, 23), (0, 24)]), .inl 128, .inl 16, .inl 16, .inl 64]
theorem tC0 : tbC[0]? = some (.inr (6, [(0, 1), (0, 3), (0, 8), (0, 14), (0, 17), (0, 21), (0, 25), (1, 0), (1, 0)])) := rfl
theorem tC1 : tbC[1]? = some (.inr (3, [(0, 2), (1, 0)])) := rfl
theorem tC2 : tbC[2]? = some (.inl 6) := rfl
theorem tC3 : tbC[3]? = some (.inr (5, [(0, 4), (0, 5), (0, 6), (0, 7), (1, 0)])) := rfl
theorem tC4 : tbC[4]? = some (.inl 72) := rfl
theorem tC5 : tbC[5]? = some (.inl 12) := rfl
theorem tC6 : tbC[6]? = some (.inl 72) := rfl
theorem tC7 : tbC[7]? = some (.inl 12) := rfl
theorem tC8 : tbC[8]? = some (.inr (0, [(0, 9), (0, 10), (0, 11), (0, 12), (0, 13), (1, 0)])) := rfl
theorem tC9 : tbC[9]? = some (.inl 8) := rfl
theorem tC10 : tbC[10]? = some (.inl 8) := rfl
theorem tC11 : tbC[11]? = some (.inl 8) := rfl
theorem tC12 : tbC[12]? = some (.inl 8) := rfl
theorem tC13 : tbC[13]? = some (.inl 64) := rfl
theorem tC14 : tbC[14]? = some (.inr (2, [(0, 15), (0, 16), (1, 0), (1, 0)])) := rfl
theorem tC15 : tbC[15]? = some (.inl 8) := rfl
theorem tC16 : tbC[16]? = some (.inl 8) := rfl
theorem tC17 : tbC[17]? = some (.inr (1, [(0, 18), (0, 19), (0, 20)])) := rfl
theorem tC18 : tbC[18]? = some (.inl 64) := rfl
theorem tC19 : tbC[19]? = some (.inl 64) := rfl
theorem tC20 : tbC[20]? = some (.inl 8) := rfl
theorem tC21 : tbC[21]? = some (.inr (4, [(0, 22), (0, 23), (0, 24)])) := rfl
theorem tC22 : tbC[22]? = some (.inl 128) := rfl
theorem tC23 : tbC[23]? = some (.inl 16) := rfl
theorem tC24 : tbC[24]? = some (.inl 16) := rfl
theorem tC25 : tbC[25]? = some (.inl 64) := rfl
def tbM : Tb := [.inr (7, [(1, 0), (0, 1), (1, 0), (0, 2), (0, 3), (1, 0), (0, 4), (1, 0), (1, 0), (0, 5), (0, 6), (0, 7), (0, 8), (1, 0), (0, 9), (1, 0), (0, 10), (1, 0), (0, 11), (0, 12), (0, 13), (0, 14), (1, 0), (0, 15), (2, 0)]), .inl 6, .inl 96, .inl 12, .inl 64, .inl 96, .inl 12, .inl 8, .inl 8, .inl 8, .inl 8, .inl 64, .inl 64, .inl 64, .inl 8, .inl 16]
theorem tM0 : tbM[0]? = some (.inr (7, [(1, 0), (0, 1), (1, 0), (0, 2), (0, 3), (1, 0), (0, 4), (1, 0), (1, 0), (0, 5), (0, 6), (0, 7), (0, 8), (1, 0), (0, 9), (1, 0), (0, 10), (1, 0), (0, 11), (0, 12), (0, 13), (0, 14), (1, 0), (0, 15), (2, 0)])) := rfl
theorem tM1 : tbM[1]? = some (.inl 6) := rfl
theorem tM2 : tbM[2]? = some (.inl 96) := rfl
theorem tM3 : tbM[3]? = some (.inl 12) := rfl
theorem tM4 : tbM[4]? = some (.inl 64) := rfl
theorem tM5 : tbM[5]? = some (.inl 96) := rfl
theorem tM6 : tbM[6]? = some (.inl 12) := rfl
theorem tM7 : tbM[7]? = some (.inl 8) := rfl
theorem tM8 : tbM[8]? = some (.inl 8) := rfl
theorem tM9 : tbM[9]? = some (.inl 8) := rfl
theorem tM10 : tbM[10]? = some (.inl 8) := rfl
theorem tM11 : tbM[11]? = some (.inl 64) := rfl
theorem tM12 : tbM[12]? = some (.inl 64) := rfl
theorem tM13 : tbM[13]? = some (.inl 64) := rfl
theorem tM14 : tbM[14]? = some (.inl 8) := rfl
theorem tM15 : tbM[15]? = some (.inl 16) := rfl
theorem wiRX1 : ∀ w ∈ u_ws RX1 TX1 6, w ∈ gl := by
  have h : ∀ k, k < 6 → tables_1[([90, 92, 94, 96, 98, 100] : List Nat).getD k 0]? = some (u_lay RX1 TX1 k) ∧ goodWord (u_lay RX1 TX1 k) = true := by decide +kernel
  intro w hw
  obtain ⟨k, hk, rfl⟩ := List.mem_map.mp hw
  exact tb _ (h k (List.mem_range.mp hk)).1 (h k (List.mem_range.mp hk)).2
theorem clRX1 : clOk 0 RX1 TX1 6 tyX1 := ⟨rfl, wiRX1, tyX1_ok, nmX1⟩
theorem wiRX2 : ∀ w ∈ u_ws RX2 TX2 3, w ∈ gl := by
  have h : ∀ k, k < 3 → tables_1[([139, 141, 143] : List Nat).getD k 0]? = some (u_lay RX2 TX2 k) ∧ goodWord (u_lay RX2 TX2 k) = true := by decide +kernel
  intro w hw
  obtain ⟨k, hk, rfl⟩ := List.mem_map.mp hw
  exact tb _ (h k (List.mem_range.mp hk)).1 (h k (List.mem_range.mp hk)).2
theorem clRX2 : clOk 1 RX2 TX2 3 tyX2 := ⟨rfl, wiRX2, tyX2_ok, nmX2⟩
theorem wiRX3 : ∀ w ∈ u_ws RX3 TX3 4, w ∈ gl := by
  have h : ∀ k, k < 4 → tables_1[([118, 120, 122, 124] : List Nat).getD k 0]? = some (u_lay RX3 TX3 k) ∧ goodWord (u_lay RX3 TX3 k) = true := by decide +kernel
  intro w hw
  obtain ⟨k, hk, rfl⟩ := List.mem_map.mp hw
  exact tb _ (h k (List.mem_range.mp hk)).1 (h k (List.mem_range.mp hk)).2
theorem clRX3 : clOk 2 RX3 TX3 4 tyX3 := ⟨rfl, wiRX3, tyX3_ok, nmX3⟩
theorem wiRX4 : ∀ w ∈ u_ws RX4 TX4 2, w ∈ gl := by
  have h : ∀ k, k < 2 → tables_1[([32, 34] : List Nat).getD k 0]? = some (u_lay RX4 TX4 k) ∧ goodWord (u_lay RX4 TX4 k) = true := by decide +kernel
  intro w hw
  obtain ⟨k, hk, rfl⟩ := List.mem_map.mp hw
  exact tb _ (h k (List.mem_range.mp hk)).1 (h k (List.mem_range.mp hk)).2
theorem clRX4 : clOk 3 RX4 TX4 2 tyX4 := ⟨rfl, wiRX4, tyX4_ok, nmX4⟩
theorem wiRX5 : ∀ w ∈ u_ws RX5 TX5 3, w ∈ gl := by
  have h : ∀ k, k < 3 → tables_1[([155, 157, 159] : List Nat).getD k 0]? = some (u_lay RX5 TX5 k) ∧ goodWord (u_lay RX5 TX5 k) = true := by decide +kernel
  intro w hw
  obtain ⟨k, hk, rfl⟩ := List.mem_map.mp hw
  exact tb _ (h k (List.mem_range.mp hk)).1 (h k (List.mem_range.mp hk)).2
theorem clRX5 : clOk 4 RX5 TX5 3 tyX5 := ⟨rfl, wiRX5, tyX5_ok, nmX5⟩
theorem wiRX6 : ∀ w ∈ u_ws RX6 TX6 5, w ∈ gl := by
  have h : ∀ k, k < 5 → tables_1[([58, 60, 62, 64, 66] : List Nat).getD k 0]? = some (u_lay RX6 TX6 k) ∧ goodWord (u_lay RX6 TX6 k) = true := by decide +kernel
  intro w hw
  obtain ⟨k, hk, rfl⟩ := List.mem_map.mp hw
  exact tb _ (h k (List.mem_range.mp hk)).1 (h k (List.mem_range.mp hk)).2
theorem clRX6 : clOk 5 RX6 TX6 5 tyX6 := ⟨rfl, wiRX6, tyX6_ok, nmX6⟩
theorem wiRX7 : ∀ w ∈ u_ws RX7 TX7 9, w ∈ gl := by
  have h : ∀ k, k < 9 → tables_1[([261, 263, 265, 267, 269, 271, 273, 275, 277] : List Nat).getD k 0]? = some (u_lay RX7 TX7 k) ∧ goodWord (u_lay RX7 TX7 k) = true := by decide +kernel
  intro w hw
  obtain ⟨k, hk, rfl⟩ := List.mem_map.mp hw
  exact tb _ (h k (List.mem_range.mp hk)).1 (h k (List.mem_range.mp hk)).2
theorem clRX7 : clOk 6 RX7 TX7 9 tyX7 := ⟨rfl, wiRX7, tyX7_ok, nmX7⟩
theorem wiRX8 : ∀ w ∈ u_ws RX8 TX8 25, w ∈ gl := by
  have h : ∀ k, k < 25 → tables_1[([495, 497, 499, 501, 503, 505, 507, 509, 511, 513, 515, 517, 519, 521, 523, 525, 527, 529, 531, 533, 535, 537, 539, 541, 543] : List Nat).getD k 0]? = some (u_lay RX8 TX8 k) ∧ goodWord (u_lay RX8 TX8 k) = true := by decide +kernel
  intro w hw
  obtain ⟨k, hk, rfl⟩ := List.mem_map.mp hw
  exact tb _ (h k (List.mem_range.mp hk)).1 (h k (List.mem_range.mp hk)).2
theorem clRX8 : clOk 7 RX8 TX8 25 tyX8 := ⟨rfl, wiRX8, tyX8_ok, nmX8⟩
theorem fRX7_10 : Cond.fieldLink RX7 10 "HillWays" "page" "LHillWays$Page;" ∈ gl := tb 252 (by decide +kernel) rfl
theorem fRX7_19 : Cond.fieldLink RX7 19 "HillWays" "ways" "LHillWays$Ways;" ∈ gl := tb 253 (by decide +kernel) rfl
theorem fRX7_26 : Cond.fieldLink RX7 26 "HillWays" "links" "LHillWays$Links;" ∈ gl := tb 254 (by decide +kernel) rfl
theorem fRX7_33 : Cond.fieldLink RX7 33 "HillWays" "order" "LHillWays$Order;" ∈ gl := tb 255 (by decide +kernel) rfl
theorem fRX7_40 : Cond.fieldLink RX7 40 "HillWays" "names" "LHillWays$Names;" ∈ gl := tb 256 (by decide +kernel) rfl
theorem fRX7_47 : Cond.fieldLink RX7 47 "HillWays" "rows" "LHillWays$Rows;" ∈ gl := tb 257 (by decide +kernel) rfl
theorem fRX7_51 : Cond.fieldLink RX7 51 "HillWays" "told" "[I" ∈ gl := tb 258 (by decide +kernel) rfl
theorem fRX7_55 : Cond.fieldLink RX7 55 "HillWays" "exchanges" "I" ∈ gl := tb 259 (by decide +kernel) rfl
theorem fRX7_59 : Cond.fieldLink RX7 59 "HillWays" "readings" "I" ∈ gl := tb 260 (by decide +kernel) rfl
theorem fRX7_65 : Cond.fieldLink RX7 65 "HillWays$Page" "size" "I" ∈ gl := tb 30 (by decide +kernel) rfl
theorem fRX7_80 : Cond.fieldLink RX7 80 "HillWays$Ways" "count" "I" ∈ gl := tb 57 (by decide +kernel) rfl
theorem fRX7_87 : Cond.fieldLink RX7 87 "HillWays$Page" "nets" "[I" ∈ gl := tb 28 (by decide +kernel) rfl
theorem fRX7_118 : Cond.fieldLink RX7 118 "HillWays$Links" "degree" "[I" ∈ gl := tb 81 (by decide +kernel) rfl
theorem fRX7_121 : Cond.fieldLink RX7 121 "HillWays$Links" "transit" "[I" ∈ gl := tb 84 (by decide +kernel) rfl
theorem fRX7_124 : Cond.fieldLink RX7 124 "HillWays$Order" "placeOf" "[I" ∈ gl := tb 112 (by decide +kernel) rfl
theorem fRX7_127 : Cond.fieldLink RX7 127 "HillWays$Order" "top" "I" ∈ gl := tb 117 (by decide +kernel) rfl
theorem fRX7_133 : Cond.fieldLink RX7 133 "HillWays$Order" "size" "I" ∈ gl := tb 114 (by decide +kernel) rfl
theorem fRX7_134 : Cond.fieldLink RX7 134 "HillWays$Order" "netAt" "[I" ∈ gl := tb 110 (by decide +kernel) rfl
theorem fRX7_137 : Cond.fieldLink RX7 137 "HillWays$Names" "name" "[I" ∈ gl := tb 137 (by decide +kernel) rfl
theorem fRX7_140 : Cond.fieldLink RX7 140 "HillWays$Names" "votes" "[I" ∈ gl := tb 134 (by decide +kernel) rfl
theorem fRX7_143 : Cond.fieldLink RX7 143 "HillWays$Links" "inWays" "[I" ∈ gl := tb 86 (by decide +kernel) rfl
theorem fRX7_149 : Cond.fieldLink RX7 149 "HillWays$Ways" "cutSizes" "[I" ∈ gl := tb 53 (by decide +kernel) rfl
theorem fRX7_152 : Cond.fieldLink RX7 152 "HillWays$Ways" "cut" "[I" ∈ gl := tb 49 (by decide +kernel) rfl
theorem fRX7_207 : Cond.fieldLink RX7 207 "HillWays$Links" "seenNets" "I" ∈ gl := tb 89 (by decide +kernel) rfl
theorem fRX1_9 : Cond.fieldLink RX1 9 "HillWays$Links" "linked" "[I" ∈ gl := tb 75 (by decide +kernel) rfl
theorem fRX1_15 : Cond.fieldLink RX1 15 "HillWays$Links" "passed" "[I" ∈ gl := tb 78 (by decide +kernel) rfl
theorem fRX1_18 : Cond.fieldLink RX1 18 "HillWays$Links" "degree" "[I" ∈ gl := tb 79 (by decide +kernel) rfl
theorem fRX1_21 : Cond.fieldLink RX1 21 "HillWays$Links" "transit" "[I" ∈ gl := tb 82 (by decide +kernel) rfl
theorem fRX1_24 : Cond.fieldLink RX1 24 "HillWays$Links" "inWays" "[I" ∈ gl := tb 85 (by decide +kernel) rfl
theorem fRX1_27 : Cond.fieldLink RX1 27 "HillWays$Links" "seenNets" "I" ∈ gl := tb 87 (by decide +kernel) rfl
theorem fRX1_34 : Cond.fieldLink RX1 34 "HillWays$Ways" "count" "I" ∈ gl := tb 56 (by decide +kernel) rfl
theorem fRX1_39 : Cond.fieldLink RX1 39 "HillWays$Ways" "cut" "[I" ∈ gl := tb 48 (by decide +kernel) rfl
theorem fRX1_42 : Cond.fieldLink RX1 42 "HillWays$Ways" "cutSizes" "[I" ∈ gl := tb 52 (by decide +kernel) rfl
theorem fRX2_9 : Cond.fieldLink RX2 9 "HillWays$Names" "votes" "[I" ∈ gl := tb 133 (by decide +kernel) rfl
theorem fRX2_15 : Cond.fieldLink RX2 15 "HillWays$Names" "name" "[I" ∈ gl := tb 135 (by decide +kernel) rfl
theorem fRX2_18 : Cond.fieldLink RX2 18 "HillWays$Names" "payers" "[I" ∈ gl := tb 138 (by decide +kernel) rfl
theorem fRX2_21 : Cond.fieldLink RX2 21 "HillWays$Ways" "count" "I" ∈ gl := tb 55 (by decide +kernel) rfl
theorem fRX2_27 : Cond.fieldLink RX2 27 "HillWays$Ways" "cut" "[I" ∈ gl := tb 47 (by decide +kernel) rfl
theorem fRX2_30 : Cond.fieldLink RX2 30 "HillWays$Ways" "cutSizes" "[I" ∈ gl := tb 51 (by decide +kernel) rfl
theorem fRX2_37 : Cond.fieldLink RX2 37 "HillWays$Links" "linked" "[I" ∈ gl := tb 76 (by decide +kernel) rfl
theorem fRX2_48 : Cond.fieldLink RX2 48 "HillWays$Order" "top" "I" ∈ gl := tb 116 (by decide +kernel) rfl
theorem fRX3_9 : Cond.fieldLink RX3 9 "HillWays$Order" "netAt" "[I" ∈ gl := tb 109 (by decide +kernel) rfl
theorem fRX3_15 : Cond.fieldLink RX3 15 "HillWays$Order" "placeOf" "[I" ∈ gl := tb 111 (by decide +kernel) rfl
theorem fRX3_18 : Cond.fieldLink RX3 18 "HillWays$Order" "size" "I" ∈ gl := tb 113 (by decide +kernel) rfl
theorem fRX3_22 : Cond.fieldLink RX3 22 "HillWays$Order" "top" "I" ∈ gl := tb 115 (by decide +kernel) rfl
theorem fRX3_25 : Cond.fieldLink RX3 25 "HillWays$Links" "seenNets" "I" ∈ gl := tb 88 (by decide +kernel) rfl
theorem fRX3_53 : Cond.fieldLink RX3 53 "HillWays$Links" "transit" "[I" ∈ gl := tb 83 (by decide +kernel) rfl
theorem fRX3_56 : Cond.fieldLink RX3 56 "HillWays$Links" "degree" "[I" ∈ gl := tb 80 (by decide +kernel) rfl
theorem fRX3_66 : Cond.fieldLink RX3 66 "HillWays$Links" "linked" "[I" ∈ gl := tb 77 (by decide +kernel) rfl
theorem fRX4_9 : Cond.fieldLink RX4 9 "HillWays$Page" "nets" "[I" ∈ gl := tb 26 (by decide +kernel) rfl
theorem fRX4_15 : Cond.fieldLink RX4 15 "HillWays$Page" "size" "I" ∈ gl := tb 29 (by decide +kernel) rfl
theorem fRX5_11 : Cond.fieldLink RX5 11 "HillWays$Rows" "fewest" "[I" ∈ gl := tb 152 (by decide +kernel) rfl
theorem fRX5_15 : Cond.fieldLink RX5 15 "HillWays$Rows" "reached" "[I" ∈ gl := tb 153 (by decide +kernel) rfl
theorem fRX5_18 : Cond.fieldLink RX5 18 "HillWays$Rows" "reachedNow" "[I" ∈ gl := tb 154 (by decide +kernel) rfl
theorem fRX5_29 : Cond.fieldLink RX5 29 "HillWays$Names" "name" "[I" ∈ gl := tb 136 (by decide +kernel) rfl
theorem fRX6_9 : Cond.fieldLink RX6 9 "HillWays$Ways" "nets" "[I" ∈ gl := tb 44 (by decide +kernel) rfl
theorem fRX6_15 : Cond.fieldLink RX6 15 "HillWays$Ways" "sizes" "[I" ∈ gl := tb 45 (by decide +kernel) rfl
theorem fRX6_18 : Cond.fieldLink RX6 18 "HillWays$Ways" "cut" "[I" ∈ gl := tb 46 (by decide +kernel) rfl
theorem fRX6_21 : Cond.fieldLink RX6 21 "HillWays$Ways" "cutSizes" "[I" ∈ gl := tb 50 (by decide +kernel) rfl
theorem fRX6_24 : Cond.fieldLink RX6 24 "HillWays$Ways" "count" "I" ∈ gl := tb 54 (by decide +kernel) rfl
theorem fRX6_28 : Cond.fieldLink RX6 28 "HillWays$Page" "size" "I" ∈ gl := tb 31 (by decide +kernel) rfl
theorem fRX6_33 : Cond.fieldLink RX6 33 "HillWays$Page" "nets" "[I" ∈ gl := tb 27 (by decide +kernel) rfl
theorem fRX8_7 : Cond.fieldLink RX8 7 "HillWaysModel" "page" "[I" ∈ gl := tb 471 (by decide +kernel) rfl
theorem fRX8_13 : Cond.fieldLink RX8 13 "HillWaysModel" "wayAt" "[I" ∈ gl := tb 473 (by decide +kernel) rfl
theorem fRX8_16 : Cond.fieldLink RX8 16 "HillWaysModel" "wayLong" "[I" ∈ gl := tb 474 (by decide +kernel) rfl
theorem fRX8_19 : Cond.fieldLink RX8 19 "HillWaysModel" "toldAt" "[I" ∈ gl := tb 476 (by decide +kernel) rfl
theorem fRX8_22 : Cond.fieldLink RX8 22 "HillWaysModel" "bareAt" "[I" ∈ gl := tb 479 (by decide +kernel) rfl
theorem fRX8_25 : Cond.fieldLink RX8 25 "HillWaysModel" "bareLong" "[I" ∈ gl := tb 480 (by decide +kernel) rfl
theorem fRX8_28 : Cond.fieldLink RX8 28 "HillWaysModel" "linked" "[I" ∈ gl := tb 481 (by decide +kernel) rfl
theorem fRX8_31 : Cond.fieldLink RX8 31 "HillWaysModel" "beside" "[I" ∈ gl := tb 482 (by decide +kernel) rfl
theorem fRX8_34 : Cond.fieldLink RX8 34 "HillWaysModel" "ranked" "[I" ∈ gl := tb 484 (by decide +kernel) rfl
theorem fRX8_37 : Cond.fieldLink RX8 37 "HillWaysModel" "placeOf" "[I" ∈ gl := tb 486 (by decide +kernel) rfl
theorem fRX8_40 : Cond.fieldLink RX8 40 "HillWaysModel" "votes" "[I" ∈ gl := tb 488 (by decide +kernel) rfl
theorem fRX8_43 : Cond.fieldLink RX8 43 "HillWaysModel" "often" "[I" ∈ gl := tb 489 (by decide +kernel) rfl
theorem fRX8_46 : Cond.fieldLink RX8 46 "HillWaysModel" "names" "[I" ∈ gl := tb 490 (by decide +kernel) rfl
theorem fRX8_49 : Cond.fieldLink RX8 49 "HillWaysModel" "row" "[I" ∈ gl := tb 491 (by decide +kernel) rfl
theorem fRX8_52 : Cond.fieldLink RX8 52 "HillWaysModel" "far" "[I" ∈ gl := tb 493 (by decide +kernel) rfl
theorem fRX8_59 : Cond.fieldLink RX8 59 "HillWaysModel" "pageLength" "I" ∈ gl := tb 470 (by decide +kernel) rfl
theorem fRX8_75 : Cond.fieldLink RX8 75 "HillWaysModel" "ways" "I" ∈ gl := tb 472 (by decide +kernel) rfl
theorem fRX8_78 : Cond.fieldLink RX8 78 "HillWaysModel" "waysRead" "I" ∈ gl := tb 477 (by decide +kernel) rfl
theorem fRX8_81 : Cond.fieldLink RX8 81 "HillWaysModel" "isLaid" "Z" ∈ gl := tb 478 (by decide +kernel) rfl
theorem fRX8_88 : Cond.fieldLink RX8 88 "HillWaysModel" "exchanges" "I" ∈ gl := tb 475 (by decide +kernel) rfl
theorem fRX8_99 : Cond.fieldLink RX8 99 "HillWaysModel" "seenBits" "I" ∈ gl := tb 483 (by decide +kernel) rfl
theorem fRX8_112 : Cond.fieldLink RX8 112 "HillWaysModel" "rankedMany" "I" ∈ gl := tb 485 (by decide +kernel) rfl
theorem fRX8_118 : Cond.fieldLink RX8 118 "HillWaysModel" "topBits" "I" ∈ gl := tb 487 (by decide +kernel) rfl
theorem fRX8_174 : Cond.fieldLink RX8 174 "HillWaysModel" "rowLong" "I" ∈ gl := tb 492 (by decide +kernel) rfl
theorem fRX8_207 : Cond.fieldLink RX8 207 "HillWaysModel" "h" "J" ∈ gl := tb 494 (by decide +kernel) rfl
theorem mRX7_62 : Cond.methodLink RX7 62 yX7_refresh ∈ gl := tb 162 (by decide +kernel) rfl
theorem mRX7_68 : Cond.methodLink RX7 68 yX4_append ∈ gl := tb 284 (by decide +kernel) rfl
theorem mRX7_72 : Cond.methodLink RX7 72 yX4_firstFault ∈ gl := tb 296 (by decide +kernel) rfl
theorem mRX7_76 : Cond.methodLink RX7 76 yX4_isWay ∈ gl := tb 308 (by decide +kernel) rfl
theorem mRX7_83 : Cond.methodLink RX7 83 yX6_add ∈ gl := tb 313 (by decide +kernel) rfl
theorem mRX7_90 : Cond.methodLink RX7 90 yX2_firstValley ∈ gl := tb 321 (by decide +kernel) rfl
theorem mRX7_94 : Cond.methodLink RX7 94 yX6_has ∈ gl := tb 330 (by decide +kernel) rfl
theorem mRX7_98 : Cond.methodLink RX7 98 yX6_remove ∈ gl := tb 334 (by decide +kernel) rfl
theorem mRX7_101 : Cond.methodLink RX7 101 yX0_isNet ∈ gl := tb 343 (by decide +kernel) rfl
theorem mRX7_106 : Cond.methodLink RX7 106 yX0_at ∈ gl := tb 344 (by decide +kernel) rfl
theorem mRX7_110 : Cond.methodLink RX7 110 yX7_arePair ∈ gl := tb 351 (by decide +kernel) rfl
theorem mRX7_114 : Cond.methodLink RX7 114 yX2_turned ∈ gl := tb 354 (by decide +kernel) rfl
theorem mRX7_130 : Cond.methodLink RX7 130 yX2_cone ∈ gl := tb 361 (by decide +kernel) rfl
theorem mRX7_146 : Cond.methodLink RX7 146 yX2_contradictedAt ∈ gl := tb 381 (by decide +kernel) rfl
theorem mRX7_155 : Cond.methodLink RX7 155 yX3_firstOf ∈ gl := tb 396 (by decide +kernel) rfl
theorem mRX7_158 : Cond.methodLink RX7 158 yX5_fewestLinks ∈ gl := tb 401 (by decide +kernel) rfl
theorem mRX7_162 : Cond.methodLink RX7 162 yX5_leastSecond ∈ gl := tb 405 (by decide +kernel) rfl
theorem mRX7_166 : Cond.methodLink RX7 166 yX1_total ∈ gl := tb 414 (by decide +kernel) rfl
theorem mRX7_169 : Cond.methodLink RX7 169 yX2_named ∈ gl := tb 418 (by decide +kernel) rfl
theorem mRX7_172 : Cond.methodLink RX7 172 yX2_contradictions ∈ gl := tb 422 (by decide +kernel) rfl
theorem mRX7_175 : Cond.methodLink RX7 175 yX7_waysWithValley ∈ gl := tb 426 (by decide +kernel) rfl
theorem mRX7_178 : Cond.methodLink RX7 178 yX7_toldLinks ∈ gl := tb 430 (by decide +kernel) rfl
theorem mRX7_184 : Cond.methodLink RX7 184 yX7_digestOfNets ∈ gl := tb 439 (by decide +kernel) rfl
theorem mRX7_188 : Cond.methodLink RX7 188 yX7_digestOfPairs ∈ gl := tb 447 (by decide +kernel) rfl
theorem mRX7_191 : Cond.methodLink RX7 191 yX7_digestOfTheRest ∈ gl := tb 453 (by decide +kernel) rfl
theorem mRX7_194 : Cond.methodLink RX7 194 yX6_cutOut ∈ gl := tb 166 (by decide +kernel) rfl
theorem mRX7_197 : Cond.methodLink RX7 197 yX1_read ∈ gl := tb 173 (by decide +kernel) rfl
theorem mRX7_201 : Cond.methodLink RX7 201 yX3_read ∈ gl := tb 195 (by decide +kernel) rfl
theorem mRX7_204 : Cond.methodLink RX7 204 yX2_read ∈ gl := tb 219 (by decide +kernel) rfl
theorem mRX7_210 : Cond.methodLink RX7 210 yX5_read ∈ gl := tb 236 (by decide +kernel) rfl
theorem mRX7_215 : Cond.methodLink RX7 215 yX7_net ∈ gl := tb 444 (by decide +kernel) rfl
theorem mRX7_218 : Cond.methodLink RX7 218 yX7_rank ∈ gl := tb 445 (by decide +kernel) rfl
theorem mRX7_221 : Cond.methodLink RX7 221 yX7_top ∈ gl := tb 446 (by decide +kernel) rfl
theorem mRX7_223 : Cond.methodLink RX7 223 yX7_link ∈ gl := tb 451 (by decide +kernel) rfl
theorem mRX7_226 : Cond.methodLink RX7 226 yX7_near ∈ gl := tb 452 (by decide +kernel) rfl
theorem mRX7_229 : Cond.methodLink RX7 229 yX7_contradicted ∈ gl := tb 457 (by decide +kernel) rfl
theorem mRX7_232 : Cond.methodLink RX7 232 yX7_seen ∈ gl := tb 458 (by decide +kernel) rfl
theorem mRX7_235 : Cond.methodLink RX7 235 yX4_codeAt ∈ gl := tb 459 (by decide +kernel) rfl
theorem mRX7_238 : Cond.methodLink RX7 238 yX7_count ∈ gl := tb 463 (by decide +kernel) rfl
theorem mRX1_31 : Cond.methodLink RX1 31 yX1_clear ∈ gl := tb 177 (by decide +kernel) rfl
theorem mRX1_45 : Cond.methodLink RX1 45 yX1_readRow ∈ gl := tb 181 (by decide +kernel) rfl
theorem mRX1_49 : Cond.methodLink RX1 49 yJ6_bitCount_0f7a4 ∈ gl := tb 189 (by decide +kernel) rfl
theorem mRX1_55 : Cond.methodLink RX1 55 yX1_join ∈ gl := tb 185 (by decide +kernel) rfl
theorem mRX2_33 : Cond.methodLink RX2 33 yX2_vote ∈ gl := tb 223 (by decide +kernel) rfl
theorem mRX2_42 : Cond.methodLink RX2 42 yX0_has ∈ gl := tb 231 (by decide +kernel) rfl
theorem mRX2_53 : Cond.methodLink RX2 53 yX2_nameOf ∈ gl := tb 232 (by decide +kernel) rfl
theorem mRX2_57 : Cond.methodLink RX2 57 yX3_firstOf ∈ gl := tb 227 (by decide +kernel) rfl
theorem mRX2_61 : Cond.methodLink RX2 61 yX2_after ∈ gl := tb 325 (by decide +kernel) rfl
theorem mRX2_65 : Cond.methodLink RX2 65 yX2_lesserVotes ∈ gl := tb 385 (by decide +kernel) rfl
theorem mRX2_68 : Cond.methodLink RX2 68 yJ9_min_7cf53 ∈ gl := tb 389 (by decide +kernel) rfl
theorem mRX3_30 : Cond.methodLink RX3 30 yJ6_bitCount_0f7a4 ∈ gl := tb 199 (by decide +kernel) rfl
theorem mRX3_36 : Cond.methodLink RX3 36 yX0_has ∈ gl := tb 200 (by decide +kernel) rfl
theorem mRX3_42 : Cond.methodLink RX3 42 yX3_countAhead ∈ gl := tb 201 (by decide +kernel) rfl
theorem mRX3_46 : Cond.methodLink RX3 46 yX3_bestSet ∈ gl := tb 207 (by decide +kernel) rfl
theorem mRX3_49 : Cond.methodLink RX3 49 yX3_isAhead ∈ gl := tb 204 (by decide +kernel) rfl
theorem mRX3_59 : Cond.methodLink RX3 59 yX3_isAllLinked ∈ gl := tb 210 (by decide +kernel) rfl
theorem mRX3_63 : Cond.methodLink RX3 63 yX3_isBetter ∈ gl := tb 213 (by decide +kernel) rfl
theorem mRX3_69 : Cond.methodLink RX3 69 yX3_degreeSum ∈ gl := tb 216 (by decide +kernel) rfl
theorem mRX4_19 : Cond.methodLink RX4 19 yX0_isNet ∈ gl := tb 300 (by decide +kernel) rfl
theorem mRX4_25 : Cond.methodLink RX4 25 yX0_has ∈ gl := tb 303 (by decide +kernel) rfl
theorem mRX4_29 : Cond.methodLink RX4 29 yX4_firstFault ∈ gl := tb 312 (by decide +kernel) rfl
theorem mRX5_21 : Cond.methodLink RX5 21 yX5_settle ∈ gl := tb 240 (by decide +kernel) rfl
theorem mRX5_25 : Cond.methodLink RX5 25 yX5_reachedByOneMore ∈ gl := tb 245 (by decide +kernel) rfl
theorem mRX5_34 : Cond.methodLink RX5 34 yX2_after ∈ gl := tb 249 (by decide +kernel) rfl
theorem mRX5_38 : Cond.methodLink RX5 38 yX0_has ∈ gl := tb 244 (by decide +kernel) rfl
theorem mRX5_44 : Cond.methodLink RX5 44 yX5_fewestLinks ∈ gl := tb 409 (by decide +kernel) rfl
theorem mRX6_34 : Cond.methodLink RX6 34 yX6_has ∈ gl := tb 338 (by decide +kernel) rfl
theorem mRX6_38 : Cond.methodLink RX6 38 yX0_has ∈ gl := tb 170 (by decide +kernel) rfl
theorem mRX8_55 : Cond.methodLink RX8 55 yX8_within ∈ gl := tb 550 (by decide +kernel) rfl
theorem mRX8_63 : Cond.methodLink RX8 63 yX8_isRight ∈ gl := tb 565 (by decide +kernel) rfl
theorem mRX8_67 : Cond.methodLink RX8 67 yX8_rightLetters ∈ gl := tb 561 (by decide +kernel) rfl
theorem mRX8_71 : Cond.methodLink RX8 71 yX8_isWayThere ∈ gl := tb 573 (by decide +kernel) rfl
theorem mRX8_85 : Cond.methodLink RX8 85 yX8_isNet ∈ gl := tb 585 (by decide +kernel) rfl
theorem mRX8_91 : Cond.methodLink RX8 91 yX8_areTwo ∈ gl := tb 592 (by decide +kernel) rfl
theorem mRX8_95 : Cond.methodLink RX8 95 yX8_turned ∈ gl := tb 595 (by decide +kernel) rfl
theorem mRX8_102 : Cond.methodLink RX8 102 yX8_has ∈ gl := tb 614 (by decide +kernel) rfl
theorem mRX8_105 : Cond.methodLink RX8 105 yX8_layTwo ∈ gl := tb 617 (by decide +kernel) rfl
theorem mRX8_109 : Cond.methodLink RX8 109 yX8_ones ∈ gl := tb 625 (by decide +kernel) rfl
theorem mRX8_115 : Cond.methodLink RX8 115 yX8_weightOf ∈ gl := tb 628 (by decide +kernel) rfl
theorem mRX8_121 : Cond.methodLink RX8 121 yX8_areAllLinked ∈ gl := tb 636 (by decide +kernel) rfl
theorem mRX8_124 : Cond.methodLink RX8 124 yX8_degrees ∈ gl := tb 640 (by decide +kernel) rfl
theorem mRX8_127 : Cond.methodLink RX8 127 yX8_hillOf ∈ gl := tb 648 (by decide +kernel) rfl
theorem mRX8_130 : Cond.methodLink RX8 130 yX8_areTops ∈ gl := tb 652 (by decide +kernel) rfl
theorem mRX8_133 : Cond.methodLink RX8 133 yX8_layWays ∈ gl := tb 610 (by decide +kernel) rfl
theorem mRX8_136 : Cond.methodLink RX8 136 yX8_layRanks ∈ gl := tb 621 (by decide +kernel) rfl
theorem mRX8_139 : Cond.methodLink RX8 139 yX8_layTop ∈ gl := tb 632 (by decide +kernel) rfl
theorem mRX8_142 : Cond.methodLink RX8 142 yX8_layVotes ∈ gl := tb 644 (by decide +kernel) rfl
theorem mRX8_145 : Cond.methodLink RX8 145 yX8_nameBy ∈ gl := tb 656 (by decide +kernel) rfl
theorem mRX8_149 : Cond.methodLink RX8 149 yX8_lay ∈ gl := tb 606 (by decide +kernel) rfl
theorem mRX8_152 : Cond.methodLink RX8 152 yX8_coneOf ∈ gl := tb 660 (by decide +kernel) rfl
theorem mRX8_155 : Cond.methodLink RX8 155 yX8_netNow ∈ gl := tb 602 (by decide +kernel) rfl
theorem mRX8_158 : Cond.methodLink RX8 158 yX8_rankNow ∈ gl := tb 668 (by decide +kernel) rfl
theorem mRX8_161 : Cond.methodLink RX8 161 yX8_topNow ∈ gl := tb 676 (by decide +kernel) rfl
theorem mRX8_164 : Cond.methodLink RX8 164 yX8_linkNow ∈ gl := tb 684 (by decide +kernel) rfl
theorem mRX8_168 : Cond.methodLink RX8 168 yX8_lesserOf ∈ gl := tb 696 (by decide +kernel) rfl
theorem mRX8_171 : Cond.methodLink RX8 171 yX8_contradictedNow ∈ gl := tb 692 (by decide +kernel) rfl
theorem mRX8_177 : Cond.methodLink RX8 177 yX8_valleyOf ∈ gl := tb 704 (by decide +kernel) rfl
theorem mRX8_180 : Cond.methodLink RX8 180 yX8_valleyOfWay ∈ gl := tb 716 (by decide +kernel) rfl
theorem mRX8_183 : Cond.methodLink RX8 183 yX8_seenNow ∈ gl := tb 712 (by decide +kernel) rfl
theorem mRX8_186 : Cond.methodLink RX8 186 yX8_behind ∈ gl := tb 732 (by decide +kernel) rfl
theorem mRX8_189 : Cond.methodLink RX8 189 yX8_layFar ∈ gl := tb 728 (by decide +kernel) rfl
theorem mRX8_193 : Cond.methodLink RX8 193 yX8_nearNow ∈ gl := tb 724 (by decide +kernel) rfl
theorem mRX8_196 : Cond.methodLink RX8 196 yX8_withValley ∈ gl := tb 743 (by decide +kernel) rfl
theorem mRX8_199 : Cond.methodLink RX8 199 yX8_linksOf ∈ gl := tb 747 (by decide +kernel) rfl
theorem mRX8_202 : Cond.methodLink RX8 202 yX8_howMany ∈ gl := tb 739 (by decide +kernel) rfl
theorem mRX8_211 : Cond.methodLink RX8 211 yX8_mix ∈ gl := tb 760 (by decide +kernel) rfl
theorem mRX8_217 : Cond.methodLink RX8 217 yX8_mixNets ∈ gl := tb 756 (by decide +kernel) rfl
theorem kRX7_182 : Cond.constantLong RX7 182 1747 ∈ gl := tb 438 (by decide +kernel) rfl
theorem kRX7_213 : Cond.constantLong RX7 213 31 ∈ gl := tb 443 (by decide +kernel) rfl
theorem kRX8_205 : Cond.constantLong RX8 205 31 ∈ gl := tb 764 (by decide +kernel) rfl
theorem kRX8_215 : Cond.constantLong RX8 215 1747 ∈ gl := tb 755 (by decide +kernel) rfl
theorem kRJ6_265 : Cond.constant RJ6 265 1431655765 ∈ gl := tb 192 (by decide +kernel) rfl
theorem kRJ6_266 : Cond.constant RJ6 266 858993459 ∈ gl := tb 193 (by decide +kernel) rfl
theorem kRJ6_267 : Cond.constant RJ6 267 252645135 ∈ gl := tb 194 (by decide +kernel) rfl
theorem coJ6_bitCount_0f7a4 : Cond.code yJ6_bitCount_0f7a4 cJ6_bitCount_0f7a4 1 (some .int) ∈ gl := tb 191 (by decide +kernel) rfl
theorem hyJ6_bitCount_0f7a4 : yJ6_bitCount_0f7a4.cls ≠ "java/lang/invoke/MethodHandle" ∧ yJ6_bitCount_0f7a4.cls ≠ "java/lang/invoke/VarHandle" ∧ (parseMethodDescriptor yJ6_bitCount_0f7a4.desc).map (fun d => d.parameters.length) = some 1 := by decide +kernel
theorem stJ6_bitCount_0f7a4 : Cond.static yJ6_bitCount_0f7a4 ∈ gl := tb 190 (by decide +kernel) rfl
theorem coJ9_min_7cf53 : Cond.code yJ9_min_7cf53 cJ9_min_7cf53 2 (some .int) ∈ gl := tb 391 (by decide +kernel) rfl
theorem hyJ9_min_7cf53 : yJ9_min_7cf53.cls ≠ "java/lang/invoke/MethodHandle" ∧ yJ9_min_7cf53.cls ≠ "java/lang/invoke/VarHandle" ∧ (parseMethodDescriptor yJ9_min_7cf53.desc).map (fun d => d.parameters.length) = some 2 := by decide +kernel
theorem stJ9_min_7cf53 : Cond.static yJ9_min_7cf53 ∈ gl := tb 390 (by decide +kernel) rfl
theorem coX0_at : Cond.code yX0_at cX0_at 2 (some .int) ∈ gl := tb 346 (by decide +kernel) rfl
theorem hyX0_at : yX0_at.cls ≠ "java/lang/invoke/MethodHandle" ∧ yX0_at.cls ≠ "java/lang/invoke/VarHandle" ∧ (parseMethodDescriptor yX0_at.desc).map (fun d => d.parameters.length) = some 2 := by decide +kernel
theorem stX0_at : Cond.static yX0_at ∈ gl := tb 345 (by decide +kernel) rfl
theorem coX0_has : Cond.code yX0_has cX0_has 2 (some .boolean) ∈ gl := tb 172 (by decide +kernel) rfl
theorem hyX0_has : yX0_has.cls ≠ "java/lang/invoke/MethodHandle" ∧ yX0_has.cls ≠ "java/lang/invoke/VarHandle" ∧ (parseMethodDescriptor yX0_has.desc).map (fun d => d.parameters.length) = some 2 := by decide +kernel
theorem stX0_has : Cond.static yX0_has ∈ gl := tb 171 (by decide +kernel) rfl
theorem coX0_isNet : Cond.code yX0_isNet cX0_isNet 1 (some .boolean) ∈ gl := tb 302 (by decide +kernel) rfl
theorem hyX0_isNet : yX0_isNet.cls ≠ "java/lang/invoke/MethodHandle" ∧ yX0_isNet.cls ≠ "java/lang/invoke/VarHandle" ∧ (parseMethodDescriptor yX0_isNet.desc).map (fun d => d.parameters.length) = some 1 := by decide +kernel
theorem stX0_isNet : Cond.static yX0_isNet ∈ gl := tb 301 (by decide +kernel) rfl
theorem coX1_clear : Cond.code yX1_clear cX1_clear 2 none ∈ gl := tb 180 (by decide +kernel) rfl
theorem hyX1_clear : yX1_clear.cls ≠ "java/lang/invoke/MethodHandle" ∧ yX1_clear.cls ≠ "java/lang/invoke/VarHandle" ∧ (parseMethodDescriptor yX1_clear.desc).map (fun d => d.parameters.length) = some 0 := by decide +kernel
theorem imX1_clear : Cond.instanceMethod yX1_clear ∈ gl := tb 179 (by decide +kernel) rfl
theorem seX1_clear : Cond.selects yX1_clear.cls yX1_clear yX1_clear ∈ gl := ts 1 (by decide +kernel) rfl
theorem coX1_join : Cond.code yX1_join cX1_join 3 none ∈ gl := tb 188 (by decide +kernel) rfl
theorem hyX1_join : yX1_join.cls ≠ "java/lang/invoke/MethodHandle" ∧ yX1_join.cls ≠ "java/lang/invoke/VarHandle" ∧ (parseMethodDescriptor yX1_join.desc).map (fun d => d.parameters.length) = some 2 := by decide +kernel
theorem imX1_join : Cond.instanceMethod yX1_join ∈ gl := tb 187 (by decide +kernel) rfl
theorem seX1_join : Cond.selects yX1_join.cls yX1_join yX1_join ∈ gl := ts 3 (by decide +kernel) rfl
theorem coX1_read : Cond.code yX1_read cX1_read 3 none ∈ gl := tb 176 (by decide +kernel) rfl
theorem hyX1_read : yX1_read.cls ≠ "java/lang/invoke/MethodHandle" ∧ yX1_read.cls ≠ "java/lang/invoke/VarHandle" ∧ (parseMethodDescriptor yX1_read.desc).map (fun d => d.parameters.length) = some 1 := by decide +kernel
theorem imX1_read : Cond.instanceMethod yX1_read ∈ gl := tb 174 (by decide +kernel) rfl
theorem seX1_read : Cond.selects yX1_read.cls yX1_read yX1_read ∈ gl := tb 175 (by decide +kernel) rfl
theorem coX1_readRow : Cond.code yX1_readRow cX1_readRow 6 none ∈ gl := tb 184 (by decide +kernel) rfl
theorem hyX1_readRow : yX1_readRow.cls ≠ "java/lang/invoke/MethodHandle" ∧ yX1_readRow.cls ≠ "java/lang/invoke/VarHandle" ∧ (parseMethodDescriptor yX1_readRow.desc).map (fun d => d.parameters.length) = some 3 := by decide +kernel
theorem imX1_readRow : Cond.instanceMethod yX1_readRow ∈ gl := tb 183 (by decide +kernel) rfl
theorem seX1_readRow : Cond.selects yX1_readRow.cls yX1_readRow yX1_readRow ∈ gl := ts 2 (by decide +kernel) rfl
theorem coX1_total : Cond.code yX1_total cX1_total 3 (some .int) ∈ gl := tb 417 (by decide +kernel) rfl
theorem hyX1_total : yX1_total.cls ≠ "java/lang/invoke/MethodHandle" ∧ yX1_total.cls ≠ "java/lang/invoke/VarHandle" ∧ (parseMethodDescriptor yX1_total.desc).map (fun d => d.parameters.length) = some 0 := by decide +kernel
theorem imX1_total : Cond.instanceMethod yX1_total ∈ gl := tb 415 (by decide +kernel) rfl
theorem seX1_total : Cond.selects yX1_total.cls yX1_total yX1_total ∈ gl := tb 416 (by decide +kernel) rfl
theorem coX2_after : Cond.code yX2_after cX2_after 2 (some .int) ∈ gl := tb 251 (by decide +kernel) rfl
theorem hyX2_after : yX2_after.cls ≠ "java/lang/invoke/MethodHandle" ∧ yX2_after.cls ≠ "java/lang/invoke/VarHandle" ∧ (parseMethodDescriptor yX2_after.desc).map (fun d => d.parameters.length) = some 2 := by decide +kernel
theorem stX2_after : Cond.static yX2_after ∈ gl := tb 250 (by decide +kernel) rfl
theorem coX2_cone : Cond.code yX2_cone cX2_cone 5 (some .int) ∈ gl := tb 364 (by decide +kernel) rfl
theorem hyX2_cone : yX2_cone.cls ≠ "java/lang/invoke/MethodHandle" ∧ yX2_cone.cls ≠ "java/lang/invoke/VarHandle" ∧ (parseMethodDescriptor yX2_cone.desc).map (fun d => d.parameters.length) = some 1 := by decide +kernel
theorem imX2_cone : Cond.instanceMethod yX2_cone ∈ gl := tb 362 (by decide +kernel) rfl
theorem seX2_cone : Cond.selects yX2_cone.cls yX2_cone yX2_cone ∈ gl := tb 363 (by decide +kernel) rfl
theorem coX2_contradictedAt : Cond.code yX2_contradictedAt cX2_contradictedAt 6 (some .int) ∈ gl := tb 384 (by decide +kernel) rfl
theorem hyX2_contradictedAt : yX2_contradictedAt.cls ≠ "java/lang/invoke/MethodHandle" ∧ yX2_contradictedAt.cls ≠ "java/lang/invoke/VarHandle" ∧ (parseMethodDescriptor yX2_contradictedAt.desc).map (fun d => d.parameters.length) = some 1 := by decide +kernel
theorem imX2_contradictedAt : Cond.instanceMethod yX2_contradictedAt ∈ gl := tb 382 (by decide +kernel) rfl
theorem seX2_contradictedAt : Cond.selects yX2_contradictedAt.cls yX2_contradictedAt yX2_contradictedAt ∈ gl := tb 383 (by decide +kernel) rfl
theorem coX2_contradictions : Cond.code yX2_contradictions cX2_contradictions 4 (some .int) ∈ gl := tb 425 (by decide +kernel) rfl
theorem hyX2_contradictions : yX2_contradictions.cls ≠ "java/lang/invoke/MethodHandle" ∧ yX2_contradictions.cls ≠ "java/lang/invoke/VarHandle" ∧ (parseMethodDescriptor yX2_contradictions.desc).map (fun d => d.parameters.length) = some 0 := by decide +kernel
theorem imX2_contradictions : Cond.instanceMethod yX2_contradictions ∈ gl := tb 423 (by decide +kernel) rfl
theorem seX2_contradictions : Cond.selects yX2_contradictions.cls yX2_contradictions yX2_contradictions ∈ gl := tb 424 (by decide +kernel) rfl
theorem coX2_firstValley : Cond.code yX2_firstValley cX2_firstValley 7 (some .int) ∈ gl := tb 324 (by decide +kernel) rfl
theorem hyX2_firstValley : yX2_firstValley.cls ≠ "java/lang/invoke/MethodHandle" ∧ yX2_firstValley.cls ≠ "java/lang/invoke/VarHandle" ∧ (parseMethodDescriptor yX2_firstValley.desc).map (fun d => d.parameters.length) = some 3 := by decide +kernel
theorem imX2_firstValley : Cond.instanceMethod yX2_firstValley ∈ gl := tb 322 (by decide +kernel) rfl
theorem seX2_firstValley : Cond.selects yX2_firstValley.cls yX2_firstValley yX2_firstValley ∈ gl := tb 323 (by decide +kernel) rfl
theorem coX2_lesserVotes : Cond.code yX2_lesserVotes cX2_lesserVotes 3 (some .int) ∈ gl := tb 388 (by decide +kernel) rfl
theorem hyX2_lesserVotes : yX2_lesserVotes.cls ≠ "java/lang/invoke/MethodHandle" ∧ yX2_lesserVotes.cls ≠ "java/lang/invoke/VarHandle" ∧ (parseMethodDescriptor yX2_lesserVotes.desc).map (fun d => d.parameters.length) = some 2 := by decide +kernel
theorem imX2_lesserVotes : Cond.instanceMethod yX2_lesserVotes ∈ gl := tb 387 (by decide +kernel) rfl
theorem seX2_lesserVotes : Cond.selects yX2_lesserVotes.cls yX2_lesserVotes yX2_lesserVotes ∈ gl := ts 8 (by decide +kernel) rfl
theorem coX2_nameOf : Cond.code yX2_nameOf cX2_nameOf 5 (some .int) ∈ gl := tb 235 (by decide +kernel) rfl
theorem hyX2_nameOf : yX2_nameOf.cls ≠ "java/lang/invoke/MethodHandle" ∧ yX2_nameOf.cls ≠ "java/lang/invoke/VarHandle" ∧ (parseMethodDescriptor yX2_nameOf.desc).map (fun d => d.parameters.length) = some 3 := by decide +kernel
theorem imX2_nameOf : Cond.instanceMethod yX2_nameOf ∈ gl := tb 234 (by decide +kernel) rfl
theorem seX2_nameOf : Cond.selects yX2_nameOf.cls yX2_nameOf yX2_nameOf ∈ gl := ts 5 (by decide +kernel) rfl
theorem coX2_named : Cond.code yX2_named cX2_named 5 (some .int) ∈ gl := tb 421 (by decide +kernel) rfl
theorem hyX2_named : yX2_named.cls ≠ "java/lang/invoke/MethodHandle" ∧ yX2_named.cls ≠ "java/lang/invoke/VarHandle" ∧ (parseMethodDescriptor yX2_named.desc).map (fun d => d.parameters.length) = some 1 := by decide +kernel
theorem imX2_named : Cond.instanceMethod yX2_named ∈ gl := tb 419 (by decide +kernel) rfl
theorem seX2_named : Cond.selects yX2_named.cls yX2_named yX2_named ∈ gl := tb 420 (by decide +kernel) rfl
theorem coX2_read : Cond.code yX2_read cX2_read 7 none ∈ gl := tb 222 (by decide +kernel) rfl
theorem hyX2_read : yX2_read.cls ≠ "java/lang/invoke/MethodHandle" ∧ yX2_read.cls ≠ "java/lang/invoke/VarHandle" ∧ (parseMethodDescriptor yX2_read.desc).map (fun d => d.parameters.length) = some 3 := by decide +kernel
theorem imX2_read : Cond.instanceMethod yX2_read ∈ gl := tb 220 (by decide +kernel) rfl
theorem seX2_read : Cond.selects yX2_read.cls yX2_read yX2_read ∈ gl := tb 221 (by decide +kernel) rfl
theorem coX2_turned : Cond.code yX2_turned cX2_turned 1 (some .int) ∈ gl := tb 356 (by decide +kernel) rfl
theorem hyX2_turned : yX2_turned.cls ≠ "java/lang/invoke/MethodHandle" ∧ yX2_turned.cls ≠ "java/lang/invoke/VarHandle" ∧ (parseMethodDescriptor yX2_turned.desc).map (fun d => d.parameters.length) = some 1 := by decide +kernel
theorem stX2_turned : Cond.static yX2_turned ∈ gl := tb 355 (by decide +kernel) rfl
theorem coX2_vote : Cond.code yX2_vote cX2_vote 9 none ∈ gl := tb 226 (by decide +kernel) rfl
theorem hyX2_vote : yX2_vote.cls ≠ "java/lang/invoke/MethodHandle" ∧ yX2_vote.cls ≠ "java/lang/invoke/VarHandle" ∧ (parseMethodDescriptor yX2_vote.desc).map (fun d => d.parameters.length) = some 4 := by decide +kernel
theorem imX2_vote : Cond.instanceMethod yX2_vote ∈ gl := tb 225 (by decide +kernel) rfl
theorem seX2_vote : Cond.selects yX2_vote.cls yX2_vote yX2_vote ∈ gl := ts 4 (by decide +kernel) rfl
theorem coX3_bestSet : Cond.code yX3_bestSet cX3_bestSet 4 (some .int) ∈ gl := tb 209 (by decide +kernel) rfl
theorem hyX3_bestSet : yX3_bestSet.cls ≠ "java/lang/invoke/MethodHandle" ∧ yX3_bestSet.cls ≠ "java/lang/invoke/VarHandle" ∧ (parseMethodDescriptor yX3_bestSet.desc).map (fun d => d.parameters.length) = some 2 := by decide +kernel
theorem stX3_bestSet : Cond.static yX3_bestSet ∈ gl := tb 208 (by decide +kernel) rfl
theorem coX3_countAhead : Cond.code yX3_countAhead cX3_countAhead 4 (some .int) ∈ gl := tb 203 (by decide +kernel) rfl
theorem hyX3_countAhead : yX3_countAhead.cls ≠ "java/lang/invoke/MethodHandle" ∧ yX3_countAhead.cls ≠ "java/lang/invoke/VarHandle" ∧ (parseMethodDescriptor yX3_countAhead.desc).map (fun d => d.parameters.length) = some 2 := by decide +kernel
theorem stX3_countAhead : Cond.static yX3_countAhead ∈ gl := tb 202 (by decide +kernel) rfl
theorem coX3_degreeSum : Cond.code yX3_degreeSum cX3_degreeSum 4 (some .int) ∈ gl := tb 218 (by decide +kernel) rfl
theorem hyX3_degreeSum : yX3_degreeSum.cls ≠ "java/lang/invoke/MethodHandle" ∧ yX3_degreeSum.cls ≠ "java/lang/invoke/VarHandle" ∧ (parseMethodDescriptor yX3_degreeSum.desc).map (fun d => d.parameters.length) = some 2 := by decide +kernel
theorem stX3_degreeSum : Cond.static yX3_degreeSum ∈ gl := tb 217 (by decide +kernel) rfl
theorem coX3_firstOf : Cond.code yX3_firstOf cX3_firstOf 6 (some .int) ∈ gl := tb 230 (by decide +kernel) rfl
theorem hyX3_firstOf : yX3_firstOf.cls ≠ "java/lang/invoke/MethodHandle" ∧ yX3_firstOf.cls ≠ "java/lang/invoke/VarHandle" ∧ (parseMethodDescriptor yX3_firstOf.desc).map (fun d => d.parameters.length) = some 3 := by decide +kernel
theorem imX3_firstOf : Cond.instanceMethod yX3_firstOf ∈ gl := tb 228 (by decide +kernel) rfl
theorem seX3_firstOf : Cond.selects yX3_firstOf.cls yX3_firstOf yX3_firstOf ∈ gl := tb 229 (by decide +kernel) rfl
theorem coX3_isAhead : Cond.code yX3_isAhead cX3_isAhead 3 (some .boolean) ∈ gl := tb 206 (by decide +kernel) rfl
theorem hyX3_isAhead : yX3_isAhead.cls ≠ "java/lang/invoke/MethodHandle" ∧ yX3_isAhead.cls ≠ "java/lang/invoke/VarHandle" ∧ (parseMethodDescriptor yX3_isAhead.desc).map (fun d => d.parameters.length) = some 3 := by decide +kernel
theorem stX3_isAhead : Cond.static yX3_isAhead ∈ gl := tb 205 (by decide +kernel) rfl
theorem coX3_isAllLinked : Cond.code yX3_isAllLinked cX3_isAllLinked 4 (some .boolean) ∈ gl := tb 212 (by decide +kernel) rfl
theorem hyX3_isAllLinked : yX3_isAllLinked.cls ≠ "java/lang/invoke/MethodHandle" ∧ yX3_isAllLinked.cls ≠ "java/lang/invoke/VarHandle" ∧ (parseMethodDescriptor yX3_isAllLinked.desc).map (fun d => d.parameters.length) = some 2 := by decide +kernel
theorem stX3_isAllLinked : Cond.static yX3_isAllLinked ∈ gl := tb 211 (by decide +kernel) rfl
theorem coX3_isBetter : Cond.code yX3_isBetter cX3_isBetter 4 (some .boolean) ∈ gl := tb 215 (by decide +kernel) rfl
theorem hyX3_isBetter : yX3_isBetter.cls ≠ "java/lang/invoke/MethodHandle" ∧ yX3_isBetter.cls ≠ "java/lang/invoke/VarHandle" ∧ (parseMethodDescriptor yX3_isBetter.desc).map (fun d => d.parameters.length) = some 3 := by decide +kernel
theorem stX3_isBetter : Cond.static yX3_isBetter ∈ gl := tb 214 (by decide +kernel) rfl
theorem coX3_read : Cond.code yX3_read cX3_read 3 none ∈ gl := tb 198 (by decide +kernel) rfl
theorem hyX3_read : yX3_read.cls ≠ "java/lang/invoke/MethodHandle" ∧ yX3_read.cls ≠ "java/lang/invoke/VarHandle" ∧ (parseMethodDescriptor yX3_read.desc).map (fun d => d.parameters.length) = some 1 := by decide +kernel
theorem imX3_read : Cond.instanceMethod yX3_read ∈ gl := tb 196 (by decide +kernel) rfl
theorem seX3_read : Cond.selects yX3_read.cls yX3_read yX3_read ∈ gl := tb 197 (by decide +kernel) rfl
theorem coX4_append : Cond.code yX4_append cX4_append 2 none ∈ gl := tb 287 (by decide +kernel) rfl
theorem hyX4_append : yX4_append.cls ≠ "java/lang/invoke/MethodHandle" ∧ yX4_append.cls ≠ "java/lang/invoke/VarHandle" ∧ (parseMethodDescriptor yX4_append.desc).map (fun d => d.parameters.length) = some 1 := by decide +kernel
theorem imX4_append : Cond.instanceMethod yX4_append ∈ gl := tb 285 (by decide +kernel) rfl
theorem seX4_append : Cond.selects yX4_append.cls yX4_append yX4_append ∈ gl := tb 286 (by decide +kernel) rfl
theorem coX4_codeAt : Cond.code yX4_codeAt cX4_codeAt 2 (some .int) ∈ gl := tb 462 (by decide +kernel) rfl
theorem hyX4_codeAt : yX4_codeAt.cls ≠ "java/lang/invoke/MethodHandle" ∧ yX4_codeAt.cls ≠ "java/lang/invoke/VarHandle" ∧ (parseMethodDescriptor yX4_codeAt.desc).map (fun d => d.parameters.length) = some 1 := by decide +kernel
theorem imX4_codeAt : Cond.instanceMethod yX4_codeAt ∈ gl := tb 460 (by decide +kernel) rfl
theorem seX4_codeAt : Cond.selects yX4_codeAt.cls yX4_codeAt yX4_codeAt ∈ gl := tb 461 (by decide +kernel) rfl
theorem coX4_firstFault : Cond.code yX4_firstFault cX4_firstFault 4 (some .int) ∈ gl := tb 299 (by decide +kernel) rfl
theorem hyX4_firstFault : yX4_firstFault.cls ≠ "java/lang/invoke/MethodHandle" ∧ yX4_firstFault.cls ≠ "java/lang/invoke/VarHandle" ∧ (parseMethodDescriptor yX4_firstFault.desc).map (fun d => d.parameters.length) = some 0 := by decide +kernel
theorem imX4_firstFault : Cond.instanceMethod yX4_firstFault ∈ gl := tb 297 (by decide +kernel) rfl
theorem seX4_firstFault : Cond.selects yX4_firstFault.cls yX4_firstFault yX4_firstFault ∈ gl := tb 298 (by decide +kernel) rfl
theorem coX4_isWay : Cond.code yX4_isWay cX4_isWay 1 (some .boolean) ∈ gl := tb 311 (by decide +kernel) rfl
theorem hyX4_isWay : yX4_isWay.cls ≠ "java/lang/invoke/MethodHandle" ∧ yX4_isWay.cls ≠ "java/lang/invoke/VarHandle" ∧ (parseMethodDescriptor yX4_isWay.desc).map (fun d => d.parameters.length) = some 0 := by decide +kernel
theorem imX4_isWay : Cond.instanceMethod yX4_isWay ∈ gl := tb 309 (by decide +kernel) rfl
theorem seX4_isWay : Cond.selects yX4_isWay.cls yX4_isWay yX4_isWay ∈ gl := tb 310 (by decide +kernel) rfl
theorem coX5_fewestLinks : Cond.code yX5_fewestLinks cX5_fewestLinks 4 (some .int) ∈ gl := tb 404 (by decide +kernel) rfl
theorem hyX5_fewestLinks : yX5_fewestLinks.cls ≠ "java/lang/invoke/MethodHandle" ∧ yX5_fewestLinks.cls ≠ "java/lang/invoke/VarHandle" ∧ (parseMethodDescriptor yX5_fewestLinks.desc).map (fun d => d.parameters.length) = some 3 := by decide +kernel
theorem imX5_fewestLinks : Cond.instanceMethod yX5_fewestLinks ∈ gl := tb 402 (by decide +kernel) rfl
theorem seX5_fewestLinks : Cond.selects yX5_fewestLinks.cls yX5_fewestLinks yX5_fewestLinks ∈ gl := tb 403 (by decide +kernel) rfl
theorem coX5_leastSecond : Cond.code yX5_leastSecond cX5_leastSecond 7 (some .int) ∈ gl := tb 408 (by decide +kernel) rfl
theorem hyX5_leastSecond : yX5_leastSecond.cls ≠ "java/lang/invoke/MethodHandle" ∧ yX5_leastSecond.cls ≠ "java/lang/invoke/VarHandle" ∧ (parseMethodDescriptor yX5_leastSecond.desc).map (fun d => d.parameters.length) = some 3 := by decide +kernel
theorem imX5_leastSecond : Cond.instanceMethod yX5_leastSecond ∈ gl := tb 406 (by decide +kernel) rfl
theorem seX5_leastSecond : Cond.selects yX5_leastSecond.cls yX5_leastSecond yX5_leastSecond ∈ gl := tb 407 (by decide +kernel) rfl
theorem coX5_reachedByOneMore : Cond.code yX5_reachedByOneMore cX5_reachedByOneMore 6 (some .int) ∈ gl := tb 248 (by decide +kernel) rfl
theorem hyX5_reachedByOneMore : yX5_reachedByOneMore.cls ≠ "java/lang/invoke/MethodHandle" ∧ yX5_reachedByOneMore.cls ≠ "java/lang/invoke/VarHandle" ∧ (parseMethodDescriptor yX5_reachedByOneMore.desc).map (fun d => d.parameters.length) = some 2 := by decide +kernel
theorem imX5_reachedByOneMore : Cond.instanceMethod yX5_reachedByOneMore ∈ gl := tb 247 (by decide +kernel) rfl
theorem seX5_reachedByOneMore : Cond.selects yX5_reachedByOneMore.cls yX5_reachedByOneMore yX5_reachedByOneMore ∈ gl := ts 7 (by decide +kernel) rfl
theorem coX5_read : Cond.code yX5_read cX5_read 6 none ∈ gl := tb 239 (by decide +kernel) rfl
theorem hyX5_read : yX5_read.cls ≠ "java/lang/invoke/MethodHandle" ∧ yX5_read.cls ≠ "java/lang/invoke/VarHandle" ∧ (parseMethodDescriptor yX5_read.desc).map (fun d => d.parameters.length) = some 2 := by decide +kernel
theorem imX5_read : Cond.instanceMethod yX5_read ∈ gl := tb 237 (by decide +kernel) rfl
theorem seX5_read : Cond.selects yX5_read.cls yX5_read yX5_read ∈ gl := tb 238 (by decide +kernel) rfl
theorem coX5_settle : Cond.code yX5_settle cX5_settle 6 (some .boolean) ∈ gl := tb 243 (by decide +kernel) rfl
theorem hyX5_settle : yX5_settle.cls ≠ "java/lang/invoke/MethodHandle" ∧ yX5_settle.cls ≠ "java/lang/invoke/VarHandle" ∧ (parseMethodDescriptor yX5_settle.desc).map (fun d => d.parameters.length) = some 1 := by decide +kernel
theorem imX5_settle : Cond.instanceMethod yX5_settle ∈ gl := tb 242 (by decide +kernel) rfl
theorem seX5_settle : Cond.selects yX5_settle.cls yX5_settle yX5_settle ∈ gl := ts 6 (by decide +kernel) rfl
theorem coX6_add : Cond.code yX6_add cX6_add 3 none ∈ gl := tb 316 (by decide +kernel) rfl
theorem hyX6_add : yX6_add.cls ≠ "java/lang/invoke/MethodHandle" ∧ yX6_add.cls ≠ "java/lang/invoke/VarHandle" ∧ (parseMethodDescriptor yX6_add.desc).map (fun d => d.parameters.length) = some 1 := by decide +kernel
theorem imX6_add : Cond.instanceMethod yX6_add ∈ gl := tb 314 (by decide +kernel) rfl
theorem seX6_add : Cond.selects yX6_add.cls yX6_add yX6_add ∈ gl := tb 315 (by decide +kernel) rfl
theorem coX6_cutOut : Cond.code yX6_cutOut cX6_cutOut 6 none ∈ gl := tb 169 (by decide +kernel) rfl
theorem hyX6_cutOut : yX6_cutOut.cls ≠ "java/lang/invoke/MethodHandle" ∧ yX6_cutOut.cls ≠ "java/lang/invoke/VarHandle" ∧ (parseMethodDescriptor yX6_cutOut.desc).map (fun d => d.parameters.length) = some 1 := by decide +kernel
theorem imX6_cutOut : Cond.instanceMethod yX6_cutOut ∈ gl := tb 167 (by decide +kernel) rfl
theorem seX6_cutOut : Cond.selects yX6_cutOut.cls yX6_cutOut yX6_cutOut ∈ gl := tb 168 (by decide +kernel) rfl
theorem coX6_has : Cond.code yX6_has cX6_has 2 (some .boolean) ∈ gl := tb 333 (by decide +kernel) rfl
theorem hyX6_has : yX6_has.cls ≠ "java/lang/invoke/MethodHandle" ∧ yX6_has.cls ≠ "java/lang/invoke/VarHandle" ∧ (parseMethodDescriptor yX6_has.desc).map (fun d => d.parameters.length) = some 1 := by decide +kernel
theorem imX6_has : Cond.instanceMethod yX6_has ∈ gl := tb 331 (by decide +kernel) rfl
theorem seX6_has : Cond.selects yX6_has.cls yX6_has yX6_has ∈ gl := tb 332 (by decide +kernel) rfl
theorem coX6_remove : Cond.code yX6_remove cX6_remove 4 none ∈ gl := tb 337 (by decide +kernel) rfl
theorem hyX6_remove : yX6_remove.cls ≠ "java/lang/invoke/MethodHandle" ∧ yX6_remove.cls ≠ "java/lang/invoke/VarHandle" ∧ (parseMethodDescriptor yX6_remove.desc).map (fun d => d.parameters.length) = some 1 := by decide +kernel
theorem imX6_remove : Cond.instanceMethod yX6_remove ∈ gl := tb 335 (by decide +kernel) rfl
theorem seX6_remove : Cond.selects yX6_remove.cls yX6_remove yX6_remove ∈ gl := tb 336 (by decide +kernel) rfl
theorem coX7_arePair : Cond.code yX7_arePair cX7_arePair 2 (some .boolean) ∈ gl := tb 353 (by decide +kernel) rfl
theorem hyX7_arePair : yX7_arePair.cls ≠ "java/lang/invoke/MethodHandle" ∧ yX7_arePair.cls ≠ "java/lang/invoke/VarHandle" ∧ (parseMethodDescriptor yX7_arePair.desc).map (fun d => d.parameters.length) = some 2 := by decide +kernel
theorem stX7_arePair : Cond.static yX7_arePair ∈ gl := tb 352 (by decide +kernel) rfl
theorem coX7_blank : Cond.code yX7_blank cX7_blank 2 (some .int) ∈ gl := tb 291 (by decide +kernel) rfl
theorem hyX7_blank : yX7_blank.cls ≠ "java/lang/invoke/MethodHandle" ∧ yX7_blank.cls ≠ "java/lang/invoke/VarHandle" ∧ (parseMethodDescriptor yX7_blank.desc).map (fun d => d.parameters.length) = some 0 := by decide +kernel
theorem imX7_blank : Cond.instanceMethod yX7_blank ∈ gl := tb 289 (by decide +kernel) rfl
theorem seX7_blank : Cond.selects yX7_blank.cls yX7_blank yX7_blank ∈ gl := tb 290 (by decide +kernel) rfl
theorem coX7_contradicted : Cond.code yX7_contradicted cX7_contradicted 2 (some .int) ∈ gl := tb 380 (by decide +kernel) rfl
theorem hyX7_contradicted : yX7_contradicted.cls ≠ "java/lang/invoke/MethodHandle" ∧ yX7_contradicted.cls ≠ "java/lang/invoke/VarHandle" ∧ (parseMethodDescriptor yX7_contradicted.desc).map (fun d => d.parameters.length) = some 1 := by decide +kernel
theorem imX7_contradicted : Cond.instanceMethod yX7_contradicted ∈ gl := tb 378 (by decide +kernel) rfl
theorem seX7_contradicted : Cond.selects yX7_contradicted.cls yX7_contradicted yX7_contradicted ∈ gl := tb 379 (by decide +kernel) rfl
theorem coX7_count : Cond.code yX7_count cX7_count 2 (some .int) ∈ gl := tb 413 (by decide +kernel) rfl
theorem hyX7_count : yX7_count.cls ≠ "java/lang/invoke/MethodHandle" ∧ yX7_count.cls ≠ "java/lang/invoke/VarHandle" ∧ (parseMethodDescriptor yX7_count.desc).map (fun d => d.parameters.length) = some 1 := by decide +kernel
theorem imX7_count : Cond.instanceMethod yX7_count ∈ gl := tb 411 (by decide +kernel) rfl
theorem seX7_count : Cond.selects yX7_count.cls yX7_count yX7_count ∈ gl := tb 412 (by decide +kernel) rfl
theorem coX7_digest : Cond.code yX7_digest cX7_digest 3 (some .long) ∈ gl := tb 437 (by decide +kernel) rfl
theorem hyX7_digest : yX7_digest.cls ≠ "java/lang/invoke/MethodHandle" ∧ yX7_digest.cls ≠ "java/lang/invoke/VarHandle" ∧ (parseMethodDescriptor yX7_digest.desc).map (fun d => d.parameters.length) = some 0 := by decide +kernel
theorem imX7_digest : Cond.instanceMethod yX7_digest ∈ gl := tb 435 (by decide +kernel) rfl
theorem seX7_digest : Cond.selects yX7_digest.cls yX7_digest yX7_digest ∈ gl := tb 436 (by decide +kernel) rfl
theorem coX7_digestOfNets : Cond.code yX7_digestOfNets cX7_digestOfNets 7 (some .long) ∈ gl := tb 442 (by decide +kernel) rfl
theorem hyX7_digestOfNets : yX7_digestOfNets.cls ≠ "java/lang/invoke/MethodHandle" ∧ yX7_digestOfNets.cls ≠ "java/lang/invoke/VarHandle" ∧ (parseMethodDescriptor yX7_digestOfNets.desc).map (fun d => d.parameters.length) = some 1 := by decide +kernel
theorem imX7_digestOfNets : Cond.instanceMethod yX7_digestOfNets ∈ gl := tb 441 (by decide +kernel) rfl
theorem seX7_digestOfNets : Cond.selects yX7_digestOfNets.cls yX7_digestOfNets yX7_digestOfNets ∈ gl := ts 11 (by decide +kernel) rfl
theorem coX7_digestOfPairs : Cond.code yX7_digestOfPairs cX7_digestOfPairs 8 (some .long) ∈ gl := tb 450 (by decide +kernel) rfl
theorem hyX7_digestOfPairs : yX7_digestOfPairs.cls ≠ "java/lang/invoke/MethodHandle" ∧ yX7_digestOfPairs.cls ≠ "java/lang/invoke/VarHandle" ∧ (parseMethodDescriptor yX7_digestOfPairs.desc).map (fun d => d.parameters.length) = some 1 := by decide +kernel
theorem imX7_digestOfPairs : Cond.instanceMethod yX7_digestOfPairs ∈ gl := tb 449 (by decide +kernel) rfl
theorem seX7_digestOfPairs : Cond.selects yX7_digestOfPairs.cls yX7_digestOfPairs yX7_digestOfPairs ∈ gl := ts 12 (by decide +kernel) rfl
theorem coX7_digestOfTheRest : Cond.code yX7_digestOfTheRest cX7_digestOfTheRest 7 (some .long) ∈ gl := tb 456 (by decide +kernel) rfl
theorem hyX7_digestOfTheRest : yX7_digestOfTheRest.cls ≠ "java/lang/invoke/MethodHandle" ∧ yX7_digestOfTheRest.cls ≠ "java/lang/invoke/VarHandle" ∧ (parseMethodDescriptor yX7_digestOfTheRest.desc).map (fun d => d.parameters.length) = some 1 := by decide +kernel
theorem imX7_digestOfTheRest : Cond.instanceMethod yX7_digestOfTheRest ∈ gl := tb 455 (by decide +kernel) rfl
theorem seX7_digestOfTheRest : Cond.selects yX7_digestOfTheRest.cls yX7_digestOfTheRest yX7_digestOfTheRest ∈ gl := ts 13 (by decide +kernel) rfl
theorem coX7_drop : Cond.code yX7_drop cX7_drop 2 (some .int) ∈ gl := tb 329 (by decide +kernel) rfl
theorem hyX7_drop : yX7_drop.cls ≠ "java/lang/invoke/MethodHandle" ∧ yX7_drop.cls ≠ "java/lang/invoke/VarHandle" ∧ (parseMethodDescriptor yX7_drop.desc).map (fun d => d.parameters.length) = some 1 := by decide +kernel
theorem imX7_drop : Cond.instanceMethod yX7_drop ∈ gl := tb 327 (by decide +kernel) rfl
theorem seX7_drop : Cond.selects yX7_drop.cls yX7_drop yX7_drop ∈ gl := tb 328 (by decide +kernel) rfl
theorem coX7_exchange : Cond.code yX7_exchange cX7_exchange 4 (some .int) ∈ gl := tb 342 (by decide +kernel) rfl
theorem hyX7_exchange : yX7_exchange.cls ≠ "java/lang/invoke/MethodHandle" ∧ yX7_exchange.cls ≠ "java/lang/invoke/VarHandle" ∧ (parseMethodDescriptor yX7_exchange.desc).map (fun d => d.parameters.length) = some 2 := by decide +kernel
theorem imX7_exchange : Cond.instanceMethod yX7_exchange ∈ gl := tb 340 (by decide +kernel) rfl
theorem seX7_exchange : Cond.selects yX7_exchange.cls yX7_exchange yX7_exchange ∈ gl := tb 341 (by decide +kernel) rfl
theorem coX7_fault : Cond.code yX7_fault cX7_fault 1 (some .int) ∈ gl := tb 295 (by decide +kernel) rfl
theorem hyX7_fault : yX7_fault.cls ≠ "java/lang/invoke/MethodHandle" ∧ yX7_fault.cls ≠ "java/lang/invoke/VarHandle" ∧ (parseMethodDescriptor yX7_fault.desc).map (fun d => d.parameters.length) = some 0 := by decide +kernel
theorem imX7_fault : Cond.instanceMethod yX7_fault ∈ gl := tb 293 (by decide +kernel) rfl
theorem seX7_fault : Cond.selects yX7_fault.cls yX7_fault yX7_fault ∈ gl := tb 294 (by decide +kernel) rfl
theorem coX7_letter : Cond.code yX7_letter cX7_letter 2 (some .int) ∈ gl := tb 283 (by decide +kernel) rfl
theorem hyX7_letter : yX7_letter.cls ≠ "java/lang/invoke/MethodHandle" ∧ yX7_letter.cls ≠ "java/lang/invoke/VarHandle" ∧ (parseMethodDescriptor yX7_letter.desc).map (fun d => d.parameters.length) = some 1 := by decide +kernel
theorem imX7_letter : Cond.instanceMethod yX7_letter ∈ gl := tb 281 (by decide +kernel) rfl
theorem seX7_letter : Cond.selects yX7_letter.cls yX7_letter yX7_letter ∈ gl := tb 282 (by decide +kernel) rfl
theorem coX7_link : Cond.code yX7_link cX7_link 4 (some .int) ∈ gl := tb 376 (by decide +kernel) rfl
theorem hyX7_link : yX7_link.cls ≠ "java/lang/invoke/MethodHandle" ∧ yX7_link.cls ≠ "java/lang/invoke/VarHandle" ∧ (parseMethodDescriptor yX7_link.desc).map (fun d => d.parameters.length) = some 3 := by decide +kernel
theorem imX7_link : Cond.instanceMethod yX7_link ∈ gl := tb 374 (by decide +kernel) rfl
theorem seX7_link : Cond.selects yX7_link.cls yX7_link yX7_link ∈ gl := tb 375 (by decide +kernel) rfl
theorem coX7_near : Cond.code yX7_near cX7_near 4 (some .int) ∈ gl := tb 400 (by decide +kernel) rfl
theorem hyX7_near : yX7_near.cls ≠ "java/lang/invoke/MethodHandle" ∧ yX7_near.cls ≠ "java/lang/invoke/VarHandle" ∧ (parseMethodDescriptor yX7_near.desc).map (fun d => d.parameters.length) = some 3 := by decide +kernel
theorem imX7_near : Cond.instanceMethod yX7_near ∈ gl := tb 398 (by decide +kernel) rfl
theorem seX7_near : Cond.selects yX7_near.cls yX7_near yX7_near ∈ gl := tb 399 (by decide +kernel) rfl
theorem coX7_net : Cond.code yX7_net cX7_net 3 (some .int) ∈ gl := tb 360 (by decide +kernel) rfl
theorem hyX7_net : yX7_net.cls ≠ "java/lang/invoke/MethodHandle" ∧ yX7_net.cls ≠ "java/lang/invoke/VarHandle" ∧ (parseMethodDescriptor yX7_net.desc).map (fun d => d.parameters.length) = some 2 := by decide +kernel
theorem imX7_net : Cond.instanceMethod yX7_net ∈ gl := tb 358 (by decide +kernel) rfl
theorem seX7_net : Cond.selects yX7_net.cls yX7_net yX7_net ∈ gl := tb 359 (by decide +kernel) rfl
theorem coX7_rank : Cond.code yX7_rank cX7_rank 2 (some .int) ∈ gl := tb 368 (by decide +kernel) rfl
theorem hyX7_rank : yX7_rank.cls ≠ "java/lang/invoke/MethodHandle" ∧ yX7_rank.cls ≠ "java/lang/invoke/VarHandle" ∧ (parseMethodDescriptor yX7_rank.desc).map (fun d => d.parameters.length) = some 1 := by decide +kernel
theorem imX7_rank : Cond.instanceMethod yX7_rank ∈ gl := tb 366 (by decide +kernel) rfl
theorem seX7_rank : Cond.selects yX7_rank.cls yX7_rank yX7_rank ∈ gl := tb 367 (by decide +kernel) rfl
theorem coX7_refresh : Cond.code yX7_refresh cX7_refresh 1 none ∈ gl := tb 165 (by decide +kernel) rfl
theorem hyX7_refresh : yX7_refresh.cls ≠ "java/lang/invoke/MethodHandle" ∧ yX7_refresh.cls ≠ "java/lang/invoke/VarHandle" ∧ (parseMethodDescriptor yX7_refresh.desc).map (fun d => d.parameters.length) = some 0 := by decide +kernel
theorem imX7_refresh : Cond.instanceMethod yX7_refresh ∈ gl := tb 164 (by decide +kernel) rfl
theorem seX7_refresh : Cond.selects yX7_refresh.cls yX7_refresh yX7_refresh ∈ gl := ts 0 (by decide +kernel) rfl
theorem coX7_seen : Cond.code yX7_seen cX7_seen 6 (some .int) ∈ gl := tb 395 (by decide +kernel) rfl
theorem hyX7_seen : yX7_seen.cls ≠ "java/lang/invoke/MethodHandle" ∧ yX7_seen.cls ≠ "java/lang/invoke/VarHandle" ∧ (parseMethodDescriptor yX7_seen.desc).map (fun d => d.parameters.length) = some 2 := by decide +kernel
theorem imX7_seen : Cond.instanceMethod yX7_seen ∈ gl := tb 393 (by decide +kernel) rfl
theorem seX7_seen : Cond.selects yX7_seen.cls yX7_seen yX7_seen ∈ gl := tb 394 (by decide +kernel) rfl
theorem coX7_tell : Cond.code yX7_tell cX7_tell 5 (some .int) ∈ gl := tb 350 (by decide +kernel) rfl
theorem hyX7_tell : yX7_tell.cls ≠ "java/lang/invoke/MethodHandle" ∧ yX7_tell.cls ≠ "java/lang/invoke/VarHandle" ∧ (parseMethodDescriptor yX7_tell.desc).map (fun d => d.parameters.length) = some 3 := by decide +kernel
theorem imX7_tell : Cond.instanceMethod yX7_tell ∈ gl := tb 348 (by decide +kernel) rfl
theorem seX7_tell : Cond.selects yX7_tell.cls yX7_tell yX7_tell ∈ gl := tb 349 (by decide +kernel) rfl
theorem coX7_toldLinks : Cond.code yX7_toldLinks cX7_toldLinks 7 (some .int) ∈ gl := tb 433 (by decide +kernel) rfl
theorem hyX7_toldLinks : yX7_toldLinks.cls ≠ "java/lang/invoke/MethodHandle" ∧ yX7_toldLinks.cls ≠ "java/lang/invoke/VarHandle" ∧ (parseMethodDescriptor yX7_toldLinks.desc).map (fun d => d.parameters.length) = some 1 := by decide +kernel
theorem imX7_toldLinks : Cond.instanceMethod yX7_toldLinks ∈ gl := tb 432 (by decide +kernel) rfl
theorem seX7_toldLinks : Cond.selects yX7_toldLinks.cls yX7_toldLinks yX7_toldLinks ∈ gl := ts 10 (by decide +kernel) rfl
theorem coX7_top : Cond.code yX7_top cX7_top 1 (some .int) ∈ gl := tb 372 (by decide +kernel) rfl
theorem hyX7_top : yX7_top.cls ≠ "java/lang/invoke/MethodHandle" ∧ yX7_top.cls ≠ "java/lang/invoke/VarHandle" ∧ (parseMethodDescriptor yX7_top.desc).map (fun d => d.parameters.length) = some 0 := by decide +kernel
theorem imX7_top : Cond.instanceMethod yX7_top ∈ gl := tb 370 (by decide +kernel) rfl
theorem seX7_top : Cond.selects yX7_top.cls yX7_top yX7_top ∈ gl := tb 371 (by decide +kernel) rfl
theorem coX7_valley : Cond.code yX7_valley cX7_valley 1 (some .int) ∈ gl := tb 320 (by decide +kernel) rfl
theorem hyX7_valley : yX7_valley.cls ≠ "java/lang/invoke/MethodHandle" ∧ yX7_valley.cls ≠ "java/lang/invoke/VarHandle" ∧ (parseMethodDescriptor yX7_valley.desc).map (fun d => d.parameters.length) = some 0 := by decide +kernel
theorem imX7_valley : Cond.instanceMethod yX7_valley ∈ gl := tb 318 (by decide +kernel) rfl
theorem seX7_valley : Cond.selects yX7_valley.cls yX7_valley yX7_valley ∈ gl := tb 319 (by decide +kernel) rfl
theorem coX7_way : Cond.code yX7_way cX7_way 1 (some .int) ∈ gl := tb 307 (by decide +kernel) rfl
theorem hyX7_way : yX7_way.cls ≠ "java/lang/invoke/MethodHandle" ∧ yX7_way.cls ≠ "java/lang/invoke/VarHandle" ∧ (parseMethodDescriptor yX7_way.desc).map (fun d => d.parameters.length) = some 0 := by decide +kernel
theorem imX7_way : Cond.instanceMethod yX7_way ∈ gl := tb 305 (by decide +kernel) rfl
theorem seX7_way : Cond.selects yX7_way.cls yX7_way yX7_way ∈ gl := tb 306 (by decide +kernel) rfl
theorem coX7_waysWithValley : Cond.code yX7_waysWithValley cX7_waysWithValley 3 (some .int) ∈ gl := tb 429 (by decide +kernel) rfl
theorem hyX7_waysWithValley : yX7_waysWithValley.cls ≠ "java/lang/invoke/MethodHandle" ∧ yX7_waysWithValley.cls ≠ "java/lang/invoke/VarHandle" ∧ (parseMethodDescriptor yX7_waysWithValley.desc).map (fun d => d.parameters.length) = some 0 := by decide +kernel
theorem imX7_waysWithValley : Cond.instanceMethod yX7_waysWithValley ∈ gl := tb 428 (by decide +kernel) rfl
theorem seX7_waysWithValley : Cond.selects yX7_waysWithValley.cls yX7_waysWithValley yX7_waysWithValley ∈ gl := ts 9 (by decide +kernel) rfl
theorem coX8_areAllLinked : Cond.code yX8_areAllLinked cX8_areAllLinked 4 (some .boolean) ∈ gl := tb 639 (by decide +kernel) rfl
theorem hyX8_areAllLinked : yX8_areAllLinked.cls ≠ "java/lang/invoke/MethodHandle" ∧ yX8_areAllLinked.cls ≠ "java/lang/invoke/VarHandle" ∧ (parseMethodDescriptor yX8_areAllLinked.desc).map (fun d => d.parameters.length) = some 1 := by decide +kernel
theorem imX8_areAllLinked : Cond.instanceMethod yX8_areAllLinked ∈ gl := tb 638 (by decide +kernel) rfl
theorem seX8_areAllLinked : Cond.selects yX8_areAllLinked.cls yX8_areAllLinked yX8_areAllLinked ∈ gl := ts 24 (by decide +kernel) rfl
theorem coX8_areTops : Cond.code yX8_areTops cX8_areTops 3 (some .boolean) ∈ gl := tb 655 (by decide +kernel) rfl
theorem hyX8_areTops : yX8_areTops.cls ≠ "java/lang/invoke/MethodHandle" ∧ yX8_areTops.cls ≠ "java/lang/invoke/VarHandle" ∧ (parseMethodDescriptor yX8_areTops.desc).map (fun d => d.parameters.length) = some 2 := by decide +kernel
theorem imX8_areTops : Cond.instanceMethod yX8_areTops ∈ gl := tb 654 (by decide +kernel) rfl
theorem seX8_areTops : Cond.selects yX8_areTops.cls yX8_areTops yX8_areTops ∈ gl := ts 28 (by decide +kernel) rfl
theorem coX8_areTwo : Cond.code yX8_areTwo cX8_areTwo 2 (some .boolean) ∈ gl := tb 594 (by decide +kernel) rfl
theorem hyX8_areTwo : yX8_areTwo.cls ≠ "java/lang/invoke/MethodHandle" ∧ yX8_areTwo.cls ≠ "java/lang/invoke/VarHandle" ∧ (parseMethodDescriptor yX8_areTwo.desc).map (fun d => d.parameters.length) = some 2 := by decide +kernel
theorem stX8_areTwo : Cond.static yX8_areTwo ∈ gl := tb 593 (by decide +kernel) rfl
theorem coX8_behind : Cond.code yX8_behind cX8_behind 2 (some .int) ∈ gl := tb 734 (by decide +kernel) rfl
theorem hyX8_behind : yX8_behind.cls ≠ "java/lang/invoke/MethodHandle" ∧ yX8_behind.cls ≠ "java/lang/invoke/VarHandle" ∧ (parseMethodDescriptor yX8_behind.desc).map (fun d => d.parameters.length) = some 2 := by decide +kernel
theorem stX8_behind : Cond.static yX8_behind ∈ gl := tb 733 (by decide +kernel) rfl
theorem coX8_blank : Cond.code yX8_blank cX8_blank 2 (some .int) ∈ gl := tb 556 (by decide +kernel) rfl
theorem hyX8_blank : yX8_blank.cls ≠ "java/lang/invoke/MethodHandle" ∧ yX8_blank.cls ≠ "java/lang/invoke/VarHandle" ∧ (parseMethodDescriptor yX8_blank.desc).map (fun d => d.parameters.length) = some 0 := by decide +kernel
theorem imX8_blank : Cond.instanceMethod yX8_blank ∈ gl := tb 554 (by decide +kernel) rfl
theorem seX8_blank : Cond.selects yX8_blank.cls yX8_blank yX8_blank ∈ gl := tb 555 (by decide +kernel) rfl
theorem coX8_coneOf : Cond.code yX8_coneOf cX8_coneOf 5 (some .int) ∈ gl := tb 663 (by decide +kernel) rfl
theorem hyX8_coneOf : yX8_coneOf.cls ≠ "java/lang/invoke/MethodHandle" ∧ yX8_coneOf.cls ≠ "java/lang/invoke/VarHandle" ∧ (parseMethodDescriptor yX8_coneOf.desc).map (fun d => d.parameters.length) = some 1 := by decide +kernel
theorem imX8_coneOf : Cond.instanceMethod yX8_coneOf ∈ gl := tb 662 (by decide +kernel) rfl
theorem seX8_coneOf : Cond.selects yX8_coneOf.cls yX8_coneOf yX8_coneOf ∈ gl := ts 30 (by decide +kernel) rfl
theorem coX8_contradicted : Cond.code yX8_contradicted cX8_contradicted 2 (some .int) ∈ gl := tb 691 (by decide +kernel) rfl
theorem hyX8_contradicted : yX8_contradicted.cls ≠ "java/lang/invoke/MethodHandle" ∧ yX8_contradicted.cls ≠ "java/lang/invoke/VarHandle" ∧ (parseMethodDescriptor yX8_contradicted.desc).map (fun d => d.parameters.length) = some 1 := by decide +kernel
theorem imX8_contradicted : Cond.instanceMethod yX8_contradicted ∈ gl := tb 689 (by decide +kernel) rfl
theorem seX8_contradicted : Cond.selects yX8_contradicted.cls yX8_contradicted yX8_contradicted ∈ gl := tb 690 (by decide +kernel) rfl
theorem coX8_contradictedNow : Cond.code yX8_contradictedNow cX8_contradictedNow 5 (some .int) ∈ gl := tb 695 (by decide +kernel) rfl
theorem hyX8_contradictedNow : yX8_contradictedNow.cls ≠ "java/lang/invoke/MethodHandle" ∧ yX8_contradictedNow.cls ≠ "java/lang/invoke/VarHandle" ∧ (parseMethodDescriptor yX8_contradictedNow.desc).map (fun d => d.parameters.length) = some 1 := by decide +kernel
theorem imX8_contradictedNow : Cond.instanceMethod yX8_contradictedNow ∈ gl := tb 694 (by decide +kernel) rfl
theorem seX8_contradictedNow : Cond.selects yX8_contradictedNow.cls yX8_contradictedNow yX8_contradictedNow ∈ gl := ts 34 (by decide +kernel) rfl
theorem coX8_count : Cond.code yX8_count cX8_count 2 (some .int) ∈ gl := tb 738 (by decide +kernel) rfl
theorem hyX8_count : yX8_count.cls ≠ "java/lang/invoke/MethodHandle" ∧ yX8_count.cls ≠ "java/lang/invoke/VarHandle" ∧ (parseMethodDescriptor yX8_count.desc).map (fun d => d.parameters.length) = some 1 := by decide +kernel
theorem imX8_count : Cond.instanceMethod yX8_count ∈ gl := tb 736 (by decide +kernel) rfl
theorem seX8_count : Cond.selects yX8_count.cls yX8_count yX8_count ∈ gl := tb 737 (by decide +kernel) rfl
theorem coX8_degrees : Cond.code yX8_degrees cX8_degrees 4 (some .int) ∈ gl := tb 643 (by decide +kernel) rfl
theorem hyX8_degrees : yX8_degrees.cls ≠ "java/lang/invoke/MethodHandle" ∧ yX8_degrees.cls ≠ "java/lang/invoke/VarHandle" ∧ (parseMethodDescriptor yX8_degrees.desc).map (fun d => d.parameters.length) = some 1 := by decide +kernel
theorem imX8_degrees : Cond.instanceMethod yX8_degrees ∈ gl := tb 642 (by decide +kernel) rfl
theorem seX8_degrees : Cond.selects yX8_degrees.cls yX8_degrees yX8_degrees ∈ gl := ts 25 (by decide +kernel) rfl
theorem coX8_digest : Cond.code yX8_digest cX8_digest 3 (some .long) ∈ gl := tb 754 (by decide +kernel) rfl
theorem hyX8_digest : yX8_digest.cls ≠ "java/lang/invoke/MethodHandle" ∧ yX8_digest.cls ≠ "java/lang/invoke/VarHandle" ∧ (parseMethodDescriptor yX8_digest.desc).map (fun d => d.parameters.length) = some 0 := by decide +kernel
theorem imX8_digest : Cond.instanceMethod yX8_digest ∈ gl := tb 752 (by decide +kernel) rfl
theorem seX8_digest : Cond.selects yX8_digest.cls yX8_digest yX8_digest ∈ gl := tb 753 (by decide +kernel) rfl
theorem coX8_drop : Cond.code yX8_drop cX8_drop 4 (some .int) ∈ gl := tb 580 (by decide +kernel) rfl
theorem hyX8_drop : yX8_drop.cls ≠ "java/lang/invoke/MethodHandle" ∧ yX8_drop.cls ≠ "java/lang/invoke/VarHandle" ∧ (parseMethodDescriptor yX8_drop.desc).map (fun d => d.parameters.length) = some 1 := by decide +kernel
theorem imX8_drop : Cond.instanceMethod yX8_drop ∈ gl := tb 578 (by decide +kernel) rfl
theorem seX8_drop : Cond.selects yX8_drop.cls yX8_drop yX8_drop ∈ gl := tb 579 (by decide +kernel) rfl
theorem coX8_exchange : Cond.code yX8_exchange cX8_exchange 4 (some .int) ∈ gl := tb 584 (by decide +kernel) rfl
theorem hyX8_exchange : yX8_exchange.cls ≠ "java/lang/invoke/MethodHandle" ∧ yX8_exchange.cls ≠ "java/lang/invoke/VarHandle" ∧ (parseMethodDescriptor yX8_exchange.desc).map (fun d => d.parameters.length) = some 2 := by decide +kernel
theorem imX8_exchange : Cond.instanceMethod yX8_exchange ∈ gl := tb 582 (by decide +kernel) rfl
theorem seX8_exchange : Cond.selects yX8_exchange.cls yX8_exchange yX8_exchange ∈ gl := tb 583 (by decide +kernel) rfl
theorem coX8_fault : Cond.code yX8_fault cX8_fault 1 (some .int) ∈ gl := tb 560 (by decide +kernel) rfl
theorem hyX8_fault : yX8_fault.cls ≠ "java/lang/invoke/MethodHandle" ∧ yX8_fault.cls ≠ "java/lang/invoke/VarHandle" ∧ (parseMethodDescriptor yX8_fault.desc).map (fun d => d.parameters.length) = some 0 := by decide +kernel
theorem imX8_fault : Cond.instanceMethod yX8_fault ∈ gl := tb 558 (by decide +kernel) rfl
theorem seX8_fault : Cond.selects yX8_fault.cls yX8_fault yX8_fault ∈ gl := tb 559 (by decide +kernel) rfl
theorem coX8_has : Cond.code yX8_has cX8_has 2 (some .boolean) ∈ gl := tb 616 (by decide +kernel) rfl
theorem hyX8_has : yX8_has.cls ≠ "java/lang/invoke/MethodHandle" ∧ yX8_has.cls ≠ "java/lang/invoke/VarHandle" ∧ (parseMethodDescriptor yX8_has.desc).map (fun d => d.parameters.length) = some 2 := by decide +kernel
theorem stX8_has : Cond.static yX8_has ∈ gl := tb 615 (by decide +kernel) rfl
theorem coX8_hillOf : Cond.code yX8_hillOf cX8_hillOf 5 (some .int) ∈ gl := tb 651 (by decide +kernel) rfl
theorem hyX8_hillOf : yX8_hillOf.cls ≠ "java/lang/invoke/MethodHandle" ∧ yX8_hillOf.cls ≠ "java/lang/invoke/VarHandle" ∧ (parseMethodDescriptor yX8_hillOf.desc).map (fun d => d.parameters.length) = some 1 := by decide +kernel
theorem imX8_hillOf : Cond.instanceMethod yX8_hillOf ∈ gl := tb 650 (by decide +kernel) rfl
theorem seX8_hillOf : Cond.selects yX8_hillOf.cls yX8_hillOf yX8_hillOf ∈ gl := ts 27 (by decide +kernel) rfl
theorem coX8_howMany : Cond.code yX8_howMany cX8_howMany 2 (some .int) ∈ gl := tb 742 (by decide +kernel) rfl
theorem hyX8_howMany : yX8_howMany.cls ≠ "java/lang/invoke/MethodHandle" ∧ yX8_howMany.cls ≠ "java/lang/invoke/VarHandle" ∧ (parseMethodDescriptor yX8_howMany.desc).map (fun d => d.parameters.length) = some 1 := by decide +kernel
theorem imX8_howMany : Cond.instanceMethod yX8_howMany ∈ gl := tb 741 (by decide +kernel) rfl
theorem seX8_howMany : Cond.selects yX8_howMany.cls yX8_howMany yX8_howMany ∈ gl := ts 41 (by decide +kernel) rfl
theorem coX8_isNet : Cond.code yX8_isNet cX8_isNet 1 (some .boolean) ∈ gl := tb 587 (by decide +kernel) rfl
theorem hyX8_isNet : yX8_isNet.cls ≠ "java/lang/invoke/MethodHandle" ∧ yX8_isNet.cls ≠ "java/lang/invoke/VarHandle" ∧ (parseMethodDescriptor yX8_isNet.desc).map (fun d => d.parameters.length) = some 1 := by decide +kernel
theorem stX8_isNet : Cond.static yX8_isNet ∈ gl := tb 586 (by decide +kernel) rfl
theorem coX8_isRight : Cond.code yX8_isRight cX8_isRight 4 (some .boolean) ∈ gl := tb 568 (by decide +kernel) rfl
theorem hyX8_isRight : yX8_isRight.cls ≠ "java/lang/invoke/MethodHandle" ∧ yX8_isRight.cls ≠ "java/lang/invoke/VarHandle" ∧ (parseMethodDescriptor yX8_isRight.desc).map (fun d => d.parameters.length) = some 1 := by decide +kernel
theorem imX8_isRight : Cond.instanceMethod yX8_isRight ∈ gl := tb 567 (by decide +kernel) rfl
theorem seX8_isRight : Cond.selects yX8_isRight.cls yX8_isRight yX8_isRight ∈ gl := ts 15 (by decide +kernel) rfl
theorem coX8_isWayThere : Cond.code yX8_isWayThere cX8_isWayThere 1 (some .boolean) ∈ gl := tb 576 (by decide +kernel) rfl
theorem hyX8_isWayThere : yX8_isWayThere.cls ≠ "java/lang/invoke/MethodHandle" ∧ yX8_isWayThere.cls ≠ "java/lang/invoke/VarHandle" ∧ (parseMethodDescriptor yX8_isWayThere.desc).map (fun d => d.parameters.length) = some 0 := by decide +kernel
theorem imX8_isWayThere : Cond.instanceMethod yX8_isWayThere ∈ gl := tb 575 (by decide +kernel) rfl
theorem seX8_isWayThere : Cond.selects yX8_isWayThere.cls yX8_isWayThere yX8_isWayThere ∈ gl := ts 16 (by decide +kernel) rfl
theorem coX8_lay : Cond.code yX8_lay cX8_lay 2 none ∈ gl := tb 609 (by decide +kernel) rfl
theorem hyX8_lay : yX8_lay.cls ≠ "java/lang/invoke/MethodHandle" ∧ yX8_lay.cls ≠ "java/lang/invoke/VarHandle" ∧ (parseMethodDescriptor yX8_lay.desc).map (fun d => d.parameters.length) = some 0 := by decide +kernel
theorem imX8_lay : Cond.instanceMethod yX8_lay ∈ gl := tb 608 (by decide +kernel) rfl
theorem seX8_lay : Cond.selects yX8_lay.cls yX8_lay yX8_lay ∈ gl := ts 18 (by decide +kernel) rfl
theorem coX8_layFar : Cond.code yX8_layFar cX8_layFar 7 none ∈ gl := tb 731 (by decide +kernel) rfl
theorem hyX8_layFar : yX8_layFar.cls ≠ "java/lang/invoke/MethodHandle" ∧ yX8_layFar.cls ≠ "java/lang/invoke/VarHandle" ∧ (parseMethodDescriptor yX8_layFar.desc).map (fun d => d.parameters.length) = some 1 := by decide +kernel
theorem imX8_layFar : Cond.instanceMethod yX8_layFar ∈ gl := tb 730 (by decide +kernel) rfl
theorem seX8_layFar : Cond.selects yX8_layFar.cls yX8_layFar yX8_layFar ∈ gl := ts 40 (by decide +kernel) rfl
theorem coX8_layRanks : Cond.code yX8_layRanks cX8_layRanks 4 none ∈ gl := tb 624 (by decide +kernel) rfl
theorem hyX8_layRanks : yX8_layRanks.cls ≠ "java/lang/invoke/MethodHandle" ∧ yX8_layRanks.cls ≠ "java/lang/invoke/VarHandle" ∧ (parseMethodDescriptor yX8_layRanks.desc).map (fun d => d.parameters.length) = some 0 := by decide +kernel
theorem imX8_layRanks : Cond.instanceMethod yX8_layRanks ∈ gl := tb 623 (by decide +kernel) rfl
theorem seX8_layRanks : Cond.selects yX8_layRanks.cls yX8_layRanks yX8_layRanks ∈ gl := ts 21 (by decide +kernel) rfl
theorem coX8_layTop : Cond.code yX8_layTop cX8_layTop 5 none ∈ gl := tb 635 (by decide +kernel) rfl
theorem hyX8_layTop : yX8_layTop.cls ≠ "java/lang/invoke/MethodHandle" ∧ yX8_layTop.cls ≠ "java/lang/invoke/VarHandle" ∧ (parseMethodDescriptor yX8_layTop.desc).map (fun d => d.parameters.length) = some 0 := by decide +kernel
theorem imX8_layTop : Cond.instanceMethod yX8_layTop ∈ gl := tb 634 (by decide +kernel) rfl
theorem seX8_layTop : Cond.selects yX8_layTop.cls yX8_layTop yX8_layTop ∈ gl := ts 23 (by decide +kernel) rfl
theorem coX8_layTwo : Cond.code yX8_layTwo cX8_layTwo 5 none ∈ gl := tb 620 (by decide +kernel) rfl
theorem hyX8_layTwo : yX8_layTwo.cls ≠ "java/lang/invoke/MethodHandle" ∧ yX8_layTwo.cls ≠ "java/lang/invoke/VarHandle" ∧ (parseMethodDescriptor yX8_layTwo.desc).map (fun d => d.parameters.length) = some 2 := by decide +kernel
theorem imX8_layTwo : Cond.instanceMethod yX8_layTwo ∈ gl := tb 619 (by decide +kernel) rfl
theorem seX8_layTwo : Cond.selects yX8_layTwo.cls yX8_layTwo yX8_layTwo ∈ gl := ts 20 (by decide +kernel) rfl
theorem coX8_layVotes : Cond.code yX8_layVotes cX8_layVotes 8 none ∈ gl := tb 647 (by decide +kernel) rfl
theorem hyX8_layVotes : yX8_layVotes.cls ≠ "java/lang/invoke/MethodHandle" ∧ yX8_layVotes.cls ≠ "java/lang/invoke/VarHandle" ∧ (parseMethodDescriptor yX8_layVotes.desc).map (fun d => d.parameters.length) = some 0 := by decide +kernel
theorem imX8_layVotes : Cond.instanceMethod yX8_layVotes ∈ gl := tb 646 (by decide +kernel) rfl
theorem seX8_layVotes : Cond.selects yX8_layVotes.cls yX8_layVotes yX8_layVotes ∈ gl := ts 26 (by decide +kernel) rfl
theorem coX8_layWays : Cond.code yX8_layWays cX8_layWays 4 none ∈ gl := tb 613 (by decide +kernel) rfl
theorem hyX8_layWays : yX8_layWays.cls ≠ "java/lang/invoke/MethodHandle" ∧ yX8_layWays.cls ≠ "java/lang/invoke/VarHandle" ∧ (parseMethodDescriptor yX8_layWays.desc).map (fun d => d.parameters.length) = some 0 := by decide +kernel
theorem imX8_layWays : Cond.instanceMethod yX8_layWays ∈ gl := tb 612 (by decide +kernel) rfl
theorem seX8_layWays : Cond.selects yX8_layWays.cls yX8_layWays yX8_layWays ∈ gl := ts 19 (by decide +kernel) rfl
theorem coX8_lesserOf : Cond.code yX8_lesserOf cX8_lesserOf 6 (some .int) ∈ gl := tb 699 (by decide +kernel) rfl
theorem hyX8_lesserOf : yX8_lesserOf.cls ≠ "java/lang/invoke/MethodHandle" ∧ yX8_lesserOf.cls ≠ "java/lang/invoke/VarHandle" ∧ (parseMethodDescriptor yX8_lesserOf.desc).map (fun d => d.parameters.length) = some 1 := by decide +kernel
theorem imX8_lesserOf : Cond.instanceMethod yX8_lesserOf ∈ gl := tb 698 (by decide +kernel) rfl
theorem seX8_lesserOf : Cond.selects yX8_lesserOf.cls yX8_lesserOf yX8_lesserOf ∈ gl := ts 35 (by decide +kernel) rfl
theorem coX8_letter : Cond.code yX8_letter cX8_letter 2 (some .int) ∈ gl := tb 549 (by decide +kernel) rfl
theorem hyX8_letter : yX8_letter.cls ≠ "java/lang/invoke/MethodHandle" ∧ yX8_letter.cls ≠ "java/lang/invoke/VarHandle" ∧ (parseMethodDescriptor yX8_letter.desc).map (fun d => d.parameters.length) = some 1 := by decide +kernel
theorem imX8_letter : Cond.instanceMethod yX8_letter ∈ gl := tb 547 (by decide +kernel) rfl
theorem seX8_letter : Cond.selects yX8_letter.cls yX8_letter yX8_letter ∈ gl := tb 548 (by decide +kernel) rfl
theorem coX8_link : Cond.code yX8_link cX8_link 4 (some .int) ∈ gl := tb 683 (by decide +kernel) rfl
theorem hyX8_link : yX8_link.cls ≠ "java/lang/invoke/MethodHandle" ∧ yX8_link.cls ≠ "java/lang/invoke/VarHandle" ∧ (parseMethodDescriptor yX8_link.desc).map (fun d => d.parameters.length) = some 3 := by decide +kernel
theorem imX8_link : Cond.instanceMethod yX8_link ∈ gl := tb 681 (by decide +kernel) rfl
theorem seX8_link : Cond.selects yX8_link.cls yX8_link yX8_link ∈ gl := tb 682 (by decide +kernel) rfl
theorem coX8_linkNow : Cond.code yX8_linkNow cX8_linkNow 5 (some .int) ∈ gl := tb 687 (by decide +kernel) rfl
theorem hyX8_linkNow : yX8_linkNow.cls ≠ "java/lang/invoke/MethodHandle" ∧ yX8_linkNow.cls ≠ "java/lang/invoke/VarHandle" ∧ (parseMethodDescriptor yX8_linkNow.desc).map (fun d => d.parameters.length) = some 3 := by decide +kernel
theorem imX8_linkNow : Cond.instanceMethod yX8_linkNow ∈ gl := tb 686 (by decide +kernel) rfl
theorem seX8_linkNow : Cond.selects yX8_linkNow.cls yX8_linkNow yX8_linkNow ∈ gl := ts 33 (by decide +kernel) rfl
theorem coX8_linksOf : Cond.code yX8_linksOf cX8_linksOf 7 (some .int) ∈ gl := tb 750 (by decide +kernel) rfl
theorem hyX8_linksOf : yX8_linksOf.cls ≠ "java/lang/invoke/MethodHandle" ∧ yX8_linksOf.cls ≠ "java/lang/invoke/VarHandle" ∧ (parseMethodDescriptor yX8_linksOf.desc).map (fun d => d.parameters.length) = some 1 := by decide +kernel
theorem imX8_linksOf : Cond.instanceMethod yX8_linksOf ∈ gl := tb 749 (by decide +kernel) rfl
theorem seX8_linksOf : Cond.selects yX8_linksOf.cls yX8_linksOf yX8_linksOf ∈ gl := ts 43 (by decide +kernel) rfl
theorem coX8_mix : Cond.code yX8_mix cX8_mix 3 none ∈ gl := tb 763 (by decide +kernel) rfl
theorem hyX8_mix : yX8_mix.cls ≠ "java/lang/invoke/MethodHandle" ∧ yX8_mix.cls ≠ "java/lang/invoke/VarHandle" ∧ (parseMethodDescriptor yX8_mix.desc).map (fun d => d.parameters.length) = some 1 := by decide +kernel
theorem imX8_mix : Cond.instanceMethod yX8_mix ∈ gl := tb 762 (by decide +kernel) rfl
theorem seX8_mix : Cond.selects yX8_mix.cls yX8_mix yX8_mix ∈ gl := ts 45 (by decide +kernel) rfl
theorem coX8_mixNets : Cond.code yX8_mixNets cX8_mixNets 4 none ∈ gl := tb 759 (by decide +kernel) rfl
theorem hyX8_mixNets : yX8_mixNets.cls ≠ "java/lang/invoke/MethodHandle" ∧ yX8_mixNets.cls ≠ "java/lang/invoke/VarHandle" ∧ (parseMethodDescriptor yX8_mixNets.desc).map (fun d => d.parameters.length) = some 0 := by decide +kernel
theorem imX8_mixNets : Cond.instanceMethod yX8_mixNets ∈ gl := tb 758 (by decide +kernel) rfl
theorem seX8_mixNets : Cond.selects yX8_mixNets.cls yX8_mixNets yX8_mixNets ∈ gl := ts 44 (by decide +kernel) rfl
theorem coX8_nameBy : Cond.code yX8_nameBy cX8_nameBy 5 (some .int) ∈ gl := tb 659 (by decide +kernel) rfl
theorem hyX8_nameBy : yX8_nameBy.cls ≠ "java/lang/invoke/MethodHandle" ∧ yX8_nameBy.cls ≠ "java/lang/invoke/VarHandle" ∧ (parseMethodDescriptor yX8_nameBy.desc).map (fun d => d.parameters.length) = some 2 := by decide +kernel
theorem imX8_nameBy : Cond.instanceMethod yX8_nameBy ∈ gl := tb 658 (by decide +kernel) rfl
theorem seX8_nameBy : Cond.selects yX8_nameBy.cls yX8_nameBy yX8_nameBy ∈ gl := ts 29 (by decide +kernel) rfl
theorem coX8_near : Cond.code yX8_near cX8_near 4 (some .int) ∈ gl := tb 723 (by decide +kernel) rfl
theorem hyX8_near : yX8_near.cls ≠ "java/lang/invoke/MethodHandle" ∧ yX8_near.cls ≠ "java/lang/invoke/VarHandle" ∧ (parseMethodDescriptor yX8_near.desc).map (fun d => d.parameters.length) = some 3 := by decide +kernel
theorem imX8_near : Cond.instanceMethod yX8_near ∈ gl := tb 721 (by decide +kernel) rfl
theorem seX8_near : Cond.selects yX8_near.cls yX8_near yX8_near ∈ gl := tb 722 (by decide +kernel) rfl
theorem coX8_nearNow : Cond.code yX8_nearNow cX8_nearNow 6 (some .int) ∈ gl := tb 727 (by decide +kernel) rfl
theorem hyX8_nearNow : yX8_nearNow.cls ≠ "java/lang/invoke/MethodHandle" ∧ yX8_nearNow.cls ≠ "java/lang/invoke/VarHandle" ∧ (parseMethodDescriptor yX8_nearNow.desc).map (fun d => d.parameters.length) = some 3 := by decide +kernel
theorem imX8_nearNow : Cond.instanceMethod yX8_nearNow ∈ gl := tb 726 (by decide +kernel) rfl
theorem seX8_nearNow : Cond.selects yX8_nearNow.cls yX8_nearNow yX8_nearNow ∈ gl := ts 39 (by decide +kernel) rfl
theorem coX8_net : Cond.code yX8_net cX8_net 3 (some .int) ∈ gl := tb 601 (by decide +kernel) rfl
theorem hyX8_net : yX8_net.cls ≠ "java/lang/invoke/MethodHandle" ∧ yX8_net.cls ≠ "java/lang/invoke/VarHandle" ∧ (parseMethodDescriptor yX8_net.desc).map (fun d => d.parameters.length) = some 2 := by decide +kernel
theorem imX8_net : Cond.instanceMethod yX8_net ∈ gl := tb 599 (by decide +kernel) rfl
theorem seX8_net : Cond.selects yX8_net.cls yX8_net yX8_net ∈ gl := tb 600 (by decide +kernel) rfl
theorem coX8_netNow : Cond.code yX8_netNow cX8_netNow 3 (some .int) ∈ gl := tb 605 (by decide +kernel) rfl
theorem hyX8_netNow : yX8_netNow.cls ≠ "java/lang/invoke/MethodHandle" ∧ yX8_netNow.cls ≠ "java/lang/invoke/VarHandle" ∧ (parseMethodDescriptor yX8_netNow.desc).map (fun d => d.parameters.length) = some 2 := by decide +kernel
theorem imX8_netNow : Cond.instanceMethod yX8_netNow ∈ gl := tb 604 (by decide +kernel) rfl
theorem seX8_netNow : Cond.selects yX8_netNow.cls yX8_netNow yX8_netNow ∈ gl := ts 17 (by decide +kernel) rfl
theorem coX8_ones : Cond.code yX8_ones cX8_ones 3 (some .int) ∈ gl := tb 627 (by decide +kernel) rfl
theorem hyX8_ones : yX8_ones.cls ≠ "java/lang/invoke/MethodHandle" ∧ yX8_ones.cls ≠ "java/lang/invoke/VarHandle" ∧ (parseMethodDescriptor yX8_ones.desc).map (fun d => d.parameters.length) = some 1 := by decide +kernel
theorem stX8_ones : Cond.static yX8_ones ∈ gl := tb 626 (by decide +kernel) rfl
theorem coX8_rank : Cond.code yX8_rank cX8_rank 2 (some .int) ∈ gl := tb 667 (by decide +kernel) rfl
theorem hyX8_rank : yX8_rank.cls ≠ "java/lang/invoke/MethodHandle" ∧ yX8_rank.cls ≠ "java/lang/invoke/VarHandle" ∧ (parseMethodDescriptor yX8_rank.desc).map (fun d => d.parameters.length) = some 1 := by decide +kernel
theorem imX8_rank : Cond.instanceMethod yX8_rank ∈ gl := tb 665 (by decide +kernel) rfl
theorem seX8_rank : Cond.selects yX8_rank.cls yX8_rank yX8_rank ∈ gl := tb 666 (by decide +kernel) rfl
theorem coX8_rankNow : Cond.code yX8_rankNow cX8_rankNow 2 (some .int) ∈ gl := tb 671 (by decide +kernel) rfl
theorem hyX8_rankNow : yX8_rankNow.cls ≠ "java/lang/invoke/MethodHandle" ∧ yX8_rankNow.cls ≠ "java/lang/invoke/VarHandle" ∧ (parseMethodDescriptor yX8_rankNow.desc).map (fun d => d.parameters.length) = some 1 := by decide +kernel
theorem imX8_rankNow : Cond.instanceMethod yX8_rankNow ∈ gl := tb 670 (by decide +kernel) rfl
theorem seX8_rankNow : Cond.selects yX8_rankNow.cls yX8_rankNow yX8_rankNow ∈ gl := ts 31 (by decide +kernel) rfl
theorem coX8_rightLetters : Cond.code yX8_rightLetters cX8_rightLetters 2 (some .int) ∈ gl := tb 564 (by decide +kernel) rfl
theorem hyX8_rightLetters : yX8_rightLetters.cls ≠ "java/lang/invoke/MethodHandle" ∧ yX8_rightLetters.cls ≠ "java/lang/invoke/VarHandle" ∧ (parseMethodDescriptor yX8_rightLetters.desc).map (fun d => d.parameters.length) = some 0 := by decide +kernel
theorem imX8_rightLetters : Cond.instanceMethod yX8_rightLetters ∈ gl := tb 563 (by decide +kernel) rfl
theorem seX8_rightLetters : Cond.selects yX8_rightLetters.cls yX8_rightLetters yX8_rightLetters ∈ gl := ts 14 (by decide +kernel) rfl
theorem coX8_seen : Cond.code yX8_seen cX8_seen 3 (some .int) ∈ gl := tb 711 (by decide +kernel) rfl
theorem hyX8_seen : yX8_seen.cls ≠ "java/lang/invoke/MethodHandle" ∧ yX8_seen.cls ≠ "java/lang/invoke/VarHandle" ∧ (parseMethodDescriptor yX8_seen.desc).map (fun d => d.parameters.length) = some 2 := by decide +kernel
theorem imX8_seen : Cond.instanceMethod yX8_seen ∈ gl := tb 709 (by decide +kernel) rfl
theorem seX8_seen : Cond.selects yX8_seen.cls yX8_seen yX8_seen ∈ gl := tb 710 (by decide +kernel) rfl
theorem coX8_seenNow : Cond.code yX8_seenNow cX8_seenNow 3 (some .int) ∈ gl := tb 715 (by decide +kernel) rfl
theorem hyX8_seenNow : yX8_seenNow.cls ≠ "java/lang/invoke/MethodHandle" ∧ yX8_seenNow.cls ≠ "java/lang/invoke/VarHandle" ∧ (parseMethodDescriptor yX8_seenNow.desc).map (fun d => d.parameters.length) = some 2 := by decide +kernel
theorem imX8_seenNow : Cond.instanceMethod yX8_seenNow ∈ gl := tb 714 (by decide +kernel) rfl
theorem seX8_seenNow : Cond.selects yX8_seenNow.cls yX8_seenNow yX8_seenNow ∈ gl := ts 37 (by decide +kernel) rfl
theorem coX8_tell : Cond.code yX8_tell cX8_tell 5 (some .int) ∈ gl := tb 591 (by decide +kernel) rfl
theorem hyX8_tell : yX8_tell.cls ≠ "java/lang/invoke/MethodHandle" ∧ yX8_tell.cls ≠ "java/lang/invoke/VarHandle" ∧ (parseMethodDescriptor yX8_tell.desc).map (fun d => d.parameters.length) = some 3 := by decide +kernel
theorem imX8_tell : Cond.instanceMethod yX8_tell ∈ gl := tb 589 (by decide +kernel) rfl
theorem seX8_tell : Cond.selects yX8_tell.cls yX8_tell yX8_tell ∈ gl := tb 590 (by decide +kernel) rfl
theorem coX8_top : Cond.code yX8_top cX8_top 1 (some .int) ∈ gl := tb 675 (by decide +kernel) rfl
theorem hyX8_top : yX8_top.cls ≠ "java/lang/invoke/MethodHandle" ∧ yX8_top.cls ≠ "java/lang/invoke/VarHandle" ∧ (parseMethodDescriptor yX8_top.desc).map (fun d => d.parameters.length) = some 0 := by decide +kernel
theorem imX8_top : Cond.instanceMethod yX8_top ∈ gl := tb 673 (by decide +kernel) rfl
theorem seX8_top : Cond.selects yX8_top.cls yX8_top yX8_top ∈ gl := tb 674 (by decide +kernel) rfl
theorem coX8_topNow : Cond.code yX8_topNow cX8_topNow 1 (some .int) ∈ gl := tb 679 (by decide +kernel) rfl
theorem hyX8_topNow : yX8_topNow.cls ≠ "java/lang/invoke/MethodHandle" ∧ yX8_topNow.cls ≠ "java/lang/invoke/VarHandle" ∧ (parseMethodDescriptor yX8_topNow.desc).map (fun d => d.parameters.length) = some 0 := by decide +kernel
theorem imX8_topNow : Cond.instanceMethod yX8_topNow ∈ gl := tb 678 (by decide +kernel) rfl
theorem seX8_topNow : Cond.selects yX8_topNow.cls yX8_topNow yX8_topNow ∈ gl := ts 32 (by decide +kernel) rfl
theorem coX8_turned : Cond.code yX8_turned cX8_turned 1 (some .int) ∈ gl := tb 597 (by decide +kernel) rfl
theorem hyX8_turned : yX8_turned.cls ≠ "java/lang/invoke/MethodHandle" ∧ yX8_turned.cls ≠ "java/lang/invoke/VarHandle" ∧ (parseMethodDescriptor yX8_turned.desc).map (fun d => d.parameters.length) = some 1 := by decide +kernel
theorem stX8_turned : Cond.static yX8_turned ∈ gl := tb 596 (by decide +kernel) rfl
theorem coX8_valley : Cond.code yX8_valley cX8_valley 2 (some .int) ∈ gl := tb 703 (by decide +kernel) rfl
theorem hyX8_valley : yX8_valley.cls ≠ "java/lang/invoke/MethodHandle" ∧ yX8_valley.cls ≠ "java/lang/invoke/VarHandle" ∧ (parseMethodDescriptor yX8_valley.desc).map (fun d => d.parameters.length) = some 0 := by decide +kernel
theorem imX8_valley : Cond.instanceMethod yX8_valley ∈ gl := tb 701 (by decide +kernel) rfl
theorem seX8_valley : Cond.selects yX8_valley.cls yX8_valley yX8_valley ∈ gl := tb 702 (by decide +kernel) rfl
theorem coX8_valleyOf : Cond.code yX8_valleyOf cX8_valleyOf 4 (some .int) ∈ gl := tb 707 (by decide +kernel) rfl
theorem hyX8_valleyOf : yX8_valleyOf.cls ≠ "java/lang/invoke/MethodHandle" ∧ yX8_valleyOf.cls ≠ "java/lang/invoke/VarHandle" ∧ (parseMethodDescriptor yX8_valleyOf.desc).map (fun d => d.parameters.length) = some 0 := by decide +kernel
theorem imX8_valleyOf : Cond.instanceMethod yX8_valleyOf ∈ gl := tb 706 (by decide +kernel) rfl
theorem seX8_valleyOf : Cond.selects yX8_valleyOf.cls yX8_valleyOf yX8_valleyOf ∈ gl := ts 36 (by decide +kernel) rfl
theorem coX8_valleyOfWay : Cond.code yX8_valleyOfWay cX8_valleyOfWay 3 (some .int) ∈ gl := tb 719 (by decide +kernel) rfl
theorem hyX8_valleyOfWay : yX8_valleyOfWay.cls ≠ "java/lang/invoke/MethodHandle" ∧ yX8_valleyOfWay.cls ≠ "java/lang/invoke/VarHandle" ∧ (parseMethodDescriptor yX8_valleyOfWay.desc).map (fun d => d.parameters.length) = some 1 := by decide +kernel
theorem imX8_valleyOfWay : Cond.instanceMethod yX8_valleyOfWay ∈ gl := tb 718 (by decide +kernel) rfl
theorem seX8_valleyOfWay : Cond.selects yX8_valleyOfWay.cls yX8_valleyOfWay yX8_valleyOfWay ∈ gl := ts 38 (by decide +kernel) rfl
theorem coX8_way : Cond.code yX8_way cX8_way 2 (some .int) ∈ gl := tb 572 (by decide +kernel) rfl
theorem hyX8_way : yX8_way.cls ≠ "java/lang/invoke/MethodHandle" ∧ yX8_way.cls ≠ "java/lang/invoke/VarHandle" ∧ (parseMethodDescriptor yX8_way.desc).map (fun d => d.parameters.length) = some 0 := by decide +kernel
theorem imX8_way : Cond.instanceMethod yX8_way ∈ gl := tb 570 (by decide +kernel) rfl
theorem seX8_way : Cond.selects yX8_way.cls yX8_way yX8_way ∈ gl := tb 571 (by decide +kernel) rfl
theorem coX8_weightOf : Cond.code yX8_weightOf cX8_weightOf 2 (some .int) ∈ gl := tb 631 (by decide +kernel) rfl
theorem hyX8_weightOf : yX8_weightOf.cls ≠ "java/lang/invoke/MethodHandle" ∧ yX8_weightOf.cls ≠ "java/lang/invoke/VarHandle" ∧ (parseMethodDescriptor yX8_weightOf.desc).map (fun d => d.parameters.length) = some 1 := by decide +kernel
theorem imX8_weightOf : Cond.instanceMethod yX8_weightOf ∈ gl := tb 630 (by decide +kernel) rfl
theorem seX8_weightOf : Cond.selects yX8_weightOf.cls yX8_weightOf yX8_weightOf ∈ gl := ts 22 (by decide +kernel) rfl
theorem coX8_withValley : Cond.code yX8_withValley cX8_withValley 3 (some .int) ∈ gl := tb 746 (by decide +kernel) rfl
theorem hyX8_withValley : yX8_withValley.cls ≠ "java/lang/invoke/MethodHandle" ∧ yX8_withValley.cls ≠ "java/lang/invoke/VarHandle" ∧ (parseMethodDescriptor yX8_withValley.desc).map (fun d => d.parameters.length) = some 0 := by decide +kernel
theorem imX8_withValley : Cond.instanceMethod yX8_withValley ∈ gl := tb 745 (by decide +kernel) rfl
theorem seX8_withValley : Cond.selects yX8_withValley.cls yX8_withValley yX8_withValley ∈ gl := ts 42 (by decide +kernel) rfl
theorem coX8_within : Cond.code yX8_within cX8_within 3 (some .boolean) ∈ gl := tb 552 (by decide +kernel) rfl
theorem hyX8_within : yX8_within.cls ≠ "java/lang/invoke/MethodHandle" ∧ yX8_within.cls ≠ "java/lang/invoke/VarHandle" ∧ (parseMethodDescriptor yX8_within.desc).map (fun d => d.parameters.length) = some 3 := by decide +kernel
theorem stX8_within : Cond.static yX8_within ∈ gl := tb 551 (by decide +kernel) rfl
theorem inRX7 : Cond.initialized RX7 ∈ gl := tb 1 (by decide +kernel) rfl
theorem inRX0 : Cond.initialized RX0 ∈ gl := tb 8 (by decide +kernel) rfl
theorem inRX1 : Cond.initialized RX1 ∈ gl := tb 4 (by decide +kernel) rfl
theorem inRX2 : Cond.initialized RX2 ∈ gl := tb 6 (by decide +kernel) rfl
theorem inRX3 : Cond.initialized RX3 ∈ gl := tb 5 (by decide +kernel) rfl
theorem inRX4 : Cond.initialized RX4 ∈ gl := tb 2 (by decide +kernel) rfl
theorem inRX5 : Cond.initialized RX5 ∈ gl := tb 7 (by decide +kernel) rfl
theorem inRX6 : Cond.initialized RX6 ∈ gl := tb 3 (by decide +kernel) rfl
theorem inRX8 : Cond.initialized RX8 ∈ gl := tb 10 (by decide +kernel) rfl
theorem inRJ6 : Cond.initialized RJ6 ∈ gl := tb 9 (by decide +kernel) rfl
theorem inRJ9 : Cond.initialized RJ9 ∈ gl := tb 11 (by decide +kernel) rfl
