/-! names -/
theorem sub_toInt {x y : Nat} (hx : x < 1000000) (hy : y < 1000000) : (nI x - nI y).toInt = (x : Int) - y := by
  rcases Nat.lt_or_ge x y with h | h
  · obtain ⟨k, rfl⟩ : ∃ k, y = x + k := ⟨y - x, by omega⟩
    have e : nI x - nI (x + k) = - nI k := by
      rw [← nI_add, Int32.sub_eq_add_neg, Int32.neg_add, Int32.sub_eq_add_neg (-nI x), ← Int32.add_assoc, ← Int32.sub_eq_add_neg (nI x) (nI x), Int32.sub_self, Int32.zero_add]
    rw [e, Int32.toInt_neg, nI_toInt (by omega)]
    rw [Int.bmod_def]
    omega
  · rw [nI_sub h, nI_toInt (by omega)]; omega
def nm4 (tp : Nat) (vt : Nat → Nat) (a b : Nat) : Nat := if tp.testBit a && tp.testBit b then 3 else if vt (8 * b + a) < vt (8 * a + b) then 1 else if vt (8 * a + b) < vt (8 * b + a) then 2 else 4
def nmD (tp : Nat) (lk vt : Nat → Nat) (a b : Nat) : Nat := if (lk a).testBit b then nm4 tp vt a b else 0
theorem nm4_le {tp : Nat} {vt : Nat → Nat} {a b : Nat} : 1 ≤ nm4 tp vt a b ∧ nm4 tp vt a b ≤ 4 := by
  unfold nm4
  split
  · omega
  · split
    · omega
    · split <;> omega
theorem nmD_le {tp : Nat} {lk vt : Nat → Nat} {a b : Nat} : nmD tp lk vt a b ≤ 4 := by
  unfold nmD
  split
  · exact nm4_le.2
  · omega
theorem c_nameOf {tp a b : Nat} {vt : Nat → Nat} {sg : Sg} (htp : tp < 256) (ha : a < 8) (hb : b < 8) (hv : ∀ k, vt k ≤ 1000) (h18 : arr sg 18 64 vt) : fX2_nameOf (nI a) (nI b) (nI tp) sg = some (nI (nm4 tp vt a b)) := by
  have v1 := hv (8 * a + b)
  have v2 := hv (8 * b + a)
  have hJ : fX2_nameOf_J18 (nI a) (nI b) sg = some (nI (if vt (8 * b + a) < vt (8 * a + b) then 1 else if vt (8 * a + b) < vt (8 * b + a) then 2 else 4)) := by
    unfold fX2_nameOf_J18 fX2_nameOf_J60
    simp (disch := omega) only [l8, nI_mul, nI_add, inb_nI, gd_t, nI_clamp, lt_d]
    rw [Nat.mul_comm a 8, Nat.mul_comm b 8, h18 (8 * a + b) (by omega), h18 (8 * b + a) (by omega)]
    have e0 : (nI (vt (8 * a + b)) - nI (vt (8 * b + a)) = 0) ↔ vt (8 * a + b) = vt (8 * b + a) := by
      rw [fa_eq, sub_toInt (by omega) (by omega), show (0 : Int32).toInt = 0 from rfl]; omega
    have e1 : (nI (vt (8 * a + b)) - nI (vt (8 * b + a)) ≤ 0) ↔ vt (8 * a + b) ≤ vt (8 * b + a) := by
      rw [fa_le, sub_toInt (by omega) (by omega), show (0 : Int32).toInt = 0 from rfl]; omega
    by_cases c1 : vt (8 * a + b) = vt (8 * b + a)
    · rw [if_pos (e0.mpr c1), if_neg (by omega), if_neg (by omega)]; rfl
    · rw [if_neg (fun z => c1 (e0.mp z))]
      by_cases c2 : vt (8 * a + b) ≤ vt (8 * b + a)
      · rw [if_pos (e1.mpr c2), if_neg (by omega), if_pos (by omega)]; rfl
      · rw [if_neg (fun z => c2 (e1.mp z)), if_pos (by omega)]; rfl
  unfold fX2_nameOf nm4
  rw [has0 (by omega) (by omega), has0 (by omega) (by omega), hJ]
  simp only [Option.bind_some, b2i_0]
  cases tp.testBit a <;> cases tp.testBit b <;> rfl
theorem m_nameBy {tp a b : Nat} {lk vt : Nat → Nat} {sg : Sg} (htp : tp < 256) (ha : a < 8) (hb : b < 8) (hl : ∀ k, lk k < 256) (hv : ∀ k, vt k ≤ 1000) (h7 : arr sg 7 8 lk) (h11 : arr sg 11 64 vt) (ht : rd sg 0 17 = nI tp) : fX8_nameBy (nI a) (nI b) sg = some (nI (nmD tp lk vt a b)) := by
  have v1 := hv (8 * a + b)
  have v2 := hv (8 * b + a)
  have hla := hl a
  unfold fX8_nameBy fX8_nameBy_J74 nmD nm4
  simp (disch := omega) only [l8, nI_mul, nI_add, inb_nI, gd_t, nI_clamp, lt_d, h7 a ha, m_tops htp ha hb ht, h11 (8 * a + b) (by omega), h11 (8 * b + a) (by omega), nI_leI, has8, Option.bind_some, b2i_0]
  cases (lk a).testBit b with
  | false => rfl
  | true =>
    rw [if_neg (by decide), if_pos rfl]
    cases (tp.testBit a && tp.testBit b) with
    | true => rfl
    | false =>
      rw [if_pos rfl, if_neg (show ¬ (false = true) by decide)]
      by_cases c2 : vt (8 * a + b) ≤ vt (8 * b + a)
      · rw [if_pos c2, if_neg (show ¬ vt (8 * b + a) < vt (8 * a + b) by omega)]
        by_cases c3 : vt (8 * b + a) ≤ vt (8 * a + b)
        · rw [if_pos c3, if_neg (show ¬ vt (8 * a + b) < vt (8 * b + a) by omega)]; rfl
        · rw [if_neg c3, if_pos (show vt (8 * a + b) < vt (8 * b + a) by omega)]; rfl
      · rw [if_neg c2, if_pos (show vt (8 * b + a) < vt (8 * a + b) by omega)]; rfl
def PYd (tp : Nat) (lk vt : Nat → Nat) (a : Nat) : Nat → Nat
  | 0 => 0
  | b + 1 => PYd tp lk vt a b ||| (if nmD tp lk vt a b = 2 then 2 ^ b else 0)
theorem py_bit {tp : Nat} {lk vt : Nat → Nat} {a d : Nat} : ∀ n, (PYd tp lk vt a n).testBit d = true ↔ d < n ∧ nmD tp lk vt a d = 2
  | 0 => by simp [PYd]
  | n + 1 => by
    have ih := py_bit (tp := tp) (lk := lk) (vt := vt) (a := a) (d := d) n
    unfold PYd
    by_cases c : nmD tp lk vt a n = 2
    · rw [if_pos c, fb_bit_set, Bool.or_eq_true, ih, decide_eq_true_eq]
      constructor
      · rintro (⟨h1, h2⟩ | h)
        · exact ⟨by omega, h2⟩
        · subst h; exact ⟨by omega, c⟩
      · rintro ⟨h1, h2⟩
        rcases Nat.lt_or_ge d n with h | h
        · exact Or.inl ⟨h, h2⟩
        · exact Or.inr (by omega)
    · rw [if_neg c, Nat.or_zero, ih]
      constructor
      · rintro ⟨h1, h2⟩; exact ⟨by omega, h2⟩
      · rintro ⟨h1, h2⟩
        refine ⟨?_, h2⟩
        have : d ≠ n := fun z => by subst z; exact c h2
        omega
theorem py_lt {tp : Nat} {lk vt : Nat → Nat} {a : Nat} : ∀ n, n ≤ 8 → PYd tp lk vt a n < 256
  | 0, _ => (by decide : 0 < 256)
  | n + 1, h => by
    unfold PYd
    split
    · exact or_lt (py_lt n (by omega)) (by omega)
    · rw [Nat.or_zero]; exact py_lt n (by omega)
set_option maxHeartbeats 1000000 in
theorem c_names {W tp : Nat} {bl : Nat → Nat} {bn : Nat → Nat → Nat} {pl lk : Nat → Nat} {sg : Sg} (hB : okB W bl bn) (htp : tp < 256) (hpl : ∀ a, pl a ≤ 8) (hl : ∀ k, lk k < 256) (hv : ∀ k, VTd tp pl bl bn W k ≤ 1000) (hW : rd sg 3 4 = nI W) (hc : cutC sg W bl bn) (hp : ∀ w i, w < W → i < bl w → rd sg 16 (bn w i) = nI (pl (bn w i))) (ht : rd sg 14 3 = nI tp) (h9 : arr sg 9 8 lk) :
    ∃ g, fX2_read_3_8_14 sg = some g ∧ arr g 18 64 (VTd tp pl bl bn W) ∧ (∀ a b, a < 8 → b < 8 → rd g 19 (8 * a + b) = nI (nmD tp lk (VTd tp pl bl bn W) a b)) ∧ (∀ a, a < 8 → rd g 20 a = nI (PYd tp lk (VTd tp pl bl bn W) a 8)) ∧ same [18, 19, 20] g sg := by
  unfold fX2_read_3_8_14
  obtain ⟨⟨a1, g1⟩, e1, q1, q2⟩ := lpS_for (step := fun t => fX2_read_3_8_14_L3 t.1 t.2) (t0 := ((0 : Int32), sg)) (Q := fun t => arr t.2 18 64 (fun _ => 0) ∧ same [18] t.2 sg) 64
    (fun j t => t.1 = nI j ∧ arr t.2 18 j (fun _ => 0) ∧ same [18] t.2 sg)
    ⟨rfl, fun i hi => by omega, same.rf⟩
    (by
      rintro j ⟨a, g⟩ hj ⟨rfl, h1, h4⟩
      refine ⟨(nI j + 1, wr g 18 j (nI 0)), ?_, nI_1 j, ?_, h4.wr (by simp)⟩
      · simp only [fX2_read_3_8_14_L3]
        rw [if_neg (by rw [show (64 : Int32) = nI 64 from rfl, nI_leI (by decide) (by omega)]; omega)]
        simp (disch := omega) only [fa_lit, inb_nI, gd_t, lt_d, nI_clamp]
      · intro i hi
        rw [rd_wr]
        split
        · rfl
        · rename_i hne; exact h1 i (by have : i ≠ j := fun z => hne ⟨rfl, z⟩; omega))
    (by
      rintro ⟨a, g⟩ ⟨rfl, h1, h4⟩
      refine ⟨(nI 64, g), ?_, h1, h4⟩
      simp only [fX2_read_3_8_14_L3]
      rw [if_pos (by decide)]) (by decide)
  rw [e1]
  simp only [Option.bind_some, fX2_read_3_8_14_E24]
  obtain ⟨⟨a2, g2⟩, e2, r1, r2⟩ := lpS_for (step := fun t => fX2_read_3_8_14_L27 t.1 t.2) (t0 := ((0 : Int32), g1)) (Q := fun t => arr t.2 18 64 (VTd tp pl bl bn W) ∧ same [18] t.2 sg) W
    (fun j t => t.1 = nI j ∧ arr t.2 18 64 (VTd tp pl bl bn j) ∧ same [18] t.2 sg)
    ⟨rfl, q1, q2⟩
    (by
      rintro w ⟨a, g⟩ hw ⟨rfl, h1, h2⟩
      have hW1 := hB.1
      obtain ⟨b1, b2, b3⟩ := hB.2 w hw
      obtain ⟨g', k1, k2, k3⟩ := c_vote (w := w) (n := bl w) (r := bn w) (v := fun i => pl (bn w i)) (tp := tp) (sg := g) (by omega) b1 htp b2 (fun i _ => hpl _) (fun i hi => (h2 6 (by simp) _).trans ((hc w hw).2 i hi)) (fun i hi => (h2 16 (by simp) _).trans (hp w i hw hi)) ((h2 14 (by simp) 3).trans ht) h1
      refine ⟨(nI w + 1, g'), ?_, nI_1 w, k2, k3.tr h2 (fun _ h => h) (fun _ h => h)⟩
      simp only [fX2_read_3_8_14_L27]
      rw [h2 3 (by simp) 4, hW, if_neg (by rw [nI_leI (by omega) (by omega)]; omega)]
      simp (disch := omega) only [fa_lit, nI_mul, inb_nI, gd_t, nI_clamp]
      rw [h2 7 (by simp) w, (hc w hw).1, k1]
      rfl)
    (by
      rintro ⟨a, g⟩ ⟨rfl, h1, h2⟩
      refine ⟨(nI W, g), ?_, h1, h2⟩
      simp only [fX2_read_3_8_14_L27]
      rw [h2 3 (by simp) 4, hW, if_pos (Int32.le_refl _)]) (by have := hB.1; omega)
  rw [e2]
  simp only [Option.bind_some, fX2_read_3_8_14_E63]
  generalize VTd tp pl bl bn W = vt at hv r1 ⊢
  obtain ⟨⟨a3, g3⟩, e3, t1, t2, t3⟩ := lpS_for (step := fun t => fX2_read_3_8_14_L66 t.1 t.2) (t0 := ((0 : Int32), g2)) (Q := fun t => (∀ a b, a < 8 → b < 8 → rd t.2 19 (8 * a + b) = nI (nmD tp lk vt a b)) ∧ (∀ a, a < 8 → rd t.2 20 a = nI (PYd tp lk vt a 8)) ∧ same [19, 20] t.2 g2) 8
    (fun j t => t.1 = nI j ∧ (∀ a b, a < j → b < 8 → rd t.2 19 (8 * a + b) = nI (nmD tp lk vt a b)) ∧ (∀ a, a < j → rd t.2 20 a = nI (PYd tp lk vt a 8)) ∧ same [19, 20] t.2 g2)
    ⟨rfl, fun a b ha => by omega, fun a ha => by omega, same.rf⟩
    (by
      rintro j ⟨a, g⟩ hj ⟨rfl, h1, h2, h3⟩
      obtain ⟨⟨c1, g5⟩, e5, v1, v2, v3⟩ := lpS_for (step := fun t => fX2_read_3_8_14_L84 (nI j) t.1 t.2) (t0 := ((0 : Int32), wr g 20 j (0 : Int32))) (Q := fun t => (∀ a b, a < j + 1 → b < 8 → rd t.2 19 (8 * a + b) = nI (nmD tp lk vt a b)) ∧ (∀ a, a < j + 1 → rd t.2 20 a = nI (PYd tp lk vt a 8)) ∧ same [19, 20] t.2 g2) 8
        (fun i t => t.1 = nI i ∧ ((∀ a b, a < j → b < 8 → rd t.2 19 (8 * a + b) = nI (nmD tp lk vt a b)) ∧ (∀ b, b < i → rd t.2 19 (8 * j + b) = nI (nmD tp lk vt j b))) ∧ ((∀ a, a < j → rd t.2 20 a = nI (PYd tp lk vt a 8)) ∧ rd t.2 20 j = nI (PYd tp lk vt j i)) ∧ same [19, 20] t.2 g2)
        ⟨rfl, ⟨fun a b ha hb => by rw [rd_wr, if_neg (by simp)]; exact h1 a b ha hb, fun b hb => by omega⟩, ⟨fun a ha => by rw [rd_wr, if_neg (by omega)]; exact h2 a ha, by rw [rd_wr_s]; rfl⟩, h3.wr (by simp)⟩
        (by
          rintro i ⟨c, g6⟩ hi ⟨rfl, ⟨k1, k1b⟩, ⟨k2, k2b⟩, k3⟩
          dsimp only at k1 k1b k2 k2b k3
          have e9 : rd g6 9 j = nI (lk j) := ((k3 9 (by simp) j).trans (r2 9 (by simp) j)).trans (h9 j hj)
          have hlj := hl j
          have e14 : rd g6 14 3 = nI tp := ((k3 14 (by simp) 3).trans (r2 14 (by simp) 3)).trans ht
          have hnm := c_nameOf htp hj hi hv (k3.arr (by simp) r1)
          have hres : fX2_read_3_8_14_L84 (nI j) (nI i) g6 = fX2_read_3_8_14_L84_J122 (nI j) (nI i) (nI (nmD tp lk vt j i)) g6 := by
            simp only [fX2_read_3_8_14_L84]
            rw [if_neg (by rw [show (8 : Int32) = nI 8 from rfl, nI_leI (by decide) (by omega)]; omega)]
            simp (disch := omega) only [inb_nI, gd_t, nI_clamp, e9, has0, e14, hnm, Option.bind_some, b2i_0]
            unfold nmD
            cases (lk j).testBit i <;> rfl
          have hJ : ∃ g', fX2_read_3_8_14_L84_J122 (nI j) (nI i) (nI (nmD tp lk vt j i)) g6 = some (.inr (nI i + 1, wr (wr g6 19 (8 * j + i) (nI (nmD tp lk vt j i))) 20 j (nI (PYd tp lk vt j (i + 1))))) ∧ g' = g6 := by
            refine ⟨g6, ?_, rfl⟩
            have hle : nmD tp lk vt j i ≤ 4 := nmD_le
            unfold fX2_read_3_8_14_L84_J122 fX2_read_3_8_14_L84_J161
            simp (disch := omega) only [l8, show (2 : Int32) = nI 2 from rfl, nI_mul, nI_add, inb_nI, gd_t, nI_clamp, lt_d, nI_eq, nI_pow]
            have e20 : rd (wr g6 19 (j * 8 + i) (nI (nmD tp lk vt j i))) 20 j = nI (PYd tp lk vt j i) := by rw [rd_wr, if_neg (by simp)]; exact k2b
            rw [e20, Nat.mul_comm j 8]
            by_cases c : nmD tp lk vt j i = 2
            · rw [if_pos c, fa_or]
              show _ = some (Sum.inr (nI i + 1, wr _ 20 j (nI (PYd tp lk vt j i ||| (if nmD tp lk vt j i = 2 then 2 ^ i else 0)))))
              rw [if_pos c]
            · rw [if_neg c, l0, fa_or]
              show _ = some (Sum.inr (nI i + 1, wr _ 20 j (nI (PYd tp lk vt j i ||| (if nmD tp lk vt j i = 2 then 2 ^ i else 0)))))
              rw [if_neg c]
          obtain ⟨-, hJ, -⟩ := hJ
          refine ⟨_, hres.trans hJ, nI_1 i, ⟨fun a b ha hb => ?_, fun b hb => ?_⟩, ⟨fun a ha => ?_, rd_wr_s⟩, (k3.wr (by simp)).wr (by simp)⟩
          · rw [rd_wr, if_neg (by simp), rd_wr, if_neg (by omega)]; exact k1 a b ha hb
          · rw [rd_wr, if_neg (by simp), rd_wr]
            split
            · rename_i z
              have : b = i := by omega
              rw [this]
            · rename_i z
              exact k1b b (by have : b ≠ i := fun y => z ⟨rfl, by rw [y]⟩; omega)
          · rw [rd_wr, if_neg (by omega), rd_wr, if_neg (by simp)]; exact k2 a ha)
        (by
          rintro ⟨c, g6⟩ ⟨rfl, ⟨k1, k1b⟩, ⟨k2, k2b⟩, k3⟩
          refine ⟨(nI 8, g6), ?_, fun a b ha hb => ?_, fun a ha => ?_, k3⟩
          · simp only [fX2_read_3_8_14_L84]
            rw [if_pos (by decide)]
          · rcases Nat.lt_or_ge a j with h | h
            · exact k1 a b h hb
            · have : a = j := by omega
              subst this; exact k1b b hb
          · rcases Nat.lt_or_ge a j with h | h
            · exact k2 a h
            · have : a = j := by omega
              subst this; exact k2b) (by decide)
      refine ⟨(nI j + 1, g5), ?_, nI_1 j, v1, v2, v3⟩
      simp only [fX2_read_3_8_14_L66]
      rw [if_neg (by rw [show (8 : Int32) = nI 8 from rfl, nI_leI (by decide) (by omega)]; omega)]
      simp (disch := omega) only [inb_nI, gd_t, lt_d, nI_clamp]
      rw [e5]
      rfl)
    (by
      rintro ⟨a, g⟩ ⟨rfl, h1, h2, h3⟩
      refine ⟨(nI 8, g), ?_, h1, h2, h3⟩
      simp only [fX2_read_3_8_14_L66]
      rw [if_pos (by decide)]) (by decide)
  rw [e3]
  exact ⟨g3, rfl, t3.arr (by simp) r1, t1, t2, t3.tr r2 (by simp) (by simp)⟩
theorem rem8 {k : Nat} (hk : k < 64) : nI k / (8 : Int32) = nI (k / 8) ∧ nI k - nI k / (8 : Int32) * (8 : Int32) = nI (k % 8) := by
  have : ∀ k, k < 64 → nI k / (8 : Int32) = nI (k / 8) ∧ nI k - nI k / (8 : Int32) * (8 : Int32) = nI (k % 8) := by decide +kernel
  exact this k hk
set_option maxHeartbeats 1000000 in
theorem m_names {tp : Nat} {lk vt : Nat → Nat} {sg : Sg} (htp : tp < 256) (hl : ∀ k, lk k < 256) (hv : ∀ k, vt k ≤ 1000) (h7 : arr sg 7 8 lk) (h11 : arr sg 11 64 vt) (ht : rd sg 0 17 = nI tp) :
    ∃ t, lpS (fun t => fX8_lay_L31 t.1 t.2) 300 ((0 : Int32), sg) = some t ∧ (∀ a b, a < 8 → b < 8 → rd t.2 13 (8 * a + b) = nI (nmD tp lk vt a b)) ∧ sam [13] [] t.2 sg := by
  refine lpS_for (step := fun t => fX8_lay_L31 t.1 t.2) (t0 := ((0 : Int32), sg)) 64
    (fun j t => t.1 = nI j ∧ (∀ k, k < j → rd t.2 13 k = nI (nmD tp lk vt (k / 8) (k % 8))) ∧ sam [13] [] t.2 sg)
    ⟨rfl, fun k hk => by omega, sam.rf⟩
    (by
      rintro j ⟨a, g⟩ hj ⟨rfl, h1, h2⟩
      refine ⟨(nI j + 1, wr g 13 j (nI (nmD tp lk vt (j / 8) (j % 8)))), ?_, nI_1 j, fun k hk => ?_, h2.wr (by simp)⟩
      · simp only [fX8_lay_L31]
        rw [if_neg (by rw [show (64 : Int32) = nI 64 from rfl, nI_leI (by decide) (by omega)]; omega), (rem8 hj).2, (rem8 hj).1, m_nameBy htp (by omega) (by omega) hl hv (h2.arr (by simp) (by simp) h7) (h2.arr (by simp) (by simp) h11) ((h2 0 17 (by simp) (by simp)).trans ht)]
        simp (disch := omega) only [Option.bind_some, inb_nI, gd_t, lt_d, nI_clamp]
      · rw [rd_wr]
        split
        · rename_i z; rw [z.2]
        · rename_i z; exact h1 k (by have : k ≠ j := fun y => z ⟨rfl, y⟩; omega))
    (by
      rintro ⟨a, g⟩ ⟨rfl, h1, h2⟩
      refine ⟨(nI 64, g), ?_, fun a b ha hb => ?_, h2⟩
      · simp only [fX8_lay_L31]
        rw [if_pos (by decide)]
      · have := h1 (8 * a + b) (by omega)
        rw [show (8 * a + b) / 8 = a by omega, show (8 * a + b) % 8 = b by omega] at this
        exact this) (by decide)
