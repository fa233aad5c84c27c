/-! the first valley of a row -/
def vdr (nm : Nat → Nat → Nat) (r : Nat → Nat) : Nat → Nat
  | 0 => 0
  | i + 1 => aftN (vdr nm r i) (nm (r i) (r (i + 1)))
def vlN (nm : Nat → Nat → Nat) (r : Nat → Nat) (n : Nat) : Nat := fa_first (fun i => decide (2 ≤ vdr nm r (i + 1))) (n - 1)
def vlI (nm : Nat → Nat → Nat) (r : Nat → Nat) (n : Nat) : Int32 := if vlN nm r n < n - 1 then nI (vlN nm r n) else -1
theorem vl_at {nm : Nat → Nat → Nat} {r : Nat → Nat} {n j : Nat} (hj : j < n - 1) (h1 : ¬ vdr nm r (j + 1) < 2) (h2 : ∀ i, i ≤ j → vdr nm r i < 2) : vlI nm r n = nI j := by
  have : vlN nm r n = j := ff_eq (p := fun i => decide (2 ≤ vdr nm r (i + 1))) hj (by rw [decide_eq_true_eq]; omega) (fun i hi => by
    have := h2 (i + 1) (by omega)
    rw [decide_eq_false_iff_not]; omega)
  unfold vlI
  rw [this, if_pos hj]
theorem vl_no {nm : Nat → Nat → Nat} {r : Nat → Nat} {n : Nat} (h2 : ∀ i, i ≤ n - 1 → vdr nm r i < 2) : vlI nm r n = -1 := by
  unfold vlI
  rw [if_neg]
  intro z
  have h := fa_first_yes (fun i => decide (2 ≤ vdr nm r (i + 1))) (n - 1) z
  rw [decide_eq_true_eq] at h
  have := h2 (vlN nm r n + 1) (by omega)
  unfold vlN at this
  omega
section VL
variable {nm : Nat → Nat → Nat} {r : Nat → Nat} {n : Nat} {sg : Sg}
theorem c_valley6 {w : Nat} (hw : w < 12) (hn : n ≤ 6) (hm : ∀ a b, nm a b ≤ 4) (hr : ∀ i, i < n → r i < 8) (hc : ∀ i, i < n → rd sg 6 (w * 6 + i) = nI (r i)) (h19 : namC sg nm) : fX2_firstValley_6 (nI (w * 6)) (nI n) sg = some (vlI nm r n) := by
  obtain ⟨u, e1, e2⟩ := lpO_for (step := fun t => fX2_firstValley_6_L6 (nI (w * 6)) (nI n) sg t.1 t.2) (t0 := ((0 : Int32), (0 : Int32))) (Q := fun u => onE u (fun t => fX2_firstValley_6_E63 (nI (w * 6)) (nI n) t.1 t.2 sg) (fun r => some r) = some (vlI nm r n)) (n - 1)
    (fun j t => t = (nI (vdr nm r j), nI j) ∧ ∀ i, i ≤ j → vdr nm r i < 2) ⟨rfl, fun i hi => by
      have : i = 0 := by omega
      subst this; exact (by decide : 0 < 2)⟩
    (by
      rintro j t hj ⟨rfl, hd⟩
      have r1 := hr j (by omega)
      have r2 := hr (j + 1) (by omega)
      have hst : fX2_firstValley_6_L6 (nI (w * 6)) (nI n) sg (nI (vdr nm r j)) (nI j) = if aftI (vdr nm r j) (nm (r j) (r (j + 1))) = -1 then some (.inr (.inl (nI j))) else some (.inr (.inr (aftI (vdr nm r j) (nm (r j) (r (j + 1))), nI j + 1))) := by
        simp only [fX2_firstValley_6_L6]
        rw [l1, l8, nI_add, if_neg (by rw [nI_leI (by omega) (by omega)]; omega)]
        simp (disch := omega) only [nI_add, inb_nI, gd_t, nI_clamp, lt_d]
        rw [hc j (by omega), show w * 6 + j + 1 = w * 6 + (j + 1) by omega, hc (j + 1) (by omega)]
        simp (disch := omega) only [nI_mul, nI_add, inb_nI, gd_t, nI_clamp]
        rw [Nat.mul_comm (r j) 8, h19 _ _ r1 r2, c_after (hd j (Nat.le_refl j)) (hm _ _), Option.bind_some]
      by_cases c : aftN (vdr nm r j) (nm (r j) (r (j + 1))) < 2
      · left
        refine ⟨(nI (vdr nm r (j + 1)), nI (j + 1)), ?_, rfl, fun i hi => ?_⟩
        · dsimp only
          rw [hst, aftI_p c, if_neg (nI_ne_m1 (by omega)), nI_1]
          rfl
        · rcases Nat.lt_or_ge j i with z | z
          · have : i = j + 1 := by omega
            subst this; exact c
          · exact hd i z
      · right
        refine ⟨nI j, ?_, ?_⟩
        · dsimp only
          rw [hst, aftI_n c, if_pos rfl]
        · show some (nI j) = _
          rw [vl_at hj c hd])
    (by
      rintro t ⟨rfl, hd⟩
      refine ⟨(nI (vdr nm r (n - 1)), nI (n - 1)), ?_, ?_⟩
      · simp only [fX2_firstValley_6_L6]
        rw [l1, nI_add, if_pos (by rw [nI_leI (by omega) (by omega)]; omega)]
      · show some (-1 : Int32) = _
        rw [vl_no hd]) (by omega)
  unfold fX2_firstValley_6
  rw [e1, Option.bind_some, e2]
theorem c_valley2 (hn : n ≤ 6) (hm : ∀ a b, nm a b ≤ 4) (hr : ∀ i, i < n → r i < 8) (hc : ∀ i, i < n → rd sg 2 i = nI (r i)) (h19 : namC sg nm) : fX2_firstValley_2 (0 : Int32) (nI n) sg = some (vlI nm r n) := by
  obtain ⟨u, e1, e2⟩ := lpO_for (step := fun t => fX2_firstValley_2_L6 (0 : Int32) (nI n) sg t.1 t.2) (t0 := ((0 : Int32), (0 : Int32))) (Q := fun u => onE u (fun t => fX2_firstValley_2_E63 (0 : Int32) (nI n) t.1 t.2 sg) (fun r => some r) = some (vlI nm r n)) (n - 1)
    (fun j t => t = (nI (vdr nm r j), nI j) ∧ ∀ i, i ≤ j → vdr nm r i < 2) ⟨rfl, fun i hi => by
      have : i = 0 := by omega
      subst this; exact (by decide : 0 < 2)⟩
    (by
      rintro j t hj ⟨rfl, hd⟩
      have r1 := hr j (by omega)
      have r2 := hr (j + 1) (by omega)
      have hst : fX2_firstValley_2_L6 (0 : Int32) (nI n) sg (nI (vdr nm r j)) (nI j) = if aftI (vdr nm r j) (nm (r j) (r (j + 1))) = -1 then some (.inr (.inl (nI j))) else some (.inr (.inr (aftI (vdr nm r j) (nm (r j) (r (j + 1))), nI j + 1))) := by
        simp only [fX2_firstValley_2_L6]
        rw [l1, l8, l0, nI_add, if_neg (by rw [nI_leI (by omega) (by omega)]; omega)]
        simp (disch := omega) only [nI_add, inb_nI, gd_t, nI_clamp, lt_d]
        rw [Nat.zero_add, hc j (by omega), hc (j + 1) (by omega)]
        simp (disch := omega) only [nI_mul, nI_add, inb_nI, gd_t, nI_clamp]
        rw [Nat.mul_comm (r j) 8, h19 _ _ r1 r2, c_after (hd j (Nat.le_refl j)) (hm _ _), Option.bind_some]
      by_cases c : aftN (vdr nm r j) (nm (r j) (r (j + 1))) < 2
      · left
        refine ⟨(nI (vdr nm r (j + 1)), nI (j + 1)), ?_, rfl, fun i hi => ?_⟩
        · dsimp only
          rw [hst, aftI_p c, if_neg (nI_ne_m1 (by omega)), nI_1]
          rfl
        · rcases Nat.lt_or_ge j i with z | z
          · have : i = j + 1 := by omega
            subst this; exact c
          · exact hd i z
      · right
        refine ⟨nI j, ?_, ?_⟩
        · dsimp only
          rw [hst, aftI_n c, if_pos rfl]
        · show some (nI j) = _
          rw [vl_at hj c hd])
    (by
      rintro t ⟨rfl, hd⟩
      refine ⟨(nI (vdr nm r (n - 1)), nI (n - 1)), ?_, ?_⟩
      · simp only [fX2_firstValley_2_L6]
        rw [l1, nI_add, if_pos (by rw [nI_leI (by omega) (by omega)]; omega)]
      · show some (-1 : Int32) = _
        rw [vl_no hd]) (by omega)
  unfold fX2_firstValley_2
  rw [e1, Option.bind_some, e2]
theorem v_step {d v : Nat} {a2 : Int32} (hd : d < 2) (hv : v ≤ 4) : (if nI v = 0 then fX8_valleyOf_L4_J54 a2 sg else (if nI d = 0 then fX8_valleyOf_L4_J58 (nI d) a2 (nI v) sg else (if nI v = (1 : Int32) then fX8_valleyOf_L4_J54 a2 sg else (if nI v = (3 : Int32) then fX8_valleyOf_L4_J54 a2 sg else fX8_valleyOf_L4_J58 (nI d) a2 (nI v) sg)))) = if aftN d v < 2 then some (.inr (.inr (nI (aftN d v), a2 + 1))) else some (.inr (.inl (a2 - (1 : Int32)))) := by
  rcases (show d = 0 ∨ d = 1 by omega) with rfl | rfl <;> rcases (show v = 0 ∨ v = 1 ∨ v = 2 ∨ v = 3 ∨ v = 4 by omega) with rfl | rfl | rfl | rfl | rfl <;> rfl
theorem m_valley (hn : n ≤ 6) (hm : ∀ a b, nm a b ≤ 4) (hr : ∀ i, i < n → r i < 8) (h22 : rd sg 0 22 = nI n) (hc : ∀ i, i < n → rd sg 14 i = nI (r i)) (h13 : ∀ a b, a < 8 → b < 8 → rd sg 13 (8 * a + b) = nI (nm a b)) : fX8_valleyOf sg = some (vlI nm r n) := by
  obtain ⟨u, e1, e2⟩ := lpO_for (step := fun t => fX8_valleyOf_L4 sg t.1 t.2) (t0 := ((0 : Int32), (1 : Int32))) (Q := fun u => onE u (fun t => fX8_valleyOf_E84 t.1 t.2 sg) (fun r => some r) = some (vlI nm r n)) (n - 1)
    (fun j t => t = (nI (vdr nm r j), nI (j + 1)) ∧ ∀ i, i ≤ j → vdr nm r i < 2) ⟨rfl, fun i hi => by
      have : i = 0 := by omega
      subst this; exact (by decide : 0 < 2)⟩
    (by
      rintro j t hj ⟨rfl, hd⟩
      have r1 := hr j (by omega)
      have r2 := hr (j + 1) (by omega)
      have hst : fX8_valleyOf_L4 sg (nI (vdr nm r j)) (nI (j + 1)) = if aftN (vdr nm r j) (nm (r j) (r (j + 1))) < 2 then some (.inr (.inr (nI (aftN (vdr nm r j) (nm (r j) (r (j + 1)))), nI (j + 1) + 1))) else some (.inr (.inl (nI (j + 1) - (1 : Int32)))) := by
        rw [← v_step (hd j (Nat.le_refl j)) (hm _ _)]
        simp only [fX8_valleyOf_L4]
        rw [h22, if_neg (by rw [nI_leI (by omega) (by omega)]; omega), l1, l8, nI_sub (by omega), Nat.add_sub_cancel]
        simp (disch := omega) only [inb_nI, gd_t, nI_clamp, lt_d]
        rw [hc j (by omega), hc (j + 1) (by omega)]
        simp (disch := omega) only [nI_mul, nI_add, inb_nI, gd_t, nI_clamp]
        rw [h13 _ _ r1 r2]
      by_cases c : aftN (vdr nm r j) (nm (r j) (r (j + 1))) < 2
      · left
        refine ⟨(nI (vdr nm r (j + 1)), nI (j + 1 + 1)), ?_, rfl, fun i hi => ?_⟩
        · dsimp only
          rw [hst, if_pos c, nI_1]
          rfl
        · rcases Nat.lt_or_ge j i with z | z
          · have : i = j + 1 := by omega
            subst this; exact c
          · exact hd i z
      · right
        refine ⟨nI j, ?_, ?_⟩
        · dsimp only
          rw [hst, if_neg c, l1, nI_sub (by omega), Nat.add_sub_cancel]
        · show some (nI j) = _
          rw [vl_at hj c hd])
    (by
      rintro t ⟨rfl, hd⟩
      refine ⟨(nI (vdr nm r (n - 1)), nI (n - 1 + 1)), ?_, ?_⟩
      · simp only [fX8_valleyOf_L4]
        rw [h22, if_pos (by rw [nI_leI (by omega) (by omega)]; omega)]
      · show some (-1 : Int32) = _
        rw [vl_no hd]) (by omega)
  unfold fX8_valleyOf
  rw [e1, Option.bind_some, e2]
theorem m_wayValley {w : Nat} (hw : w < 12) (hn : n ≤ 6) (hm : ∀ a b, nm a b ≤ 4) (hr : ∀ i, i < n → r i < 8) (h6 : rd sg 6 w = nI n) (hc : ∀ i, i < n → rd sg 5 (8 * w + i) = nI (r i)) (h13 : ∀ a b, a < 8 → b < 8 → rd sg 13 (8 * a + b) = nI (nm a b)) : ∃ g, fX8_valleyOfWay (nI w) sg = some (vlI nm r n, g) ∧ sam [14] [22] g sg ∧ g.2 = sg.2 := by
  obtain ⟨⟨x, g⟩, e1, p1, p2, p3⟩ := lpS_for (step := fun t => fX8_valleyOfWay_L12 (nI w) t.1 t.2) (t0 := ((0 : Int32), wr sg 0 22 (nI n))) (Q := fun t => (∀ i, i < n → rd t.2 14 i = nI (r i)) ∧ sam [14] [] t.2 (wr sg 0 22 (nI n)) ∧ t.2.2 = sg.2) n
    (fun j t => t.1 = nI j ∧ (∀ i, i < j → rd t.2 14 i = nI (r i)) ∧ sam [14] [] t.2 (wr sg 0 22 (nI n)) ∧ t.2.2 = sg.2) ⟨rfl, fun i hi => by omega, sam.rf, rfl⟩
    (by
      rintro j ⟨x, u⟩ hj ⟨rfl, q1, q2, q3⟩
      refine ⟨(nI (j + 1), wr u 14 j (nI (r j))), ?_, rfl, fun i hi => ?_, q2.wr (by simp), q3⟩
      · simp only [fX8_valleyOfWay_L12]
        rw [q2 0 22 (by simp) (by simp), rd_wr_s, if_neg (by rw [nI_leI (by omega) (by omega)]; omega)]
        simp (disch := omega) only [l8, nI_mul, nI_add, inb_nI, gd_t, nI_clamp, lt_d]
        rw [q2 5 _ (by simp) (by simp), rd_wr, if_neg (by simp), hc j hj, nI_1]
      · rw [rd_wr]
        by_cases z : i = j
        · subst z; rw [if_pos ⟨rfl, rfl⟩]
        · rw [if_neg (fun y => z y.2)]; exact q1 i (by omega))
    (by
      rintro ⟨x, u⟩ ⟨rfl, q1, q2, q3⟩
      refine ⟨(nI n, u), ?_, q1, q2, q3⟩
      simp only [fX8_valleyOfWay_L12]
      rw [q2 0 22 (by simp) (by simp), rd_wr_s, if_pos (by rw [nI_leI (by omega) (by omega)]; omega)]) (by omega)
  have s1 : sam [14] [22] g sg := p2.tr (sam.rf.wr (l := []) (sl := [22]) (by simp)) (by simp) (by simp) (by simp) (by simp)
  refine ⟨g, ?_, s1, p3⟩
  unfold fX8_valleyOfWay
  simp (disch := omega) only [inb_nI, gd_t, nI_clamp, lt_d]
  rw [h6, e1, Option.bind_some]
  unfold fX8_valleyOfWay_E43
  rw [m_valley hn hm hr ((p2 0 22 (by simp) (by simp)).trans rd_wr_s) p1 (fun a b ha hb => (s1 13 _ (by simp) (by simp)).trans (h13 a b ha hb)), Option.bind_some]
end VL
section QV
variable {n W ex : Nat} {len : Nat → Nat} {net : Nat → Nat → Nat} {p t : Nat → Nat} {c m : Sg}
theorem c_wayHas (hW : rd c 3 4 = nI W) (hw12 : W ≤ 12) (a : Int32) : fX6_has a c = some (b2i (!(decide (a < 0)) && !(decide (nI W ≤ a)))) := by
  unfold fX6_has fX6_has_J16 fX6_has_J17
  rw [hW]
  by_cases h1 : a < 0
  · rw [if_pos h1]; simp [h1, b2i, zb, gd]
  · rw [if_neg h1]
    by_cases h2 : nI W ≤ a
    · rw [if_pos h2]; simp [h1, h2, b2i, zb, gd]
    · rw [if_neg h2]; simp [h1, h2, b2i, zb, gd]
theorem sV (h : LD n W ex len net p t c m) {w : Nat} (hw : w < W) : fX2_firstValley_6 (nI (w * 6)) (nI (BLd ex len net w)) c = some (vlI (sNM W ex len net) (BNd ex len net w) (BLd ex len net w)) := by
  have hO := h.1.2.1.1
  have hB := (okB_of (ex := ex) hO).2 w hw
  have hW := hO.1
  exact c_valley6 (by omega) hB.1 s_nm hB.2.1 (h.1.2.2.2.1 w hw).2 h.1.2.2.2.2.2.2.2.2.2.2.2.2.2.2.1
theorem mV (h : LD n W ex len net p t c m) {w : Nat} (hw : w < W) : ∃ g, fX8_valleyOfWay (nI w) m = some (vlI (sNM W ex len net) (BNd ex len net w) (BLd ex len net w), g) ∧ sam [14] [22] g m ∧ g.2 = m.2 := by
  have hO := h.1.2.1.1
  have hB := (okB_of (ex := ex) hO).2 w hw
  have hW := hO.1
  exact m_wayValley (by omega) hB.1 s_nm hB.2.1 (h.2.2.1 w hw).1 (h.2.2.1 w hw).2 h.2.2.2.2.2.2.2.2.2.2.2.2
theorem q_seen (h : LD n W ex len net p t c m) {w k : Nat} (hw : w < W) (hk : k < 3 ∨ (10 ≤ k ∧ k < 16)) : qe (fX7_seen (nI w) (nI k) c) (fX8_seenNow (nI w) (nI k)) m := by
  have hO := h.1.2.1.1
  have hW12 := hO.1
  have hWc := h.1.2.1.2.1.1
  have hB := (okB_of (ex := ex) hO).2 w hw
  obtain ⟨d1, d2, d3, d4, d5, d6, d7, d8, d9, d10, d11, d12, d13, d14⟩ := h.1.2.2.2
  obtain ⟨x1, x2, x3, x4, x5, x6, x7, x8, x9, x10, x11⟩ := h.2.2
  have hh : (!(decide (nI w < 0)) && !(decide (nI W ≤ nI w))) = true := by
    have z1 : ¬ nI w < 0 := nI_pos (by omega)
    have z2 : ¬ nI W ≤ nI w := by rw [nI_leI (by omega) (by omega)]; omega
    simp [z1, z2]
  have f1 : fX3_firstOf_6 (nI (w * 6)) (nI (BLd ex len net w)) c = some (hillI (fun i => sPL W ex len net (BNd ex len net w i)) (BLd ex len net w)) := c_firstOf (r := BNd ex len net w) (by omega) hB.1 hB.2.1 (fun i _ => s_pl _) (d1 w hw).2 (fun i hi => by rw [d9 _ (hB.2.1 i hi)]; exact s_plI (s_bn hO w i hw hi))
  have f2 : fX8_hillOf (nI w) m = some (hillI (fun i => sPL W ex len net (BNd ex len net w i)) (BLd ex len net w)) := m_hillOf (r := BNd ex len net w) (by omega) hB.1 hB.2.1 (fun i _ => s_pl _) (x1 w hw).1 (x1 w hw).2 (fun i hi => by rw [x8 _ (hB.2.1 i hi)]; exact s_plI (s_bn hO w i hw hi))
  obtain ⟨g, v1, v2, v3⟩ := mV h hw
  have v2' : sam [14, 15] [22] g m := fun q i hq hi => v2 q i (fun z => hq (by simp at z; simp [z])) hi
  unfold qe fX7_seen fX8_seenNow fX8_seenNow_J73 fX8_seenNow_J41 fX7_seen_J117 fX7_seen_J144
  rw [c_wayHas hWc hW12, hh, ld_lay h]
  simp (disch := omega) only [Option.bind_some, inb_nI, gd_t, nI_clamp, lt_d]
  rw [if_neg (by decide : ¬ b2i true = 0), (d1 w hw).1, (x1 w hw).1, show nI w * (6 : Int32) = nI (w * 6) from nI_mul w 6, f1, f2, sV h hw, v1]
  rcases hk with hk | ⟨hk1, hk2⟩
  · rcases (show k = 0 ∨ k = 1 ∨ k = 2 by omega) with rfl | rfl | rfl
    · exact ⟨_, m, rfl, rfl, sam.rf, rfl⟩
    · exact ⟨_, m, rfl, rfl, sam.rf, rfl⟩
    · exact ⟨_, g, rfl, rfl, v2', v3⟩
  · have hb1 := hB.1
    have e0 : ¬ nI k = 0 := fun z => by have := (nI_eq (b := 0) (by omega) (by decide)).mp z; omega
    have e1 : ¬ nI k = 1 := fun z => by have := (nI_eq (b := 1) (by omega) (by decide)).mp z; omega
    have e2 : ¬ nI k = 2 := fun z => by have := (nI_eq (b := 2) (by omega) (by decide)).mp z; omega
    have e3 : ¬ nI k < 10 := fun z => by have := (nI_ltI (b := 10) (by omega) (by decide)).mp z; omega
    have e4 : ¬ nI k ≤ 9 := fun z => by have := (nI_leI (b := 9) (by omega) (by decide)).mp z; omega
    have e5 : nI k - (10 : Int32) = nI (k - 10) := nI_sub (b := 10) hk1
    have e6 : nI (k - 10) < 6 := (nI_ltI (b := 6) (by omega) (by decide)).mpr (by omega)
    rw [if_neg e0, if_neg e1, if_neg e2, if_neg e3, e5, if_pos e6, if_neg e4, l8, nI_mul, nI_add, nI_add, show nI (8 * w + k) - (10 : Int32) = nI (8 * w + k - 10) from nI_sub (b := 10) (by omega)]
    by_cases z : BLd ex len net w ≤ k - 10
    · rw [if_pos ((nI_leI (by omega) (by omega)).mpr z), if_pos ((nI_leI (by omega) (by omega)).mpr z)]
      exact ⟨_, m, rfl, rfl, sam.rf, rfl⟩
    · rw [if_neg (fun y => z ((nI_leI (by omega) (by omega)).mp y)), if_neg (fun y => z ((nI_leI (by omega) (by omega)).mp y))]
      simp (disch := omega) only [inb_nI, gd_t, nI_clamp]
      rw [(d1 w hw).2 _ (by omega), show 8 * w + k - 10 = 8 * w + (k - 10) by omega, (x1 w hw).2 _ (by omega)]
      exact ⟨_, m, rfl, rfl, sam.rf, rfl⟩
end QV
