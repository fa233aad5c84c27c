/-! drop -/
def shL (len : Nat → Nat) (d e : Nat) : Nat → Nat := fun w => if d ≤ w ∧ w < e then len (w + 1) else len w
def shN (net : Nat → Nat → Nat) (d e : Nat) : Nat → Nat → Nat := fun w k => if d ≤ w ∧ w < e then net (w + 1) k else net w k
theorem okW_sh {W d : Nat} {len : Nat → Nat} {net : Nat → Nat → Nat} (h : okW W len net) (hd : d < W) : okW (W - 1) (shL len d (W - 1)) (shN net d (W - 1)) := by
  refine ⟨by have := h.1; omega, fun w hw => ?_⟩
  unfold shL shN
  by_cases z : d ≤ w ∧ w < W - 1
  · simp only [z, and_self, if_true]
    exact h.2 (w + 1) (by omega)
  · simp only [z, if_false]
    exact h.2 w (by omega)
theorem shL_e {len : Nat → Nat} {d : Nat} : shL len d d = len := by
  funext w; unfold shL; rw [if_neg (by omega)]
theorem shN_e {net : Nat → Nat → Nat} {d : Nat} : shN net d d = net := by
  funext w k; unfold shN; rw [if_neg (by omega)]
set_option maxHeartbeats 1000000 in
theorem c_remRow {W x : Nat} {len : Nat → Nat} {net : Nat → Nat → Nat} {u : Sg} (hO : okW W len net) (hw : wayC u W len net) (hx : x + 1 < W) : ∃ t, lpS (fun t => fX6_remove_L23 (nI (x + 1)) t.1 t.2) 300 ((0 : Int32), u) = some t ∧ (∀ k, k < len (x + 1) → rd t.2 4 (x * 6 + k) = nI (net (x + 1) k)) ∧ (∀ i, i < x * 6 ∨ x * 6 + 6 ≤ i → rd t.2 4 i = rd u 4 i) ∧ same [4] t.2 u := by
  have hok := hO.2 (x + 1) hx
  have hW12 := hO.1
  have hwx := hw.2 (x + 1) hx
  refine lpS_for (step := fun t => fX6_remove_L23 (nI (x + 1)) t.1 t.2) (t0 := ((0 : Int32), u)) (len (x + 1))
    (fun j t => t.1 = nI j ∧ (∀ k, k < j → rd t.2 4 (x * 6 + k) = nI (net (x + 1) k)) ∧ (∀ i, i < x * 6 ∨ x * 6 + 6 ≤ i → rd t.2 4 i = rd u 4 i) ∧ same [4] t.2 u) ⟨rfl, fun k hk => by omega, fun i _ => rfl, same.rf⟩ ?_ ?_ (by omega)
  · rintro j ⟨y, v⟩ hj ⟨rfl, q1, q2, q3⟩
    refine ⟨(nI (j + 1), wr v 4 (x * 6 + j) (nI (net (x + 1) j))), ?_, rfl, fun k hk => ?_, fun i hi => ?_, q3.wr (by simp)⟩
    · simp only [fX6_remove_L23]
      simp (disch := omega) only [inb_nI, gd_t, nI_clamp]
      rw [q3 5 (by simp), hwx.1, if_neg (by rw [nI_leI (by omega) (by omega)]; omega), l1, nI_sub (by omega), Nat.add_sub_cancel, show (6 : Int32) = nI 6 from rfl]
      simp (disch := omega) only [nI_mul, nI_add, inb_nI, gd_t, nI_clamp, lt_d]
      rw [q2 _ (by omega), hwx.2 j hj]
    · rw [rd_wr]
      by_cases z : k = j
      · subst z; rw [if_pos ⟨rfl, rfl⟩]
      · rw [if_neg (fun y => z (by omega))]; exact q1 k (by omega)
    · rw [rd_wr, if_neg (fun y => by omega)]; exact q2 i hi
  · rintro ⟨y, v⟩ ⟨rfl, q1, q2, q3⟩
    refine ⟨(nI (len (x + 1)), v), ?_, q1, q2, q3⟩
    simp only [fX6_remove_L23]
    simp (disch := omega) only [inb_nI, gd_t, nI_clamp]
    rw [q3 5 (by simp), hwx.1, if_pos (by rw [nI_leI (by omega) (by omega)]; omega)]
theorem sh_step {d e w : Nat} {len : Nat → Nat} (hd : d ≤ e) : shL len d (e + 1) w = if w = e then len (e + 1) else shL len d e w := by
  unfold shL
  by_cases z : w = e
  · subst z; rw [if_pos ⟨hd, by omega⟩, if_pos rfl]
  · rw [if_neg z]
    by_cases y : d ≤ w ∧ w < e
    · rw [if_pos y, if_pos ⟨y.1, by omega⟩]
    · rw [if_neg y, if_neg (by omega)]
theorem sn_step {d e w k : Nat} {net : Nat → Nat → Nat} (hd : d ≤ e) : shN net d (e + 1) w k = if w = e then net (e + 1) k else shN net d e w k := by
  unfold shN
  by_cases z : w = e
  · subst z; rw [if_pos ⟨hd, by omega⟩, if_pos rfl]
  · rw [if_neg z]
    by_cases y : d ≤ w ∧ w < e
    · rw [if_pos y, if_pos ⟨y.1, by omega⟩]
    · rw [if_neg y, if_neg (by omega)]
theorem okW_mid {W d e : Nat} {len : Nat → Nat} {net : Nat → Nat → Nat} (h : okW W len net) (he : e + 1 ≤ W) : okW W (shL len d e) (shN net d e) := by
  refine ⟨h.1, fun w hw => ?_⟩
  unfold shL shN
  by_cases z : d ≤ w ∧ w < e
  · simp only [z, and_self, if_true]
    exact h.2 (w + 1) (by omega)
  · simp only [z, if_false]
    exact h.2 w hw
theorem sh_hi {d e w : Nat} {len : Nat → Nat} (h : e ≤ w) : shL len d e w = len w := by unfold shL; rw [if_neg (by omega)]
theorem sn_hi {d e w k : Nat} {net : Nat → Nat → Nat} (h : e ≤ w) : shN net d e w k = net w k := by unfold shN; rw [if_neg (by omega)]
set_option maxHeartbeats 1000000 in
theorem c_remove {W d : Nat} {len : Nat → Nat} {net : Nat → Nat → Nat} {c : Sg} (hO : okW W len net) (hw : wayC c W len net) (hd : d < W) : ∃ g, fX6_remove (nI d) c = some g ∧ wayC g (W - 1) (shL len d (W - 1)) (shN net d (W - 1)) ∧ same [3, 4, 5] g c := by
  have hW12 := hO.1
  obtain ⟨⟨x, g⟩, e1, p1, p2⟩ := lpS_for (step := fun t => fX6_remove_L13 t.1 t.2) (t0 := (nI d + (1 : Int32), c)) (Q := fun t => wayC t.2 W (shL len d (W - 1)) (shN net d (W - 1)) ∧ same [4, 5] t.2 c) (W - 1 - d)
    (fun j t => t.1 = nI (d + j + 1) ∧ wayC t.2 W (shL len d (d + j)) (shN net d (d + j)) ∧ same [4, 5] t.2 c) ⟨nI_1 d, by rw [Nat.add_zero, shL_e, shN_e]; exact hw, same.rf⟩
    (by
      rintro j ⟨y, u⟩ hj ⟨rfl, q1, q2⟩
      have hok := okW_mid (d := d) (e := d + j) hO (by omega)
      obtain ⟨t, f1, f2, f3, f4⟩ := c_remRow (x := d + j) hok q1 (by omega)
      refine ⟨(nI (d + (j + 1) + 1), wr t.2 5 (d + j) (nI (len (d + j + 1)))), ?_, rfl, ⟨?_, fun w hw2 => ?_⟩, ?_⟩
      · simp only [fX6_remove_L13]
        rw [q1.1, if_neg (by rw [nI_leI (by omega) (by omega)]; omega), f1, Option.bind_some]
        simp only [fX6_remove_L13_E63]
        rw [l1, nI_sub (by omega), Nat.add_sub_cancel]
        simp (disch := omega) only [inb_nI, gd_t, nI_clamp, lt_d]
        rw [f4 5 (by simp), (q1.2 (d + j + 1) (by omega)).1, sh_hi (by omega), nI_add]
        rfl
      · rw [rd_wr, if_neg (by simp), f4 3 (by simp)]; exact q1.1
      · rw [show d + (j + 1) = d + j + 1 by omega, sh_step (by omega)]
        by_cases z : w = d + j
        · rw [if_pos z]
          refine ⟨?_, fun k hk => ?_⟩
          · rw [z, rd_wr_s]
          · rw [sn_step (by omega), if_pos z, rd_wr, if_neg (by simp), z, f2 k (by rw [sh_hi (by omega)]; exact hk), sn_hi (by omega)]
        · rw [if_neg z]
          have hq := q1.2 w hw2
          have hk6 := (hok.2 w hw2).2.1
          refine ⟨?_, fun k hk => ?_⟩
          · rw [rd_wr, if_neg (fun y => z y.2), f4 5 (by simp)]; exact hq.1
          · rw [sn_step (by omega), if_neg z, rd_wr, if_neg (by simp), f3 _ (by omega)]; exact hq.2 k hk
      · exact (f4.tr q2 (l3 := [4, 5]) (by simp) (by simp)).wr (by simp))
    (by
      rintro ⟨y, u⟩ ⟨rfl, q1, q2⟩
      rw [show d + (W - 1 - d) = W - 1 by omega] at q1 ⊢
      refine ⟨(nI (W - 1 + 1), u), ?_, q1, q2⟩
      simp only [fX6_remove_L13]
      rw [q1.1, if_pos (by rw [nI_leI (by omega) (by omega)]; omega)]) (by omega)
  refine ⟨wr g 3 4 (nI (W - 1)), ?_, ⟨rd_wr_s, fun w hw2 => ?_⟩, (p2.tr same.rf (l2 := []) (l3 := [3, 4, 5]) (by simp) (by simp)).wr (by simp)⟩
  · unfold fX6_remove
    have hh : (!(decide (nI d < 0)) && !(decide (nI W ≤ nI d))) = true := by
      have z1 : ¬ nI d < 0 := nI_pos (by omega)
      have z2 : ¬ nI W ≤ nI d := by rw [nI_leI (by omega) (by omega)]; omega
      simp [z1, z2]
    rw [c_wayHas hw.1 hW12, hh, Option.bind_some, if_neg (by decide), e1, Option.bind_some]
    unfold fX6_remove_E83
    rw [lt_d, show rd g 3 4 = nI W from p1.1, l1, nI_sub (by omega)]
  · have hq := p1.2 w (by omega)
    refine ⟨?_, fun k hk => ?_⟩
    · rw [rd_wr, if_neg (by simp)]; exact hq.1
    · rw [rd_wr, if_neg (by simp)]; exact hq.2 k hk
set_option maxHeartbeats 1000000 in
theorem m_dropRow {x : Nat} {u : Sg} (hx : x + 1 < 12) : ∃ t, lpS (fun t => fX8_drop_L54 (nI x) t.1 t.2) 300 ((0 : Int32), u) = some t ∧ (∀ k, k < 8 → rd t.2 2 (8 * x + k) = rd u 2 (8 * (x + 1) + k)) ∧ (∀ i, i < 8 * x ∨ 8 * x + 8 ≤ i → rd t.2 2 i = rd u 2 i) ∧ sam [2] [] t.2 u := by
  refine lpS_for (step := fun t => fX8_drop_L54 (nI x) t.1 t.2) (t0 := ((0 : Int32), u)) 8
    (fun j t => t.1 = nI j ∧ (∀ k, k < j → rd t.2 2 (8 * x + k) = rd u 2 (8 * (x + 1) + k)) ∧ (∀ i, i < 8 * x ∨ 8 * x + 8 ≤ i → rd t.2 2 i = rd u 2 i) ∧ sam [2] [] t.2 u) ⟨rfl, fun k hk => by omega, fun i _ => rfl, sam.rf⟩ ?_ ?_ (by decide)
  · rintro j ⟨y, v⟩ hj ⟨rfl, q1, q2, q3⟩
    refine ⟨(nI (j + 1), wr v 2 (8 * x + j) (rd u 2 (8 * (x + 1) + j))), ?_, rfl, fun k hk => ?_, fun i hi => ?_, q3.wr (by simp)⟩
    · simp only [fX8_drop_L54]
      rw [if_neg (by rw [l8, nI_leI (by decide) (by omega)]; omega)]
      simp (disch := omega) only [l8, nI_mul, nI_add, inb_nI, gd_t, nI_clamp, lt_d]
      rw [q2 _ (by omega), show 8 * x + 8 + j = 8 * (x + 1) + j by omega, nI_1]
    · rw [rd_wr]
      by_cases z : k = j
      · subst z; rw [if_pos ⟨rfl, rfl⟩]
      · rw [if_neg (fun y => z (by omega))]; exact q1 k (by omega)
    · rw [rd_wr, if_neg (fun y => by omega)]; exact q2 i hi
  · rintro ⟨y, v⟩ ⟨rfl, q1, q2, q3⟩
    refine ⟨(nI 8, v), ?_, q1, q2, q3⟩
    simp only [fX8_drop_L54]
    rw [if_pos (by decide)]
/-- the rows of the reference, whatever its number of ways says -/
def rowM (sg : Sg) (W : Nat) (len : Nat → Nat) (net : Nat → Nat → Nat) : Prop := ∀ w, w < W → rd sg 3 w = nI (len w) ∧ ∀ k, k < len w → rd sg 2 (8 * w + k) = nI (net w k)
set_option maxHeartbeats 1000000 in
theorem m_drop {W d : Nat} {len : Nat → Nat} {net : Nat → Nat → Nat} {m : Sg} (hO : okW W len net) (hw : wayM m W len net) (hd : d < W) : ∃ g t, lpS (fun t => fX8_drop_L30 t.1 t.2) 300 (nI d, wr m 0 2 (nI (W - 1))) = some t ∧ fX8_drop_E97 t.1 t.2 = some (nI (W - 1), g) ∧ wayM g (W - 1) (shL len d (W - 1)) (shN net d (W - 1)) ∧ sam [2, 3] [2, 8] g m ∧ rd g 0 8 = 0 := by
  have hW12 := hO.1
  have s0 : sam [] [2] (wr m 0 2 (nI (W - 1))) m := sam.rf.wr (by simp)
  obtain ⟨⟨x, g⟩, e1, p0, p1, p2⟩ := lpS_for (step := fun t => fX8_drop_L30 t.1 t.2) (t0 := (nI d, wr m 0 2 (nI (W - 1)))) (Q := fun t => rd t.2 0 2 = nI (W - 1) ∧ rowM t.2 W (shL len d (W - 1)) (shN net d (W - 1)) ∧ sam [2, 3] [2] t.2 m) (W - 1 - d)
    (fun j t => t.1 = nI (d + j) ∧ rd t.2 0 2 = nI (W - 1) ∧ rowM t.2 W (shL len d (d + j)) (shN net d (d + j)) ∧ sam [2, 3] [2] t.2 m) ⟨rfl, rd_wr_s, by
      rw [Nat.add_zero, shL_e, shN_e]
      exact fun w hw2 => ⟨(s0 3 w (by simp) (by simp)).trans (hw.2 w hw2).1, fun k hk => (s0 2 _ (by simp) (by simp)).trans ((hw.2 w hw2).2 k hk)⟩, s0.tr sam.rf (l2 := []) (s2 := []) (by simp) (by simp) (by simp) (by simp)⟩
    (by
      rintro j ⟨y, u⟩ hj ⟨rfl, q0, q1, q2⟩
      have hok := okW_mid (d := d) (e := d + j) hO (by omega)
      obtain ⟨t, f1, f2, f3, f4⟩ := m_dropRow (x := d + j) (u := wr u 3 (d + j) (nI (len (d + j + 1)))) (by omega)
      have s2 : sam [3] [] (wr u 3 (d + j) (nI (len (d + j + 1)))) u := sam.rf.wr (by simp)
      refine ⟨(nI (d + (j + 1)), t.2), ?_, rfl, ?_, fun w hw2 => ?_, ?_⟩
      · simp only [fX8_drop_L30]
        rw [q0, if_neg (by rw [nI_leI (by omega) (by omega)]; omega), l1, nI_add]
        simp (disch := omega) only [inb_nI, gd_t, nI_clamp, lt_d]
        rw [(q1 (d + j + 1) (by omega)).1, sh_hi (by omega), f1, Option.bind_some]
        simp only [fX8_drop_L30_E91]
        rw [nI_1]
        rfl
      · rw [f4 0 2 (by simp) (by simp), s2 0 2 (by simp) (by simp)]; exact q0
      · rw [show d + (j + 1) = d + j + 1 by omega, sh_step (by omega)]
        by_cases z : w = d + j
        · rw [if_pos z]
          have hq := q1 (d + j + 1) (by omega)
          have hk6 := (hok.2 (d + j + 1) (by omega)).2.1
          rw [sh_hi (by omega)] at hq hk6
          refine ⟨?_, fun k hk => ?_⟩
          · rw [z, f4 3 _ (by simp) (by simp), rd_wr_s]
          · rw [sn_step (by omega), if_pos z, z, f2 k (by omega), s2 2 _ (by simp) (by simp), hq.2 k hk, sn_hi (by omega)]
        · rw [if_neg z]
          have hq := q1 w hw2
          have hk6 := (hok.2 w hw2).2.1
          refine ⟨?_, fun k hk => ?_⟩
          · rw [f4 3 _ (by simp) (by simp), rd_wr, if_neg (fun y => z y.2)]; exact hq.1
          · rw [sn_step (by omega), if_neg z, f3 _ (by omega), s2 2 _ (by simp) (by simp)]; exact hq.2 k hk
      · exact f4.tr (s2.tr q2 (l3 := [2, 3]) (s3 := [2]) (by simp) (by simp) (by simp) (by simp)) (by simp) (by simp) (by simp) (by simp))
    (by
      rintro ⟨y, u⟩ ⟨rfl, q0, q1, q2⟩
      rw [show d + (W - 1 - d) = W - 1 by omega] at q1 ⊢
      refine ⟨(nI (W - 1), u), ?_, q0, q1, q2⟩
      simp only [fX8_drop_L30]
      rw [q0, if_pos (by rw [nI_leI (by omega) (by omega)]; omega)]) (by omega)
  have s3 : sam [] [8] (wr g 0 8 0) g := sam.rf.wr (by simp)
  refine ⟨wr g 0 8 0, _, e1, ?_, ⟨?_, fun w hw2 => ⟨(s3 3 w (by simp) (by simp)).trans (p1 w (by omega)).1, fun k hk => (s3 2 _ (by simp) (by simp)).trans ((p1 w (by omega)).2 k hk)⟩⟩, s3.tr p2 (by simp) (by simp) (by simp) (by simp), rd_wr_s⟩
  · unfold fX8_drop_E97
    rw [lt_d, show rd (wr g 0 8 0) 0 2 = nI (W - 1) from (s3 0 2 (by simp) (by simp)).trans p0]
  · exact (s3 0 2 (by simp) (by simp)).trans p0
theorem has_eq {W : Nat} (hW : W ≤ 12) (a : Int32) : (!(decide (a < 0)) && !(decide (nI W - 1 < a))) = (!(decide (a < 0)) && !(decide (nI W ≤ a))) := by
  by_cases h : a < 0
  · simp [h]
  · obtain ⟨j, hj, rfl⟩ := nI_of h
    congr 2
    rw [decide_eq_decide, fa_lt, show (nI W - (1 : Int32)).toInt = (W : Int) - 1 from sub_toInt (y := 1) (by omega) (by omega), nI_toInt hj, nI_leI (by omega) hj]
    omega
theorem hasW_ex {W : Nat} (hW : W ≤ 12) {a : Int32} (h : (!(decide (a < 0)) && !(decide (nI W ≤ a))) = true) : ∃ d, d < W ∧ a = nI d := by
  simp only [Bool.and_eq_true, Bool.not_eq_true', decide_eq_false_iff_not] at h
  obtain ⟨j, hj, rfl⟩ := nI_of h.1
  refine ⟨j, ?_, rfl⟩
  have := h.2
  rw [nI_leI (by omega) hj] at this
  omega
theorem sim_drop (a1 : Int32) {c m : Sg} (h : Rel c m) : ∃ (r : Int32) (c2 : Sg) (m2 : Sg), fX7_drop a1 c = some (r, c2) ∧ fX8_drop a1 m = some (r, m2) ∧ Rel c2 m2 := by
  obtain ⟨n, W, ex, len, net, p, t, hR, hL⟩ := id h
  obtain ⟨⟨p1, p2, p3, p4⟩, ⟨b1, b2, b3, b4, b5, b6⟩, ⟨c1, c2⟩, d⟩ := hR
  have hW12 := b1.1
  have hc := c_wayHas b2.1 hW12 a1
  have hm := m_within a1 0 (nI W - 1)
  rw [has_eq hW12] at hm
  cases hin : (!(decide (a1 < 0)) && !(decide (nI W ≤ a1))) with
  | false =>
    rw [hin] at hc hm
    refine ⟨-1001, c, m, ?_, ?_, h⟩
    · unfold fX7_drop
      rw [hc]; rfl
    · unfold fX8_drop
      rw [b3.1, hm]; rfl
  | true =>
    rw [hin] at hc hm
    obtain ⟨dd, hd, rfl⟩ := hasW_ex hW12 hin
    obtain ⟨g, e1, e2, e3⟩ := c_remove b1 b2 hd
    obtain ⟨m2, tt, f1, f2, f3, f4, f5⟩ := m_drop b1 b3 hd
    obtain ⟨g2, k1, k2, k3⟩ := rel_ways (c1 := g) (m1 := m2) (p := p) (t := t) p1 ((e3 1 (by simp) 1).trans p2) ((f4 0 0 (by simp) (by simp)).trans p3) (fun i hi => by
        obtain ⟨z1, z2, z3, z4⟩ := p4 i hi
        exact ⟨z1, z2, (f4 1 i (by simp) (by simp)).trans z3, (e3 2 (by simp) i).trans z4⟩) (okW_sh b1 hd) e2 f3 b4 ((e3 0 (by simp) 7).trans b5) ((f4 0 5 (by simp) (by simp)).trans b6) (fun k hk => ⟨(c1 k hk).1, (e3 25 (by simp) k).trans (c1 k hk).2.1, (f4 4 k (by simp) (by simp)).trans (c1 k hk).2.2⟩) (((e3 0 (by simp) 8).trans c2).trans (f4 0 7 (by simp) (by simp)).symm) f5
    refine ⟨nI (W - 1), g2, m2, ?_, ?_, k3⟩
    · unfold fX7_drop
      rw [hc, Option.bind_some, if_neg (by decide), e1, Option.bind_some, k1, Option.bind_some, k2]
    · unfold fX8_drop
      rw [b3.1, hm, Option.bind_some, if_neg (by decide), lt_d, show nI W - (1 : Int32) = nI (W - 1) from nI_sub (b := 1) (by omega), f1, Option.bind_some, f2]
