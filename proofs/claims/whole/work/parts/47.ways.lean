/-! calls that change the ways: way, drop -/
def upW (net : Nat → Nat → Nat) (W : Nat) (r : Nat → Nat) : Nat → Nat → Nat := fun w i => if w = W then r i else net w i
theorem okW_add {W n : Nat} {len : Nat → Nat} {net : Nat → Nat → Nat} {r : Nat → Nat} (h : okW W len net) (hW : W < 12) (h2 : 2 ≤ n) (h6 : n ≤ 6) (hr : ∀ i, i < n → r i < 8) (hi : ∀ i j, i < n → j < n → r i = r j → i = j) : okW (W + 1) (up len W n) (upW net W r) := by
  refine ⟨by omega, fun w hw => ?_⟩
  unfold up upW
  by_cases z : w = W
  · simp only [z, if_true]
    exact ⟨h2, h6, hr, hi⟩
  · simp only [z, if_false]
    exact h.2 w (by omega)
theorem c_add {n W : Nat} {len : Nat → Nat} {net : Nat → Nat → Nat} {r : Nat → Nat} {c : Sg} (hn : n ≤ 6) (hW : W < 12) (hO : okW W len net) (hw : wayC c W len net) (h1 : rd c 1 1 = nI n) (h2 : ∀ i, i < n → rd c 2 i = nI (r i)) : ∃ g, fX6_add_1 c = some g ∧ wayC g (W + 1) (up len W n) (upW net W r) ∧ same [3, 4, 5] g c := by
  obtain ⟨⟨x, g⟩, e1, p1, p2, p3⟩ := lpS_for (step := fun t => fX6_add_1_L12 t.1 t.2) (t0 := ((0 : Int32), c)) (Q := fun t => (∀ i, i < n → rd t.2 4 (W * 6 + i) = nI (r i)) ∧ (∀ i, i < W * 6 → rd t.2 4 i = rd c 4 i) ∧ same [4] t.2 c) n
    (fun j t => t.1 = nI j ∧ (∀ i, i < j → rd t.2 4 (W * 6 + i) = nI (r i)) ∧ (∀ i, i < W * 6 → rd t.2 4 i = rd c 4 i) ∧ same [4] t.2 c) ⟨rfl, fun i hi => by omega, fun i _ => rfl, same.rf⟩
    (by
      rintro j ⟨x, u⟩ hj ⟨rfl, q1, q2, q3⟩
      refine ⟨(nI (j + 1), wr u 4 (W * 6 + j) (nI (r j))), ?_, rfl, fun i hi => ?_, fun i hi => ?_, q3.wr (by simp)⟩
      · simp only [fX6_add_1_L12]
        rw [q3 1 (by simp) 1, h1, if_neg (by rw [nI_leI (by omega) (by omega)]; omega), q3 3 (by simp) 4, hw.1, show (6 : Int32) = nI 6 from rfl]
        simp (disch := omega) only [nI_mul, nI_add, inb_nI, gd_t, nI_clamp, lt_d]
        rw [q3 2 (by simp) j, h2 j hj, nI_1]
      · rw [rd_wr]
        by_cases z : i = j
        · subst z; rw [if_pos ⟨rfl, rfl⟩]
        · rw [if_neg (fun y => z (by omega))]; exact q1 i (by omega)
      · rw [rd_wr, if_neg (fun y => by omega)]; exact q2 i hi)
    (by
      rintro ⟨x, u⟩ ⟨rfl, q1, q2, q3⟩
      refine ⟨(nI n, u), ?_, q1, q2, q3⟩
      simp only [fX6_add_1_L12]
      rw [q3 1 (by simp) 1, h1, if_pos (by rw [nI_leI (by omega) (by omega)]; omega)]) (by omega)
  have k34 : rd g 3 4 = nI W := (p3 3 (by simp) 4).trans hw.1
  have k11 : rd g 1 1 = nI n := (p3 1 (by simp) 1).trans h1
  refine ⟨wr (wr g 5 W (nI n)) 3 4 (nI (W + 1)), ?_, ⟨rd_wr_s, fun w hw2 => ?_⟩, ((p3.tr same.rf (l2 := []) (l3 := [3, 4, 5]) (by simp) (by simp)).wr (by simp)).wr (by simp)⟩
  · unfold fX6_add_1
    rw [hw.1, if_pos (show nI W < 12 from (nI_ltI (b := 12) (by omega) (by decide)).mpr hW), e1, Option.bind_some]
    unfold fX6_add_1_E46
    rw [k34, k11]
    simp (disch := omega) only [inb_nI, gd_t, nI_clamp, lt_d]
    rw [show rd (wr g 5 W (nI n)) 3 4 = nI W from (by rw [rd_wr, if_neg (by simp), k34]), l1, nI_add]
  · unfold up upW
    by_cases z : w = W
    · subst z
      refine ⟨?_, fun k hk => ?_⟩
      · rw [if_pos rfl, rd_wr, if_neg (by simp), rd_wr_s]
      · rw [if_pos rfl] at hk ⊢
        rw [rd_wr, if_neg (by simp), rd_wr, if_neg (by simp)]
        exact p1 k hk
    · have hok := hO.2 w (by omega)
      refine ⟨?_, fun k hk => ?_⟩
      · rw [if_neg z, rd_wr, if_neg (by simp), rd_wr, if_neg (fun y => z y.2), p3 5 (by simp)]
        exact (hw.2 w (by omega)).1
      · rw [if_neg z] at hk ⊢
        rw [rd_wr, if_neg (by simp), rd_wr, if_neg (by simp), p2 _ (by omega)]
        exact (hw.2 w (by omega)).2 k hk
theorem m_add {n W : Nat} {len : Nat → Nat} {net : Nat → Nat → Nat} {p r : Nat → Nat} {m : Sg} (hn : n ≤ 6) (hW : W < 12) (hO : okW W len net) (hw : wayM m W len net) (h1 : rd m 0 0 = nI n) (h2 : ∀ i, i < n → rd m 1 i - 48 = nI (r i)) : ∃ g t, lpS (fun t => fX8_way_L26 t.1 t.2) 300 ((0 : Int32), m) = some t ∧ fX8_way_E63 t.1 t.2 = some (nI W, g) ∧ wayM g (W + 1) (up len W n) (upW net W r) ∧ sam [2, 3] [0, 2, 7, 8] g m ∧ rd g 0 0 = 0 ∧ rd g 0 7 = rd m 0 7 + 1 ∧ rd g 0 8 = 0 := by
  obtain ⟨⟨x, g⟩, e1, p1, p2, p3⟩ := lpS_for (step := fun t => fX8_way_L26 t.1 t.2) (t0 := ((0 : Int32), m)) (Q := fun t => (∀ i, i < n → rd t.2 2 (8 * W + i) = nI (r i)) ∧ (∀ i, i < 8 * W → rd t.2 2 i = rd m 2 i) ∧ sam [2] [] t.2 m) n
    (fun j t => t.1 = nI j ∧ (∀ i, i < j → rd t.2 2 (8 * W + i) = nI (r i)) ∧ (∀ i, i < 8 * W → rd t.2 2 i = rd m 2 i) ∧ sam [2] [] t.2 m) ⟨rfl, fun i hi => by omega, fun i _ => rfl, sam.rf⟩
    (by
      rintro j ⟨x, u⟩ hj ⟨rfl, q1, q2, q3⟩
      refine ⟨(nI (j + 1), wr u 2 (8 * W + j) (nI (r j))), ?_, rfl, fun i hi => ?_, fun i hi => ?_, q3.wr (by simp)⟩
      · simp only [fX8_way_L26]
        rw [q3 0 0 (by simp) (by simp), h1, if_neg (by rw [nI_leI (by omega) (by omega)]; omega), q3 0 2 (by simp) (by simp), hw.1]
        simp (disch := omega) only [l8, nI_mul, nI_add, inb_nI, gd_t, nI_clamp, lt_d]
        rw [q3 1 j (by simp) (by simp), h2 j hj, nI_1]
      · rw [rd_wr]
        by_cases z : i = j
        · subst z; rw [if_pos ⟨rfl, rfl⟩]
        · rw [if_neg (fun y => z (by omega))]; exact q1 i (by omega)
      · rw [rd_wr, if_neg (fun y => by omega)]; exact q2 i hi)
    (by
      rintro ⟨x, u⟩ ⟨rfl, q1, q2, q3⟩
      refine ⟨(nI n, u), ?_, q1, q2, q3⟩
      simp only [fX8_way_L26]
      rw [q3 0 0 (by simp) (by simp), h1, if_pos (by rw [nI_leI (by omega) (by omega)]; omega)]) (by omega)
  have k02 : rd g 0 2 = nI W := (p3 0 2 (by simp) (by simp)).trans hw.1
  have k00 : rd g 0 0 = nI n := (p3 0 0 (by simp) (by simp)).trans h1
  have k07 : rd g 0 7 = rd m 0 7 := p3 0 7 (by simp) (by simp)
  refine ⟨wr (wr (wr (wr (wr g 3 W (nI n)) 0 2 (nI (W + 1))) 0 7 (rd m 0 7 + 1)) 0 0 0) 0 8 0, _, e1, ?_, ⟨?_, fun w hw2 => ?_⟩, (((((p3.tr sam.rf (l2 := []) (s2 := []) (l3 := [2, 3]) (s3 := [0, 2, 7, 8]) (by simp) (by simp) (by simp) (by simp)).wr (by simp)).wr (by simp)).wr (by simp)).wr (by simp)).wr (by simp), ?_, ?_, rd_wr_s⟩
  · unfold fX8_way_E63
    dsimp only
    rw [k02, k00]
    simp (disch := omega) only [inb_nI, gd_t, nI_clamp, lt_d]
    rw [show rd (wr g 3 W (nI n)) 0 2 = nI W from (by rw [rd_wr, if_neg (by simp), k02]), l1, nI_add, show rd (wr (wr g 3 W (nI n)) 0 2 (nI (W + 1))) 0 7 = rd m 0 7 from (by rw [rd_wr, if_neg (by simp), rd_wr, if_neg (by simp), k07]), rd_wr, if_neg (by simp), rd_wr, if_neg (by simp), rd_wr, if_neg (by simp), rd_wr_s, nI_sub (by omega), Nat.add_sub_cancel]
  · rw [rd_wr, if_neg (by simp), rd_wr, if_neg (by simp), rd_wr, if_neg (by simp), rd_wr_s]
  · unfold up upW
    by_cases z : w = W
    · subst z
      refine ⟨?_, fun k hk => ?_⟩
      · rw [if_pos rfl, rd_wr, if_neg (by simp), rd_wr, if_neg (by simp), rd_wr, if_neg (by simp), rd_wr, if_neg (by simp), rd_wr_s]
      · rw [if_pos rfl] at hk ⊢
        rw [rd_wr, if_neg (by simp), rd_wr, if_neg (by simp), rd_wr, if_neg (by simp), rd_wr, if_neg (by simp), rd_wr, if_neg (by simp)]
        exact p1 k hk
    · have hok := hO.2 w (by omega)
      refine ⟨?_, fun k hk => ?_⟩
      · rw [if_neg z, rd_wr, if_neg (by simp), rd_wr, if_neg (by simp), rd_wr, if_neg (by simp), rd_wr, if_neg (by simp), rd_wr, if_neg (fun y => z y.2), p3 3 w (by simp) (by simp)]
        exact (hw.2 w (by omega)).1
      · rw [if_neg z] at hk ⊢
        rw [rd_wr, if_neg (by simp), rd_wr, if_neg (by simp), rd_wr, if_neg (by simp), rd_wr, if_neg (by simp), rd_wr, if_neg (by simp), p2 _ (by omega)]
        exact (hw.2 w (by omega)).2 k hk
  · rw [rd_wr, if_neg (by simp), rd_wr_s]
  · rw [rd_wr, if_neg (by simp), rd_wr, if_neg (by simp), rd_wr_s]
theorem sim_way {c m : Sg} (h : Rel c m) : ∃ (r : Int32) (c2 : Sg) (m2 : Sg), fX7_way c = some (r, c2) ∧ fX8_way m = some (r, m2) ∧ Rel c2 m2 := by
  obtain ⟨n, W, ex, len, net, p, t, hR, hL⟩ := id h
  have tc := hR.txc
  have tm := hR.txm
  have hn := tc.1
  have hc := c_isWay tc
  have hm := m_isWay tm
  cases hw : isW p n with
  | false =>
    rw [hw] at hm hc
    refine ⟨-1003, c, m, ?_, ?_, h⟩
    · unfold fX7_way
      rw [hc]; rfl
    · unfold fX8_way
      rw [hm]; rfl
  | true =>
    rw [hw] at hm hc
    obtain ⟨w1, w2, w3⟩ := way_ok hw
    obtain ⟨-, ⟨b1, b2, b3, b4, b5, b6⟩, ⟨c1, c2⟩, d⟩ := hR
    have hW12 := b1.1
    by_cases h12 : W = 12
    · refine ⟨-1004, c, m, ?_, ?_, h⟩
      · unfold fX7_way
        rw [hc, Option.bind_some, if_neg (by decide), b2.1, if_neg (by rw [h12]; decide)]
      · unfold fX8_way
        rw [hm, Option.bind_some, if_neg (by decide), b3.1, if_pos (by rw [h12]; rfl)]
    · have hW : W < 12 := by omega
      have hsub : ∀ i, i < n → nI (p i) - 48 = nI (p i - 48) := fun i hi => by obtain ⟨v, v1, v2, v3⟩ := w2 i hi; rw [v3, v2, Nat.add_sub_cancel_left]
      obtain ⟨g, e1, e2, e3⟩ := c_add (r := fun i => p i - 48) hn hW b1 b2 tc.2.1 (fun i hi => by rw [(tc.2.2 i hi).2.2, hsub i hi])
      obtain ⟨m2, tt, f1, f2, f3, f4, f5, f6, f7⟩ := m_add (p := p) (r := fun i => p i - 48) hn hW b1 b3 tm.2.1 (fun i hi => by rw [(tm.2.2 i hi).2.2, hsub i hi])
      have hok := okW_add (n := n) (r := fun i => p i - 48) b1 hW w1 hn (fun i hi => by obtain ⟨v, v1, v2, v3⟩ := w2 i hi; omega) (fun i j hi hj e => w3 i j hi hj (by
        obtain ⟨v, v1, v2, v3⟩ := w2 i hi
        obtain ⟨v', v1', v2', v3'⟩ := w2 j hj
        omega))
      have sc : same [0, 1] (wr (wr g 1 1 0) 0 8 (rd c 0 8 + 1)) g := (same.rf.wr (by simp)).wr (by simp)
      obtain ⟨g2, k1, k2, k3⟩ := rel_ways (n := 0) (c1 := wr (wr g 1 1 0) 0 8 (rd c 0 8 + 1)) (m1 := m2) (p := p) (t := t) (by decide) (by rw [rd_wr, if_neg (by simp), rd_wr_s]; rfl) f5 (fun i hi => by omega) hok (e2.of sc (by simp) (by simp) (by simp)) f3 b4 (by rw [rd_wr, if_neg (by simp), rd_wr, if_neg (by simp), e3 0 (by simp)]; exact b5) ((f4 0 5 (by simp) (by simp)).trans b6) (fun k hk => ⟨(c1 k hk).1, ((sc 25 (by simp) k).trans (e3 25 (by simp) k)).trans (c1 k hk).2.1, (f4 4 k (by simp) (by simp)).trans (c1 k hk).2.2⟩) (by rw [rd_wr_s, f6, c2]) f7
      refine ⟨nI W, g2, m2, ?_, ?_, k3⟩
      · unfold fX7_way
        rw [hc, Option.bind_some, if_neg (by decide), b2.1, if_pos (show nI W < 12 from (nI_ltI (b := 12) (by omega) (by decide)).mpr hW), e1, Option.bind_some, lt_d, lt_d, show rd (wr g 1 1 0) 0 8 = rd c 0 8 from (by rw [rd_wr, if_neg (by simp), e3 0 (by simp)]), k1, Option.bind_some, k2, l1, nI_sub (by omega), Nat.add_sub_cancel]
      · unfold fX8_way
        rw [hm, Option.bind_some, if_neg (by decide), b3.1, if_neg (show ¬ nI W = 12 from fun z => h12 ((nI_eq (b := 12) (by omega) (by decide)).mp z)), f1, Option.bind_some, f2]
