/-! the reference: layWays as a whole -/
theorem rowP_min {r p : Nat → Nat} {n j : Nat} (hj : j < n - 1) : (if j + 2 < n then jp (r j) (r (j + 1)) (r (j + 2)) (rowP r (min j (n - 2)) p) else rowP r (min j (n - 2)) p) = rowP r (min (j + 1) (n - 2)) p := by
  by_cases h : j + 2 < n
  · rw [if_pos h, Nat.min_eq_left (by omega), Nat.min_eq_left (by omega)]; rfl
  · rw [if_neg h, Nat.min_eq_right (by omega), Nat.min_eq_right (by omega)]
set_option maxHeartbeats 1000000 in
theorem m_layWays {W ex : Nat} {len : Nat → Nat} {net : Nat → Nat → Nat} {sg : Sg} (hO : okW W len net) (hw : wayM sg W len net) (hex : ex < 256) (hx : rd sg 0 5 = nI ex) :
    ∃ g, fX8_layWays sg = some g ∧ bareM g W (BLd ex len net) (BNd ex len net) ∧ arr g 7 8 (LKd (BLd ex len net) (BNd ex len net) W) ∧ arr g 12 64 (OFd (BLd ex len net) (BNd ex len net) W) ∧ arr g 8 8 (PSd (BLd ex len net) (BNd ex len net) W) ∧ rd g 0 13 = nI (SNd (BLd ex len net) (BNd ex len net) W) ∧ arr g 11 64 (fun _ => 0) ∧ sam [5, 6, 7, 8, 11, 12] [13] g sg := by
  have hB := okB_of (ex := ex) hO
  unfold fX8_layWays
  obtain ⟨⟨a1, g1⟩, e1, q1, q2, q4⟩ := lpS_for (step := fun t => fX8_layWays_L2 t.1 t.2) (t0 := ((0 : Int32), sg)) (Q := fun t => arr t.2 7 8 (fun _ => 0) ∧ arr t.2 8 8 (fun _ => 0) ∧ sam [7, 8] [] t.2 sg) 8
    (fun j t => t.1 = nI j ∧ arr t.2 7 j (fun _ => 0) ∧ arr t.2 8 j (fun _ => 0) ∧ sam [7, 8] [] t.2 sg)
    ⟨rfl, fun i hi => by omega, fun i hi => by omega, sam.rf⟩
    (by
      rintro j ⟨a, g⟩ hj ⟨rfl, h1, h2, h4⟩
      refine ⟨(nI j + 1, wr (wr g 7 j (nI 0)) 8 j (nI 0)), ?_, nI_1 j, ?_, ?_, (h4.wr (by simp)).wr (by simp)⟩
      · simp only [fX8_layWays_L2]
        rw [if_neg (by rw [show (8 : Int32) = nI 8 from rfl, nI_leI (by decide) (by omega)]; omega)]
        simp (disch := omega) only [fa_lit, inb_nI, gd_t, lt_d, nI_clamp]
      · intro i hi
        rw [rd_wr, if_neg (by simp), rd_wr]
        split
        · rfl
        · rename_i hne; exact h1 i (by have : i ≠ j := fun z => hne ⟨rfl, z⟩; omega)
      · intro i hi
        rw [rd_wr]
        split
        · rfl
        · rename_i hne
          rw [rd_wr, if_neg (by simp)]
          exact h2 i (by have : i ≠ j := fun z => hne ⟨rfl, z⟩; omega))
    (by
      rintro ⟨a, g⟩ ⟨rfl, h1, h2, h4⟩
      refine ⟨(nI 8, g), ?_, h1, h2, h4⟩
      simp only [fX8_layWays_L2]
      rw [if_pos (by decide)]) (by decide)
  rw [e1]
  simp only [Option.bind_some, fX8_layWays_E28, lt_d]
  have s1 : sam [7, 8] [13] (wr g1 0 13 (0 : Int32)) sg := (q4.tr (sam.rf (l := []) (sl := [])) (l3 := [7, 8]) (s3 := [13]) (by simp) (by simp) (by simp) (by simp)).wr (by simp)
  obtain ⟨⟨a2, g2⟩, e2, r1, r2, r3⟩ := m_bare (sg := wr g1 0 13 (0 : Int32)) hO (hw.of s1 (by simp) (by simp) (by simp) (by simp)) hex ((s1 0 5 (by simp) (by simp)).trans hx) (by rw [rd_wr, if_pos ⟨rfl, rfl⟩]; rfl)
  rw [e2]
  simp only [Option.bind_some, fX8_layWays_E136]
  have s2 : sam [5, 6, 7, 8] [13] g2 sg := r3.tr s1 (by simp) (by simp) (by simp) (by simp)
  have s2' : sam [5, 6] [13] g2 g1 := r3.tr ((sam.rf (l := []) (sl := [13]) (sg := g1)).wr (q := 0) (i := 13) (v := 0) (by simp)) (by simp) (by simp) (by simp) (by simp)
  obtain ⟨⟨a3, g3⟩, e3, t1, t2, t3⟩ := lpS_for (step := fun t => fX8_layWays_L138 t.1 t.2) (t0 := ((0 : Int32), g2)) (Q := fun t => arr t.2 11 64 (fun _ => 0) ∧ arr t.2 12 64 (fun _ => 0) ∧ sam [11, 12] [] t.2 g2) 64
    (fun j t => t.1 = nI j ∧ arr t.2 11 j (fun _ => 0) ∧ arr t.2 12 j (fun _ => 0) ∧ sam [11, 12] [] t.2 g2)
    ⟨rfl, fun i hi => by omega, fun i hi => by omega, sam.rf⟩
    (by
      rintro j ⟨a, g⟩ hj ⟨rfl, h1, h2, h4⟩
      refine ⟨(nI j + 1, wr (wr g 11 j (nI 0)) 12 j (nI 0)), ?_, nI_1 j, ?_, ?_, (h4.wr (by simp)).wr (by simp)⟩
      · simp only [fX8_layWays_L138]
        rw [if_neg (by rw [show (64 : Int32) = nI 64 from rfl, nI_leI (by decide) (by omega)]; omega)]
        simp (disch := omega) only [fa_lit, inb_nI, gd_t, lt_d, nI_clamp]
      · intro i hi
        rw [rd_wr, if_neg (by simp), rd_wr]
        split
        · rfl
        · rename_i hne; exact h1 i (by have : i ≠ j := fun z => hne ⟨rfl, z⟩; omega)
      · intro i hi
        rw [rd_wr]
        split
        · rfl
        · rename_i hne
          rw [rd_wr, if_neg (by simp)]
          exact h2 i (by have : i ≠ j := fun z => hne ⟨rfl, z⟩; omega))
    (by
      rintro ⟨a, g⟩ ⟨rfl, h1, h2, h4⟩
      refine ⟨(nI 64, g), ?_, h1, h2, h4⟩
      simp only [fX8_layWays_L138]
      rw [if_pos (by decide)]) (by decide)
  rw [e3]
  simp only [Option.bind_some, fX8_layWays_E164]
  have b3 : bareM g3 W (BLd ex len net) (BNd ex len net) := r1.of t3 (by simp) (by simp)
  have s3 : sam [5, 6, 7, 8, 11, 12] [13] g3 sg := t3.tr s2 (by simp) (by simp) (by simp) (by simp)
  have l3 : arr g3 7 8 (fun _ => 0) := t3.arr (by simp) (by simp) (s2'.arr (by simp) (by simp) q1)
  have p3 : arr g3 8 8 (fun _ => 0) := t3.arr (by simp) (by simp) (s2'.arr (by simp) (by simp) q2)
  generalize hbl : BLd ex len net = bl at hB b3 r2 ⊢
  generalize hbn : BNd ex len net = bn at hB b3 r2 ⊢
  have w3 : rd g3 0 2 = nI W := (s3 0 2 (by simp) (by simp)).trans hw.1
  obtain ⟨⟨a4, g4⟩, e4, u1, u2, u3, u4⟩ := lpS_for (step := fun t => fX8_layWays_L166 t.1 t.2) (t0 := ((0 : Int32), g3)) (Q := fun t => arr t.2 7 8 (LKd bl bn W) ∧ arr t.2 12 64 (OFd bl bn W) ∧ arr t.2 8 8 (PSd bl bn W) ∧ sam [7, 8, 12] [] t.2 g3) W
    (fun j t => t.1 = nI j ∧ arr t.2 7 8 (LKd bl bn j) ∧ arr t.2 12 64 (OFd bl bn j) ∧ arr t.2 8 8 (PSd bl bn j) ∧ sam [7, 8, 12] [] t.2 g3)
    ⟨rfl, l3, t2, p3, sam.rf⟩
    (by
      rintro j ⟨a, g⟩ hj ⟨rfl, h1, h2, h3, h5⟩
      have hW1 := hB.1
      obtain ⟨b1, b2, -⟩ := hB.2 j hj
      have bg : bareM g W bl bn := b3.of h5 (by simp) (by simp)
      obtain ⟨⟨c1, g5⟩, e5, v1, v2, v3, v4⟩ := lpS_for (step := fun t => fX8_layWays_L176 (nI j) t.1 t.2) (t0 := ((1 : Int32), g)) (Q := fun t => arr t.2 7 8 (LKd bl bn (j + 1)) ∧ arr t.2 12 64 (OFd bl bn (j + 1)) ∧ arr t.2 8 8 (PSd bl bn (j + 1)) ∧ sam [7, 8, 12] [] t.2 g) (bl j - 1)
        (fun i t => t.1 = nI (i + 1) ∧ arr t.2 7 8 (rowL (bn j) i (LKd bl bn j)) ∧ arr t.2 12 64 (rowO (bn j) i (OFd bl bn j)) ∧ arr t.2 8 8 (rowP (bn j) (min i (bl j - 2)) (PSd bl bn j)) ∧ sam [7, 8, 12] [] t.2 g)
        ⟨rfl, h1, h2, by rw [Nat.zero_min]; exact h3, sam.rf⟩
        (by
          rintro i ⟨c, g6⟩ hi ⟨rfl, k1, k2, k3, k4⟩
          have b6 : bareM g6 W bl bn := bg.of k4 (by simp) (by simp)
          obtain ⟨g', y1, y2, y3, y4, y5⟩ := m_layTwo (w := j) (i := i) (n := bl j) (r := bn j) (by omega) b1 (by omega) b2 (b6 j hj).1 (b6 j hj).2 k1 k2 k3
          refine ⟨(nI (i + 1) + 1, g'), ?_, nI_1 _, y2, y3, ?_, y5.tr k4 (by simp) (by simp) (by simp) (by simp)⟩
          · simp only [fX8_layWays_L176]
            simp (disch := omega) only [inb_nI, gd_t, nI_clamp, (b6 j hj).1]
            rw [if_neg (by rw [nI_leI (by omega) (by omega)]; omega), y1]
            rfl
          · rw [rowP_min hi] at y4
            exact y4)
        (by
          rintro ⟨c, g6⟩ ⟨rfl, k1, k2, k3, k4⟩
          have b6 : bareM g6 W bl bn := bg.of k4 (by simp) (by simp)
          refine ⟨(nI (bl j - 1 + 1), g6), ?_, k1, k2, ?_, k4⟩
          · simp only [fX8_layWays_L176]
            simp (disch := omega) only [inb_nI, gd_t, nI_clamp, (b6 j hj).1]
            rw [if_pos (by rw [nI_leI (by omega) (by omega)]; omega)]
          · rw [Nat.min_eq_right (by omega)] at k3
            exact k3) (by omega)
      refine ⟨(nI j + 1, g5), ?_, nI_1 j, v1, v2, v3, v4.tr h5 (by simp) (by simp) (by simp) (by simp)⟩
      simp only [fX8_layWays_L166]
      rw [h5 0 2 (by simp) (by simp), w3, if_neg (by rw [nI_leI (by omega) (by omega)]; omega), e5]
      rfl)
    (by
      rintro ⟨a, g⟩ ⟨rfl, h1, h2, h3, h5⟩
      refine ⟨(nI W, g), ?_, h1, h2, h3, h5⟩
      simp only [fX8_layWays_L166]
      rw [h5 0 2 (by simp) (by simp), w3, if_pos (Int32.le_refl _)]) (by have := hB.1; omega)
  rw [e4]
  refine ⟨g4, rfl, b3.of u4 (by simp) (by simp), u1, u2, u3, ?_, u4.arr (by simp) (by simp) t1, u4.tr s3 (by simp) (by simp) (by simp) (by simp)⟩
  rw [u4 0 13 (by simp) (by simp), t3 0 13 (by simp) (by simp)]; exact r2
