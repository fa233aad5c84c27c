/-! ways without exchanges -/
def sel (p : Nat → Bool) (v : Nat → Nat) (n i : Nat) : Nat := v (fa_first (fun k => p k && (fb_ct p k == i)) n)
theorem sel_at {p : Nat → Bool} {v : Nat → Nat} {n k : Nat} (hk : k < n) (hp : p k = true) : sel p v n (fb_ct p k) = v k := by
  unfold sel
  have h1 : fa_first (fun j => p j && (fb_ct p j == fb_ct p k)) n ≤ k := by
    rcases Nat.lt_or_ge k (fa_first (fun j => p j && (fb_ct p j == fb_ct p k)) n) with h | h
    · have := fa_first_no _ n k h
      simp [hp] at this
    · exact h
  have h2 := fa_first_yes (fun j => p j && (fb_ct p j == fb_ct p k)) n (by omega)
  simp only [Bool.and_eq_true, beq_iff_eq] at h2
  rw [fb_ct_kth_one h2.1 hp h2.2]
theorem sel_ex {p : Nat → Bool} {v : Nat → Nat} {n i : Nat} (h : i < fb_ct p n) : ∃ k, k < n ∧ p k = true ∧ fb_ct p k = i ∧ sel p v n i = v k := by
  obtain ⟨k, h1, h2, h3⟩ := fb_ct_kth h
  exact ⟨k, h1, h2, h3, by rw [← h3]; exact sel_at h1 h2⟩
def kp (ex : Nat) (v : Nat → Nat) : Nat → Bool := fun k => !(ex.testBit (v k))
def BLd (ex : Nat) (len : Nat → Nat) (net : Nat → Nat → Nat) (w : Nat) : Nat := fb_ct (kp ex (net w)) (len w)
def BNd (ex : Nat) (len : Nat → Nat) (net : Nat → Nat → Nat) (w i : Nat) : Nat := sel (kp ex (net w)) (net w) (len w) i
def okW (W : Nat) (len : Nat → Nat) (net : Nat → Nat → Nat) : Prop := W ≤ 12 ∧ ∀ w, w < W → 2 ≤ len w ∧ len w ≤ 6 ∧ (∀ k, k < len w → net w k < 8) ∧ ∀ i j, i < len w → j < len w → net w i = net w j → i = j
theorem okB_of {W ex : Nat} {len : Nat → Nat} {net : Nat → Nat → Nat} (h : okW W len net) : okB W (BLd ex len net) (BNd ex len net) := by
  refine ⟨h.1, fun w hw => ?_⟩
  obtain ⟨h1, h2, h3, h4⟩ := h.2 w hw
  have hle : BLd ex len net w ≤ len w := fb_ct_le _ _
  refine ⟨by omega, fun i hi => ?_, fun i j hi hj he => ?_⟩
  · obtain ⟨k, k1, k2, k3, k4⟩ := sel_ex (v := net w) hi
    unfold BNd
    rw [k4]
    exact h3 k k1
  · obtain ⟨k, k1, k2, k3, k4⟩ := sel_ex (v := net w) hi
    obtain ⟨l, l1, l2, l3, l4⟩ := sel_ex (v := net w) hj
    unfold BNd at he
    rw [k4, l4] at he
    have := h4 k l k1 l1 he
    rw [← k3, ← l3, this]
def wayC (sg : Sg) (W : Nat) (len : Nat → Nat) (net : Nat → Nat → Nat) : Prop := rd sg 3 4 = nI W ∧ ∀ w, w < W → rd sg 5 w = nI (len w) ∧ ∀ k, k < len w → rd sg 4 (w * 6 + k) = nI (net w k)
theorem wayC.of {sg g : Sg} {W : Nat} {len : Nat → Nat} {net : Nat → Nat → Nat} {l : List Nat} (h : wayC sg W len net) (hs : same l g sg) (h3 : 3 ∉ l) (h4 : 4 ∉ l) (h5 : 5 ∉ l) : wayC g W len net := ⟨(hs 3 h3 4).trans h.1, fun w hw => ⟨(hs 5 h5 w).trans (h.2 w hw).1, fun k hk => (hs 4 h4 _).trans ((h.2 w hw).2 k hk)⟩⟩
set_option maxHeartbeats 1000000 in
theorem c_cut {W ex : Nat} {len : Nat → Nat} {net : Nat → Nat → Nat} {sg : Sg} (hO : okW W len net) (hw : wayC sg W len net) (hex : ex < 256) : ∃ g, fX6_cutOut (nI ex) sg = some g ∧ cutC g W (BLd ex len net) (BNd ex len net) ∧ same [6, 7] g sg := by
  unfold fX6_cutOut
  obtain ⟨⟨a1, g1⟩, e1, q1, q2⟩ := lpS_for (step := fun t => fX6_cutOut_L2 (nI ex) t.1 t.2) (t0 := ((0 : Int32), sg)) (Q := fun t => cutC t.2 W (BLd ex len net) (BNd ex len net) ∧ same [6, 7] t.2 sg) W
    (fun j t => t.1 = nI j ∧ cutC t.2 j (BLd ex len net) (BNd ex len net) ∧ same [6, 7] t.2 sg)
    ⟨rfl, fun w hw => by omega, same.rf⟩
    (by
      rintro j ⟨a, g⟩ hj ⟨rfl, h1, h2⟩
      have hW := hO.1
      obtain ⟨n1, n2, n3, n4⟩ := hO.2 j hj
      have hwg : wayC g W len net := hw.of h2 (by simp) (by simp) (by simp)
      obtain ⟨⟨b1, b2, g2⟩, e2, r1, r2, r3, r4⟩ := lpS_for (step := fun t => fX6_cutOut_L15 (nI ex) (nI j) t.1 t.2.1 t.2.2) (t0 := ((0 : Int32), (0 : Int32), g)) (Q := fun t => t.1 = nI (BLd ex len net j) ∧ (∀ i, i < BLd ex len net j → rd t.2.2 6 (j * 6 + i) = nI (BNd ex len net j i)) ∧ cutC t.2.2 j (BLd ex len net) (BNd ex len net) ∧ same [6] t.2.2 g) (len j)
        (fun k t => t.1 = nI (fb_ct (kp ex (net j)) k) ∧ t.2.1 = nI k ∧ (∀ i, i < fb_ct (kp ex (net j)) k → rd t.2.2 6 (j * 6 + i) = nI (BNd ex len net j i)) ∧ cutC t.2.2 j (BLd ex len net) (BNd ex len net) ∧ same [6] t.2.2 g)
        ⟨rfl, rfl, fun i hi => by simp [fb_ct] at hi, h1, same.rf⟩
        (by
          rintro k ⟨c1, c2, g3⟩ hk ⟨rfl, rfl, s1, s2, s3⟩
          have hw3 : wayC g3 W len net := hwg.of s3 (by simp) (by simp) (by simp)
          have hnk := n3 k hk
          have hle : fb_ct (kp ex (net j)) k ≤ k := fb_ct_le _ _
          have step0 : ∀ (x : Option ((Int32 × Int32 × Sg) ⊕ (Int32 × Int32 × Sg))), (gd (inb (nI j) 12) (if rd g3 5 (Int32.toNatClampNeg (nI j)) ≤ nI k then some (.inl (nI (fb_ct (kp ex (net j)) k), nI k, g3)) else gd (inb (nI j * 6 + nI k) 72) x)) = x := by
            intro x
            simp (disch := omega) only [fa_lit, nI_mul, nI_add, inb_nI, gd_t, nI_clamp, (hw3.2 j hj).1]
            rw [if_neg (by rw [nI_leI (by omega) (by omega)]; omega)]
          simp only [fX6_cutOut_L15, step0, lt_d]
          have e4 : rd g3 4 (Int32.toNatClampNeg (nI j * 6 + nI k)) = nI (net j k) := by
            simp (disch := omega) only [fa_lit, nI_mul, nI_add, nI_clamp]
            exact (hw3.2 j hj).2 k hk
          rw [e4, has0 (by omega) (by omega)]
          simp only [Option.bind_some, b2i_0]
          cases hb : ex.testBit (net j k) with
          | false =>
            have hkp : kp ex (net j) k = true := by simp [kp, hb]
            refine ⟨(nI (fb_ct (kp ex (net j)) k) + 1, nI k + 1, wr g3 6 (j * 6 + fb_ct (kp ex (net j)) k) (nI (net j k))), ?_, ?_, nI_1 k, ?_, ?_, s3.wr (by simp)⟩
            · rw [if_pos rfl]
              simp (disch := omega) only [fa_lit, nI_mul, nI_add, inb_nI, gd_t, lt_d, nI_clamp, fX6_cutOut_L15_J65]
            · rw [nI_1, fb_ct_succ, hkp]; rfl
            · intro i hi
              rw [fb_ct_succ, hkp] at hi
              rw [rd_wr]
              split
              · rename_i hz
                have : i = fb_ct (kp ex (net j)) k := by omega
                rw [this]
                unfold BNd
                rw [sel_at hk hkp]
              · rename_i hz
                exact s1 i (by have : i ≠ fb_ct (kp ex (net j)) k := fun z => hz ⟨rfl, by rw [z]⟩; simp at hi; omega)
            · intro w hw'
              have hbw : BLd ex len net w ≤ 6 := Nat.le_trans (fb_ct_le _ _) (hO.2 w (by omega)).2.1
              refine ⟨by rw [rd_wr, if_neg (by simp)]; exact (s2 w hw').1, fun i hi => ?_⟩
              rw [rd_wr, if_neg (by omega)]
              exact (s2 w hw').2 i hi
          | true =>
            have hkp : kp ex (net j) k = false := by simp [kp, hb]
            refine ⟨(nI (fb_ct (kp ex (net j)) k), nI k + 1, g3), ?_, ?_, nI_1 k, ?_, s2, s3⟩
            · rw [if_neg (by decide)]
              simp only [fX6_cutOut_L15_J65]
            · rw [fb_ct_succ, hkp]; rfl
            · intro i hi
              rw [fb_ct_succ, hkp] at hi
              exact s1 i (by simpa using hi))
        (by
          rintro ⟨c1, c2, g3⟩ ⟨rfl, rfl, s1, s2, s3⟩
          have hw3 : wayC g3 W len net := hwg.of s3 (by simp) (by simp) (by simp)
          refine ⟨(nI (fb_ct (kp ex (net j)) (len j)), nI (len j), g3), ?_, rfl, s1, s2, s3⟩
          simp only [fX6_cutOut_L15]
          simp (disch := omega) only [inb_nI, gd_t, nI_clamp, (hw3.2 j hj).1]
          rw [if_pos (Int32.le_refl _)]) (by omega)
      refine ⟨(nI j + 1, wr g2 7 j (nI (BLd ex len net j))), ?_, nI_1 j, ?_, ?_⟩
      · simp only [fX6_cutOut_L2]
        rw [hwg.1, if_neg (by rw [nI_leI (by omega) (by omega)]; omega), e2]
        simp only [Option.bind_some, fX6_cutOut_L2_E71]
        have r1' : b1 = nI (BLd ex len net j) := r1
        simp (disch := omega) only [inb_nI, gd_t, lt_d, nI_clamp, r1']
      · intro w hw'
        rcases Nat.lt_or_ge w j with h | h
        · refine ⟨by rw [rd_wr, if_neg (by omega)]; exact (r3 w h).1, fun i hi => ?_⟩
          rw [rd_wr, if_neg (by simp)]
          exact (r3 w h).2 i hi
        · have : w = j := by omega
          subst this
          refine ⟨by rw [rd_wr, if_pos ⟨rfl, rfl⟩], fun i hi => ?_⟩
          rw [rd_wr, if_neg (by simp)]
          exact r2 i hi
      · exact (r4.tr h2 (l3 := [6, 7]) (by simp) (by simp)).wr (by simp))
    (by
      rintro ⟨a, g⟩ ⟨rfl, h1, h2⟩
      refine ⟨(nI W, g), ?_, h1, h2⟩
      simp only [fX6_cutOut_L2]
      rw [h2 3 (by simp) 4, hw.1, if_pos (Int32.le_refl _)]) (by have := hO.1; omega)
  rw [e1]
  exact ⟨g1, rfl, q1, q2⟩
