/-! places by rank -/
theorem rd_wr_s {sg : Sg} {q i : Nat} {v : Int32} : rd (wr sg q i v) q i = v := by rw [rd_wr, if_pos ⟨rfl, rfl⟩]
def ahd (tr dg : Nat → Nat) (o a : Nat) : Bool := decide (tr a < tr o) || (decide (tr a = tr o) && (decide (dg a < dg o) || (decide (dg a = dg o) && decide (o < a))))
def PLd (sn : Nat) (tr dg : Nat → Nat) (a : Nat) : Nat := fb_ct (fun o => sn.testBit o && ahd tr dg o a) 8
theorem c_isAhead {tr dg : Nat → Nat} {o a : Nat} {sg : Sg} (ho : o < 8) (ha : a < 8) (ht : ∀ k, tr k ≤ 8) (hd : ∀ k, dg k ≤ 8) (h12 : arr sg 12 8 tr) (h11 : arr sg 11 8 dg) : fX3_isAhead_8 (nI o) (nI a) sg = some (b2i (ahd tr dg o a)) := by
  have t1 := ht o
  have t2 := ht a
  have d1 := hd o
  have d2 := hd a
  unfold fX3_isAhead_8 fX3_isAhead_8_J82 fX3_isAhead_8_J71 fX3_isAhead_8_J35
  simp (disch := omega) only [inb_nI, gd_t, nI_clamp, h12 o ho, h12 a ha, h11 o ho, h11 a ha, nI_eq, nI_leI]
  unfold ahd
  by_cases c1 : tr o = tr a
  · rw [if_pos c1]
    by_cases c2 : dg o = dg a
    · rw [if_pos c2]
      by_cases c3 : a ≤ o
      · rw [if_pos c3]
        have : ¬ o < a := by omega
        simp [c1, c2, this, b2i, zb, gd]
      · rw [if_neg c3]
        have : o < a := by omega
        simp [c1, c2, this, b2i, zb, gd]
    · rw [if_neg c2]
      by_cases c3 : dg o ≤ dg a
      · rw [if_pos c3]
        have q1 : ¬ dg a < dg o := by omega
        have q2 : ¬ dg a = dg o := by omega
        simp [c1, q1, q2, b2i, zb, gd]
      · rw [if_neg c3]
        have q1 : dg a < dg o := by omega
        simp [c1, q1, b2i, zb, gd]
  · rw [if_neg c1]
    by_cases c3 : tr o ≤ tr a
    · rw [if_pos c3]
      have q1 : ¬ tr a < tr o := by omega
      have q2 : ¬ tr a = tr o := by omega
      simp [q1, q2, b2i, zb, gd]
    · rw [if_neg c3]
      have q1 : tr a < tr o := by omega
      simp [q1, b2i, zb, gd]
theorem c_countAhead {tr dg : Nat → Nat} {sn a : Nat} {sg : Sg} (ha : a < 8) (hs : sn < 256) (ht : ∀ k, tr k ≤ 8) (hd : ∀ k, dg k ≤ 8) (h12 : arr sg 12 8 tr) (h11 : arr sg 11 8 dg) (h8 : rd sg 8 5 = nI sn) : fX3_countAhead_8 (nI a) sg = some (nI (PLd sn tr dg a)) := by
  unfold fX3_countAhead_8
  have h := lpS_det (step := fun t => fX3_countAhead_8_L4 (nI a) sg t.1 t.2) (u := (nI (PLd sn tr dg a), nI 8)) 8 (fun j => (nI (fb_ct (fun o => sn.testBit o && ahd tr dg o a) j), nI j)) (fun j hj => by
    simp only [fX3_countAhead_8_L4]
    rw [if_neg (by rw [show (8 : Int32) = nI 8 from rfl, nI_leI (by decide) (by omega)]; omega), h8, has0 (by omega) (by omega)]
    simp only [Option.bind_some, b2i_0, fb_ct_succ, fX3_countAhead_8_L4_J33, c_isAhead hj ha ht hd h12 h11]
    cases sn.testBit j <;> cases ahd tr dg j a <;> simp [nI_1]) (by
    simp only [fX3_countAhead_8_L4]
    rw [if_pos (by decide)]
    rfl) (by decide)
  rw [show ((0 : Int32), (0 : Int32)) = (nI (fb_ct (fun o => sn.testBit o && ahd tr dg o a) 0), nI 0) from rfl, h]
  rfl
theorem m_weight {tr dg : Nat → Nat} {lk ps : Nat → Nat} {a : Nat} {sg : Sg} (ha : a < 8) (hl : ∀ k, lk k < 256) (hp : ∀ k, ps k < 256) (h7 : arr sg 7 8 lk) (h8 : arr sg 8 8 ps) : fX8_weightOf (nI a) sg = some (nI (1000 * pc8 (ps a) + 10 * pc8 (lk a) + 7 - a)) := by
  have l1 := hl a
  have l2 := hp a
  unfold fX8_weightOf
  simp (disch := omega) only [inb_nI, gd_t, nI_clamp, h7 a ha, h8 a ha, ones8, Option.bind_some, fa_lit, nI_mul, nI_add, nI_sub]
  congr 1
theorem wt_ahd {tr dg : Nat → Nat} {o a : Nat} (ho : o < 8) (ha : a < 8) (ht : ∀ k, tr k ≤ 8) (hd : ∀ k, dg k ≤ 8) : (1000 * tr o + 10 * dg o + 7 - o ≤ 1000 * tr a + 10 * dg a + 7 - a) ↔ ahd tr dg o a = false := by
  have t1 := ht o
  have t2 := ht a
  have d1 := hd o
  have d2 := hd a
  unfold ahd
  simp only [Bool.or_eq_false_iff, Bool.and_eq_false_iff, decide_eq_false_iff_not]
  omega
theorem ahd_irr {tr dg : Nat → Nat} {a : Nat} : ahd tr dg a a = false := by simp [ahd]
theorem ahd_tot {tr dg : Nat → Nat} {o a : Nat} (h : o ≠ a) : ahd tr dg o a = true ∨ ahd tr dg a o = true := by
  unfold ahd
  simp only [Bool.or_eq_true, Bool.and_eq_true, decide_eq_true_eq]
  omega
theorem ahd_tr {tr dg : Nat → Nat} {a b c : Nat} (h1 : ahd tr dg a b = true) (h2 : ahd tr dg b c = true) : ahd tr dg a c = true := by
  unfold ahd at *
  simp only [Bool.or_eq_true, Bool.and_eq_true, decide_eq_true_eq] at *
  omega
theorem pl_lt {sn : Nat} {tr dg : Nat → Nat} {a b : Nat} (ha : a < 8) (hsa : sn.testBit a = true) (h : ahd tr dg a b = true) : PLd sn tr dg a < PLd sn tr dg b := by
  unfold PLd
  have h1 := fb_ct_upd (fun o => sn.testBit o && ahd tr dg o a) true ha
  rw [if_neg (by simp [ahd_irr]), if_pos rfl] at h1
  have h2 : fb_ct (fun k => if k = a then true else (sn.testBit k && ahd tr dg k a)) 8 ≤ fb_ct (fun o => sn.testBit o && ahd tr dg o b) 8 := fb_ct_sub (fun k hk hp => by
    by_cases e : k = a
    · subst e; simp [hsa, h]
    · rw [if_neg e] at hp
      simp only [Bool.and_eq_true] at hp ⊢
      exact ⟨hp.1, ahd_tr hp.2 h⟩)
  omega
theorem pl_inj {sn : Nat} {tr dg : Nat → Nat} {a b : Nat} (ha : a < 8) (hb : b < 8) (hsa : sn.testBit a = true) (hsb : sn.testBit b = true) (h : PLd sn tr dg a = PLd sn tr dg b) : a = b := by
  rcases Nat.lt_or_ge a b with c | c
  · rcases ahd_tot (tr := tr) (dg := dg) (show a ≠ b by omega) with q | q
    · have := pl_lt ha hsa q; omega
    · have := pl_lt hb hsb q; omega
  · rcases Nat.eq_or_lt_of_le c with c | c
    · exact c.symm
    · rcases ahd_tot (tr := tr) (dg := dg) (show a ≠ b by omega) with q | q
      · have := pl_lt ha hsa q; omega
      · have := pl_lt hb hsb q; omega
theorem pl_sz {sn : Nat} {tr dg : Nat → Nat} {a : Nat} (ha : a < 8) (hsa : sn.testBit a = true) : PLd sn tr dg a < pc8 sn := by
  unfold PLd pc8
  have h1 := fb_ct_upd (fun o => sn.testBit o && ahd tr dg o a) true ha
  rw [if_neg (by simp [ahd_irr]), if_pos rfl] at h1
  have h2 : fb_ct (fun k => if k = a then true else (sn.testBit k && ahd tr dg k a)) 8 ≤ fb_ct (fun o => sn.testBit o) 8 := fb_ct_sub (fun k hk hp => by
    by_cases e : k = a
    · subst e; exact hsa
    · rw [if_neg e] at hp
      simp only [Bool.and_eq_true] at hp
      exact hp.1)
  omega
theorem pl_onto {sn : Nat} {tr dg : Nat → Nat} {p : Nat} (hp : p < pc8 sn) : ∃ a, a < 8 ∧ sn.testBit a = true ∧ PLd sn tr dg a = p := by
  have hk : ∀ i, i < pc8 sn → ∃ a, a < 8 ∧ sn.testBit a = true ∧ fb_ct (fun k => sn.testBit k) a = i := fun i hi => fb_ct_kth hi
  let f : Nat → Nat := fun i => if h : i < pc8 sn then PLd sn tr dg (Classical.choose (hk i h)) else 0
  obtain ⟨i, hi, he⟩ := fb_onto (n := pc8 sn) (f := f) (fun i hi => by
      show (if h : i < pc8 sn then PLd sn tr dg (Classical.choose (hk i h)) else 0) < _
      rw [dif_pos hi]
      have := Classical.choose_spec (hk i hi)
      exact pl_sz this.1 this.2.1) (fun i j hij hj he => by
      have hi : i < pc8 sn := by omega
      change (if h : i < pc8 sn then PLd sn tr dg (Classical.choose (hk i h)) else 0) = (if h : j < pc8 sn then PLd sn tr dg (Classical.choose (hk j h)) else 0) at he
      rw [dif_pos hi, dif_pos hj] at he
      have h1 := Classical.choose_spec (hk i hi)
      have h2 := Classical.choose_spec (hk j hj)
      have := pl_inj h1.1 h2.1 h1.2.1 h2.2.1 he
      have e1 := h1.2.2
      have e2 := h2.2.2
      rw [this, e2] at e1
      omega) hp
  have hi2 := Classical.choose_spec (hk i hi)
  refine ⟨_, hi2.1, hi2.2.1, ?_⟩
  change (if h : i < pc8 sn then PLd sn tr dg (Classical.choose (hk i h)) else 0) = p at he
  rw [dif_pos hi] at he
  exact he
/-- the net at a place -/
def RKd (sn : Nat) (tr dg : Nat → Nat) (p : Nat) : Nat := fa_first (fun a => sn.testBit a && (PLd sn tr dg a == p)) 8
theorem rk_at {sn : Nat} {tr dg : Nat → Nat} {a : Nat} (ha : a < 8) (hsa : sn.testBit a = true) : RKd sn tr dg (PLd sn tr dg a) = a := by
  unfold RKd
  have h1 : fa_first (fun b => sn.testBit b && (PLd sn tr dg b == PLd sn tr dg a)) 8 ≤ a := by
    rcases Nat.lt_or_ge a (fa_first (fun b => sn.testBit b && (PLd sn tr dg b == PLd sn tr dg a)) 8) with h | h
    · have := fa_first_no _ 8 a h
      simp [hsa] at this
    · exact h
  have h2 := fa_first_yes (fun b => sn.testBit b && (PLd sn tr dg b == PLd sn tr dg a)) 8 (by omega)
  simp only [Bool.and_eq_true, beq_iff_eq] at h2
  exact pl_inj (by omega) ha h2.1 hsa h2.2
theorem rk_ok {sn : Nat} {tr dg : Nat → Nat} {p : Nat} (hp : p < pc8 sn) : RKd sn tr dg p < 8 ∧ sn.testBit (RKd sn tr dg p) = true ∧ PLd sn tr dg (RKd sn tr dg p) = p := by
  obtain ⟨a, h1, h2, h3⟩ := pl_onto (tr := tr) (dg := dg) hp
  rw [← h3, rk_at h1 h2]
  exact ⟨h1, h2, rfl⟩
def plI (sn : Nat) (tr dg : Nat → Nat) (a : Nat) : Int32 := if sn.testBit a then nI (PLd sn tr dg a) else -1
theorem pl_le {sn : Nat} {tr dg : Nat → Nat} {a : Nat} : PLd sn tr dg a ≤ 8 := fb_ct_le _ 8
theorem nI_ne_m1 {n : Nat} (h : n < 1000) : ¬ nI n = -1 := by
  intro e
  have := congrArg Int32.toInt e
  rw [nI_toInt (by omega)] at this
  have h2 : (-1 : Int32).toInt = -1 := by decide
  omega
set_option maxHeartbeats 1000000 in
/-- the class' places -/
theorem c_places {tr dg : Nat → Nat} {sn : Nat} {sg : Sg} (hs : sn < 256) (ht : ∀ k, tr k ≤ 8) (hd : ∀ k, dg k ≤ 8) (h12 : arr sg 12 8 tr) (h11 : arr sg 11 8 dg) (h8 : rd sg 8 5 = nI sn) : ∃ t, lpS (fun t => fX3_read_8_L13 t.1 t.2) 300 ((0 : Int32), sg) = some t ∧ (∀ a, a < 8 → rd t.2 16 a = plI sn tr dg a) ∧ (∀ p, p < pc8 sn → rd t.2 15 p = nI (RKd sn tr dg p)) ∧ same [15, 16] t.2 sg := by
  refine lpS_for (step := fun t => fX3_read_8_L13 t.1 t.2) (t0 := ((0 : Int32), sg)) 8
    (fun j t => t.1 = nI j ∧ (∀ a, a < j → rd t.2 16 a = plI sn tr dg a) ∧ (∀ a, a < j → sn.testBit a = true → rd t.2 15 (PLd sn tr dg a) = nI a) ∧ same [15, 16] t.2 sg)
    ⟨rfl, fun a ha => by omega, fun a ha => by omega, same.rf⟩
    (by
      rintro j ⟨a, g⟩ hj ⟨rfl, h1, h2, h3⟩
      simp only [fX3_read_8_L13]
      rw [if_neg (by rw [show (8 : Int32) = nI 8 from rfl, nI_leI (by decide) (by omega)]; omega), h3 8 (by simp) 5, h8, has0 (by omega) (by omega)]
      simp only [Option.bind_some, b2i_0]
      cases hb : sn.testBit j with
      | false =>
        have e : plI sn tr dg j = -1 := by simp [plI, hb]
        refine ⟨(nI j + 1, wr g 16 j (-1)), ?_, nI_1 j, fun a ha => ?_, fun a ha hsa => ?_, h3.wr (by simp)⟩
        · rw [if_pos rfl]
          simp (disch := omega) only [fX3_read_8_L13_J44, inb_nI, gd_t, lt_d, nI_clamp, fX3_read_8_L13_J67]
          rw [rd_wr_s, if_pos rfl]
        · rw [rd_wr]
          split
          · rename_i hz; rw [hz.2, e]
          · rename_i hz; exact h1 a (by have : a ≠ j := fun z => hz ⟨rfl, z⟩; omega)
        · rw [rd_wr, if_neg (by simp)]
          exact h2 a (by have : a ≠ j := fun z => by subst z; rw [hb] at hsa; cases hsa
                         omega) hsa
      | true =>
        have e : plI sn tr dg j = nI (PLd sn tr dg j) := by simp [plI, hb]
        have hpl := pl_sz (tr := tr) (dg := dg) hj hb
        have hpc := pc8_le sn
        rw [if_neg (by decide), c_countAhead hj hs ht hd (h3.arr (by simp) h12) (h3.arr (by simp) h11) ((h3 8 (by simp) 5).trans h8)]
        refine ⟨(nI j + 1, wr (wr g 16 j (nI (PLd sn tr dg j))) 15 (PLd sn tr dg j) (nI j)), ?_, nI_1 j, fun a ha => ?_, fun a ha hsa => ?_, (h3.wr (by simp)).wr (by simp)⟩
        · simp (disch := omega) only [Option.bind_some, fX3_read_8_L13_J44, inb_nI, gd_t, lt_d, nI_clamp, fX3_read_8_L13_J67]
          rw [rd_wr_s, if_neg (nI_ne_m1 (by omega))]
          simp (disch := omega) only [inb_nI, gd_t, nI_clamp]
        · rw [rd_wr, if_neg (by simp), rd_wr]
          split
          · rename_i hz; rw [hz.2, e]
          · rename_i hz; exact h1 a (by have : a ≠ j := fun z => hz ⟨rfl, z⟩; omega)
        · rw [rd_wr]
          split
          · rename_i hz; rw [pl_inj (by omega) hj hsa hb hz.2]
          · rename_i hz
            rw [rd_wr, if_neg (by simp)]
            exact h2 a (by have : a ≠ j := fun z => hz ⟨rfl, by rw [z]⟩; omega) hsa)
    (by
      rintro ⟨a, g⟩ ⟨rfl, h1, h2, h3⟩
      refine ⟨(nI 8, g), ?_, h1, fun p hp => ?_, h3⟩
      · simp only [fX3_read_8_L13]
        rw [if_pos (by decide)]
      · obtain ⟨k1, k2, k3⟩ := rk_ok (tr := tr) (dg := dg) hp
        have := h2 _ k1 k2
        rw [k3] at this
        exact this) (by decide)
set_option maxHeartbeats 1000000 in
/-- the reference's places -/
theorem m_ranks {lk ps : Nat → Nat} {sn : Nat} {sg : Sg} (hs : sn < 256) (hl : ∀ k, lk k < 256) (hp : ∀ k, ps k < 256) (h7 : arr sg 7 8 lk) (h8 : arr sg 8 8 ps) (h13 : rd sg 0 13 = nI sn) : ∃ g, fX8_layRanks sg = some g ∧ rd g 0 15 = nI (pc8 sn) ∧ (∀ a, a < 8 → rd g 10 a = plI sn (fun a => pc8 (ps a)) (fun a => pc8 (lk a)) a) ∧ (∀ p, p < pc8 sn → rd g 9 p = nI (RKd sn (fun a => pc8 (ps a)) (fun a => pc8 (lk a)) p)) ∧ sam [9, 10] [15] g sg := by
  unfold fX8_layRanks
  rw [h13, ones8 (by omega)]
  simp only [Option.bind_some, lt_d]
  generalize htr : (fun a => pc8 (ps a)) = tr
  generalize hdg : (fun a => pc8 (lk a)) = dg
  have ht : ∀ k, tr k ≤ 8 := fun k => by rw [← htr]; exact pc8_le _
  have hd : ∀ k, dg k ≤ 8 := fun k => by rw [← hdg]; exact pc8_le _
  have hwt : ∀ (g : Sg), sam [9, 10] [15] g sg → ∀ a, a < 8 → fX8_weightOf (nI a) g = some (nI (1000 * tr a + 10 * dg a + 7 - a)) := fun g hg a ha => by
    rw [← htr, ← hdg]
    exact m_weight (tr := tr) (dg := dg) ha hl hp (hg.arr (by simp) (by simp) h7) (hg.arr (by simp) (by simp) h8)
  obtain ⟨⟨a1, g1⟩, e1, q1, q2, q3⟩ := lpS_for (step := fun t => fX8_layRanks_L13 t.1 t.2) (t0 := ((0 : Int32), wr sg 0 15 (nI (pc8 sn)))) (Q := fun t => (∀ a, a < 8 → rd t.2 10 a = plI sn tr dg a) ∧ (∀ p, p < pc8 sn → rd t.2 9 p = nI (RKd sn tr dg p)) ∧ sam [9, 10] [] t.2 (wr sg 0 15 (nI (pc8 sn)))) 8
    (fun j t => t.1 = nI j ∧ (∀ a, a < j → rd t.2 10 a = plI sn tr dg a) ∧ (∀ a, a < j → sn.testBit a = true → rd t.2 9 (PLd sn tr dg a) = nI a) ∧ sam [9, 10] [] t.2 (wr sg 0 15 (nI (pc8 sn))))
    ⟨rfl, fun a ha => by omega, fun a ha => by omega, sam.rf⟩
    (by
      rintro j ⟨a, g⟩ hj ⟨rfl, h1, h2, h3⟩
      simp only [fX8_layRanks_L13]
      rw [if_neg (by rw [show (8 : Int32) = nI 8 from rfl, nI_leI (by decide) (by omega)]; omega)]
      simp (disch := omega) only [inb_nI, gd_t, lt_d, nI_clamp]
      have hg5 : sam [9, 10] [] (wr g 10 j (-1)) (wr sg 0 15 (nI (pc8 sn))) := h3.wr (by simp)
      have hg6 : sam [9, 10] [15] (wr g 10 j (-1)) sg := hg5.tr ((sam.rf (l := []) (sl := [15]) (sg := sg)).wr (q := 0) (i := 15) (v := nI (pc8 sn)) (by simp)) (by simp) (by simp) (by simp) (by simp)
      have hsn6 : rd (wr g 10 j (-1)) 0 13 = nI sn := (hg6 0 13 (by simp) (by simp)).trans h13
      have hlp := lpS_det (step := fun t => fX8_layRanks_L30 (nI j) (wr g 10 j (-1)) t.1 t.2) (u := (nI (PLd sn tr dg j), nI 8)) 8 (fun i => (nI (fb_ct (fun o => sn.testBit o && ahd tr dg o j) i), nI i)) (fun i hi => by
        simp only [fX8_layRanks_L30]
        rw [if_neg (by rw [show (8 : Int32) = nI 8 from rfl, nI_leI (by decide) (by omega)]; omega), hsn6, has8 (by omega) (by omega)]
        simp only [Option.bind_some, b2i_0, fb_ct_succ, fX8_layRanks_L30_J65, fX8_layRanks_L30_J66, hwt _ hg6 i hi, hwt _ hg6 j hj]
        have t1 := ht i
        have t2 := ht j
        have d1 := hd i
        have d2 := hd j
        have hah : (nI (1000 * tr i + 10 * dg i + 7 - i) ≤ nI (1000 * tr j + 10 * dg j + 7 - j)) ↔ ahd tr dg i j = false := by
          rw [nI_leI (by omega) (by omega)]; exact wt_ahd (tr := tr) (dg := dg) hi hj ht hd
        cases hb : sn.testBit i with
        | false => simp [nI_1]
        | true =>
          cases hc : ahd tr dg i j with
          | false => rw [if_neg (by decide), if_pos (hah.mpr hc)]; simp [nI_1]
          | true => rw [if_neg (by decide), if_neg (fun z => by rw [hah.mp z] at hc; cases hc)]; simp [nI_1]) (by
        simp only [fX8_layRanks_L30]
        rw [if_pos (by decide)]
        rfl) (by decide)
      rw [show ((0 : Int32), (0 : Int32)) = (nI (fb_ct (fun o => sn.testBit o && ahd tr dg o j) 0), nI 0) from rfl, hlp]
      simp only [Option.bind_some, fX8_layRanks_L13_E74]
      rw [hsn6, has8 (by omega) (by omega)]
      simp only [Option.bind_some, b2i_0]
      cases hb : sn.testBit j with
      | false =>
        have e : plI sn tr dg j = -1 := by simp [plI, hb]
        refine ⟨(nI j + 1, wr g 10 j (-1)), by rw [if_pos rfl]; rfl, nI_1 j, fun a ha => ?_, fun a ha hsa => ?_, hg5⟩
        · rw [rd_wr]
          split
          · rename_i hz; rw [hz.2, e]
          · rename_i hz; exact h1 a (by have : a ≠ j := fun z => hz ⟨rfl, z⟩; omega)
        · rw [rd_wr, if_neg (by simp)]
          exact h2 a (by have : a ≠ j := fun z => by subst z; rw [hb] at hsa; cases hsa
                         omega) hsa
      | true =>
        have e : plI sn tr dg j = nI (PLd sn tr dg j) := by simp [plI, hb]
        have hpl := pl_sz (tr := tr) (dg := dg) hj hb
        have hpc := pc8_le sn
        refine ⟨(nI j + 1, wr (wr (wr g 10 j (-1)) 10 j (nI (PLd sn tr dg j))) 9 (PLd sn tr dg j) (nI j)), ?_, nI_1 j, fun a ha => ?_, fun a ha hsa => ?_, (hg5.wr (by simp)).wr (by simp)⟩
        · rw [if_neg (by decide)]
          simp (disch := omega) only [inb_nI, gd_t, lt_d, nI_clamp, fX8_layRanks_L13_J99]
        · rw [rd_wr, if_neg (by simp), rd_wr]
          split
          · rename_i hz; rw [hz.2, e]
          · rename_i hz
            rw [rd_wr, if_neg hz]
            exact h1 a (by have : a ≠ j := fun z => hz ⟨rfl, z⟩; omega)
        · rw [rd_wr]
          split
          · rename_i hz; rw [pl_inj (by omega) hj hsa hb hz.2]
          · rename_i hz
            rw [rd_wr, if_neg (by simp), rd_wr, if_neg (by simp)]
            exact h2 a (by have : a ≠ j := fun z => hz ⟨rfl, by rw [z]⟩; omega) hsa)
    (by
      rintro ⟨a, g⟩ ⟨rfl, h1, h2, h3⟩
      refine ⟨(nI 8, g), ?_, h1, fun p hp => ?_, h3⟩
      · simp only [fX8_layRanks_L13]
        rw [if_pos (by decide)]
      · obtain ⟨k1, k2, k3⟩ := rk_ok (tr := tr) (dg := dg) hp
        have := h2 _ k1 k2
        rw [k3] at this
        exact this) (by decide)
  rw [e1]
  refine ⟨g1, rfl, ?_, q1, q2, q3.tr ((sam.rf (l := []) (sl := [15]) (sg := sg)).wr (q := 0) (i := 15) (v := nI (pc8 sn)) (by simp)) (by simp) (by simp) (by simp) (by simp)⟩
  rw [q3 0 15 (by simp) (by simp), rd_wr, if_pos ⟨rfl, rfl⟩]
