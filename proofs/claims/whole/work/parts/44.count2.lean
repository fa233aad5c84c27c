/-! the number of links; ways with a valley; count -/
theorem ct_sm (p : Nat → Bool) : ∀ n, fb_ct p n = fb_sm (fun k => if p k then 1 else 0) n
  | 0 => rfl
  | n + 1 => by rw [fb_ct_succ, fb_sm_succ, ct_sm p n]
theorem sm_dbl (e : Nat → Nat → Nat) (hs : ∀ a b, e a b = e b a) (h0 : ∀ a, e a a = 0) : ∀ n, fb_sm (fun a => fb_sm (e a) n) n = 2 * fb_sm (fun a => fb_sm (fun b => if a < b then e a b else 0) n) n
  | 0 => rfl
  | n + 1 => by
    have ih := sm_dbl e hs h0 n
    have l1 : fb_sm (fun a => fb_sm (e a) (n + 1)) n = fb_sm (fun a => fb_sm (e a) n) n + fb_sm (fun a => e a n) n := fb_sm_add _ _ n
    have l2 : fb_sm (e n) n = fb_sm (fun a => e a n) n := fb_sm_cong (fun k _ => hs n k)
    have r1 : fb_sm (fun a => fb_sm (fun b => if a < b then e a b else 0) (n + 1)) n = fb_sm (fun a => fb_sm (fun b => if a < b then e a b else 0) n) n + fb_sm (fun a => if a < n then e a n else 0) n := fb_sm_add _ _ n
    have r2 : fb_sm (fun a => if a < n then e a n else 0) n = fb_sm (fun a => e a n) n := fb_sm_cong (fun k hk => if_pos hk)
    have r3 : fb_sm (fun b => if n < b then e n b else 0) (n + 1) = 0 := by
      have : fb_sm (fun b => if n < b then e n b else 0) (n + 1) = fb_sm (fun _ => 0) (n + 1) := fb_sm_cong (fun k hk => if_neg (by omega))
      rw [this, fb_sm_const, Nat.mul_zero]
    rw [fb_sm_succ, fb_sm_succ (fun a => fb_sm (fun b => if a < b then e a b else 0) (n + 1)), l1, r1, r2, r3, fb_sm_succ (e n), l2, h0 n, ih]
    omega
theorem ct_rows (P : Nat → Bool) : ∀ a, fb_ct P (8 * a) = fb_sm (fun a => fb_ct (fun b => P (8 * a + b)) 8) a
  | 0 => rfl
  | a + 1 => by rw [show 8 * (a + 1) = 8 * a + 8 by omega, fb_ct_split, fb_sm_succ, ct_rows P a]
theorem hands {lk : Nat → Nat} {sn : Nat} (hg : gdL lk sn) {N : Nat} (hN : N = 64) : fb_sm (fun a => pc8 (lk a)) 8 = 2 * fb_ct (upB fun k => (lk (k / 8)).testBit (k % 8)) N := by
  have h := sm_dbl (fun a b => if (lk a).testBit b then 1 else 0) (fun a b => by rw [hg.2.1 a b]) (fun a => by rw [hg.2.2.1 a]; rfl) 8
  have e1 : fb_sm (fun a => pc8 (lk a)) 8 = fb_sm (fun a => fb_sm (fun b => if (lk a).testBit b then 1 else 0) 8) 8 := fb_sm_cong (fun a _ => ct_sm _ 8)
  have e2 : fb_ct (upB fun k => (lk (k / 8)).testBit (k % 8)) N = fb_sm (fun a => fb_sm (fun b => if a < b then (if (lk a).testBit b then 1 else 0) else 0) 8) 8 := by
    have := ct_rows (upB fun k => (lk (k / 8)).testBit (k % 8)) 8
    rw [hN]
    refine this.trans (fb_sm_cong (fun a _ => ?_))
    rw [ct_sm]
    refine fb_sm_cong (fun b hb => ?_)
    unfold upB
    have q1 : (8 * a + b) / 8 = a := by omega
    have q2 : (8 * a + b) % 8 = b := by omega
    simp only [q1, q2]
    by_cases c : a < b
    · simp only [c, decide_true, Bool.true_and, if_true]
    · simp [c]
  rw [e1, e2]
  exact h
theorem half : ∀ x, x < 65 → nI (2 * x) / (2 : Int32) = nI x := by decide +kernel
theorem c_total {lk : Nat → Nat} {sn : Nat} {sg : Sg} (hg : gdL lk sn) {N : Nat} (hN : N = 64) (h11 : arr sg 11 8 (fun a => pc8 (lk a))) : fX1_total sg = some (nI (fb_ct (upB fun k => (lk (k / 8)).testBit (k % 8)) N)) := by
  have h := lpS_det (step := fun t => fX1_total_L4 sg t.1 t.2) (u := (nI (fb_sm (fun a => pc8 (lk a)) 8), nI 8)) 8 (fun j => (nI (fb_sm (fun a => pc8 (lk a)) j), nI j)) (fun j hj => by
    simp only [fX1_total_L4]
    rw [if_neg (by rw [l8, nI_leI (by decide) (by omega)]; omega)]
    simp (disch := omega) only [inb_nI, gd_t, nI_clamp, lt_d]
    rw [h11 j hj, fb_sm_succ, nI_add, nI_1]) (by
    simp only [fX1_total_L4]
    rw [if_pos (by decide)]) (by decide)
  unfold fX1_total
  have h0 : ((0 : Int32), (0 : Int32)) = (nI (fb_sm (fun a => pc8 (lk a)) 0), nI 0) := rfl
  rw [h0, h, Option.bind_some]
  unfold fX1_total_E25
  have hle := fb_ct_le (upB fun k => (lk (k / 8)).testBit (k % 8)) N
  show some (nI (fb_sm (fun a => pc8 (lk a)) 8) / (2 : Int32)) = _
  rw [hands hg hN, half _ (by omega)]
section QK
variable {n W ex : Nat} {len : Nat → Nat} {net : Nat → Nat → Nat} {p t : Nat → Nat} {c m : Sg}
def vyB (W ex : Nat) (len : Nat → Nat) (net : Nat → Nat → Nat) (w : Nat) : Bool := !(decide (vlI (sNM W ex len net) (BNd ex len net w) (BLd ex len net w) = -1))
theorem c_withValley (h : LD n W ex len net p t c m) : fX7_waysWithValley c = some (nI (fb_ct (vyB W ex len net) W)) := by
  have hO := h.1.2.1.1
  have hW12 := hO.1
  have hWc := h.1.2.1.2.1.1
  have h0 := lpS_det (step := fun t => fX7_waysWithValley_L4 c t.1 t.2) (u := (nI (fb_ct (vyB W ex len net) W), nI W)) W (fun j => (nI (fb_ct (vyB W ex len net) j), nI j)) (fun j hj => by
    simp only [fX7_waysWithValley_L4, fX7_waysWithValley_L4_J49]
    rw [hWc, if_neg (by rw [nI_leI (by omega) (by omega)]; omega)]
    simp (disch := omega) only [inb_nI, gd_t, nI_clamp]
    rw [(h.1.2.2.2.1 j hj).1, show nI j * (6 : Int32) = nI (j * 6) from nI_mul j 6, sV h hj, Option.bind_some, fb_ct_succ, nI_1]
    unfold vyB
    by_cases z : vlI (sNM W ex len net) (BNd ex len net j) (BLd ex len net j) = -1
    · rw [if_pos z, if_neg (by simp [z])]; rfl
    · rw [if_neg z, if_pos (by simp [z]), nI_1]) (by
    simp only [fX7_waysWithValley_L4]
    rw [hWc, if_pos (by rw [nI_leI (by omega) (by omega)]; omega)]) (by omega)
  unfold fX7_waysWithValley
  have e0 : ((0 : Int32), (0 : Int32)) = (nI (fb_ct (vyB W ex len net) 0), nI 0) := rfl
  rw [e0, h0]
  rfl
theorem m_withValley (h : LD n W ex len net p t c m) : ∃ g, fX8_withValley m = some (nI (fb_ct (vyB W ex len net) W), g) ∧ sam [14, 15] [22] g m ∧ g.2 = m.2 := by
  have hO := h.1.2.1.1
  have hW12 := hO.1
  obtain ⟨⟨x, y, g⟩, e1, p1, p2, p3⟩ := lpS_for (step := fun t => fX8_withValley_L4 t.1 t.2.1 t.2.2) (t0 := ((0 : Int32), (0 : Int32), m)) (Q := fun t => t.1 = nI (fb_ct (vyB W ex len net) W) ∧ sam [14, 15] [22] t.2.2 m ∧ t.2.2.2 = m.2) W
    (fun j t => t.1 = nI (fb_ct (vyB W ex len net) j) ∧ t.2.1 = nI j ∧ sam [14, 15] [22] t.2.2 m ∧ t.2.2.2 = m.2) ⟨rfl, rfl, sam.rf, rfl⟩
    (by
      rintro j ⟨x, y, u⟩ hj ⟨rfl, rfl, q1, q2⟩
      have hu := h.of q1
      obtain ⟨g, v1, v2, v3⟩ := mV hu hj
      have v2' : sam [14, 15] [22] g u := fun q i hq hi => v2 q i (fun z => hq (by simp at z; simp [z])) hi
      refine ⟨(nI (fb_ct (vyB W ex len net) (j + 1)), nI (j + 1), g), ?_, rfl, rfl, v2'.tr q1 (by simp) (by simp) (by simp) (by simp), v3.trans q2⟩
      simp only [fX8_withValley_L4, fX8_withValley_L4_J27]
      rw [hu.1.2.1.2.2.1.1, if_neg (by rw [nI_leI (by omega) (by omega)]; omega), v1, Option.bind_some, ltP_m, fb_ct_succ]
      unfold vyB
      by_cases z : vlI (sNM W ex len net) (BNd ex len net j) (BLd ex len net j) = -1
      · rw [if_pos z, if_neg (by simp [z]), l0, nI_add, nI_1]
      · rw [if_neg z, if_pos (by simp [z]), nI_1, nI_1])
    (by
      rintro ⟨x, y, u⟩ ⟨rfl, rfl, q1, q2⟩
      refine ⟨(nI (fb_ct (vyB W ex len net) W), nI W, u), ?_, rfl, q1, q2⟩
      simp only [fX8_withValley_L4]
      rw [(h.of q1).1.2.1.2.2.1.1, if_pos (by rw [nI_leI (by omega) (by omega)]; omega)]) (by omega)
  refine ⟨g, ?_, p2, p3⟩
  unfold fX8_withValley
  rw [e1, Option.bind_some]
  unfold fX8_withValley_E35
  rw [show x = _ from p1]
theorem m_links (h : LD n W ex len net p t c m) {w N : Nat} (hN : N = 64) (hw : w = 1 ∨ w = 2 ∨ w = 3 ∨ w = 4 ∨ w = 5 ∨ w = 7 ∨ w = 8) : fX8_linksOf (nI w) m = some (nI (fb_ct (lkB w (nmk (sNM W ex len net)) t (lsV (sVT W ex len net))) N)) := by
  have hO := h.1.2.1.1
  have hv := s_vt (ex := ex) hO
  have x10 := h.2.2.2.2.2.2.2.2.2.2.2.1
  have x11 := h.2.2.2.2.2.2.2.2.2.2.2.2
  have ht := h.1.2.2.1.1
  exact m_linksOf hN hw (fun k => s_nm _ _) (fun k hk => (ht k hk).1) (ls_le hv) (fun k hk => by
    have := x11 (k / 8) (k % 8) (by omega) (by omega)
    rwa [show 8 * (k / 8) + k % 8 = k by omega] at this) (fun k hk => (ht k hk).2.2) (fun k hk => m_lesser hv x10 hk)
theorem nm_lk {a b : Nat} : 0 < sNM W ex len net a b ↔ (sLK W ex len net a).testBit b = true := by
  unfold sNM nmD
  cases (sLK W ex len net a).testBit b with
  | false => simp
  | true => simp [nm4_le]; exact nm4_le.1
theorem q_cnt (h : LD n W ex len net p t c m) {w : Nat} (hw : w = 1 ∨ w = 2 ∨ w = 3 ∨ w = 4 ∨ w = 5 ∨ w = 7 ∨ w = 8) : ∃ r, fX7_count (nI w) c = some r ∧ fX8_linksOf (nI w) m = some r := by
  have hO := h.1.2.1.1
  have hv := s_vt (ex := ex) hO
  have hsv := s_vl (ex := ex) hO
  obtain ⟨d1, d2, d3, d4, d5, d6, d7, d8, d9, d10, d11, d12, d13, d14⟩ := h.1.2.2.2
  have ht := h.1.2.2.1.1
  obtain ⟨N, hN⟩ : ∃ N, N = 64 := ⟨64, rfl⟩
  refine ⟨_, ?_, m_links h hN hw⟩
  unfold fX7_count
  rcases hw with rfl | rfl | rfl | rfl | rfl | rfl | rfl
  · rw [if_neg (show ¬ nI 1 = 0 by decide), if_pos (show nI 1 = 1 from rfl), c_total (s_gd (ex := ex) hO) hN d5, Option.bind_some]
    refine congrArg (fun z => some (nI z)) (fb_ct_cong (fun k _ => ?_))
    unfold upB lkB lkC nmk
    rw [if_pos rfl]
    congr 1
    rw [Bool.and_true, Bool.eq_iff_iff, decide_eq_true_eq, nm_lk]
  · rw [if_neg (show ¬ nI 2 = 0 by decide), if_neg (show ¬ nI 2 = 1 by decide), if_pos (show nI 2 = 2 from rfl), show (1 : Int32) = nI 1 from rfl, show (2 : Int32) = nI 2 from rfl, c_named hN (by decide) s_nm d12, c_named hN (by decide) s_nm d12, Option.bind_some, Option.bind_some, nI_add, ← fb_ct_or (fun k _ => by
      unfold upB
      simp only [Bool.and_eq_true, decide_eq_true_eq]; omega)]
    refine congrArg (fun z => some (nI z)) (fb_ct_cong (fun k _ => ?_))
    unfold upB lkB lkC
    rw [if_neg (by decide), if_pos rfl, ← Bool.and_or_distrib_left]
    congr 1
    rw [Bool.eq_iff_iff]
    simp only [Bool.and_eq_true, Bool.or_eq_true, decide_eq_true_eq]; omega
  · rw [if_neg (show ¬ nI 3 = 0 by decide), if_neg (show ¬ nI 3 = 1 by decide), if_neg (show ¬ nI 3 = 2 by decide), if_pos (show nI 3 = 3 from rfl), show (3 : Int32) = nI 3 from rfl, c_named hN (by decide) s_nm d12, Option.bind_some]
    refine congrArg (fun z => some (nI z)) (fb_ct_cong (fun k _ => ?_))
    unfold upB lkB lkC
    rw [if_neg (by decide), if_neg (by decide), if_pos rfl]
    congr 1
    rw [Bool.eq_iff_iff]
    simp only [Bool.and_eq_true, decide_eq_true_eq]; omega
  · rw [if_neg (show ¬ nI 4 = 0 by decide), if_neg (show ¬ nI 4 = 1 by decide), if_neg (show ¬ nI 4 = 2 by decide), if_neg (show ¬ nI 4 = 3 by decide), if_pos (show nI 4 = 4 from rfl), show (4 : Int32) = nI 4 from rfl, c_named hN (by decide) s_nm d12, Option.bind_some]
    refine congrArg (fun z => some (nI z)) (fb_ct_cong (fun k _ => ?_))
    unfold upB lkB lkC
    rw [if_neg (by decide), if_neg (by decide), if_neg (by decide), if_pos rfl]
    congr 1
    rw [Bool.eq_iff_iff]
    simp only [Bool.and_eq_true, decide_eq_true_eq]; omega
  · rw [if_neg (show ¬ nI 5 = 0 by decide), if_neg (show ¬ nI 5 = 1 by decide), if_neg (show ¬ nI 5 = 2 by decide), if_neg (show ¬ nI 5 = 3 by decide), if_neg (show ¬ nI 5 = 4 by decide), if_pos (show nI 5 = 5 from rfl), c_contra hN hv d11, Option.bind_some]
    refine congrArg (fun z => some (nI z)) (fb_ct_cong (fun k hk => ?_))
    unfold upB lkB lkC
    rw [if_neg (by decide), if_neg (by decide), if_neg (by decide), if_neg (by decide), if_pos rfl]
    by_cases u : k / 8 < k % 8
    · congr 1
      rw [Bool.eq_iff_iff]
      simp only [Bool.and_eq_true, decide_eq_true_eq]
      refine ⟨fun z => ⟨?_, z⟩, fun z => z.2⟩
      unfold nmk
      rw [nm_lk]
      refine hsv _ _ (by omega) (by omega) ?_
      unfold lsV at z
      rw [if_pos u] at z
      rw [show 8 * (k / 8) + k % 8 = k by omega]
      omega
    · simp [u]
  · rw [if_neg (show ¬ nI 7 = 0 by decide), if_neg (show ¬ nI 7 = 1 by decide), if_neg (show ¬ nI 7 = 2 by decide), if_neg (show ¬ nI 7 = 3 by decide), if_neg (show ¬ nI 7 = 4 by decide), if_neg (show ¬ nI 7 = 5 by decide), if_neg (show ¬ nI 7 = 6 by decide), if_pos (show nI 7 = 7 from rfl), show (1 : Int32) = b2i true from rfl, c_told true hN s_nm (fun k hk => (ht k hk).1) d12 (fun k hk => (ht k hk).2.1), Option.bind_some]
    refine congrArg (fun z => some (nI z)) (fb_ct_cong (fun k hk => ?_))
    unfold upB lkB lkC
    rw [if_neg (by decide), if_neg (by decide), if_neg (by decide), if_neg (by decide), if_neg (by decide), if_pos rfl]
    congr 1
    rw [Bool.eq_iff_iff]
    simp only [Bool.and_eq_true, Bool.not_eq_true', decide_eq_true_eq, decide_eq_false_iff_not, beq_true]
    omega
  · rw [if_neg (show ¬ nI 8 = 0 by decide), if_neg (show ¬ nI 8 = 1 by decide), if_neg (show ¬ nI 8 = 2 by decide), if_neg (show ¬ nI 8 = 3 by decide), if_neg (show ¬ nI 8 = 4 by decide), if_neg (show ¬ nI 8 = 5 by decide), if_neg (show ¬ nI 8 = 6 by decide), if_neg (show ¬ nI 8 = 7 by decide), if_pos (show nI 8 = 8 from rfl), show (0 : Int32) = b2i false from rfl, c_told false hN s_nm (fun k hk => (ht k hk).1) d12 (fun k hk => (ht k hk).2.1), Option.bind_some]
    refine congrArg (fun z => some (nI z)) (fb_ct_cong (fun k hk => ?_))
    unfold upB lkB lkC
    rw [if_neg (by decide), if_neg (by decide), if_neg (by decide), if_neg (by decide), if_neg (by decide), if_neg (by decide)]
    congr 1
    rw [Bool.eq_iff_iff]
    simp only [Bool.and_eq_true, Bool.not_eq_true', decide_eq_true_eq, decide_eq_false_iff_not, beq_false]
    omega
theorem q_count (h : LD n W ex len net p t c m) (a : Int32) : qe (fX7_count a c) (fX8_howMany a) m := by
  have hWc := h.1.2.1.2.1.1
  have hWm := h.1.2.1.2.2.1.1
  have hexc := h.1.2.1.2.2.2.2.1
  have hexm := h.1.2.1.2.2.2.2.2
  have hrd := h.1.2.2.1.2
  have hpc := h.1.1.2.1
  have hpm := h.1.1.2.2.1
  by_cases h0 : a = 0
  · subst h0
    refine qe_same (r := nI W) ?_ ?_
    · unfold fX7_count
      rw [if_pos rfl, hWc]
    · unfold fX8_howMany
      rw [ld_lay h, Option.bind_some, if_pos rfl, hWm]
  by_cases h6 : a = 6
  · subst h6
    obtain ⟨g, e1, e2, e3⟩ := m_withValley h
    refine ⟨nI (fb_ct (vyB W ex len net) W), g, ?_, ?_, e2, e3⟩
    · unfold fX7_count
      rw [if_neg (by decide), if_neg (by decide), if_neg (by decide), if_neg (by decide), if_neg (by decide), if_neg (by decide), if_pos rfl, c_withValley h, Option.bind_some]
    · unfold fX8_howMany
      rw [ld_lay h, Option.bind_some, if_neg (by decide), if_neg (by decide), if_neg (by decide), if_neg (by decide), if_neg (by decide), if_neg (by decide), if_pos rfl, e1, Option.bind_some, ltP_m]
  by_cases h9 : a = 9
  · subst h9
    refine qe_same (r := nI n) ?_ ?_
    · unfold fX7_count
      rw [if_neg (by decide), if_neg (by decide), if_neg (by decide), if_neg (by decide), if_neg (by decide), if_neg (by decide), if_neg (by decide), if_neg (by decide), if_neg (by decide), if_pos rfl, hpc]
    · unfold fX8_howMany
      rw [ld_lay h, Option.bind_some, if_neg (by decide), if_neg (by decide), if_neg (by decide), if_neg (by decide), if_neg (by decide), if_neg (by decide), if_neg (by decide), if_neg (by decide), if_neg (by decide), if_pos rfl, hpm]
  by_cases h10 : a = 10
  · subst h10
    refine qe_same (r := nI ex) ?_ ?_
    · unfold fX7_count
      rw [if_neg (by decide), if_neg (by decide), if_neg (by decide), if_neg (by decide), if_neg (by decide), if_neg (by decide), if_neg (by decide), if_neg (by decide), if_neg (by decide), if_neg (by decide), if_pos rfl, hexc]
    · unfold fX8_howMany
      rw [ld_lay h, Option.bind_some, if_neg (by decide), if_neg (by decide), if_neg (by decide), if_neg (by decide), if_neg (by decide), if_neg (by decide), if_neg (by decide), if_neg (by decide), if_neg (by decide), if_neg (by decide), if_pos rfl, hexm]
  by_cases h11 : a = 11
  · subst h11
    refine qe_same (r := rd m 0 7) ?_ ?_
    · unfold fX7_count
      rw [if_neg (by decide), if_neg (by decide), if_neg (by decide), if_neg (by decide), if_neg (by decide), if_neg (by decide), if_neg (by decide), if_neg (by decide), if_neg (by decide), if_neg (by decide), if_neg (by decide), if_pos rfl, hrd]
    · unfold fX8_howMany
      rw [ld_lay h, Option.bind_some, if_neg (by decide), if_neg (by decide), if_neg (by decide), if_neg (by decide), if_neg (by decide), if_neg (by decide), if_neg (by decide), if_neg (by decide), if_neg (by decide), if_neg (by decide), if_neg (by decide), if_pos rfl]
  by_cases hs : a = 1 ∨ a = 2 ∨ a = 3 ∨ a = 4 ∨ a = 5 ∨ a = 7 ∨ a = 8
  · obtain ⟨w, hw, rfl⟩ : ∃ w, (w = 1 ∨ w = 2 ∨ w = 3 ∨ w = 4 ∨ w = 5 ∨ w = 7 ∨ w = 8) ∧ a = nI w := by
      rcases hs with rfl | rfl | rfl | rfl | rfl | rfl | rfl
      · exact ⟨1, by simp, rfl⟩
      · exact ⟨2, by simp, rfl⟩
      · exact ⟨3, by simp, rfl⟩
      · exact ⟨4, by simp, rfl⟩
      · exact ⟨5, by simp, rfl⟩
      · exact ⟨7, by simp, rfl⟩
      · exact ⟨8, by simp, rfl⟩
    obtain ⟨r, e1, e2⟩ := q_cnt h hw
    refine qe_same e1 ?_
    unfold fX8_howMany fX8_howMany_J114
    rw [ld_lay h, Option.bind_some, m_within, e2]
    rcases hw with rfl | rfl | rfl | rfl | rfl | rfl | rfl <;> rfl
  · refine qe_same (r := -1002) ?_ ?_
    · unfold fX7_count
      rw [if_neg h0, if_neg (fun z => hs (by simp [z])), if_neg (fun z => hs (by simp [z])), if_neg (fun z => hs (by simp [z])), if_neg (fun z => hs (by simp [z])), if_neg (fun z => hs (by simp [z])), if_neg h6, if_neg (fun z => hs (by simp [z])), if_neg (fun z => hs (by simp [z])), if_neg h9, if_neg h10, if_neg h11]
    · unfold fX8_howMany fX8_howMany_J114
      have hwn : (!(decide (a < 1)) && !(decide ((8 : Int32) < a))) = false := by
        cases hz : (!(decide (a < 1)) && !(decide ((8 : Int32) < a))) with
        | false => rfl
        | true =>
          exfalso
          simp only [Bool.and_eq_true, Bool.not_eq_true', decide_eq_false_iff_not] at hz
          have z1 : ¬ a < 0 := fun y => hz.1 (by rw [fa_lt] at y ⊢; have : (1 : Int32).toInt = 1 := rfl; have : (0 : Int32).toInt = 0 := rfl; omega)
          obtain ⟨j, j1, rfl⟩ := nI_of z1
          have a1 : ¬ j < 1 := fun y => hz.1 ((nI_ltI (b := 1) j1 (by decide)).mpr y)
          have a8 : ¬ 8 < j := fun y => hz.2 ((nI_ltI (a := 8) (by decide) j1).mpr y)
          rcases (show j = 1 ∨ j = 2 ∨ j = 3 ∨ j = 4 ∨ j = 5 ∨ j = 6 ∨ j = 7 ∨ j = 8 by omega) with rfl | rfl | rfl | rfl | rfl | rfl | rfl | rfl
          · exact hs (by decide)
          · exact hs (by decide)
          · exact hs (by decide)
          · exact hs (by decide)
          · exact hs (by decide)
          · exact h6 rfl
          · exact hs (by decide)
          · exact hs (by decide)
      rw [ld_lay h, Option.bind_some, m_within, hwn, if_neg h0, if_neg (fun z => hs (by simp [z])), if_neg (fun z => hs (by simp [z])), if_neg (fun z => hs (by simp [z])), if_neg (fun z => hs (by simp [z])), if_neg (fun z => hs (by simp [z])), if_neg h6, if_neg (fun z => hs (by simp [z])), if_neg (fun z => hs (by simp [z])), if_neg h9, if_neg h10, if_neg h11]
      rfl
end QK
