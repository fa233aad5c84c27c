/-! the questions, as they are put -/
section NW
variable {m m1 : Sg}
theorem now_net (hl : fX8_lay m = some m1) (h1 : fX8_lay m1 = some m1) (a b : Int32) : fX8_netNow a b m = fX8_netNow a b m1 := by unfold fX8_netNow; rw [hl, h1]
theorem now_rank (hl : fX8_lay m = some m1) (h1 : fX8_lay m1 = some m1) (a : Int32) : fX8_rankNow a m = fX8_rankNow a m1 := by unfold fX8_rankNow; rw [hl, h1]
theorem now_top (hl : fX8_lay m = some m1) (h1 : fX8_lay m1 = some m1) : fX8_topNow m = fX8_topNow m1 := by unfold fX8_topNow; rw [hl, h1]
theorem now_link (hl : fX8_lay m = some m1) (h1 : fX8_lay m1 = some m1) (a b k : Int32) : fX8_linkNow a b k m = fX8_linkNow a b k m1 := by unfold fX8_linkNow; rw [hl, h1]
theorem now_con (hl : fX8_lay m = some m1) (h1 : fX8_lay m1 = some m1) (a : Int32) : fX8_contradictedNow a m = fX8_contradictedNow a m1 := by unfold fX8_contradictedNow; rw [hl, h1]
theorem now_seen (hl : fX8_lay m = some m1) (h1 : fX8_lay m1 = some m1) (a b : Int32) : fX8_seenNow a b m = fX8_seenNow a b m1 := by unfold fX8_seenNow; rw [hl, h1]
theorem now_near (hl : fX8_lay m = some m1) (h1 : fX8_lay m1 = some m1) (a b k : Int32) : fX8_nearNow a b k m = fX8_nearNow a b k m1 := by unfold fX8_nearNow; rw [hl, h1]
theorem now_many (hl : fX8_lay m = some m1) (h1 : fX8_lay m1 = some m1) (a : Int32) : fX8_howMany a m = fX8_howMany a m1 := by unfold fX8_howMany; rw [hl, h1]
end NW
theorem small_no {v : Int32} {hi : Nat} (hh : hi < 1000) (h : (!(decide (v < 0)) && !(decide (nI hi < v))) = false) : ∀ j, j ≤ hi → ¬ v = nI j := by
  rintro j hj rfl
  have z1 : ¬ nI j < 0 := nI_pos (by omega)
  have z2 : ¬ nI hi < nI j := by rw [nI_ltI (by omega) (by omega)]; omega
  simp [z1, z2] at h
theorem sim_top {c m : Sg} (h : Rel c m) : ∃ (r : Int32) (m2 : Sg), fX7_top c = some r ∧ fX8_top m = some (r, m2) ∧ Rel c m2 := by
  obtain ⟨n, W, ex, len, net, p, t, m1, hl, hD⟩ := rel_lay h
  obtain ⟨r, m2, e1, e2, e3, -⟩ := q_top hD
  refine ⟨r, m2, e1, ?_, (hD.of e3).rel⟩
  unfold fX8_top
  rw [now_top hl (ld_lay hD), e2, Option.bind_some, ltP_m]
theorem sim_rank (a : Int32) {c m : Sg} (h : Rel c m) : ∃ (r : Int32) (m2 : Sg), fX7_rank a c = some r ∧ fX8_rank a m = some (r, m2) ∧ Rel c m2 := by
  obtain ⟨n, W, ex, len, net, p, t, m1, hl, hD⟩ := rel_lay h
  obtain ⟨r, m2, e1, e2, e3, -⟩ := q_rank hD a
  refine ⟨r, m2, e1, ?_, (hD.of e3).rel⟩
  unfold fX8_rank
  rw [now_rank hl (ld_lay hD), e2, Option.bind_some, ltP_m]
theorem sim_con (a : Int32) {c m : Sg} (h : Rel c m) : ∃ (r : Int32) (m2 : Sg), fX7_contradicted a c = some r ∧ fX8_contradicted a m = some (r, m2) ∧ Rel c m2 := by
  obtain ⟨n, W, ex, len, net, p, t, m1, hl, hD⟩ := rel_lay h
  obtain ⟨r, m2, e1, e2, e3, -⟩ := q_con hD a
  refine ⟨r, m2, e1, ?_, (hD.of e3).rel⟩
  unfold fX8_contradicted
  rw [now_con hl (ld_lay hD), e2, Option.bind_some, ltP_m]
theorem sim_count (a : Int32) {c m : Sg} (h : Rel c m) : ∃ (r : Int32) (m2 : Sg), fX7_count a c = some r ∧ fX8_count a m = some (r, m2) ∧ Rel c m2 := by
  obtain ⟨n, W, ex, len, net, p, t, m1, hl, hD⟩ := rel_lay h
  obtain ⟨r, m2, e1, e2, e3, -⟩ := q_count hD a
  refine ⟨r, m2, e1, ?_, (hD.of e3).rel⟩
  unfold fX8_count
  rw [now_many hl (ld_lay hD), e2, Option.bind_some, ltP_m]
theorem sim_net (a b : Int32) {c m : Sg} (h : Rel c m) : ∃ (r : Int32) (m2 : Sg), fX7_net a b c = some r ∧ fX8_net a b m = some (r, m2) ∧ Rel c m2 := by
  cases ha : isN a with
  | false =>
    refine ⟨-1001, m, ?_, ?_, h⟩
    · unfold fX7_net
      rw [c_isNet, ha]; rfl
    · unfold fX8_net
      rw [m_isNet, ha]; rfl
  | true =>
    cases hb : (!(decide (b < 0)) && !(decide ((5 : Int32) < b))) with
    | false =>
      have hno := small_no (hi := 5) (by decide) hb
      refine ⟨-1002, m, ?_, ?_, h⟩
      · unfold fX7_net
        rw [c_isNet, ha, Option.bind_some, if_neg (show ¬ b2i true = 0 by decide), if_neg (show ¬ b = 0 from hno 0 (by decide)), if_neg (show ¬ b = 1 from hno 1 (by decide)), if_neg (show ¬ b = 2 from hno 2 (by decide)), if_neg (show ¬ b = 3 from hno 3 (by decide)), if_neg (show ¬ b = 4 from hno 4 (by decide)), if_neg (show ¬ b = 5 from hno 5 (by decide))]
      · unfold fX8_net
        rw [m_isNet, ha, Option.bind_some, if_neg (show ¬ b2i true = 0 by decide), m_within, hb]; rfl
    | true =>
      obtain ⟨x, hx, rfl⟩ := isN_ex ha
      obtain ⟨k, hk, rfl⟩ := small_ex (hi := 5) (by decide) hb
      obtain ⟨n, W, ex, len, net, p, t, m1, hl, hD⟩ := rel_lay h
      obtain ⟨r, m2, e1, e2, e3, -⟩ := q_net hD hx (show k < 6 by omega)
      refine ⟨r, m2, e1, ?_, (hD.of e3).rel⟩
      unfold fX8_net fX8_net_J32
      rw [m_isNet, ha, Option.bind_some, if_neg (show ¬ b2i true = 0 by decide), m_within, hb, Option.bind_some, if_neg (show ¬ b2i true = 0 by decide), now_net hl (ld_lay hD), e2, Option.bind_some, ltP_m]
theorem sim_link (a b d : Int32) {c m : Sg} (h : Rel c m) : ∃ (r : Int32) (m2 : Sg), fX7_link a b d c = some r ∧ fX8_link a b d m = some (r, m2) ∧ Rel c m2 := by
  cases ha : isP a b with
  | false =>
    refine ⟨-1001, m, ?_, ?_, h⟩
    · unfold fX7_link
      rw [c_arePair, ha]; rfl
    · unfold fX8_link
      rw [m_areTwo, ha]; rfl
  | true =>
    cases hb : (!(decide (d < 0)) && !(decide ((4 : Int32) < d))) with
    | false =>
      have hno := small_no (hi := 4) (by decide) hb
      refine ⟨-1002, m, ?_, ?_, h⟩
      · unfold fX7_link
        rw [c_arePair, ha, Option.bind_some, if_neg (show ¬ b2i true = 0 by decide), if_neg (show ¬ d = 0 from hno 0 (by decide)), if_neg (show ¬ d = 1 from hno 1 (by decide)), if_neg (show ¬ d = 2 from hno 2 (by decide)), if_neg (show ¬ d = 3 from hno 3 (by decide)), if_neg (show ¬ d = 4 from hno 4 (by decide))]
      · unfold fX8_link
        rw [m_areTwo, ha, Option.bind_some, if_neg (show ¬ b2i true = 0 by decide), m_within, hb]; rfl
    | true =>
      obtain ⟨x, y, hx, hy, hxy, rfl, rfl⟩ := isP_ex ha
      obtain ⟨k, hk, rfl⟩ := small_ex (hi := 4) (by decide) hb
      obtain ⟨n, W, ex, len, net, p, t, m1, hl, hD⟩ := rel_lay h
      obtain ⟨r, m2, e1, e2, e3, -⟩ := q_link hD hx hy (show k < 5 by omega) hxy
      refine ⟨r, m2, e1, ?_, (hD.of e3).rel⟩
      unfold fX8_link fX8_link_J34
      rw [m_areTwo, ha, Option.bind_some, if_neg (show ¬ b2i true = 0 by decide), m_within, hb, Option.bind_some, if_neg (show ¬ b2i true = 0 by decide), now_link hl (ld_lay hD), e2, Option.bind_some, ltP_m]
theorem sim_near (a b d : Int32) {c m : Sg} (h : Rel c m) : ∃ (r : Int32) (m2 : Sg), fX7_near a b d c = some r ∧ fX8_near a b d m = some (r, m2) ∧ Rel c m2 := by
  cases ha : isN a with
  | false =>
    refine ⟨-1001, m, ?_, ?_, h⟩
    · unfold fX7_near
      rw [c_isNet, ha]; rfl
    · unfold fX8_near
      rw [m_isNet, ha]; rfl
  | true =>
    cases ha2 : isN b with
    | false =>
      refine ⟨-1001, m, ?_, ?_, h⟩
      · unfold fX7_near
        rw [c_isNet, ha, Option.bind_some, if_neg (show ¬ b2i true = 0 by decide), c_isNet, ha2]; rfl
      · unfold fX8_near
        rw [m_isNet, ha, Option.bind_some, if_neg (show ¬ b2i true = 0 by decide), m_isNet, ha2]; rfl
    | true =>
      cases hb : (!(decide (d < 0)) && !(decide ((1 : Int32) < d))) with
      | false =>
        have hno := small_no (hi := 1) (by decide) hb
        refine ⟨-1002, m, ?_, ?_, h⟩
        · unfold fX7_near
          rw [c_isNet, ha, Option.bind_some, if_neg (show ¬ b2i true = 0 by decide), c_isNet, ha2, Option.bind_some, if_neg (show ¬ b2i true = 0 by decide), if_neg (show ¬ d = 0 from hno 0 (by decide)), if_neg (show ¬ d = 1 from hno 1 (by decide))]
        · unfold fX8_near
          rw [m_isNet, ha, Option.bind_some, if_neg (show ¬ b2i true = 0 by decide), m_isNet, ha2, Option.bind_some, if_neg (show ¬ b2i true = 0 by decide), m_within, hb]; rfl
      | true =>
        obtain ⟨x, hx, rfl⟩ := isN_ex ha
        obtain ⟨y, hy, rfl⟩ := isN_ex ha2
        obtain ⟨k, hk, rfl⟩ := small_ex (hi := 1) (by decide) hb
        obtain ⟨n, W, ex, len, net, p, t, m1, hl, hD⟩ := rel_lay h
        obtain ⟨r, m2, e1, e2, e3, -⟩ := q_near hD hx hy (show k < 2 by omega)
        refine ⟨r, m2, e1, ?_, (hD.of e3).rel⟩
        unfold fX8_near fX8_near_J40
        rw [m_isNet, ha, Option.bind_some, if_neg (show ¬ b2i true = 0 by decide), m_isNet, ha2, Option.bind_some, if_neg (show ¬ b2i true = 0 by decide), m_within, hb, Option.bind_some, if_neg (show ¬ b2i true = 0 by decide), now_near hl (ld_lay hD), e2, Option.bind_some, ltP_m]
theorem sim_seen (a b : Int32) {c m : Sg} (h : Rel c m) : ∃ (r : Int32) (m2 : Sg), fX7_seen a b c = some r ∧ fX8_seen a b m = some (r, m2) ∧ Rel c m2 := by
  obtain ⟨n, W, ex, len, net, p, t, m1, hl, hD⟩ := rel_lay h
  have hW12 := hD.1.2.1.1.1
  have hWm : rd m 0 2 = nI W := by
    obtain ⟨n2, W2, ex2, len2, net2, p2, t2, hR, hL⟩ := id h
    obtain ⟨g, e1, -, -, e4⟩ := m_lay hR.2.1.1 hR.2.1.2.2.1 hR.2.1.2.2.2.1 hR.2.1.2.2.2.2.2 hL
    have hg : g = m1 := by rw [hl] at e1; exact (Option.some.inj e1).symm
    subst hg
    exact (e4 0 2 (by simp) (by simp)).symm.trans hD.1.2.1.2.2.1.1
  have hc := c_wayHas hD.1.2.1.2.1.1 hW12 a
  have hm := m_within a 0 (nI W - 1)
  rw [has_eq hW12] at hm
  cases hin : (!(decide (a < 0)) && !(decide (nI W ≤ a))) with
  | false =>
    rw [hin] at hc hm
    refine ⟨-1001, m, ?_, ?_, h⟩
    · unfold fX7_seen
      rw [hc]; rfl
    · unfold fX8_seen
      rw [hWm, hm]; rfl
  | true =>
    rw [hin] at hc hm
    obtain ⟨w, hw, rfl⟩ := hasW_ex hW12 hin
    have key : ∀ k, (k < 3 ∨ (10 ≤ k ∧ k < 16)) → b = nI k → fX8_seen (nI w) b m = fX8_seen_J38 (nI w) b m → ∃ (r : Int32) (m2 : Sg), fX7_seen (nI w) b c = some r ∧ fX8_seen (nI w) b m = some (r, m2) ∧ Rel c m2 := by
      rintro k hk rfl hs
      obtain ⟨r, m2, e1, e2, e3, -⟩ := q_seen hD hw hk
      refine ⟨r, m2, e1, ?_, (hD.of e3).rel⟩
      rw [hs]
      unfold fX8_seen_J38 fX8_seen_J50
      rw [now_seen hl (ld_lay hD), e2, Option.bind_some, ltP_m]
    have hS : fX8_seen (nI w) b m = (fX8_within b (0 : Int32) (2 : Int32)).bind fun r_4 => (if r_4 = 0 then (fX8_within b (10 : Int32) (15 : Int32)).bind fun r_6 => (if r_6 = 0 then fX8_seen_J50 (-1002 : Int32) m else fX8_seen_J38 (nI w) b m) else fX8_seen_J38 (nI w) b m) := by
      unfold fX8_seen
      rw [hWm, hm, Option.bind_some, if_neg (show ¬ b2i true = 0 by decide)]
    cases h2 : (!(decide (b < 0)) && !(decide ((2 : Int32) < b))) with
    | true =>
      obtain ⟨k, hk, hb⟩ := small_ex (hi := 2) (by decide) h2
      refine key k (Or.inl (by omega)) hb ?_
      rw [hS, m_within, h2, Option.bind_some, if_neg (show ¬ b2i true = 0 by decide)]
    | false =>
      cases h3 : (!(decide (b < 10)) && !(decide ((15 : Int32) < b))) with
      | true =>
        have h3' := h3
        simp only [Bool.and_eq_true, Bool.not_eq_true', decide_eq_false_iff_not] at h3'
        obtain ⟨k, k1, hb⟩ : ∃ k, k < 2147483648 ∧ b = nI k := nI_of (fun y => h3'.1 (by rw [fa_lt] at y ⊢; have : (10 : Int32).toInt = 10 := rfl; have : (0 : Int32).toInt = 0 := rfl; omega))
        have hk1 : 10 ≤ k := by
          rcases Nat.lt_or_ge k 10 with y | y
          · exact absurd (by rw [hb]; exact (nI_ltI (b := 10) k1 (by decide)).mpr y) h3'.1
          · exact y
        have hk2 : k < 16 := by
          rcases Nat.lt_or_ge 15 k with y | y
          · exact absurd (by rw [hb]; exact (nI_ltI (a := 15) (by decide) k1).mpr y) h3'.2
          · omega
        refine key k (Or.inr ⟨hk1, hk2⟩) hb ?_
        rw [hS, m_within, h2, Option.bind_some, if_pos (show b2i false = 0 from rfl), m_within, h3, Option.bind_some, if_neg (show ¬ b2i true = 0 by decide)]
      | false =>
        have hno := small_no (hi := 2) (by decide) h2
        refine ⟨-1002, m, ?_, ?_, h⟩
        · unfold fX7_seen fX7_seen_J117
          rw [hc, Option.bind_some, if_neg (show ¬ b2i true = 0 by decide)]
          simp (disch := omega) only [inb_nI, gd_t, nI_clamp, lt_d]
          rw [if_neg (show ¬ b = 0 from hno 0 (by decide)), if_neg (show ¬ b = 1 from hno 1 (by decide)), if_neg (show ¬ b = 2 from hno 2 (by decide))]
          by_cases z : b < 10
          · rw [if_pos z]
          · rw [if_neg z]
            have z2 : (15 : Int32) < b := by
              cases y : decide ((15 : Int32) < b) with
              | true => exact of_decide_eq_true y
              | false => simp [z, y] at h3
            obtain ⟨k, k1, rfl⟩ : ∃ k, k < 2147483648 ∧ b = nI k := nI_of (fun y => z (by rw [fa_lt] at y ⊢; have : (10 : Int32).toInt = 10 := rfl; have : (0 : Int32).toInt = 0 := rfl; omega))
            have hk := (nI_ltI (a := 15) (by decide) k1).mp z2
            rw [if_neg]
            rw [show nI k - (10 : Int32) = nI (k - 10) from nI_sub (b := 10) (by omega)]
            intro y
            have := (nI_ltI (b := 6) (by omega) (by decide)).mp y
            omega
        · rw [hS, m_within, h2, Option.bind_some, if_pos (show b2i false = 0 from rfl), m_within, h3]
          rfl
