/-! the digest of the reference: the same folds -/
theorem lt_c {a b : Nat} {v : Int32} (hv : v = nI a) (ha : a < 1000) (hb : b < 1000) (h : b < a) : ¬ v ≤ nI b := by rw [hv]; exact le_no ha hb h
section DM
variable {n W ex : Nat} {len : Nat → Nat} {net : Nat → Nat → Nat} {p t : Nat → Nat} {c : Sg}
theorem m_dA {h : Int64} {u : Sg} (hu : DG n W ex len net p t c h u) : ∃ u2, lpS (fun t => fX8_mixNets_L2 t.1 t.2) 300 (nI 0, u) = some (nI 8, u2) ∧ DG n W ex len net p t c (hA c h) u2 := by
  refine mloop (D := DG n W ex len net p t c) (g1 c) 0 8 (fun a y v _ ha hv => ?_) (fun y v hv => ?_) (by decide) (by decide) hu
  · simp only [fX8_mixNets_L2]
    obtain ⟨v2, f1, f2⟩ := mloop (D := DG n W ex len net p t c) (step := fun t => fX8_mixNets_L10 (nI a) t.1 t.2) (gA (aNet c a)) 0 6 (fun k z w _ hk hw => by
      simp only [fX8_mixNets_L10]
      obtain ⟨w2, d1, d2⟩ := dg_mix hw (f := fX8_netNow (nI a) (nI k)) (fun m hm => q_net hm ha hk) (fun m m1 l1 l2 => now_net l1 l2 _ _)
      refine ⟨w2, ?_, d1⟩
      rw [if_neg (lt_c (a := 6) (v := (6 : Int32)) rfl (by decide) (by omega) hk), d2, nI_1]) (fun z w hw => by
      simp only [fX8_mixNets_L10]
      rw [if_pos (by decide)]) (by decide) (by decide) hv
    refine ⟨v2, ?_, f2⟩
    rw [if_neg (lt_c (a := 8) (v := (8 : Int32)) rfl (by decide) (by omega) ha), l0, f1, Option.bind_some]
    simp only [fX8_mixNets_L2_E33]
    rw [nI_1]
  · simp only [fX8_mixNets_L2]
    rw [if_pos (by decide)]
theorem m_dB {h : Int64} {u : Sg} (hu : DG n W ex len net p t c h u) : ∃ u2, lpS (fun t => fX8_mixNets_L41 t.1 t.2) 300 (nI 0, u) = some (nI 8, u2) ∧ DG n W ex len net p t c (hB c h) u2 := by
  refine mloop (D := DG n W ex len net p t c) (gA (aRank c)) 0 8 (fun a y v _ ha hv => ?_) (fun y v hv => ?_) (by decide) (by decide) hu
  · simp only [fX8_mixNets_L41]
    obtain ⟨w2, d1, d2⟩ := dg_mix hv (f := fX8_rankNow (nI a)) (fun m hm => q_rank hm (nI a)) (fun m m1 l1 l2 => now_rank l1 l2 _)
    refine ⟨w2, ?_, d1⟩
    rw [if_neg (lt_c (a := 8) (v := (8 : Int32)) rfl (by decide) (by omega) ha), d2, nI_1]
  · simp only [fX8_mixNets_L41]
    rw [if_pos (by decide)]
theorem m_dD {h : Int64} {u : Sg} (hu : DG n W ex len net p t c h u) : ∃ u2, lpS (fun t => fX8_mixNets_L74 t.1 t.2) 300 (nI 0, u) = some (nI 8, u2) ∧ DG n W ex len net p t c (hD c h) u2 := by
  refine mloop (D := DG n W ex len net p t c) (g4 c) 0 8 (fun a y v _ ha hv => ?_) (fun y v hv => ?_) (by decide) (by decide) hu
  · simp only [fX8_mixNets_L74]
    obtain ⟨v2, f1, f2⟩ := mloop (D := DG n W ex len net p t c) (step := fun t => fX8_mixNets_L84 (nI a) t.1 t.2) (g3 c a) (a + 1) 8 (fun b z w hab hb hw => by
      simp only [fX8_mixNets_L84]
      obtain ⟨w2, d1, d2⟩ := mloop (D := DG n W ex len net p t c) (step := fun t => fX8_mixNets_L92 (nI a) (nI b) t.1 t.2) (gA (aLink c a b)) 0 5 (fun k z w _ hk hw => by
        simp only [fX8_mixNets_L92]
        obtain ⟨w2, d1, d2⟩ := dg_mix hw (f := fX8_linkNow (nI a) (nI b) (nI k)) (fun m hm => q_link hm ha hb hk (by omega)) (fun m m1 l1 l2 => now_link l1 l2 _ _ _)
        refine ⟨w2, ?_, d1⟩
        rw [if_neg (lt_c (a := 5) (v := (5 : Int32)) rfl (by decide) (by omega) hk), d2, nI_1]) (fun z w hw => by
        simp only [fX8_mixNets_L92]
        rw [if_pos (by decide)]) (by decide) (by decide) hw
      refine ⟨w2, ?_, d2⟩
      rw [if_neg (lt_c (a := 8) (v := (8 : Int32)) rfl (by decide) (by omega) hb), l0, d1, Option.bind_some]
      simp only [fX8_mixNets_L84_E115]
      rw [nI_1]) (fun z w hw => by
      simp only [fX8_mixNets_L84]
      rw [if_pos (by decide)]) (by omega) (by decide) hv
    refine ⟨v2, ?_, f2⟩
    rw [if_neg (lt_c (a := 8) (v := (8 : Int32)) rfl (by decide) (by omega) ha), nI_1, f1, Option.bind_some]
    simp only [fX8_mixNets_L74_E121]
    rw [nI_1]
  · simp only [fX8_mixNets_L74]
    rw [if_pos (by decide)]
def gN (c : Sg) : Nat → Int64 → Int64 := gA (fun j => aNear c (j / 8) (j % 8))
theorem hE_eq (h : Int64) : hg (fun j => gN c (0 + j)) h (64 - 0) = hE c h := by
  have e0 : hg (fun j => gN c (0 + j)) h (64 - 0) = hg (gN c) h (8 * 8) := hg_cong (fun j x _ => by rw [Nat.zero_add])
  rw [e0, hg_rows]
  unfold hE
  refine hg_cong (fun a x ha => ?_)
  unfold g5
  rw [Nat.zero_add]
  refine hg_cong (fun b y hb => ?_)
  unfold gN gA
  rw [Nat.zero_add]
  show (31 : Int64) * y + Int32.toInt64 (aNear c ((8 * a + b) / 8) ((8 * a + b) % 8)) = _
  rw [show (8 * a + b) / 8 = a by omega, show (8 * a + b) % 8 = b by omega]
theorem m_dE {h : Int64} {u : Sg} (hu : DG n W ex len net p t c h u) : ∃ u2, lpS (fun t => fX8_mixNets_L129 t.1 t.2) 300 (nI 0, u) = some (nI 64, u2) ∧ DG n W ex len net p t c (hE c h) u2 := by
  rw [← hE_eq]
  refine mloop (D := DG n W ex len net p t c) (gN c) 0 64 (fun a y v _ ha hv => ?_) (fun y v hv => ?_) (by decide) (by decide) hu
  · simp only [fX8_mixNets_L129]
    rw [(rem8 ha).2, (rem8 ha).1]
    obtain ⟨w2, d1, d2⟩ := dg_mix hv (f := fX8_nearNow (nI (a / 8)) (nI (a % 8)) (nI 0)) (fun m hm => q_near hm (by omega) (by omega) (by decide)) (fun m m1 l1 l2 => now_near l1 l2 _ _ _)
    refine ⟨w2, ?_, d1⟩
    rw [if_neg (lt_c (a := 64) (v := (64 : Int32)) rfl (by decide) (by omega) ha), l0, d2, nI_1]
  · simp only [fX8_mixNets_L129]
    rw [if_pos (by decide)]
theorem m_dF {h : Int64} {u : Sg} (hu : DG n W ex len net p t c h u) : ∃ u2, lpS (fun t => fX8_digest_L13 t.1 t.2) 300 (nI 0, u) = some (nI 4, u2) ∧ DG n W ex len net p t c (hF c h) u2 := by
  refine mloop (D := DG n W ex len net p t c) (gA (aCon c)) 0 4 (fun a y v _ ha hv => ?_) (fun y v hv => ?_) (by decide) (by decide) hu
  · simp only [fX8_digest_L13]
    obtain ⟨w2, d1, d2⟩ := dg_mix hv (f := fX8_contradictedNow (nI a)) (fun m hm => q_con hm (nI a)) (fun m m1 l1 l2 => now_con l1 l2 _)
    refine ⟨w2, ?_, d1⟩
    rw [if_neg (lt_c (a := 4) (v := (4 : Int32)) rfl (by decide) (by omega) ha), d2, nI_1]
  · simp only [fX8_digest_L13]
    rw [if_pos (by decide)]
theorem m_dG {h : Int64} {u : Sg} (hu : DG n W ex len net p t c h u) : ∃ u2, lpS (fun t => fX8_digest_L36 t.1 t.2) 300 (nI 0, u) = some (nI W, u2) ∧ DG n W ex len net p t c (hG c W h) u2 := by
  have hW12 := hu.1.2.1.1.1
  refine mloop (D := DG n W ex len net p t c) (g7 c) 0 W (fun a y v _ ha hv => ?_) (fun y v hv => ?_) (by omega) (by omega) hu
  · simp only [fX8_digest_L36]
    obtain ⟨v2, f1, f2⟩ := mloop (D := DG n W ex len net p t c) (step := fun t => fX8_digest_L46 (nI a) t.1 t.2) (gA (aSeen c a)) 0 3 (fun k z w _ hk hw => by
      simp only [fX8_digest_L46]
      obtain ⟨w2, d1, d2⟩ := dg_mix hw (f := fX8_seenNow (nI a) (nI k)) (fun m hm => q_seen hm ha (Or.inl hk)) (fun m m1 l1 l2 => now_seen l1 l2 _ _)
      refine ⟨w2, ?_, d1⟩
      rw [if_neg (lt_c (a := 3) (v := (3 : Int32)) rfl (by decide) (by omega) hk), d2, nI_1]) (fun z w hw => by
      simp only [fX8_digest_L46]
      rw [if_pos (by decide)]) (by decide) (by decide) hv
    refine ⟨v2, ?_, f2⟩
    rw [hv.1.2.1.2.2.1.1, if_neg (le_no (by omega) (by omega) ha), l0, f1, Option.bind_some]
    simp only [fX8_digest_L36_E68]
    rw [nI_1]
  · simp only [fX8_digest_L36]
    rw [hv.1.2.1.2.2.1.1, if_pos (by rw [nI_leI (by omega) (by omega)]; omega)]
theorem m_dH {h : Int64} {u : Sg} (hu : DG n W ex len net p t c h u) : ∃ u2, lpS (fun t => fX8_digest_L76 t.1 t.2) 300 (nI 0, u) = some (nI n, u2) ∧ DG n W ex len net p t c (hH p n h) u2 := by
  have hn6 := hu.1.1.1
  refine mloop (D := DG n W ex len net p t c) (gA (fun i => nI (p i))) 0 n (fun a y v _ ha hv => ?_) (fun y v hv => ?_) (by omega) (by omega) hu
  · simp only [fX8_digest_L76]
    obtain ⟨w2, d1, d2⟩ := dg_put hv (nI (p a))
    refine ⟨w2, ?_, d1⟩
    rw [hv.1.1.2.2.1, if_neg (le_no (by omega) (by omega) ha)]
    simp (disch := omega) only [inb_nI, gd_t, nI_clamp]
    rw [(hv.1.1.2.2.2 a ha).2.2.1, d2, nI_1]
  · simp only [fX8_digest_L76]
    rw [hv.1.1.2.2.1, if_pos (by rw [nI_leI (by omega) (by omega)]; omega)]
theorem m_dI {h : Int64} {u : Sg} (hu : DG n W ex len net p t c h u) : ∃ u2, lpS (fun t => fX8_digest_L103 t.1 t.2) 300 (nI 0, u) = some (nI 12, u2) ∧ DG n W ex len net p t c (hI c h) u2 := by
  refine mloop (D := DG n W ex len net p t c) (gA (aCount c)) 0 12 (fun a y v _ ha hv => ?_) (fun y v hv => ?_) (by decide) (by decide) hu
  · simp only [fX8_digest_L103]
    obtain ⟨w2, d1, d2⟩ := dg_mix hv (f := fX8_howMany (nI a)) (fun m hm => q_count hm (nI a)) (fun m m1 l1 l2 => now_many l1 l2 _)
    refine ⟨w2, ?_, d1⟩
    rw [if_neg (lt_c (a := 12) (v := (12 : Int32)) rfl (by decide) (by omega) ha), d2, nI_1]
  · simp only [fX8_digest_L103]
    rw [if_pos (by decide)]
theorem m_digest {h : Int64} {u : Sg} (hu : DG n W ex len net p t c h u) : ∃ u2, fX8_digest u = some (hI c (hH p n (hG c W (hF c (hE c (hD c (hC c (hB c (hA c 1747)))))))), u2) ∧ ∃ v, DG n W ex len net p t c v u2 := by
  obtain ⟨u1, a1, b1⟩ := m_dA (dg_wrL (v := 1747) hu)
  obtain ⟨u2, a2, b2⟩ := m_dB b1
  obtain ⟨u3, b3, a3⟩ := dg_mix b2 (f := fX8_topNow) (fun m hm => q_top hm) (fun m m1 l1 l2 => now_top l1 l2)
  obtain ⟨u4, a4, b4⟩ := m_dD b3
  obtain ⟨u5, a5, b5⟩ := m_dE b4
  obtain ⟨u6, a6, b6⟩ := m_dF b5
  obtain ⟨u7, a7, b7⟩ := m_dG b6
  obtain ⟨u8, a8, b8⟩ := m_dH b7
  obtain ⟨u9, a9, b9⟩ := m_dI b8
  refine ⟨u9, ?_, _, b9⟩
  have e : fX8_mixNets (wrL u 0 24 (1747 : Int64)) = some u5 := by
    unfold fX8_mixNets
    rw [l0, a1, Option.bind_some]
    unfold fX8_mixNets_E39
    rw [l0, a2, Option.bind_some]
    unfold fX8_mixNets_E63
    rw [a3, l0, a4, Option.bind_some]
    unfold fX8_mixNets_E127
    rw [l0, a5, Option.bind_some]
    rfl
  unfold fX8_digest
  rw [lt_d, e, Option.bind_some, l0, a6, Option.bind_some]
  unfold fX8_digest_E34
  rw [l0, a7, Option.bind_some]
  unfold fX8_digest_E74
  rw [l0, a8, Option.bind_some]
  unfold fX8_digest_E101
  rw [l0, a9, Option.bind_some]
  unfold fX8_digest_E125
  rw [b9.2.2]
  rfl
end DM
theorem sim_digest {c m : Sg} (h : Rel c m) : ∃ (r : Int64) (m2 : Sg), fX7_digest c = some r ∧ fX8_digest m = some (r, m2) ∧ Rel c m2 := by
  obtain ⟨n, W, ex, len, net, p, t, hR, hL⟩ := id h
  obtain ⟨m1, l1, l2, l3⟩ := dg_lay (h := rdL m 0 24) ⟨hR, hL, rfl⟩
  obtain ⟨u2, e1, v, e2⟩ := m_digest (h := rdL m 0 24) ⟨hR, hL, rfl⟩
  exact ⟨_, u2, c_digest l2, e1, n, W, ex, len, net, p, t, e2.1, e2.2.1⟩
