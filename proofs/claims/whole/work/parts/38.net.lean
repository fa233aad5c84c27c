/-! net -/
section QN
variable {n W ex : Nat} {len : Nat → Nat} {net : Nat → Nat → Nat} {p t : Nat → Nat} {c m : Sg}
theorem q_cone (h : LD n W ex len net p t c m) {a : Nat} (ha : a < 8) : ∃ r, fX2_cone (nI a) c = some r ∧ fX8_coneOf (nI a) m = some r := by
  have hO := h.1.2.1.1
  obtain ⟨-, -, -, -, -, -, -, -, -, -, -, -, d13, -⟩ := h.1.2.2.2
  obtain ⟨-, -, -, -, -, -, -, -, -, -, x11⟩ := h.2.2
  obtain ⟨x, e1, q1⟩ := c_cone ha d13
  obtain ⟨y, e2, q2⟩ := m_cone (nm := sNM W ex len net) ha s_nm (fun u v => nm_anti (s_gd (ex := ex) hO).2.1 u v) x11
  have : x = y := cset_one (nm := sNM W ex len net) ha q1 q2
  exact ⟨nI x, e1, by rw [e2, this]⟩
theorem q_net (h : LD n W ex len net p t c m) {a k : Nat} (ha : a < 8) (hk : k < 6) : qe (fX7_net (nI a) (nI k) c) (fX8_netNow (nI a) (nI k)) m := by
  have hO := h.1.2.1.1
  obtain ⟨d1, d2, d3, d4, d5, d6, d7, d8, d9, d10, d11, d12, d13, d14⟩ := h.1.2.2.2
  obtain ⟨x1, x2, x3, x4, x5, x6, x7, x8, x9, x10, x11⟩ := h.2.2
  have hexl := h.1.2.1.2.2.2.1
  have hexc := h.1.2.1.2.2.2.2.1
  have hexm := h.1.2.1.2.2.2.2.2
  have hl := (s_gd (ex := ex) hO).1 a
  have hp := s_ps (ex := ex) hO a
  have htp := s_tp (W := W) (ex := ex) (len := len) (net := net)
  obtain ⟨r, c1, c2⟩ := q_cone h ha
  have hI : isN (nI a) = true := isN_nI ha
  unfold qe fX7_net fX8_netNow
  rw [c_isNet, hI, ld_lay h]
  simp only [Option.bind_some]
  rw [if_neg (by decide : ¬ b2i true = 0)]
  simp (disch := omega) only [inb_nI, gd_t, nI_clamp]
  rw [d5 a ha, d6 a ha, d9 a ha, d8, hexc, x2 a ha, x5 a ha, x8 a ha, x7, hexm, c1, c2, ones8 (by omega), ones8 (by omega)]
  unfold fX0_at
  rw [nI_bit (by omega) (by omega), nI_bit (by omega) (by omega)]
  rcases (show k = 0 ∨ k = 1 ∨ k = 2 ∨ k = 3 ∨ k = 4 ∨ k = 5 by omega) with rfl | rfl | rfl | rfl | rfl | rfl <;> exact ⟨_, m, rfl, rfl, sam.rf, rfl⟩
end QN
