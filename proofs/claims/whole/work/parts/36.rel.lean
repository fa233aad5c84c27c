/-! the relation between the class' state and the reference's -/
def RD (n W ex : Nat) (len : Nat → Nat) (net : Nat → Nat → Nat) (p t : Nat → Nat) (c m : Sg) : Prop :=
  (n ≤ 6 ∧ rd c 1 1 = nI n ∧ rd m 0 0 = nI n ∧ ∀ i, i < n → 32 ≤ p i ∧ p i ≤ 126 ∧ rd m 1 i = nI (p i) ∧ rd c 2 i = nI (p i) - 48) ∧
  (okW W len net ∧ wayC c W len net ∧ wayM m W len net ∧ ex < 256 ∧ rd c 0 7 = nI ex ∧ rd m 0 5 = nI ex) ∧
  ((∀ k, k < 64 → t k ≤ 4 ∧ rd c 25 k = nI (t k) ∧ rd m 4 k = nI (t k)) ∧ rd c 0 8 = rd m 0 7) ∧ derC W ex len net c
def LD (n W ex : Nat) (len : Nat → Nat) (net : Nat → Nat → Nat) (p t : Nat → Nat) (c m : Sg) : Prop := RD n W ex len net p t c m ∧ rd m 0 8 = 1 ∧ derM W ex len net m
def Rel (c m : Sg) : Prop := ∃ (n W ex : Nat) (len : Nat → Nat) (net : Nat → Nat → Nat) (p t : Nat → Nat), RD n W ex len net p t c m ∧ (rd m 0 8 = 0 ∨ (rd m 0 8 = 1 ∧ derM W ex len net m))
section RL
variable {n W ex : Nat} {len : Nat → Nat} {net : Nat → Nat → Nat} {p t : Nat → Nat} {c m : Sg}
theorem LD.rel (h : LD n W ex len net p t c m) : Rel c m := ⟨n, W, ex, len, net, p, t, h.1, Or.inr h.2⟩
theorem RD.mof {m2 : Sg} {l sl : List Nat} (h : RD n W ex len net p t c m) (hs : sam l sl m2 m) (h0 : 0 ∉ l) (h1 : 1 ∉ l) (h2 : 2 ∉ l) (h3 : 3 ∉ l) (h4 : 4 ∉ l) (k0 : 0 ∉ sl) (k2 : 2 ∉ sl) (k5 : 5 ∉ sl) (k7 : 7 ∉ sl) : RD n W ex len net p t c m2 := by
  obtain ⟨⟨a1, a2, a3, a4⟩, ⟨b1, b2, b3, b4, b5, b6⟩, ⟨c1, c2⟩, d⟩ := h
  refine ⟨⟨a1, a2, (hs 0 0 h0 (fun _ => k0)).trans a3, fun i hi => ?_⟩, ⟨b1, b2, b3.of hs h0 h2 h3 k2, b4, b5, (hs 0 5 h0 (fun _ => k5)).trans b6⟩, ⟨fun k hk => ?_, c2.trans (hs 0 7 h0 (fun _ => k7)).symm⟩, d⟩
  · obtain ⟨x1, x2, x3, x4⟩ := a4 i hi
    exact ⟨x1, x2, (hs 1 i h1 (fun z => by simp at z)).trans x3, x4⟩
  · obtain ⟨x1, x2, x3⟩ := c1 k hk
    exact ⟨x1, x2, (hs 4 k h4 (fun z => by simp at z)).trans x3⟩
theorem derM.of {m2 : Sg} (h : derM W ex len net m) (hs : sam [14, 15] [22] m2 m) : derM W ex len net m2 := by
  obtain ⟨h1, h2, h3, h4, h5, h6, h7, h8, h9, h10, h11⟩ := h
  exact ⟨h1.of hs (by simp) (by simp), hs.arr (by simp) (by simp) h2, hs.arr (by simp) (by simp) h3, (hs 0 13 (by simp) (by simp)).trans h4, hs.arr (by simp) (by simp) h5, (hs 0 15 (by simp) (by simp)).trans h6, (hs 0 17 (by simp) (by simp)).trans h7, fun a ha => (hs 10 a (by simp) (by simp)).trans (h8 a ha), fun q hq => (hs 9 q (by simp) (by simp)).trans (h9 q hq), hs.arr (by simp) (by simp) h10, fun a b ha hb => (hs 13 _ (by simp) (by simp)).trans (h11 a b ha hb)⟩
theorem LD.of {m2 : Sg} (h : LD n W ex len net p t c m) (hs : sam [14, 15] [22] m2 m) : LD n W ex len net p t c m2 := ⟨h.1.mof hs (by simp) (by simp) (by simp) (by simp) (by simp) (by simp) (by simp) (by simp) (by simp), (hs 0 8 (by simp) (by simp)).trans h.2.1, h.2.2.of hs⟩
theorem ld_lay (h : LD n W ex len net p t c m) : fX8_lay m = some m := by
  unfold fX8_lay
  rw [if_neg (by rw [h.2.1]; decide)]
theorem rel_lay (h : Rel c m) : ∃ (n W ex : Nat) (len : Nat → Nat) (net : Nat → Nat → Nat) (p t : Nat → Nat) (m2 : Sg), fX8_lay m = some m2 ∧ LD n W ex len net p t c m2 := by
  obtain ⟨n, W, ex, len, net, p, t, hR, hL⟩ := h
  obtain ⟨g, e1, e2, e3, e4⟩ := m_lay hR.2.1.1 hR.2.1.2.2.1 hR.2.1.2.2.2.1 hR.2.1.2.2.2.2.2 hL
  exact ⟨n, W, ex, len, net, p, t, g, e1, hR.mof e4 (by simp) (by simp) (by simp) (by simp) (by simp) (by simp) (by simp) (by simp) (by simp), e2, e3⟩
end RL
/-- a question: like answers; of the reference only its own notes change -/
def qe (fc : Option Int32) (fm : Sg → Option (Int32 × Sg)) (m : Sg) : Prop := ∃ (r : Int32) (m2 : Sg), fc = some r ∧ fm m = some (r, m2) ∧ sam [14, 15] [22] m2 m ∧ m2.2 = m.2
theorem qe_same {fc : Option Int32} {fm : Sg → Option (Int32 × Sg)} {m : Sg} {r : Int32} (h1 : fc = some r) (h2 : fm m = some (r, m)) : qe fc fm m := ⟨r, m, h1, h2, sam.rf, rfl⟩
def isN (a : Int32) : Bool := !(decide (a < 0)) && !(decide (8 ≤ a))
theorem isN_ex {a : Int32} (h : isN a = true) : ∃ k, k < 8 ∧ a = nI k := by
  unfold isN at h
  simp only [Bool.and_eq_true, Bool.not_eq_true', decide_eq_false_iff_not] at h
  obtain ⟨j, h1, h2⟩ := nI_of h.1
  refine ⟨j, ?_, h2⟩
  have := h.2
  rw [h2, show (8 : Int32) = nI 8 from rfl, nI_leI (by decide) h1] at this
  omega
theorem isN_nI {k : Nat} (h : k < 8) : isN (nI k) = true := by
  have : ∀ k, k < 8 → isN (nI k) = true := by decide +kernel
  exact this k h
theorem c_isNet (a : Int32) : fX0_isNet a = some (b2i (isN a)) := by
  unfold fX0_isNet fX0_isNet_J14 fX0_isNet_J15 isN
  by_cases h1 : a < 0
  · rw [if_pos h1]; simp [h1, b2i, zb, gd]
  · rw [if_neg h1]
    by_cases h2 : (8 : Int32) ≤ a
    · rw [if_pos h2]; simp [h1, h2, b2i, zb, gd]
    · rw [if_neg h2]; simp [h1, h2, b2i, zb, gd]
theorem m_within (v lo hi : Int32) : fX8_within v lo hi = some (b2i (!(decide (v < lo)) && !(decide (hi < v)))) := by
  unfold fX8_within fX8_within_J14 fX8_within_J15
  by_cases h1 : v < lo
  · rw [if_pos h1]; simp [h1, b2i, zb, gd]
  · rw [if_neg h1]
    by_cases h2 : hi < v
    · rw [if_pos h2]; simp [h1, h2, b2i, zb, gd]
    · rw [if_neg h2]; simp [h1, h2, b2i, zb, gd]
theorem m_isNet (a : Int32) : fX8_isNet a = some (b2i (isN a)) := by
  unfold fX8_isNet
  rw [m_within]
  simp only [Option.bind_some, zb_b2i, gd_t]
  unfold isN
  have : decide ((7 : Int32) < a) = decide ((8 : Int32) ≤ a) := by
    rw [decide_eq_decide, fa_lt, fa_le, show (7 : Int32).toInt = 7 from rfl, show (8 : Int32).toInt = 8 from rfl]; omega
  rw [this]
def isP (a b : Int32) : Bool := isN a && (isN b && !(decide (a = b)))
theorem c_arePair (a b : Int32) : fX7_arePair a b = some (b2i (isP a b)) := by
  unfold fX7_arePair fX7_arePair_J23 fX7_arePair_J24 isP
  rw [c_isNet, c_isNet]
  simp only [Option.bind_some, b2i_0]
  cases isN a <;> cases isN b <;> by_cases h : a = b <;> simp [h, b2i, zb, gd]
theorem m_areTwo (a b : Int32) : fX8_areTwo a b = some (b2i (isP a b)) := by
  unfold fX8_areTwo fX8_areTwo_J23 fX8_areTwo_J24 isP
  rw [m_isNet, m_isNet]
  simp only [Option.bind_some, b2i_0]
  cases isN a <;> cases isN b <;> by_cases h : a = b <;> simp [h, b2i, zb, gd]
theorem isP_ex {a b : Int32} (h : isP a b = true) : ∃ x y, x < 8 ∧ y < 8 ∧ x ≠ y ∧ a = nI x ∧ b = nI y := by
  unfold isP at h
  simp only [Bool.and_eq_true, Bool.not_eq_true', decide_eq_false_iff_not] at h
  obtain ⟨x, h1, h2⟩ := isN_ex h.1
  obtain ⟨y, h3, h4⟩ := isN_ex h.2.1
  exact ⟨x, y, h1, h3, fun z => h.2.2 (by rw [h2, h4, z]), h2, h4⟩
/-- a small number -/
theorem small_ex {v : Int32} {hi : Nat} (hh : hi < 1000) (h : (!(decide (v < 0)) && !(decide (nI hi < v))) = true) : ∃ k, k ≤ hi ∧ v = nI k := by
  simp only [Bool.and_eq_true, Bool.not_eq_true', decide_eq_false_iff_not] at h
  obtain ⟨j, h1, h2⟩ := nI_of h.1
  refine ⟨j, ?_, h2⟩
  have := h.2
  rw [h2, nI_ltI (by omega) h1] at this
  omega
section QS
variable {n W ex : Nat} {len : Nat → Nat} {net : Nat → Nat → Nat} {p t : Nat → Nat} {c m : Sg}
theorem q_top (h : LD n W ex len net p t c m) : qe (fX7_top c) fX8_topNow m := by
  refine qe_same (r := nI (sTP W ex len net)) ?_ ?_
  · unfold fX7_top
    rw [h.1.2.2.2.2.2.2.2.2.2.2.1]
  · unfold fX8_topNow
    rw [ld_lay h, Option.bind_some, h.2.2.2.2.2.2.2.2.1]
theorem q_rank (h : LD n W ex len net p t c m) (a : Int32) : qe (fX7_rank a c) (fX8_rankNow a) m := by
  obtain ⟨-, -, -, -, -, -, d7, d8, d9, d10, -⟩ := h.1.2.2.2
  have hm15 := h.2.2.2.2.2.2.2.1
  have hm9 := h.2.2.2.2.2.2.2.2.2.2.1
  have hpc := pc8_le (sSN W ex len net)
  have hsub : (nI (pc8 (sSN W ex len net)) - 1).toInt = (pc8 (sSN W ex len net) : Int) - 1 := sub_toInt (y := 1) (by omega) (by omega)
  unfold fX7_rank fX7_rank_J27 fX7_rank_J28
  by_cases h1 : a < 0
  · rw [if_pos h1]
    refine qe_same (r := -1) rfl ?_
    unfold fX8_rankNow fX8_rankNow_J28
    rw [ld_lay h, Option.bind_some, m_within, Option.bind_some]
    rw [show (!(decide (a < 0)) && !(decide (rd m 0 15 - 1 < a))) = false by simp [h1]]
    rfl
  · rw [if_neg h1]
    obtain ⟨j, hj, rfl⟩ := nI_of h1
    rw [d7]
    by_cases h2 : pc8 (sSN W ex len net) ≤ j
    · rw [if_pos (by rw [nI_leI (by omega) hj]; exact h2)]
      refine qe_same (r := -1) rfl ?_
      unfold fX8_rankNow fX8_rankNow_J28
      rw [ld_lay h, Option.bind_some, m_within, Option.bind_some, hm15]
      rw [show (!(decide (nI j < 0)) && !(decide (nI (pc8 (sSN W ex len net)) - 1 < nI j))) = false by
        have : nI (pc8 (sSN W ex len net)) - 1 < nI j := by rw [fa_lt, hsub, nI_toInt hj]; omega
        simp [this]]
      rfl
    · rw [if_neg (by rw [nI_leI (by omega) hj]; exact h2)]
      simp (disch := omega) only [inb_nI, gd_t, nI_clamp]
      rw [d10 j (by omega)]
      refine qe_same rfl ?_
      unfold fX8_rankNow fX8_rankNow_J28
      rw [ld_lay h, Option.bind_some, m_within, Option.bind_some, hm15]
      rw [show (!(decide (nI j < 0)) && !(decide (nI (pc8 (sSN W ex len net)) - 1 < nI j))) = true by
        have : ¬ nI (pc8 (sSN W ex len net)) - 1 < nI j := by rw [fa_lt, hsub, nI_toInt hj]; omega
        simp [this, h1]]
      rw [if_neg (by decide)]
      simp (disch := omega) only [inb_nI, gd_t, nI_clamp]
      rw [hm9 j (by omega)]
theorem q_link (h : LD n W ex len net p t c m) {a b k : Nat} (ha : a < 8) (hb : b < 8) (hk : k < 5) (hab : a ≠ b) : qe (fX7_link (nI a) (nI b) (nI k) c) (fX8_linkNow (nI a) (nI b) (nI k)) m := by
  obtain ⟨-, -, d3, -, -, -, -, -, -, -, d11, d12, -, -⟩ := h.1.2.2.2
  obtain ⟨-, -, x3, -, -, -, -, -, -, x10, x11⟩ := h.2.2
  have ht := h.1.2.2.1.1
  have hP : isP (nI a) (nI b) = true := by
    unfold isP
    rw [isN_nI ha, isN_nI hb]
    have : ¬ nI a = nI b := fun z => hab ((nI_eq (by omega) (by omega)).mp z)
    simp [this]
  have hc : fX7_link (nI a) (nI b) (nI k) c = some (if k = 0 then nI (sNM W ex len net a b) else if k = 1 then nI (sVT W ex len net (8 * a + b)) else if k = 2 then nI (sVT W ex len net (8 * b + a)) else if k = 3 then nI (sOF W ex len net (8 * a + b)) else nI (t (8 * a + b))) := by
    unfold fX7_link
    rw [c_arePair, hP]
    simp (disch := omega) only [Option.bind_some, l8, nI_mul, nI_add, inb_nI, gd_t, nI_clamp]
    rw [if_neg (by decide), Nat.mul_comm a 8, Nat.mul_comm b 8, d12 a b ha hb, d11 (8 * a + b) (by omega), d11 (8 * b + a) (by omega), d3 (8 * a + b) (by omega), (ht (8 * a + b) (by omega)).2.1]
    rcases (show k = 0 ∨ k = 1 ∨ k = 2 ∨ k = 3 ∨ k = 4 by omega) with rfl | rfl | rfl | rfl | rfl <;> rfl
  have hm : fX8_linkNow (nI a) (nI b) (nI k) m = some (if k = 0 then nI (sNM W ex len net a b) else if k = 1 then nI (sVT W ex len net (8 * a + b)) else if k = 2 then nI (sVT W ex len net (8 * b + a)) else if k = 3 then nI (sOF W ex len net (8 * a + b)) else nI (t (8 * a + b)), m) := by
    unfold fX8_linkNow fX8_linkNow_J82
    rw [ld_lay h]
    simp (disch := omega) only [Option.bind_some, l8, nI_mul, nI_add, inb_nI, gd_t, nI_clamp, lt_d]
    rw [x11 a b ha hb, x10 (8 * a + b) (by omega), x10 (8 * b + a) (by omega), x3 (8 * a + b) (by omega), (ht (8 * a + b) (by omega)).2.2]
    rcases (show k = 0 ∨ k = 1 ∨ k = 2 ∨ k = 3 ∨ k = 4 by omega) with rfl | rfl | rfl | rfl | rfl <;> rfl
  exact qe_same hc hm
end QS
