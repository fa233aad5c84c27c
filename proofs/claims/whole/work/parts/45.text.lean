/-! the text: its first fault, is it a way -/
def rtU (p : Nat → Nat) (i : Nat) : Nat → Bool
  | 0 => true
  | j + 1 => rtU p i j && !(decide (p j = p i))
theorem rtU_iff {p : Nat → Nat} {i : Nat} : ∀ j, rtU p i j = true ↔ ∀ k, k < j → p k ≠ p i
  | 0 => by simp [rtU]
  | j + 1 => by
    have ih := rtU_iff (p := p) (i := i) j
    unfold rtU
    rw [Bool.and_eq_true, ih, Bool.not_eq_true', decide_eq_false_iff_not]
    constructor
    · rintro ⟨h1, h2⟩ k hk
      rcases Nat.lt_or_ge k j with z | z
      · exact h1 k z
      · have : k = j := by omega
        subst this; exact h2
    · intro h
      exact ⟨fun k hk => h k (by omega), h j (by omega)⟩
def fig (p : Nat → Nat) (i : Nat) : Bool := decide (48 ≤ p i) && decide (p i ≤ 55)
def rt (p : Nat → Nat) (i : Nat) : Bool := fig p i && rtU p i i
def ffN (p : Nat → Nat) (n : Nat) : Nat := fa_first (fun i => !(rt p i)) n
theorem ff_at {p : Nat → Nat} {n j : Nat} (hj : j < n) (h1 : rt p j = false) (h2 : ∀ i, i < j → rt p i = true) : ffN p n = j := ff_eq (p := fun i => !(rt p i)) hj (by rw [h1]; rfl) (fun i hi => by rw [h2 i hi]; rfl)
theorem ff_all {p : Nat → Nat} {n : Nat} (h : ∀ i, i < n → rt p i = true) : ffN p n = n := by
  have h1 := fa_first_le (fun i => !(rt p i)) n
  rcases Nat.lt_or_ge (fa_first (fun i => !(rt p i)) n) n with z | z
  · have h2 := fa_first_yes (fun i => !(rt p i)) n z
    rw [h _ z] at h2; cases h2
  · unfold ffN; omega
theorem ff_le {p : Nat → Nat} {n : Nat} : ffN p n ≤ n := fa_first_le _ n
theorem ff_to {p : Nat → Nat} {n : Nat} (h : ffN p n = n) : ∀ i, i < n → rt p i = true := fun i hi => by
  have := fa_first_no (fun i => !(rt p i)) n i (by unfold ffN at h; omega)
  cases e : rt p i with
  | true => rfl
  | false => rw [e] at this; cases this
theorem isN_code {x : Nat} (h1 : 32 ≤ x) (h2 : x ≤ 126) : isN (nI x - 48) = (decide (48 ≤ x) && decide (x ≤ 55)) := by
  have : ∀ x, x < 127 → 32 ≤ x → isN (nI x - 48) = (decide (48 ≤ x) && decide (x ≤ 55)) := by decide +kernel
  exact this x (by omega) h1
theorem within_code {x : Nat} (h1 : 32 ≤ x) (h2 : x ≤ 126) : (!(decide (nI x < 48)) && !(decide ((55 : Int32) < nI x))) = (decide (48 ≤ x) && decide (x ≤ 55)) := by
  have : ∀ x, x < 127 → 32 ≤ x → (!(decide (nI x < 48)) && !(decide ((55 : Int32) < nI x))) = (decide (48 ≤ x) && decide (x ≤ 55)) := by decide +kernel
  exact this x (by omega) h1
theorem fig_sub {p : Nat → Nat} {i : Nat} (h : fig p i = true) : ∃ v, v < 8 ∧ p i = 48 + v ∧ nI (p i) - 48 = nI v := by
  unfold fig at h
  simp only [Bool.and_eq_true, decide_eq_true_eq] at h
  refine ⟨p i - 48, by omega, by omega, ?_⟩
  exact nI_sub (b := 48) h.1
def txC (c : Sg) (n : Nat) (p : Nat → Nat) : Prop := n ≤ 6 ∧ rd c 1 1 = nI n ∧ ∀ i, i < n → 32 ≤ p i ∧ p i ≤ 126 ∧ rd c 2 i = nI (p i) - 48
def txM (m : Sg) (n : Nat) (p : Nat → Nat) : Prop := n ≤ 6 ∧ rd m 0 0 = nI n ∧ ∀ i, i < n → 32 ≤ p i ∧ p i ≤ 126 ∧ rd m 1 i = nI (p i)
theorem c_fault {n : Nat} {p : Nat → Nat} {c : Sg} (h : txC c n p) : fX4_firstFault c = some (nI (ffN p n)) := by
  obtain ⟨hn, h1, h2⟩ := h
  obtain ⟨u, e1, e2⟩ := lpO_for (step := fun t => fX4_firstFault_L4 c t.1 t.2) (t0 := ((0 : Int32), (0 : Int32))) (Q := fun u => onE u (fun t => fX4_firstFault_E48 t.1 t.2 c) (fun r => some r) = some (nI (ffN p n))) n
    (fun j t => ∃ x, t = (nI x, nI j) ∧ x < 256 ∧ (∀ v, x.testBit v = true ↔ ∃ i, i < j ∧ p i = 48 + v) ∧ ∀ i, i < j → rt p i = true)
    ⟨0, rfl, by decide, fun v => by simp, fun i hi => by omega⟩
    (by
      rintro j t hj ⟨x, rfl, hx, hb, hr⟩
      obtain ⟨c1, c2, c3⟩ := h2 j hj
      have hst : fX4_firstFault_L4 c (nI x) (nI j) = if fig p j = false then some (.inr (.inl (nI j))) else (fX0_has (nI x) (nI (p j) - 48)).bind fun r => if r = 0 then some (.inr (.inr (nI x ||| ((1 : Int32) <<< ((nI (p j) - 48) &&& 31)), nI j + 1))) else some (.inr (.inl (nI j))) := by
        simp only [fX4_firstFault_L4, fX4_firstFault_L4_J34]
        rw [h1, if_neg (by rw [nI_leI (by omega) (by omega)]; omega)]
        simp (disch := omega) only [inb_nI, gd_t, nI_clamp, lt_d]
        rw [c3, c_isNet, isN_code c1 c2, Option.bind_some]
        unfold fig
        simp only [b2i_0]
      dsimp only
      rw [hst]
      cases hf : fig p j with
      | false =>
        right
        refine ⟨nI j, rfl, ?_⟩
        show some (nI j) = _
        rw [ff_at hj (by unfold rt; rw [hf]; rfl) hr]
      | true =>
        rw [if_neg (by decide)]
        obtain ⟨v, v1, v2, v3⟩ := fig_sub hf
        rw [v3, has0 (by omega) (by omega), Option.bind_some, nI_pow (by omega), fa_or]
        cases hxv : x.testBit v with
        | true =>
          right
          refine ⟨nI j, rfl, ?_⟩
          show some (nI j) = _
          obtain ⟨i, i1, i2⟩ := (hb v).mp hxv
          rw [ff_at hj (by
            unfold rt
            rw [hf, Bool.true_and]
            cases e : rtU p j j with
            | false => rfl
            | true => exact absurd (i2.trans v2.symm) ((rtU_iff j).mp e i i1)) hr]
        | false =>
          left
          refine ⟨_, rfl, _, by rw [nI_1], or_lt hx v1, fun y => ?_, fun i hi => ?_⟩
          · rw [fb_bit_set, Bool.or_eq_true, hb y, decide_eq_true_eq]
            constructor
            · rintro (⟨i, i1, i2⟩ | i1)
              · exact ⟨i, by omega, i2⟩
              · exact ⟨j, by omega, by rw [i1]; exact v2⟩
            · rintro ⟨i, i1, i2⟩
              rcases Nat.lt_or_ge i j with z | z
              · exact Or.inl ⟨i, z, i2⟩
              · have : i = j := by omega
                subst this; right; omega
          · rcases Nat.lt_or_ge i j with z | z
            · exact hr i z
            · have : i = j := by omega
              subst this
              unfold rt
              rw [hf, Bool.true_and, rtU_iff]
              intro k hk e
              rw [(hb v).mpr ⟨k, hk, e.trans v2⟩] at hxv; cases hxv)
    (by
      rintro t ⟨x, rfl, hx, hb, hr⟩
      refine ⟨(nI x, nI n), ?_, ?_⟩
      · simp only [fX4_firstFault_L4]
        rw [h1, if_pos (by rw [nI_leI (by omega) (by omega)]; omega)]
      · show some (rd c 1 1) = _
        rw [h1, ff_all hr]) (by omega)
  unfold fX4_firstFault
  rw [e1, Option.bind_some, e2]
theorem m_isRight {n i : Nat} {p : Nat → Nat} {m : Sg} (h : txM m n p) (hi : i < n) : fX8_isRight (nI i) m = some (b2i (rt p i)) := by
  obtain ⟨hn, h1, h2⟩ := h
  obtain ⟨c1, c2, c3⟩ := h2 i hi
  have hl := lpS_det (step := fun t => fX8_isRight_L16 (nI i) m t.1 t.2) (u := (b2i (fig p i && rtU p i i), nI i)) i (fun j => (b2i (fig p i && rtU p i j), nI j)) (fun j hj => by
    obtain ⟨d1, d2, d3⟩ := h2 j (by omega)
    simp only [fX8_isRight_L16, fX8_isRight_L16_J44, fX8_isRight_L16_J45]
    rw [if_neg (by rw [nI_leI (by omega) (by omega)]; omega)]
    simp (disch := omega) only [inb_nI, gd_t, nI_clamp]
    rw [c3, d3, nI_1]
    simp (disch := omega) only [nI_eq, b2i_0]
    rw [show rtU p i (j + 1) = (rtU p i j && !(decide (p j = p i))) from rfl]
    cases hz : (fig p i && rtU p i j) with
    | false =>
      rw [if_pos rfl, ← Bool.and_assoc, hz]; rfl
    | true =>
      rw [if_neg (by decide), ← Bool.and_assoc, hz]
      by_cases q : p j = p i <;> simp [q, b2i]) (by
    simp only [fX8_isRight_L16]
    rw [if_pos (by rw [nI_leI (by omega) (by omega)]; omega)]) (by omega)
  unfold fX8_isRight
  simp (disch := omega) only [inb_nI, gd_t, nI_clamp]
  rw [c3, m_within, within_code c1 c2, Option.bind_some]
  have h0 : (b2i (decide (48 ≤ p i) && decide (p i ≤ 55)), (0 : Int32)) = (b2i (fig p i && rtU p i 0), nI 0) := by
    unfold fig rtU; rw [Bool.and_true]; rfl
  rw [h0, hl, Option.bind_some]
  unfold fX8_isRight_E52
  rw [zb_b2i]
  rfl
theorem m_fault {n : Nat} {p : Nat → Nat} {m : Sg} (h : txM m n p) : fX8_rightLetters m = some (nI (ffN p n)) := by
  have hn := h.1
  obtain ⟨u, e1, e2⟩ := lpS_for2 (step := fun t => fX8_rightLetters_L2 m t) (t0 := (0 : Int32)) (Q := fun u => u = nI (ffN p n)) n
    (fun j t => t = nI j ∧ ∀ i, i < j → rt p i = true)
    (by
      rintro j t hj ⟨rfl, hr⟩
      have hst : fX8_rightLetters_L2 m (nI j) = if rt p j = false then some (.inl (nI j)) else some (.inr (nI j + 1)) := by
        simp only [fX8_rightLetters_L2]
        rw [h.2.1, if_neg (by rw [nI_leI (by omega) (by omega)]; omega), m_isRight h hj, Option.bind_some]
        simp only [b2i_0]
      rw [hst]
      cases hz : rt p j with
      | false => exact Or.inr ⟨_, rfl, by rw [ff_at hj hz hr]⟩
      | true =>
        refine Or.inl ⟨_, rfl, nI_1 j, fun i hi => ?_⟩
        rcases Nat.lt_or_ge i j with z | z
        · exact hr i z
        · have : i = j := by omega
          subst this; exact hz)
    (by
      rintro t ⟨rfl, hr⟩
      refine ⟨nI n, ?_, by rw [ff_all hr]⟩
      simp only [fX8_rightLetters_L2]
      rw [h.2.1, if_pos (by rw [nI_leI (by omega) (by omega)]; omega)]) (by omega) ⟨rfl, fun i hi => by omega⟩
  unfold fX8_rightLetters
  rw [e1, e2]
  rfl
def isW (p : Nat → Nat) (n : Nat) : Bool := decide (2 ≤ n) && decide (ffN p n = n)
theorem c_isWay {n : Nat} {p : Nat → Nat} {c : Sg} (h : txC c n p) : fX4_isWay c = some (b2i (isW p n)) := by
  have hn := h.1
  have hf := ff_le (p := p) (n := n)
  unfold fX4_isWay fX4_isWay_J23 fX4_isWay_J24 isW
  rw [h.2.1, c_fault h, Option.bind_some]
  have c1 : (nI n < 2) ↔ n < 2 := nI_ltI (b := 2) (by omega) (by decide)
  have c2 : (nI (ffN p n) = nI n) ↔ ffN p n = n := nI_eq (by omega) (by omega)
  simp only [c1, c2]
  by_cases z : n < 2
  · have : ¬ 2 ≤ n := by omega
    simp [z, this, b2i, zb, gd]
  · have z2 : 2 ≤ n := by omega
    by_cases y : ffN p n = n <;> simp [z, z2, y, b2i, zb, gd]
theorem m_isWay {n : Nat} {p : Nat → Nat} {m : Sg} (h : txM m n p) : fX8_isWayThere m = some (b2i (isW p n)) := by
  have hn := h.1
  have hf := ff_le (p := p) (n := n)
  unfold fX8_isWayThere fX8_isWayThere_J23 fX8_isWayThere_J24 isW
  rw [h.2.1, m_fault h, Option.bind_some]
  have c1 : (nI n ≤ 1) ↔ n ≤ 1 := nI_leI (b := 1) (by omega) (by decide)
  have c2 : (nI (ffN p n) = nI n) ↔ ffN p n = n := nI_eq (by omega) (by omega)
  simp only [c1, c2]
  by_cases z : n ≤ 1
  · have : ¬ 2 ≤ n := by omega
    simp [z, this, b2i, zb, gd]
  · have z2 : 2 ≤ n := by omega
    by_cases y : ffN p n = n <;> simp [z, z2, y, b2i, zb, gd]
/-- what is known of a text that is a way -/
theorem way_ok {p : Nat → Nat} {n : Nat} (h : isW p n = true) : 2 ≤ n ∧ (∀ i, i < n → ∃ v, v < 8 ∧ p i = 48 + v ∧ nI (p i) - 48 = nI v) ∧ ∀ i j, i < n → j < n → p i = p j → i = j := by
  unfold isW at h
  simp only [Bool.and_eq_true, decide_eq_true_eq] at h
  have hr := ff_to h.2
  refine ⟨h.1, fun i hi => ?_, fun i j hi hj e => ?_⟩
  · have := hr i hi
    unfold rt at this
    rw [Bool.and_eq_true] at this
    exact fig_sub this.1
  · rcases Nat.lt_trichotomy i j with z | z | z
    · have := hr j hj
      unfold rt at this
      rw [Bool.and_eq_true] at this
      exact absurd e ((rtU_iff j).mp this.2 i z)
    · exact z
    · have := hr i hi
      unfold rt at this
      rw [Bool.and_eq_true] at this
      exact absurd e.symm ((rtU_iff i).mp this.2 j z)
section TX
variable {n W ex : Nat} {len : Nat → Nat} {net : Nat → Nat → Nat} {p t : Nat → Nat} {c m : Sg}
theorem RD.txc (h : RD n W ex len net p t c m) : txC c n p := ⟨h.1.1, h.1.2.1, fun i hi => ⟨(h.1.2.2.2 i hi).1, (h.1.2.2.2 i hi).2.1, (h.1.2.2.2 i hi).2.2.2⟩⟩
theorem RD.txm (h : RD n W ex len net p t c m) : txM m n p := ⟨h.1.1, h.1.2.2.1, fun i hi => ⟨(h.1.2.2.2 i hi).1, (h.1.2.2.2 i hi).2.1, (h.1.2.2.2 i hi).2.2.1⟩⟩
end TX
theorem sim_fault {c m : Sg} (h : Rel c m) : ∃ r : Int32, fX7_fault c = some r ∧ fX8_fault m = some r ∧ Rel c m := by
  obtain ⟨n, W, ex, len, net, p, t, hR, hL⟩ := id h
  refine ⟨nI (ffN p n), ?_, ?_, h⟩
  · unfold fX7_fault
    rw [c_fault hR.txc, Option.bind_some]
  · unfold fX8_fault
    rw [m_fault hR.txm, Option.bind_some]
theorem qv_mono {g m : Sg} (h : sam [14] [22] g m) : sam [14, 15] [22] g m := fun q i hq hi => h q i (fun z => hq (by simp at z; simp [z])) hi
theorem sim_valley {c m : Sg} (h : Rel c m) : ∃ (r : Int32) (m2 : Sg), fX7_valley c = some r ∧ fX8_valley m = some (r, m2) ∧ Rel c m2 := by
  have hR0 := h
  obtain ⟨n, W, ex, len, net, p, t, m1, hl, hD⟩ := rel_lay h
  have hm : fX8_isWayThere m = some (b2i (isW p n)) ∧ True := by
    obtain ⟨n2, W2, ex2, len2, net2, p2, t2, hR, hL⟩ := id hR0
    obtain ⟨g, e1, -, -, e4⟩ := m_lay hR.2.1.1 hR.2.1.2.2.1 hR.2.1.2.2.2.1 hR.2.1.2.2.2.2.2 hL
    have hg : g = m1 := by rw [hl] at e1; exact (Option.some.inj e1).symm
    subst hg
    have tm := hD.1.txm
    have tm2 : txM m n p := ⟨tm.1, (e4 0 0 (by simp) (by simp)).symm.trans tm.2.1, fun i hi => ⟨(tm.2.2 i hi).1, (tm.2.2 i hi).2.1, (e4 1 i (by simp) (by simp)).symm.trans (tm.2.2 i hi).2.2⟩⟩
    exact ⟨m_isWay tm2, trivial⟩
  have hc := c_isWay hD.1.txc
  cases hw : isW p n with
  | false =>
    rw [hw] at hm hc
    refine ⟨-1003, m, ?_, ?_, hR0⟩
    · unfold fX7_valley fX7_valley_J38
      rw [hc]; rfl
    · unfold fX8_valley
      rw [hm.1]; rfl
  | true =>
    rw [hw] at hm hc
    obtain ⟨w1, w2, w3⟩ := way_ok hw
    have tm := hD.1.txm
    have tc := hD.1.txc
    have hn := tm.1
    have hr : ∀ i, i < n → p i - 48 < 8 := fun i hi => by obtain ⟨v, v1, v2, v3⟩ := w2 i hi; omega
    have hsub : ∀ i, i < n → nI (p i) - 48 = nI (p i - 48) := fun i hi => by obtain ⟨v, v1, v2, v3⟩ := w2 i hi; rw [v3, v2, Nat.add_sub_cancel_left]
    have v1 := c_valley2 (r := fun i => p i - 48) hn s_nm hr (fun i hi => by rw [(tc.2.2 i hi).2.2, hsub i hi]) hD.1.2.2.2.2.2.2.2.2.2.2.2.2.2.2.1
    obtain ⟨⟨x, g⟩, e1, p1, p2, p3⟩ := lpS_for (step := fun t => fX8_valley_L25 t.1 t.2) (t0 := ((0 : Int32), wr m1 0 22 (nI n))) (Q := fun t => (∀ i, i < n → rd t.2 14 i = nI (p i - 48)) ∧ sam [14] [] t.2 (wr m1 0 22 (nI n)) ∧ True) n
      (fun j t => t.1 = nI j ∧ (∀ i, i < j → rd t.2 14 i = nI (p i - 48)) ∧ sam [14] [] t.2 (wr m1 0 22 (nI n)) ∧ True) ⟨rfl, fun i hi => by omega, sam.rf, trivial⟩
      (by
        rintro j ⟨x, u⟩ hj ⟨rfl, q1, q2, q3⟩
        refine ⟨(nI (j + 1), wr u 14 j (nI (p j - 48))), ?_, rfl, fun i hi => ?_, q2.wr (by simp), trivial⟩
        · simp only [fX8_valley_L25]
          rw [q2 0 22 (by simp) (by simp), rd_wr_s, if_neg (by rw [nI_leI (by omega) (by omega)]; omega)]
          simp (disch := omega) only [inb_nI, gd_t, nI_clamp, lt_d]
          rw [q2 1 _ (by simp) (by simp), rd_wr, if_neg (by simp), (tm.2.2 j hj).2.2, hsub j hj, nI_1]
        · rw [rd_wr]
          by_cases z : i = j
          · subst z; rw [if_pos ⟨rfl, rfl⟩]
          · rw [if_neg (fun y => z y.2)]; exact q1 i (by omega))
      (by
        rintro ⟨x, u⟩ ⟨rfl, q1, q2, q3⟩
        refine ⟨(nI n, u), ?_, q1, q2, q3⟩
        simp only [fX8_valley_L25]
        rw [q2 0 22 (by simp) (by simp), rd_wr_s, if_pos (by rw [nI_leI (by omega) (by omega)]; omega)]) (by omega)
    have s1 : sam [14] [22] g m1 := p2.tr (sam.rf.wr (l := []) (sl := [22]) (by simp)) (by simp) (by simp) (by simp) (by simp)
    have v2 := m_valley (r := fun i => p i - 48) (sg := g) hn s_nm hr ((p2 0 22 (by simp) (by simp)).trans rd_wr_s) p1 (fun a b ha hb => (s1 13 _ (by simp) (by simp)).trans (hD.2.2.2.2.2.2.2.2.2.2.2.2 a b ha hb))
    refine ⟨vlI (sNM W ex len net) (fun i => p i - 48) n, g, ?_, ?_, (hD.of (qv_mono s1)).rel⟩
    · unfold fX7_valley fX7_valley_J38
      rw [hc, Option.bind_some, if_neg (by decide), tc.2.1, v1, Option.bind_some]
    · unfold fX8_valley
      rw [hm.1, Option.bind_some, if_neg (by decide), hl, Option.bind_some, lt_d, tm.2.1, e1, Option.bind_some]
      unfold fX8_valley_E54
      rw [v2, Option.bind_some]
