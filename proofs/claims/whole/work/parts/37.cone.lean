/-! cones -/
theorem nm_anti {tp : Nat} {lk vt : Nat → Nat} (hs : ∀ c d, (lk c).testBit d = (lk d).testBit c) (u v : Nat) : nmD tp lk vt v u = 1 ↔ nmD tp lk vt u v = 2 := by
  unfold nmD nm4
  rw [hs u v, Bool.and_comm (tp.testBit u)]
  cases (lk v).testBit u with
  | false => simp
  | true =>
    rw [if_pos rfl, if_pos rfl]
    cases (tp.testBit v && tp.testBit u) with
    | true => simp
    | false =>
      rw [if_neg (show ¬ (false = true) by decide), if_neg (show ¬ (false = true) by decide)]
      by_cases h1 : vt (8 * u + v) < vt (8 * v + u)
      · have h2 : ¬ vt (8 * v + u) < vt (8 * u + v) := by omega
        simp [h1, h2]
      · by_cases h2 : vt (8 * v + u) < vt (8 * u + v)
        · simp [h1, h2]
        · simp [h1, h2]
/-- in the cone of a, by at most j payments -/
def Cq (nm : Nat → Nat → Nat) (a : Nat) : Nat → Nat → Prop
  | 0, v => v = a
  | j + 1, v => Cq nm a j v ∨ ∃ u, u < 8 ∧ Cq nm a j u ∧ nm u v = 2
theorem cq_mono {nm : Nat → Nat → Nat} {a v i : Nat} : ∀ j, i ≤ j → Cq nm a i v → Cq nm a j v
  | 0, h, hp => by have : i = 0 := by omega
                   subst this; exact hp
  | j + 1, h, hp => by
    rcases Nat.lt_or_ge j i with q | q
    · have : i = j + 1 := by omega
      subst this; exact hp
    · exact Or.inl (cq_mono j q hp)
theorem cq_stable {nm : Nat → Nat → Nat} {a i : Nat} (h : ∀ v, v < 8 → Cq nm a (i + 1) v → Cq nm a i v) : ∀ j v, v < 8 → Cq nm a j v → Cq nm a i v
  | 0, v, hv, hp => cq_mono i (Nat.zero_le i) hp
  | j + 1, v, hv, hp => by
    rcases hp with hp | ⟨u, h1, h2, h3⟩
    · exact cq_stable h j v hv hp
    · exact h v hv (Or.inr ⟨u, h1, cq_stable h j u h1 h2, h3⟩)
theorem cq_7 {nm : Nat → Nat → Nat} {a : Nat} (ha : a < 8) {j v : Nat} (hv : v < 8) (hp : Cq nm a j v) : Cq nm a 7 v := by
  have hdec : ∀ i s, Decidable (Cq nm a i s) := fun i s => Classical.propDecidable _
  have key : ∀ k, (∃ i, i < k ∧ ∀ s, s < 8 → Cq nm a (i + 1) s → Cq nm a i s) ∨ k + 1 ≤ fb_ct (fun s => @decide (Cq nm a k s) (hdec k s)) 8 := by
    intro k
    induction k with
    | zero =>
      right
      have : 0 < fb_ct (fun s => @decide (Cq nm a 0 s) (hdec 0 s)) 8 := fb_ct_pos.mpr ⟨a, ha, by simp only [decide_eq_true_eq]; rfl⟩
      omega
    | succ k ih =>
      rcases ih with ⟨i, h1, h2⟩ | h
      · exact Or.inl ⟨i, by omega, h2⟩
      · by_cases c : ∀ s, s < 8 → Cq nm a (k + 1) s → Cq nm a k s
        · exact Or.inl ⟨k, by omega, c⟩
        · right
          have : ∃ s, s < 8 ∧ Cq nm a (k + 1) s ∧ ¬ Cq nm a k s := by
            apply Classical.byContradiction
            intro z
            exact c (fun s hs2 hp2 => Classical.byContradiction (fun y => z ⟨s, hs2, hp2, y⟩))
          obtain ⟨s0, q1, q2, q3⟩ := this
          have h1 := fb_ct_upd (fun s => @decide (Cq nm a k s) (hdec k s)) true (i := s0) (n := 8) q1
          rw [if_neg (by simp only [decide_eq_true_eq]; exact q3), if_pos rfl] at h1
          have h4 : fb_ct (fun s => if s = s0 then true else @decide (Cq nm a k s) (hdec k s)) 8 ≤ fb_ct (fun s => @decide (Cq nm a (k + 1) s) (hdec (k + 1) s)) 8 := fb_ct_sub (fun s hs2 z => by
            simp only [decide_eq_true_eq]
            split at z
            · rename_i y; rw [y]; exact q2
            · simp only [decide_eq_true_eq] at z; exact Or.inl z)
          omega
  rcases key 8 with ⟨i, h1, h2⟩ | h
  · exact cq_mono 7 (by omega) (cq_stable h2 j v hv hp)
  · have := fb_ct_le (fun s => @decide (Cq nm a 8 s) (hdec 8 s)) 8
    omega
/-- a set between what r rounds must give and what is in the cone -/
def cset (nm : Nat → Nat → Nat) (a r x : Nat) : Prop := x < 256 ∧ (∀ v, x.testBit v = true → ∃ j, Cq nm a j v) ∧ ∀ v, v < 8 → Cq nm a r v → x.testBit v = true
theorem cset_one {nm : Nat → Nat → Nat} {a x y : Nat} (ha : a < 8) (h1 : cset nm a 7 x) (h2 : cset nm a 7 y) : x = y := by
  apply Nat.eq_of_testBit_eq
  intro v
  rw [Bool.eq_iff_iff]
  constructor
  · intro h
    obtain ⟨j, hj⟩ := h1.2.1 v h
    exact h2.2.2 v (tb8 h1.1 h) (cq_7 ha (tb8 h1.1 h) hj)
  · intro h
    obtain ⟨j, hj⟩ := h2.2.1 v h
    exact h1.2.2 v (tb8 h2.1 h) (cq_7 ha (tb8 h2.1 h) hj)
set_option maxHeartbeats 1000000 in
theorem c_cone {tp : Nat} {lk vt : Nat → Nat} {a : Nat} {sg : Sg} (ha : a < 8) (h20 : ∀ a, a < 8 → rd sg 20 a = nI (PYd tp lk vt a 8)) : ∃ x, fX2_cone (nI a) sg = some (nI x) ∧ cset (nmD tp lk vt) a 7 x := by
  unfold fX2_cone
  rw [lt_d, nI_pow (by omega)]
  obtain ⟨⟨z1, z2⟩, e1, x, hx, q⟩ := lpS_for (step := fun t => fX2_cone_L6 sg t.1 t.2) (t0 := (nI (2 ^ a), (1 : Int32))) (Q := fun t => ∃ x, t.1 = nI x ∧ cset (nmD tp lk vt) a 7 x) 7
    (fun r t => t.2 = nI (r + 1) ∧ ∃ x, t.1 = nI x ∧ cset (nmD tp lk vt) a r x)
    ⟨rfl, 2 ^ a, rfl, show 2 ^ a < 2 ^ 8 from Nat.pow_lt_pow_right (by decide) ha, fun v hv => ⟨0, by rw [Nat.testBit_two_pow, decide_eq_true_eq] at hv; exact hv.symm⟩, fun v _ hv => by
      have : v = a := hv
      rw [this]; exact Nat.testBit_two_pow_self⟩
    (by
      rintro r ⟨b, c⟩ hr ⟨rfl, x, rfl, x1, x2, x3⟩
      obtain ⟨⟨y1, y2⟩, e2, y, rfl, q1, q2, q3, q4⟩ := lpS_for (step := fun t => fX2_cone_L15 (nI (r + 1)) sg t.1 t.2) (t0 := (nI x, (0 : Int32))) (Q := fun t => ∃ y, t.1 = nI y ∧ y < 256 ∧ (∀ v, x.testBit v = true → y.testBit v = true) ∧ (∀ v, y.testBit v = true → ∃ j, Cq (nmD tp lk vt) a j v) ∧ ∀ u v, u < 8 → v < 8 → x.testBit u = true → nmD tp lk vt u v = 2 → y.testBit v = true) 8
        (fun i t => t.2 = nI i ∧ ∃ y, t.1 = nI y ∧ y < 256 ∧ (∀ v, x.testBit v = true → y.testBit v = true) ∧ (∀ v, y.testBit v = true → ∃ j, Cq (nmD tp lk vt) a j v) ∧ ∀ u v, u < i → v < 8 → x.testBit u = true → nmD tp lk vt u v = 2 → y.testBit v = true)
        ⟨rfl, x, rfl, x1, fun v h => h, x2, fun u v hu => by omega⟩
        (by
          rintro i ⟨d, e⟩ hi ⟨rfl, y, rfl, k1, k2, k3, k4⟩
          simp only [fX2_cone_L15, fX2_cone_L15_J43]
          rw [if_neg (by rw [l8, nI_leI (by decide) (by omega)]; omega), has0 (by omega) (by omega)]
          simp (disch := omega) only [Option.bind_some, b2i_0, inb_nI, gd_t, nI_clamp, h20 i hi]
          cases hb : y.testBit i with
          | false =>
            refine ⟨(nI y, nI i + 1), by rw [if_pos rfl, l0, fa_or, Nat.or_zero], nI_1 i, y, rfl, k1, k2, k3, fun u v hu hv h1 h2 => ?_⟩
            rcases Nat.lt_or_ge u i with q | q
            · exact k4 u v q hv h1 h2
            · have : u = i := by omega
              subst this
              rw [k2 u h1] at hb; cases hb
          | true =>
            refine ⟨(nI (y ||| PYd tp lk vt i 8), nI i + 1), by rw [if_neg (by decide), fa_or], nI_1 i, _, rfl, Nat.or_lt_two_pow (n := 8) k1 (py_lt 8 (by decide)), fun v h => by rw [Nat.testBit_or, k2 v h]; rfl, fun v h => ?_, fun u v hu hv h1 h2 => ?_⟩
            · rw [Nat.testBit_or, Bool.or_eq_true] at h
              rcases h with h | h
              · exact k3 v h
              · obtain ⟨j, hj⟩ := k3 i hb
                exact ⟨j + 1, Or.inr ⟨i, hi, hj, ((py_bit 8).mp h).2⟩⟩
            · rw [Nat.testBit_or]
              rcases Nat.lt_or_ge u i with q | q
              · rw [k4 u v q hv h1 h2]; rfl
              · have : u = i := by omega
                subst this
                rw [(py_bit 8).mpr ⟨hv, h2⟩]; simp)
        (by
          rintro ⟨d, e⟩ ⟨rfl, y, rfl, k1, k2, k3, k4⟩
          refine ⟨(nI y, nI 8), ?_, y, rfl, k1, k2, k3, k4⟩
          simp only [fX2_cone_L15]
          rw [if_pos (by decide)]) (by decide)
      refine ⟨(nI y, nI (r + 1) + 1), ?_, nI_1 _, y, rfl, q1, q3, fun v hv hc => ?_⟩
      · simp only [fX2_cone_L6]
        rw [if_neg (by rw [l8, nI_leI (by decide) (by omega)]; omega), e2]
        rfl
      · rcases hc with hc | ⟨u, h1, h2, h3⟩
        · exact q2 v (x3 v hv hc)
        · exact q4 u v h1 hv (x3 u h1 h2) h3)
    (by
      rintro ⟨b, c⟩ ⟨rfl, x, rfl, hx⟩
      refine ⟨(nI x, nI 8), ?_, x, rfl, hx⟩
      simp only [fX2_cone_L6]
      rw [if_pos (by decide)]) (by decide)
  rw [e1]
  exact ⟨x, by rw [show z1 = nI x from hx]; rfl, q⟩
set_option maxHeartbeats 1000000 in
theorem m_cone {nm : Nat → Nat → Nat} {a : Nat} {sg : Sg} (ha : a < 8) (hnm : ∀ a b, nm a b ≤ 4) (hanti : ∀ u v, nm v u = 1 ↔ nm u v = 2) (h13 : ∀ a b, a < 8 → b < 8 → rd sg 13 (8 * a + b) = nI (nm a b)) : ∃ x, fX8_coneOf (nI a) sg = some (nI x) ∧ cset nm a 7 x := by
  unfold fX8_coneOf
  rw [lt_d, nI_pow (by omega)]
  obtain ⟨⟨z1, z2⟩, e1, x, hx, q⟩ := lpS_for (step := fun t => fX8_coneOf_L6 sg t.1 t.2) (t0 := (nI (2 ^ a), (0 : Int32))) (Q := fun t => ∃ x, t.1 = nI x ∧ cset nm a 8 x) 8
    (fun r t => t.2 = nI r ∧ ∃ x, t.1 = nI x ∧ cset nm a r x)
    ⟨rfl, 2 ^ a, rfl, show 2 ^ a < 2 ^ 8 from Nat.pow_lt_pow_right (by decide) ha, fun v hv => ⟨0, by rw [Nat.testBit_two_pow, decide_eq_true_eq] at hv; exact hv.symm⟩, fun v _ hv => by
      have : v = a := hv
      rw [this]; exact Nat.testBit_two_pow_self⟩
    (by
      rintro r ⟨b, c⟩ hr ⟨rfl, x, rfl, x1, x2, x3⟩
      obtain ⟨⟨y1, y2⟩, e2, y, rfl, q1, q2, q3, q4⟩ := lpS_for (step := fun t => fX8_coneOf_L15 (nI r) sg t.1 t.2) (t0 := (nI x, (0 : Int32))) (Q := fun t => ∃ y, t.1 = nI y ∧ y < 256 ∧ (∀ v, x.testBit v = true → y.testBit v = true) ∧ (∀ v, y.testBit v = true → ∃ j, Cq nm a j v) ∧ ∀ k, k < 64 → x.testBit (k % 8) = true → nm (k / 8) (k % 8) = 1 → y.testBit (k / 8) = true) 64
        (fun i t => t.2 = nI i ∧ ∃ y, t.1 = nI y ∧ y < 256 ∧ (∀ v, x.testBit v = true → y.testBit v = true) ∧ (∀ v, y.testBit v = true → ∃ j, Cq nm a j v) ∧ ∀ k, k < i → x.testBit (k % 8) = true → nm (k / 8) (k % 8) = 1 → y.testBit (k / 8) = true)
        ⟨rfl, x, rfl, x1, fun v h => h, x2, fun u hu => by omega⟩
        (by
          rintro i ⟨d, e⟩ hi ⟨rfl, y, rfl, k1, k2, k3, k4⟩
          have e13 : rd sg 13 i = nI (nm (i / 8) (i % 8)) := by
            have := h13 (i / 8) (i % 8) (by omega) (by omega)
            rwa [show 8 * (i / 8) + i % 8 = i by omega] at this
          have hle := hnm (i / 8) (i % 8)
          simp only [fX8_coneOf_L15, fX8_coneOf_L15_J56, fX8_coneOf_L15_J57]
          rw [if_neg (by rw [show (64 : Int32) = nI 64 from rfl, nI_leI (by decide) (by omega)]; omega), (rem8 hi).2, (rem8 hi).1, has8 (by omega) (by omega)]
          simp (disch := omega) only [Option.bind_some, b2i_0, inb_nI, gd_t, nI_clamp, e13, l1, nI_eq, p_pow]
          have hkeep : ∀ k, k < i + 1 → (¬ k = i) → x.testBit (k % 8) = true → nm (k / 8) (k % 8) = 1 → y.testBit (k / 8) = true := fun k hk hne => k4 k (by omega)
          by_cases c : nm (i / 8) (i % 8) = 1
          · rw [if_pos c]
            cases hb : y.testBit (i % 8) with
            | false =>
              refine ⟨(nI y, nI i + 1), by rw [if_pos rfl, l0, fa_or, Nat.or_zero]; rfl, nI_1 i, y, rfl, k1, k2, k3, fun k hk h1 h2 => ?_⟩
              by_cases z : k = i
              · subst z
                rw [k2 _ h1] at hb; cases hb
              · exact hkeep k hk z h1 h2
            | true =>
              refine ⟨(nI (y ||| 2 ^ (i / 8)), nI i + 1), by rw [if_neg (by decide), show (nI 1 <<< (nI (i / 8) &&& 31) : Int32) = nI (2 ^ (i / 8)) from nI_pow (by omega), fa_or]; rfl, nI_1 i, _, rfl, or_lt k1 (by omega), fun v h => by rw [Nat.testBit_or, k2 v h]; rfl, fun v h => ?_, fun k hk h1 h2 => ?_⟩
              · rw [fb_bit_set, Bool.or_eq_true, decide_eq_true_eq] at h
                rcases h with h | h
                · exact k3 v h
                · obtain ⟨j, hj⟩ := k3 (i % 8) hb
                  exact ⟨j + 1, Or.inr ⟨i % 8, by omega, hj, by rw [h]; exact (hanti _ _).mp c⟩⟩
              · rw [fb_bit_set]
                by_cases z : k = i
                · subst z; simp
                · rw [hkeep k hk z h1 h2]; rfl
          · rw [if_neg c]
            refine ⟨(nI y, nI i + 1), by rw [l0, fa_or, Nat.or_zero]; rfl, nI_1 i, y, rfl, k1, k2, k3, fun k hk h1 h2 => ?_⟩
            by_cases z : k = i
            · subst z; exact absurd h2 c
            · exact hkeep k hk z h1 h2)
        (by
          rintro ⟨d, e⟩ ⟨rfl, y, rfl, k1, k2, k3, k4⟩
          refine ⟨(nI y, nI 64), ?_, y, rfl, k1, k2, k3, k4⟩
          simp only [fX8_coneOf_L15]
          rw [if_pos (by decide)]) (by decide)
      refine ⟨(nI y, nI r + 1), ?_, nI_1 _, y, rfl, q1, q3, fun v hv hc => ?_⟩
      · simp only [fX8_coneOf_L6]
        rw [if_neg (by rw [l8, nI_leI (by decide) (by omega)]; omega), e2]
        rfl
      · rcases hc with hc | ⟨u, h1, h2, h3⟩
        · exact q2 v (x3 v hv hc)
        · have := q4 (8 * v + u) (by omega)
          rw [show (8 * v + u) % 8 = u by omega, show (8 * v + u) / 8 = v by omega] at this
          exact this (x3 u h1 h2) ((hanti u v).mpr h3))
    (by
      rintro ⟨b, c⟩ ⟨rfl, x, rfl, hx⟩
      refine ⟨(nI x, nI 8), ?_, x, rfl, hx⟩
      simp only [fX8_coneOf_L6]
      rw [if_pos (by decide)]) (by decide)
  rw [e1]
  exact ⟨x, by rw [show z1 = nI x from hx]; rfl, q.1, q.2.1, fun v hv hc => q.2.2 v hv (Or.inl hc)⟩
