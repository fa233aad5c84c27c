/-! the reference's far: shortest rows to one net -/
def cnd (nm : Nat → Nat → Nat) (f : Nat → Nat) (k b : Nat) : Nat := if aftN (k / 8) (nm (k % 8) b) < 2 then f (8 * aftN (k / 8) (nm (k % 8) b) + b) + 1 else 99
theorem aftI_p {d nm : Nat} (h : aftN d nm < 2) : aftI d nm = nI (aftN d nm) := if_pos h
theorem aftI_n {d nm : Nat} (h : ¬ aftN d nm < 2) : aftI d nm = -1 := if_neg h
theorem min_wr {x y : Nat} : min x y = if x ≤ y then x else y := by split <;> omega
set_option maxHeartbeats 1000000 in
theorem far_step {nm : Nat → Nat → Nat} {f : Nat → Nat} {k b : Nat} {a2 : Int32} {g : Sg} (hk : k < 16) (hb : b < 8) (hn : ∀ a b, nm a b ≤ 4) (h13 : ∀ a b, a < 8 → b < 8 → rd g 13 (8 * a + b) = nI (nm a b)) (h15 : arr g 15 16 f) (hf : ∀ k, k < 16 → f k ≤ 99) : fX8_layFar_L53 a2 (nI k) (nI b) g = some (.inr (nI (b + 1), wr g 15 k (nI (min (f k) (cnd nm f k b))))) := by
  simp only [fX8_layFar_L53, fX8_layFar_L53_J110, fX8_layFar_L53_J139]
  rw [if_neg (by rw [l8, nI_leI (by decide) (by omega)]; omega), (rem16 hk).2, (rem16 hk).1]
  simp (disch := omega) only [l8, nI_mul, nI_add, inb_nI, gd_t, nI_clamp]
  rw [h13 (k % 8) b (by omega) hb, m_behind (by omega) (hn _ _), Option.bind_some]
  have e1 : rd g 15 k = nI (f k) := h15 k hk
  have h1 := hf k hk
  unfold cnd
  by_cases c : aftN (k / 8) (nm (k % 8) b) < 2
  · rw [aftI_p c, if_neg (nI_ne_m1 (by omega)), if_pos c]
    simp (disch := omega) only [nI_mul, nI_add, inb_nI, gd_t, nI_clamp, lt_d]
    have e2 : rd g 15 (8 * aftN (k / 8) (nm (k % 8) b) + b) = nI (f (8 * aftN (k / 8) (nm (k % 8) b) + b)) := h15 _ (by omega)
    have h2 := hf (8 * aftN (k / 8) (nm (k % 8) b) + b) (by omega)
    rw [e1, e2, l1, nI_add, min_wr]
    simp (disch := omega) only [nI_leI]
    split <;> rw [nI_add]
  · rw [aftI_n c, if_pos rfl, if_neg c, e1, show (99 : Int32) = nI 99 from rfl, min_wr]
    simp (disch := omega) only [nI_leI, lt_d]
    rw [l1, nI_add]
    split <;> rfl
def farOK (nm : Nat → Nat → Nat) (e r : Nat) (f : Nat → Nat) : Prop := (∀ k, k < 16 → f k ≤ 99) ∧ (∀ k, k < 16 → f k < 99 → Pr nm e (f k) k) ∧ ∀ j k, j ≤ r → k < 16 → Pr nm e j k → f k ≤ j
/-- one step keeps what is known -/
theorem far_keep {nm : Nat → Nat → Nat} {e r k b : Nat} {f : Nat → Nat} (hk : k < 16) (hb : b < 8) (h : farOK nm e r f) : farOK nm e r (up f k (min (f k) (cnd nm f k b))) := by
  obtain ⟨h1, h2, h3⟩ := h
  refine ⟨fun i hi => ?_, fun i hi => ?_, fun j i hj hi hp => ?_⟩
  · unfold up
    have := h1 i hi
    split
    · rename_i z; subst z; omega
    · exact this
  · unfold up
    split
    · rename_i z
      subst z
      intro hl
      rcases Nat.lt_or_ge (cnd nm f i b) (f i) with q | q
      · rw [Nat.min_eq_right (Nat.le_of_lt q)] at hl ⊢
        unfold cnd at hl q ⊢
        by_cases c : aftN (i / 8) (nm (i % 8) b) < 2
        · rw [if_pos c] at hl q ⊢
          exact Or.inr ⟨b, hb, c, h2 _ (by omega) (by omega)⟩
        · rw [if_neg c] at hl; omega
      · rw [Nat.min_eq_left q] at hl ⊢
        exact h2 i hi hl
    · exact h2 i hi
  · have := h3 j i hj hi hp
    unfold up
    split
    · rename_i z; subst z; omega
    · exact this
theorem up_le {f : Nat → Nat} {k v : Nat} (h : v ≤ f k) (i : Nat) : up f k v i ≤ f i := by
  unfold up
  split
  · rename_i z; subst z; exact h
  · exact Nat.le_refl _
/-- all links of one start -/
theorem far_in {nm : Nat → Nat → Nat} {e r k : Nat} {f : Nat → Nat} {a2 : Int32} {g : Sg} (hk : k < 16) (hn : ∀ a b, nm a b ≤ 4) (h13 : ∀ a b, a < 8 → b < 8 → rd g 13 (8 * a + b) = nI (nm a b)) (h15 : arr g 15 16 f) (h : farOK nm e r f) :
    ∃ t, lpS (fun t => fX8_layFar_L53 a2 (nI k) t.1 t.2) 300 ((0 : Int32), g) = some t ∧ ∃ f2, arr t.2 15 16 f2 ∧ farOK nm e r f2 ∧ (∀ i, f2 i ≤ f i) ∧ (Pr nm e (r + 1) k → f2 k ≤ r + 1) ∧ sam [15] [] t.2 g ∧ t.2.2 = g.2 := by
  refine lpS_for (step := fun t => fX8_layFar_L53 a2 (nI k) t.1 t.2) (t0 := ((0 : Int32), g)) 8
    (fun b t => t.1 = nI b ∧ ∃ f2, arr t.2 15 16 f2 ∧ farOK nm e r f2 ∧ (∀ i, f2 i ≤ f i) ∧ (∀ b2, b2 < b → aftN (k / 8) (nm (k % 8) b2) < 2 → Pr nm e r (8 * aftN (k / 8) (nm (k % 8) b2) + b2) → f2 k ≤ r + 1) ∧ sam [15] [] t.2 g ∧ t.2.2 = g.2)
    ⟨rfl, f, h15, h, fun i => Nat.le_refl _, fun b2 hb2 => by omega, sam.rf, rfl⟩ ?_ ?_ (by decide)
  · rintro b ⟨x, u⟩ hb ⟨rfl, f2, q1, q2, q3, q4, q5, q6⟩
    have hst := far_step (a2 := a2) (f := f2) hk hb hn (fun a b ha hb => (q5 13 _ (by simp) (by simp)).trans (h13 a b ha hb)) q1 q2.1
    refine ⟨_, hst, rfl, _, arr_wr q1, far_keep hk hb q2, fun i => Nat.le_trans (up_le (Nat.min_le_left _ _) i) (q3 i), fun b2 hb2 c hp => ?_, q5.wr (by simp), q6⟩
    have hu : up f2 k (min (f2 k) (cnd nm f2 k b)) k = min (f2 k) (cnd nm f2 k b) := if_pos rfl
    rw [hu]
    rcases Nat.lt_or_ge b2 b with z | z
    · have := q4 b2 z c hp; omega
    · have : b2 = b := by omega
      subst this
      have := q2.2.2 r _ (Nat.le_refl r) (by omega) hp
      unfold cnd
      rw [if_pos c]
      omega
  · rintro ⟨x, u⟩ ⟨rfl, f2, q1, q2, q3, q4, q5, q6⟩
    refine ⟨(nI 8, u), ?_, f2, q1, q2, q3, fun hp => ?_, q5, q6⟩
    · simp only [fX8_layFar_L53]
      rw [if_pos (by decide)]
    · rcases hp with hp | ⟨b, h1, h2, h3⟩
      · have := q2.2.2 r k (Nat.le_refl r) hk hp; omega
      · exact q4 b h1 h2 h3
/-- one round -/
theorem far_round {nm : Nat → Nat → Nat} {e r : Nat} {f : Nat → Nat} {a2 : Int32} {g : Sg} (hn : ∀ a b, nm a b ≤ 4) (h13 : ∀ a b, a < 8 → b < 8 → rd g 13 (8 * a + b) = nI (nm a b)) (h15 : arr g 15 16 f) (h : farOK nm e r f) :
    ∃ t, lpS (fun t => fX8_layFar_L44 a2 t.1 t.2) 300 ((0 : Int32), g) = some t ∧ ∃ f2, arr t.2 15 16 f2 ∧ farOK nm e (r + 1) f2 ∧ sam [15] [] t.2 g ∧ t.2.2 = g.2 := by
  refine lpS_for (step := fun t => fX8_layFar_L44 a2 t.1 t.2) (t0 := ((0 : Int32), g)) 16
    (fun k t => t.1 = nI k ∧ ∃ f2, arr t.2 15 16 f2 ∧ farOK nm e r f2 ∧ (∀ i, i < k → Pr nm e (r + 1) i → f2 i ≤ r + 1) ∧ sam [15] [] t.2 g ∧ t.2.2 = g.2)
    ⟨rfl, f, h15, h, fun b2 hb2 => by omega, sam.rf, rfl⟩ ?_ ?_ (by decide)
  · rintro k ⟨x, u⟩ hk ⟨rfl, f2, q1, q2, q4, q5, q6⟩
    obtain ⟨t, e1, f3, p1, p2, p3, p4, p5, p6⟩ := far_in (a2 := a2) hk hn (fun a b ha hb => (q5 13 _ (by simp) (by simp)).trans (h13 a b ha hb)) q1 q2
    refine ⟨(nI k + 1, t.2), ?_, nI_1 k, f3, p1, p2, fun i hi hp => ?_, p5.tr q5 (by simp) (by simp) (by simp) (by simp), p6.trans q6⟩
    · simp only [fX8_layFar_L44]
      rw [if_neg (by rw [show (16 : Int32) = nI 16 from rfl, nI_leI (by decide) (by omega)]; omega), e1]
      rfl
    · rcases Nat.lt_or_ge i k with z | z
      · exact Nat.le_trans (p3 i) (q4 i z hp)
      · have : i = k := by omega
        subst this
        exact p4 hp
  · rintro ⟨x, u⟩ ⟨rfl, f2, q1, q2, q4, q5, q6⟩
    refine ⟨(nI 16, u), ?_, f2, q1, ⟨q2.1, q2.2.1, fun j k hj hk hp => ?_⟩, q5, q6⟩
    · simp only [fX8_layFar_L44]
      rw [if_pos (by decide)]
    · rcases Nat.lt_or_ge r j with z | z
      · have : j = r + 1 := by omega
        subst this
        exact q4 k hk hp
      · exact q2.2.2 j k z hk hp
theorem m_far {nm : Nat → Nat → Nat} {e : Nat} {sg : Sg} (he : e < 8) (hn : ∀ a b, nm a b ≤ 4) (h13 : ∀ a b, a < 8 → b < 8 → rd sg 13 (8 * a + b) = nI (nm a b)) :
    ∃ g f, fX8_layFar (nI e) sg = some g ∧ arr g 15 16 f ∧ farOK nm e 16 f ∧ sam [15] [] g sg ∧ g.2 = sg.2 := by
  obtain ⟨⟨x, g1⟩, e1, p1, p2, p3⟩ := lpS_for (step := fun t => fX8_layFar_L2 (nI e) t.1 t.2) (t0 := ((0 : Int32), sg)) (Q := fun t => arr t.2 15 16 (fun k => if k % 8 = e then 0 else 99) ∧ sam [15] [] t.2 sg ∧ t.2.2 = sg.2) 16
    (fun k t => t.1 = nI k ∧ arr t.2 15 k (fun k => if k % 8 = e then 0 else 99) ∧ sam [15] [] t.2 sg ∧ t.2.2 = sg.2) ⟨rfl, fun i hi => by omega, sam.rf, rfl⟩
    (by
      rintro k ⟨x, u⟩ hk ⟨rfl, q1, q2, q3⟩
      refine ⟨(nI (k + 1), wr u 15 k (nI (if k % 8 = e then 0 else 99))), ?_, rfl, ?_, q2.wr (by simp), q3⟩
      · simp only [fX8_layFar_L2, fX8_layFar_L2_J27]
        rw [if_neg (by rw [show (16 : Int32) = nI 16 from rfl, nI_leI (by decide) (by omega)]; omega), (rem16 hk).2]
        simp (disch := omega) only [inb_nI, gd_t, nI_clamp, lt_d, nI_eq]
        rw [l1, nI_add]
        split <;> rfl
      · intro i hi
        rw [rd_wr]
        by_cases z : i = k
        · subst z; rw [if_pos ⟨rfl, rfl⟩]
        · rw [if_neg (fun y => z y.2)]; exact q1 i (by omega))
    (by
      rintro ⟨x, u⟩ ⟨rfl, q1, q2, q3⟩
      refine ⟨(nI 16, u), ?_, q1, q2, q3⟩
      simp only [fX8_layFar_L2]
      rw [if_pos (by decide)]) (by decide)
  have f0 : farOK nm e 0 (fun k => if k % 8 = e then 0 else 99) := by
    refine ⟨fun k _ => by dsimp only; split <;> omega, fun k _ hl => ?_, fun j k hj hk hp => ?_⟩
    · dsimp only at hl ⊢
      by_cases z : k % 8 = e
      · rw [if_pos z]; exact z
      · rw [if_neg z] at hl; omega
    · have : j = 0 := by omega
      subst this
      have : k % 8 = e := hp
      dsimp only
      rw [if_pos this]; exact Nat.le_refl 0
  obtain ⟨⟨y, g2⟩, e2, f, r1, r2, r3, r4⟩ := lpS_for (step := fun t => fX8_layFar_L36 t.1 t.2) (t0 := ((0 : Int32), g1)) (Q := fun t => ∃ f, arr t.2 15 16 f ∧ farOK nm e 16 f ∧ sam [15] [] t.2 sg ∧ t.2.2 = sg.2) 16
    (fun r t => t.1 = nI r ∧ ∃ f, arr t.2 15 16 f ∧ farOK nm e r f ∧ sam [15] [] t.2 sg ∧ t.2.2 = sg.2) ⟨rfl, _, p1, f0, p2, p3⟩
    (by
      rintro r ⟨x, u⟩ hr ⟨rfl, f, q1, q2, q3, q4⟩
      obtain ⟨t, e3, f3, k1, k2, k3, k4⟩ := far_round (a2 := nI r) hn (fun a b ha hb => (q3 13 _ (by simp) (by simp)).trans (h13 a b ha hb)) q1 q2
      refine ⟨(nI r + 1, t.2), ?_, nI_1 r, f3, k1, k2, k3.tr q3 (by simp) (by simp) (by simp) (by simp), k4.trans q4⟩
      simp only [fX8_layFar_L36]
      rw [if_neg (by rw [show (16 : Int32) = nI 16 from rfl, nI_leI (by decide) (by omega)]; omega), e3]
      rfl)
    (by
      rintro ⟨x, u⟩ ⟨rfl, q⟩
      refine ⟨(nI 16, u), ?_, q⟩
      simp only [fX8_layFar_L36]
      rw [if_pos (by decide)]) (by decide)
  refine ⟨g2, f, ?_, r1, r2, r3, r4⟩
  unfold fX8_layFar
  rw [e1, Option.bind_some]
  unfold fX8_layFar_E34
  rw [e2]
  rfl
