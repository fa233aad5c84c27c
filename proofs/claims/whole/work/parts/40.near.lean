/-! near -/
theorem pr_un {tp sn e : Nat} {lk vt : Nat → Nat} (hg : gdL lk sn) (he : sn.testBit e = false) : ∀ j s, Pr (nmD tp lk vt) e j s → s % 8 = e
  | 0, s, hp => hp
  | j + 1, s, hp => by
    rcases hp with hp | ⟨b, h1, h2, h3⟩
    · exact pr_un hg he j s hp
    · exfalso
      have hb := pr_un hg he j _ h3
      have : b = e := by omega
      subst this
      have hl : (lk (s % 8)).testBit b = false := by
        cases c : (lk (s % 8)).testBit b with
        | false => rfl
        | true =>
          rw [hg.2.1] at c
          rw [hg.2.2.2 _ _ c] at he; cases he
      have : nmD tp lk vt (s % 8) b = 0 := by unfold nmD; rw [hl]; rfl
      rw [this] at h2
      exact absurd h2 (by unfold aftN; simp)
/-- what the reference holds as far is what the class holds as fewest -/
theorem far_few {sn e : Nat} {nm : Nat → Nat → Nat} {f : Nat → Nat} (he : e < 8) (hs : sn.testBit e = true) (h : farOK nm e 16 f) {s : Nat} (hs16 : s < 16) : (f s < 16 ∨ f s = 99) ∧ few sn nm 15 s e = if f s < 99 then nI (f s) else -1 := by
  have hP : f s < 99 → f s < 16 := fun z => by
    have := h.2.2 15 s (by decide) hs16 (pr_15 he hs16 (h.2.1 s hs16 z)); omega
  have h99 := h.1 s hs16
  refine ⟨by omega, ?_⟩
  unfold few
  by_cases c : f s < 99
  · have h16 := hP c
    rw [if_pos ((rc_pr 15 s).mpr ⟨hs, pr_mono 15 (by omega) (h.2.1 s hs16 c)⟩), if_pos c]
    refine congrArg nI (ff_eq (p := fun i => (RCd sn nm i s).testBit e) (n := 16) h16 ((rc_pr _ s).mpr ⟨hs, h.2.1 s hs16 c⟩) (fun i hi => ?_))
    cases q : (RCd sn nm i s).testBit e with
    | false => rfl
    | true =>
      have := h.2.2 i s (by omega) hs16 ((rc_pr i s).mp q).2
      omega
  · rw [if_neg c, if_neg]
    intro q
    have := h.2.2 15 s (by decide) hs16 ((rc_pr 15 s).mp q).2
    omega
theorem few_un {sn e : Nat} {nm : Nat → Nat → Nat} (hs : sn.testBit e = false) {s : Nat} : few sn nm 15 s e = -1 := by
  unfold few
  rw [if_neg]
  intro q
  rw [((rc_pr 15 s).mp q).1] at hs; cases hs
theorem few_self {sn e : Nat} {nm : Nat → Nat → Nat} (he : e < 8) : few sn nm 15 e e = if sn.testBit e then 0 else -1 := by
  cases c : sn.testBit e with
  | false => exact few_un c
  | true =>
    unfold few
    have h0 : Pr nm e 0 e := show e % 8 = e by omega
    rw [if_pos ((rc_pr 15 e).mpr ⟨c, pr_mono 15 (by omega) h0⟩), ff_eq (p := fun i => (RCd sn nm i e).testBit e) (n := 16) (k := 0) (by decide) ((rc_pr 0 e).mpr ⟨c, h0⟩) (fun i hi => by omega)]
    rfl
section NR
variable {nm : Nat → Nat → Nat} {FE : Nat → Nat → Int32} {sg : Sg}
theorem c_fewest (h22 : ∀ s e, s < 16 → e < 8 → rd sg 22 (8 * s + e) = FE s e) {d a b : Nat} (hd : d < 2) (ha : a < 8) (hb : b < 8) : fX5_fewestLinks (nI d) (nI a) (nI b) sg = some (FE (8 * d + a) b) := by
  unfold fX5_fewestLinks
  simp (disch := omega) only [l8, nI_mul, nI_add, inb_nI, gd_t, nI_clamp]
  rw [show (d * 8 + a) * 8 + b = 8 * (8 * d + a) + b by omega, h22 _ _ (by omega) hb]
/-- the least second net, as the class finds it: none while the row has no link -/
theorem c_second0 (hn : ∀ a b, nm a b ≤ 4) (h19 : namC sg nm) {a b : Nat} (ha : a < 8) : ∃ u, lpO (fun t => fX5_leastSecond_17_L20 (nI a) (nI b) (0 : Int32) sg t) 300 (0 : Int32) = some u ∧ onE u (fun t => fX5_leastSecond_17_E81 (nI a) (nI b) (0 : Int32) t sg) (fun r => some r) = some (-1) := by
  refine lpO_for (step := fun t => fX5_leastSecond_17_L20 (nI a) (nI b) (0 : Int32) sg t) (t0 := (0 : Int32)) 8 (fun j t => t = nI j) rfl ?_ ?_ (by decide)
  · rintro j t hj rfl
    refine Or.inl ⟨nI j + 1, ?_, nI_1 j⟩
    simp only [fX5_leastSecond_17_L20, fX5_leastSecond_17_L20_J75]
    rw [if_neg (by rw [l8, nI_leI (by decide) (by omega)]; omega)]
    simp (disch := omega) only [l8, nI_mul, nI_add, inb_nI, gd_t, nI_clamp]
    rw [Nat.mul_comm a 8, h19 a j ha hj, l0, c_after (by decide) (hn _ _), Option.bind_some, if_pos (by decide)]
  · rintro t rfl
    refine ⟨nI 8, ?_, rfl⟩
    simp only [fX5_leastSecond_17_L20]
    rw [if_pos (by decide)]
theorem c_second (hn : ∀ a b, nm a b ≤ 4) (h19 : namC sg nm) (h22 : ∀ s e, s < 16 → e < 8 → rd sg 22 (8 * s + e) = FE s e) {a b k L : Nat} (ha : a < 8) (hb : b < 8) (hk : k < 8) (hL : L < 1000) (h1 : aftN 0 (nm a k) < 2 ∧ FE (8 * aftN 0 (nm a k) + k) b = nI L) (h2 : ∀ j, j < k → ¬ (aftN 0 (nm a j) < 2 ∧ FE (8 * aftN 0 (nm a j) + j) b = nI L)) :
    ∃ u, lpO (fun t => fX5_leastSecond_17_L20 (nI a) (nI b) (nI (L + 1)) sg t) 300 (0 : Int32) = some u ∧ onE u (fun t => fX5_leastSecond_17_E81 (nI a) (nI b) (nI (L + 1)) t sg) (fun r => some r) = some (nI k) := by
  have step : ∀ j, j < 8 → fX5_leastSecond_17_L20 (nI a) (nI b) (nI (L + 1)) sg (nI j) = if aftN 0 (nm a j) < 2 ∧ FE (8 * aftN 0 (nm a j) + j) b = nI L then some (.inr (.inl (nI j))) else some (.inr (.inr (nI j + 1))) := by
    intro j hj
    simp only [fX5_leastSecond_17_L20, fX5_leastSecond_17_L20_J75]
    rw [if_neg (by rw [l8, nI_leI (by decide) (by omega)]; omega)]
    simp (disch := omega) only [l8, nI_mul, nI_add, inb_nI, gd_t, nI_clamp]
    rw [Nat.mul_comm a 8, h19 a j ha hj, l0, c_after (by decide) (hn _ _), Option.bind_some, if_neg (by rw [nI_leI (by omega) (by omega)]; omega)]
    by_cases c : aftN 0 (nm a j) < 2
    · rw [aftI_p c, if_neg (nI_ne_m1 (by omega)), c_fewest h22 c hj hb, Option.bind_some, l1, nI_sub (by omega), Nat.add_sub_cancel]
      simp only [c, true_and]
    · rw [aftI_n c, if_pos rfl, if_neg (fun z => c z.1)]
  refine lpO_for (step := fun t => fX5_leastSecond_17_L20 (nI a) (nI b) (nI (L + 1)) sg t) (t0 := (0 : Int32)) 8 (fun j t => t = nI j ∧ j ≤ k) ⟨rfl, by omega⟩ ?_ ?_ (by decide)
  · rintro j t hj ⟨rfl, hjk⟩
    rw [step j hj]
    by_cases c : j = k
    · subst c
      right
      exact ⟨nI j, by rw [if_pos h1], rfl⟩
    · left
      exact ⟨nI j + 1, by rw [if_neg (h2 j (by omega))], nI_1 j, by omega⟩
  · rintro t ⟨rfl, hjk⟩
    omega
end NR
section NM
variable {nm : Nat → Nat → Nat} {f : Nat → Nat} {sg : Sg}
theorem m_near0 {a : Nat} (ha : a < 8) (h15 : arr sg 15 16 f) : ∃ u, lpO (fun t => fX8_nearNow_L51 (nI a) (0 : Int32) sg t) 300 (0 : Int32) = some u ∧ onE u (fun t => fX8_nearNow_E120 (nI a) (0 : Int32) t sg) (fun r => some r) = some (nI (f a), sg) := by
  refine lpO_for (step := fun t => fX8_nearNow_L51 (nI a) (0 : Int32) sg t) (t0 := (0 : Int32)) 0 (fun j t => t = nI 0) rfl (fun j t hj => by omega) ?_ (by decide)
  rintro t rfl
  refine ⟨nI 0, ?_, ?_⟩
  · simp only [fX8_nearNow_L51]
    rw [if_neg (by decide), if_neg (by decide)]
  · show fX8_nearNow_E120 (nI a) (0 : Int32) (nI 0) sg = _
    unfold fX8_nearNow_E120
    simp (disch := omega) only [inb_nI, gd_t, nI_clamp]
    rw [h15 a (by omega)]
theorem m_near1 (hn : ∀ a b, nm a b ≤ 4) (h13 : ∀ a b, a < 8 → b < 8 → rd sg 13 (8 * a + b) = nI (nm a b)) (h15 : arr sg 15 16 f) (hf : ∀ k, k < 16 → f k ≤ 99) {a k : Nat} (ha : a < 8) (hk : k < 8) (h1 : aftN 0 (nm a k) < 2 ∧ f (8 * aftN 0 (nm a k) + k) + 1 = f a) (h2 : ∀ j, j < k → ¬ (aftN 0 (nm a j) < 2 ∧ f (8 * aftN 0 (nm a j) + j) + 1 = f a)) :
    ∃ u, lpO (fun t => fX8_nearNow_L51 (nI a) (1 : Int32) sg t) 300 (0 : Int32) = some u ∧ onE u (fun t => fX8_nearNow_E120 (nI a) (1 : Int32) t sg) (fun r => some r) = some (nI k, sg) := by
  have step : ∀ j, j < 8 → fX8_nearNow_L51 (nI a) (1 : Int32) sg (nI j) = if aftN 0 (nm a j) < 2 ∧ f (8 * aftN 0 (nm a j) + j) + 1 = f a then some (.inr (.inl (nI j, sg))) else some (.inr (.inr (nI j + 1))) := by
    intro j hj
    simp only [fX8_nearNow_L51, fX8_nearNow_L51_J114]
    rw [if_neg (by rw [l8, nI_leI (by decide) (by omega)]; omega), if_pos True.intro]
    simp (disch := omega) only [l8, nI_mul, nI_add, inb_nI, gd_t, nI_clamp]
    rw [h13 a j ha hj, l0, m_behind (by decide) (hn _ _), Option.bind_some]
    by_cases c : aftN 0 (nm a j) < 2
    · rw [aftI_p c, if_neg (nI_ne_m1 (by omega))]
      simp (disch := omega) only [nI_mul, nI_add, inb_nI, gd_t, nI_clamp]
      have z1 := hf (8 * aftN 0 (nm a j) + j) (by omega)
      have z2 := hf a (by omega)
      rw [h15 _ (by omega), h15 a (by omega), l1, nI_add]
      simp (disch := omega) only [nI_eq]
      simp only [c, true_and]
    · rw [aftI_n c, if_pos rfl, if_neg (fun z => c z.1)]
  refine lpO_for (step := fun t => fX8_nearNow_L51 (nI a) (1 : Int32) sg t) (t0 := (0 : Int32)) 8 (fun j t => t = nI j ∧ j ≤ k) ⟨rfl, by omega⟩ ?_ ?_ (by decide)
  · rintro j t hj ⟨rfl, hjk⟩
    rw [step j hj]
    by_cases c : j = k
    · subst c
      right
      exact ⟨(nI j, sg), by rw [if_pos h1], rfl⟩
    · left
      exact ⟨nI j + 1, by rw [if_neg (h2 j (by omega))], nI_1 j, by omega⟩
  · rintro t ⟨rfl, hjk⟩
    omega
end NM
/-- there is a second net -/
theorem far_second {nm : Nat → Nat → Nat} {e a : Nat} {f : Nat → Nat} (he : e < 8) (ha : a < 8) (hae : a ≠ e) (h : farOK nm e 16 f) (hf : f a < 99) : ∃ k, k < 8 ∧ (aftN 0 (nm a k) < 2 ∧ f (8 * aftN 0 (nm a k) + k) + 1 = f a) ∧ ∀ j, j < k → ¬ (aftN 0 (nm a j) < 2 ∧ f (8 * aftN 0 (nm a j) + j) + 1 = f a) := by
  have key : ∃ k, k < 8 ∧ (aftN 0 (nm a k) < 2 ∧ f (8 * aftN 0 (nm a k) + k) + 1 = f a) := by
    have hp := h.2.1 a (by omega) hf
    have h15 := h.2.2 15 a (by decide) (by omega) (pr_15 he (by omega) hp)
    generalize hv : f a = v at hp
    cases v with
    | zero =>
      have : a % 8 = e := hp
      omega
    | succ v =>
      rcases hp with hp | ⟨b, h1, h2, h3⟩
      · have := h.2.2 v a (by omega) (by omega) hp; omega
      · rw [show a / 8 = 0 by omega, show a % 8 = a by omega] at h2 h3
        refine ⟨b, h1, h2, ?_⟩
        have hle := h.2.2 v _ (by omega) (by omega) h3
        have hp2 := h.2.1 (8 * aftN 0 (nm a b) + b) (by omega) (by omega)
        have hq : Pr nm e (f (8 * aftN 0 (nm a b) + b) + 1) a := Or.inr ⟨b, h1, by rw [show a / 8 = 0 by omega, show a % 8 = a by omega]; exact h2, by rw [show a / 8 = 0 by omega, show a % 8 = a by omega]; exact hp2⟩
        have := h.2.2 _ a (by omega) (by omega) hq
        omega
  exact fb_first key
section QR
variable {n W ex : Nat} {len : Nat → Nat} {net : Nat → Nat → Nat} {p t : Nat → Nat} {c m : Sg}
theorem q_near (h : LD n W ex len net p t c m) {a b k : Nat} (ha : a < 8) (hb : b < 8) (hk : k < 2) : qe (fX7_near (nI a) (nI b) (nI k) c) (fX8_nearNow (nI a) (nI b) (nI k)) m := by
  have hO := h.1.2.1.1
  obtain ⟨-, -, -, -, -, -, -, -, -, -, -, d12, -, d14⟩ := h.1.2.2.2
  obtain ⟨-, -, -, x4, -, -, -, -, -, -, x11⟩ := h.2.2
  have hsn := s_sn (ex := ex) hO
  have hc : fX7_near (nI a) (nI b) (nI k) c = if k = 0 then some (few (sSN W ex len net) (sNM W ex len net) 15 a b) else fX5_leastSecond_17 (nI a) (nI b) c := by
    unfold fX7_near
    rw [c_isNet, c_isNet, isN_nI ha, isN_nI hb]
    simp only [Option.bind_some]
    rw [if_neg (by decide : ¬ b2i true = 0), if_neg (by decide : ¬ b2i true = 0)]
    rcases (show k = 0 ∨ k = 1 by omega) with rfl | rfl
    · rw [if_pos (show nI 0 = 0 from rfl), l0, c_fewest d14 (by decide) ha hb, Option.bind_some, Nat.mul_zero, Nat.zero_add]
      rfl
    · rw [if_neg (show ¬ nI 1 = 0 by decide), if_pos (show nI 1 = 1 from rfl), if_neg (show ¬ 1 = 0 by decide)]
      cases fX5_leastSecond_17 (nI a) (nI b) c <;> rfl
  have hls : fX5_leastSecond_17 (nI a) (nI b) c = if few (sSN W ex len net) (sNM W ex len net) 15 a b = -1 then some (-1) else ((lpO (fun t => fX5_leastSecond_17_L20 (nI a) (nI b) (few (sSN W ex len net) (sNM W ex len net) 15 a b) c t) 300 (0 : Int32)).bind fun u => onE u (fun t => fX5_leastSecond_17_E81 (nI a) (nI b) (few (sSN W ex len net) (sNM W ex len net) 15 a b) t c) (fun r => some r)) := by
    unfold fX5_leastSecond_17
    rw [l0, c_fewest d14 (by decide) ha hb, Option.bind_some, Nat.mul_zero, Nat.zero_add]
  by_cases hab : a = b
  · subst hab
    have hf := few_self (sn := sSN W ex len net) (nm := sNM W ex len net) ha
    have hc2 : fX7_near (nI a) (nI a) (nI k) c = some (if k = 0 then (if (sSN W ex len net).testBit a then 0 else -1) else -1) := by
      rw [hc, hls, hf]
      rcases (show k = 0 ∨ k = 1 by omega) with rfl | rfl
      · rfl
      · rw [if_neg (show ¬ 1 = 0 by decide), if_neg (show ¬ 1 = 0 by decide)]
        cases (sSN W ex len net).testBit a with
        | false => rfl
        | true =>
          obtain ⟨u, e1, e2⟩ := c_second0 (b := a) s_nm d12 ha
          rw [if_pos rfl, if_neg (by decide), e1, Option.bind_some, e2]
    refine qe_same hc2 ?_
    unfold fX8_nearNow fX8_nearNow_J28 fX8_nearNow_J29
    rw [ld_lay h, Option.bind_some, if_pos rfl, x4, has8 (by omega) (by omega), Option.bind_some]
    rcases (show k = 0 ∨ k = 1 by omega) with rfl | rfl
    · cases (sSN W ex len net).testBit a <;> rfl
    · rfl
  · obtain ⟨g, f, e1, q1, q2, q3, q4⟩ := m_far hb s_nm x11
    have q3' : sam [14, 15] [22] g m := fun q i hq hi => q3 q i (fun z => hq (by simp at z; simp [z])) (fun _ => by simp)
    have hm : fX8_nearNow (nI a) (nI b) (nI k) m = if nI (f a) < (99 : Int32) then ((lpO (fun t => fX8_nearNow_L51 (nI a) (nI k) g t) 300 (0 : Int32)).bind fun u => onE u (fun t => fX8_nearNow_E120 (nI a) (nI k) t g) (fun r => some r)) else some ((-1 : Int32), g) := by
      unfold fX8_nearNow
      rw [ld_lay h, Option.bind_some, if_neg (fun z => hab ((nI_eq (by omega) (by omega)).mp z)), e1, Option.bind_some]
      simp (disch := omega) only [inb_nI, gd_t, nI_clamp]
      rw [q1 a (by omega)]
    have ha99 := q2.1 a (by omega)
    have h99 : (nI (f a) < (99 : Int32)) = (f a < 99) := propext (nI_ltI (b := 99) (by omega) (by decide))
    cases hsb : (sSN W ex len net).testBit b with
    | false =>
      have hf := few_un (nm := sNM W ex len net) (s := a) hsb
      have hfa : ¬ f a < 99 := fun z => by
        have := pr_un (s_gd (ex := ex) hO) hsb _ _ (q2.2.1 a (by omega) z)
        omega
      refine ⟨-1, g, ?_, ?_, q3', q4⟩
      · rw [hc, hls, hf]
        rcases (show k = 0 ∨ k = 1 by omega) with rfl | rfl <;> rfl
      · rw [hm, if_neg (by rw [h99]; exact hfa)]
    | true =>
      obtain ⟨z1, z2⟩ := far_few hb hsb q2 (s := a) (by omega)
      by_cases hfa : f a < 99
      · rw [if_pos hfa] at z2
        have hfa16 : f a < 16 := by omega
        have hpos : 0 < f a := by
          rcases Nat.eq_zero_or_pos (f a) with y | y
          · have := q2.2.1 a (by omega) hfa
            rw [y] at this
            have : a % 8 = b := this
            omega
          · exact y
        rcases (show k = 0 ∨ k = 1 by omega) with rfl | rfl
        · obtain ⟨u, y1, y2⟩ := m_near0 ha q1
          refine ⟨nI (f a), g, ?_, ?_, q3', q4⟩
          · rw [hc, z2]; rfl
          · rw [hm, if_pos (by rw [h99]; exact hfa), ← l0, y1, Option.bind_some, y2]
        · obtain ⟨j, j1, j2, j3⟩ := far_second hb ha hab q2 hfa
          obtain ⟨u, y1, y2⟩ := m_near1 s_nm (fun a b ha hb => (q3 13 _ (by simp) (by simp)).trans (x11 a b ha hb)) q1 q2.1 ha j1 j2 j3
          have hiff : ∀ i, i < 8 → aftN 0 (sNM W ex len net a i) < 2 → ((few (sSN W ex len net) (sNM W ex len net) 15 (8 * aftN 0 (sNM W ex len net a i) + i) b = nI (f a - 1)) ↔ f (8 * aftN 0 (sNM W ex len net a i) + i) + 1 = f a) := by
            intro i hi ci
            obtain ⟨w1, w2⟩ := far_few hb hsb q2 (s := 8 * aftN 0 (sNM W ex len net a i) + i) (by omega)
            rw [w2]
            by_cases v : f (8 * aftN 0 (sNM W ex len net a i) + i) < 99
            · rw [if_pos v, nI_eq (by omega) (by omega)]; omega
            · rw [if_neg v]
              constructor
              · intro y; exact absurd y.symm (nI_ne_m1 (by omega))
              · intro y; omega
          obtain ⟨u2, v1, v2⟩ := c_second (L := f a - 1) s_nm d12 d14 ha hb j1 (by omega) ⟨j2.1, (hiff j j1 j2.1).mpr j2.2⟩ (fun i hi y => j3 i hi ⟨y.1, (hiff i (by omega) y.1).mp y.2⟩)
          rw [show f a - 1 + 1 = f a by omega] at v1 v2
          refine ⟨nI j, g, ?_, ?_, q3', q4⟩
          · rw [hc, if_neg (by decide), hls, z2, if_neg (nI_ne_m1 (by omega)), v1, Option.bind_some, v2]
          · rw [hm, if_pos (by rw [h99]; exact hfa), ← l1, y1, Option.bind_some, y2]
      · rw [if_neg hfa] at z2
        refine ⟨-1, g, ?_, ?_, q3', q4⟩
        · rw [hc, hls, z2]
          rcases (show k = 0 ∨ k = 1 by omega) with rfl | rfl <;> rfl
        · rw [hm, if_neg (by rw [h99]; exact hfa)]
end QR
