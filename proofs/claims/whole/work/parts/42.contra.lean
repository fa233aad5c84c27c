/-! contradicted links by how much they are contradicted -/
def lsV (vt : Nat → Nat) (k : Nat) : Nat := if k / 8 < k % 8 then min (vt k) (vt (8 * (k % 8) + k / 8)) else 0
def rkN (ls : Nat → Nat) (N L k : Nat) : Nat := fb_ct (fun i => decide (L < ls i)) N + fb_ct (fun i => decide (ls i = L)) k
theorem rkN_s {ls : Nat → Nat} {N L k : Nat} : rkN ls N L (k + 1) = rkN ls N L k + (if ls k = L then 1 else 0) := by
  unfold rkN
  rw [fb_ct_succ]
  by_cases h : ls k = L
  · rw [if_pos (by simp [h]), if_pos h]; omega
  · rw [if_neg (by simp [h]), if_neg h]; omega
theorem rkN_le {ls : Nat → Nat} {N L k : Nat} : rkN ls N L k ≤ N + k := Nat.add_le_add (fb_ct_le _ N) (fb_ct_le _ k)
theorem rkN_nx {ls : Nat → Nat} {N L : Nat} : rkN ls N (L + 1) N = rkN ls N L 0 := by
  unfold rkN
  have e1 : fb_ct (fun k => decide (L + 1 < ls k) || decide (ls k = L + 1)) N = fb_ct (fun i => decide (L + 1 < ls i)) N + fb_ct (fun i => decide (ls i = L + 1)) N := fb_ct_or (fun k _ => by simp only [decide_eq_true_eq]; omega)
  have e2 : fb_ct (fun k => decide (L + 1 < ls k) || decide (ls k = L + 1)) N = fb_ct (fun i => decide (L < ls i)) N := fb_ct_cong (fun k _ => by
    rw [Bool.eq_iff_iff]
    simp only [Bool.or_eq_true, decide_eq_true_eq]; omega)
  rw [← e1, e2]
  rfl
theorem rkN_lt {ls : Nat → Nat} {N k k2 : Nat} (hk : k < N) (h : ls k2 < ls k ∨ (ls k = ls k2 ∧ k < k2)) : rkN ls N (ls k) k < rkN ls N (ls k2) k2 := by
  rcases h with h | ⟨h1, h2⟩
  · have e1 : fb_ct (fun i => decide (ls k < ls i) || decide (ls i = ls k)) N ≤ fb_ct (fun i => decide (ls k2 < ls i)) N := fb_ct_sub (fun i _ z => by
      simp only [Bool.or_eq_true, decide_eq_true_eq] at z ⊢; omega)
    rw [fb_ct_or (fun i _ => by simp only [decide_eq_true_eq]; omega)] at e1
    have e2 : fb_ct (fun i => decide (ls i = ls k)) (k + 1) ≤ fb_ct (fun i => decide (ls i = ls k)) N := fb_ct_mono _ (by omega)
    rw [fb_ct_succ, if_pos (by simp)] at e2
    unfold rkN
    omega
  · unfold rkN
    rw [← h1]
    have e2 : fb_ct (fun i => decide (ls i = ls k)) (k + 1) ≤ fb_ct (fun i => decide (ls i = ls k)) k2 := fb_ct_mono _ (by omega)
    rw [fb_ct_succ, if_pos (by simp)] at e2
    omega
def ahV (ls : Nat → Nat) (k i : Nat) : Bool := decide (ls k < ls i) || (decide (ls i = ls k) && decide (i < k))
theorem ah_rkN {ls : Nat → Nat} {N k : Nat} (hk : k < N) : fb_ct (ahV ls k) N = rkN ls N (ls k) k := by
  have e0 : fb_ct (fun i => decide (ls k < ls i) || (decide (ls i = ls k) && decide (i < k))) N = fb_ct (fun i => decide (ls k < ls i)) N + fb_ct (fun i => decide (ls i = ls k) && decide (i < k)) N := fb_ct_or (fun i _ => by simp only [Bool.and_eq_true, decide_eq_true_eq]; omega)
  have e := fb_ct_split (fun i => decide (ls i = ls k) && decide (i < k)) k (N - k)
  rw [show k + (N - k) = N by omega] at e
  have e2 : fb_ct (fun j => decide (ls (k + j) = ls k) && decide (k + j < k)) (N - k) = 0 := fb_ct_zero.mpr (fun i _ => by simp only [Bool.and_eq_false_iff, decide_eq_false_iff_not]; right; omega)
  have e3 : fb_ct (fun i => decide (ls i = ls k) && decide (i < k)) k = fb_ct (fun i => decide (ls i = ls k)) k := fb_ct_cong (fun i hi => by simp [hi])
  unfold rkN
  show fb_ct (fun i => decide (ls k < ls i) || (decide (ls i = ls k) && decide (i < k))) N = _
  rw [e0, e, e2, e3, Nat.add_zero]
theorem rkN_0 {ls : Nat → Nat} {N L : Nat} (h : ∀ k, ls k ≤ L) : rkN ls N L 0 = 0 := by
  unfold rkN
  have : fb_ct (fun i => decide (L < ls i)) N = 0 := fb_ct_zero.mpr (fun k _ => by
    have := h k
    rw [decide_eq_false_iff_not]; omega)
  rw [this]; rfl
def RKP (ls : Nat → Nat) (rk ct : Nat → Nat → Nat) : Prop := (∀ L k, rk L (k + 1) = rk L k + (if ls k = L then 1 else 0)) ∧ (∀ L k, rk L k ≤ 64 + k) ∧ (∀ L, rk (L + 1) 64 = rk L 0) ∧ (∀ L, (∀ k, ls k ≤ L) → rk L 0 = 0) ∧ (∀ k k2, k < 64 → (ls k2 < ls k ∨ (ls k = ls k2 ∧ k < k2)) → rk (ls k) k < rk (ls k2) k2) ∧ (∀ k j, ct k (j + 1) = ct k j + (if ahV ls k j then 1 else 0)) ∧ (∀ k, ct k 0 = 0) ∧ ∀ k, k < 64 → ct k 64 = rk (ls k) k
theorem rk_ex0 (ls : Nat → Nat) (N : Nat) (hN : N = 64) : RKP ls (rkN ls N) (fun k j => fb_ct (ahV ls k) j) := by
  refine ⟨fun L k => rkN_s, fun L k => by rw [← hN]; exact rkN_le, fun L => by rw [← hN]; exact rkN_nx, fun L h => rkN_0 h, fun k k2 hk h => rkN_lt (by omega) h, fun k j => fb_ct_succ _ _, fun k => rfl, fun k hk => ?_⟩
  rw [← hN]
  exact ah_rkN (by omega)
theorem rk_ex (ls : Nat → Nat) : ∃ rk ct, RKP ls rk ct := ⟨_, _, rk_ex0 ls 64 rfl⟩
theorem rk_inj {ls : Nat → Nat} {rk ct : Nat → Nat → Nat} (hR : RKP ls rk ct) {k k2 : Nat} (hk : k < 64) (hk2 : k2 < 64) (h : rk (ls k) k = rk (ls k2) k2) : k = k2 := by
  rcases Nat.lt_trichotomy (ls k) (ls k2) with z | z | z
  · have := hR.2.2.2.2.1 k2 k hk2 (Or.inl z); omega
  · rcases Nat.lt_trichotomy k k2 with y | y | y
    · have := hR.2.2.2.2.1 k k2 hk (Or.inr ⟨z, y⟩); omega
    · exact y
    · have := hR.2.2.2.2.1 k2 k hk2 (Or.inr ⟨z.symm, y⟩); omega
  · have := hR.2.2.2.2.1 k k2 hk (Or.inl z); omega
def conA (ls : Nat → Nat) (rk : Nat → Nat → Nat) (a1 r : Int32) : Prop := (∃ k, k < 64 ∧ 0 < ls k ∧ nI (rk (ls k) k) = a1 ∧ r = nI k) ∨ (r = -1 ∧ ∀ k, k < 64 → 0 < ls k → ¬ nI (rk (ls k) k) = a1)
theorem conA_one {ls : Nat → Nat} {rk ct : Nat → Nat → Nat} (hR : RKP ls rk ct) {a1 r r2 : Int32} (h : conA ls rk a1 r) (h2 : conA ls rk a1 r2) : r = r2 := by
  rcases h with ⟨k, h1, h3, h4, h5⟩ | ⟨h1, h3⟩
  · rcases h2 with ⟨k2, q1, q3, q4, q5⟩ | ⟨q1, q3⟩
    · have e := h4.trans q4.symm
      have z1 := hR.2.1 (ls k) k
      have z2 := hR.2.1 (ls k2) k2
      rw [nI_eq (by omega) (by omega)] at e
      rw [h5, q5, rk_inj hR h1 q1 e]
    · exact absurd h4 (q3 k h1 h3)
  · rcases h2 with ⟨k2, q1, q3, q4, q5⟩ | ⟨q1, q3⟩
    · exact absurd q4 (h3 k2 q1 q3)
    · rw [h1, q1]
section CN
variable {vt : Nat → Nat} {sg : Sg} {rk ct : Nat → Nat → Nat}
theorem min_wr2 {x y : Nat} : min x y = if y < x then y else x := by split <;> omega
theorem c_lesser (hv : ∀ k, vt k ≤ 12) (h18 : arr sg 18 64 vt) {a b : Nat} (ha : a < 8) (hb : b < 8) : fX2_lesserVotes (nI a) (nI b) sg = some (nI (min (vt (8 * a + b)) (vt (8 * b + a)))) := by
  unfold fX2_lesserVotes
  simp (disch := omega) only [l8, nI_mul, nI_add, inb_nI, gd_t, nI_clamp]
  have z1 := hv (8 * a + b)
  have z2 := hv (8 * b + a)
  rw [Nat.mul_comm a 8, Nat.mul_comm b 8, h18 _ (by omega), h18 _ (by omega), min_wr2]
  simp (disch := omega) only [nI_ltI]
  split <;> rfl
theorem ls_pair {a b : Nat} (hb : b < 8) (hab : a < b) : lsV vt (8 * a + b) = min (vt (8 * a + b)) (vt (8 * b + a)) := by
  unfold lsV
  rw [show (8 * a + b) / 8 = a by omega, show (8 * a + b) % 8 = b by omega, if_pos hab]
theorem ls_le (hv : ∀ k, vt k ≤ 12) (k : Nat) : lsV vt k ≤ 12 := by
  unfold lsV
  have := hv k
  split <;> omega
theorem m_lesser (hv : ∀ k, vt k ≤ 12) (h11 : arr sg 11 64 vt) {k : Nat} (hk : k < 64) : fX8_lesserOf (nI k) sg = some (nI (lsV vt k)) := by
  unfold fX8_lesserOf fX8_lesserOf_J54 lsV
  rw [(rem8 hk).2, (rem8 hk).1]
  simp (disch := omega) only [l8, nI_mul, nI_add, inb_nI, gd_t, nI_clamp, lt_d]
  have z1 := hv k
  have z2 := hv (8 * (k % 8) + k / 8)
  rw [h11 _ (by omega), h11 _ (by omega), min_wr2]
  simp (disch := omega) only [nI_ltI, nI_leI]
  split
  · by_cases c : vt (8 * (k % 8) + k / 8) < vt k
    · rw [if_pos (by omega), if_pos c]
    · by_cases d : vt (8 * (k % 8) + k / 8) = vt k
      · rw [if_pos (by omega), if_neg c, d]
      · rw [if_neg (by omega), if_neg c]
  · rfl
/-- no pair of this number of lesser votes, below k, is the one that is wanted -/
def noF (ls : Nat → Nat) (rk : Nat → Nat → Nat) (a1 : Int32) (L k : Nat) : Prop := ∀ i, i < k → ls i = L → ¬ nI (rk L i) = a1
theorem noF_skip (hR : RKP (lsV vt) rk ct) {a1 : Int32} {L a : Nat} (hL : 0 < L) (ha : a < 8) : ∀ j, j ≤ a + 1 → rk L (8 * a + j) = rk L (8 * a) ∧ (noF (lsV vt) rk a1 L (8 * a) → noF (lsV vt) rk a1 L (8 * a + j))
  | 0, _ => ⟨rfl, fun h => h⟩
  | j + 1, hj => by
    obtain ⟨i1, i2⟩ := noF_skip hR (a1 := a1) hL ha j (by omega)
    have h0 : lsV vt (8 * a + j) = 0 := by
      unfold lsV
      rw [if_neg (by omega)]
    refine ⟨?_, fun h i hi hl => ?_⟩
    · rw [show 8 * a + (j + 1) = 8 * a + j + 1 by omega, hR.1, i1, if_neg (by omega)]; omega
    · rcases Nat.lt_or_ge i (8 * a + j) with z | z
      · exact i2 h i z hl
      · have : i = 8 * a + j := by omega
        subst this; omega
/-- where a search of the class may stand -/
def fnd (ls : Nat → Nat) (rk : Nat → Nat → Nat) (a1 : Int32) (L : Nat) (e : Int32 × Int32) (k : Nat) (u : (Int32 × Int32) ⊕ Int32) : Prop := (u = .inl e ∧ noF ls rk a1 L k) ∨ ∃ i, i < 64 ∧ u = .inr (nI i) ∧ ls i = L ∧ nI (rk L i) = a1
theorem c_conB (hR : RKP (lsV vt) rk ct) (hv : ∀ k, vt k ≤ 12) (h18 : arr sg 18 64 vt) {a1 : Int32} {L a : Nat} (hL : 0 < L) (hL12 : L ≤ 12) (ha : a < 8) (h : noF (lsV vt) rk a1 L (8 * a)) :
    ∃ u, lpO (fun t => fX2_contradictedAt_L25 a1 (nI L) (nI a) sg t.1 t.2) 300 (nI (rk L (8 * a)), nI a + (1 : Int32)) = some u ∧ fnd (lsV vt) rk a1 L (nI (rk L (8 * a + 8)), nI 8) (8 * a + 8) u := by
  obtain ⟨k1, k2⟩ := noF_skip hR (a1 := a1) hL ha (a + 1) (Nat.le_refl _)
  refine lpO_for (step := fun t => fX2_contradictedAt_L25 a1 (nI L) (nI a) sg t.1 t.2) (t0 := (nI (rk L (8 * a)), nI a + (1 : Int32))) (7 - a)
    (fun j t => t = (nI (rk L (8 * a + (a + 1 + j))), nI (a + 1 + j)) ∧ noF (lsV vt) rk a1 L (8 * a + (a + 1 + j)))
    ⟨by rw [Nat.add_zero, k1, l1, nI_add], by rw [Nat.add_zero]; exact k2 h⟩ ?_ ?_ (by omega)
  · rintro j t hj ⟨rfl, hn⟩
    have hb : a + 1 + j < 8 := by omega
    have hls : lsV vt (8 * a + (a + 1 + j)) = min (vt (8 * a + (a + 1 + j))) (vt (8 * (a + 1 + j) + a)) := ls_pair hb (by omega)
    have hst : fX2_contradictedAt_L25 a1 (nI L) (nI a) sg (nI (rk L (8 * a + (a + 1 + j)))) (nI (a + 1 + j)) = if lsV vt (8 * a + (a + 1 + j)) = L then (if nI (rk L (8 * a + (a + 1 + j))) = a1 then some (.inr (.inl (nI (8 * a + (a + 1 + j))))) else some (.inr (.inr (nI (rk L (8 * a + (a + 1 + j))) + 1, nI (a + 1 + j) + 1)))) else some (.inr (.inr (nI (rk L (8 * a + (a + 1 + j))), nI (a + 1 + j) + 1))) := by
      simp only [fX2_contradictedAt_L25, fX2_contradictedAt_L25_J64]
      have z := ls_le hv (8 * a + (a + 1 + j))
      rw [if_neg (by rw [l8, nI_leI (by decide) (by omega)]; omega), c_lesser hv h18 ha hb, Option.bind_some, ← hls, l8, nI_mul, nI_add, Nat.mul_comm a 8]
      simp (disch := omega) only [nI_eq]
    dsimp only
    rw [hst]
    by_cases c : lsV vt (8 * a + (a + 1 + j)) = L
    · rw [if_pos c]
      by_cases d : nI (rk L (8 * a + (a + 1 + j))) = a1
      · right
        exact ⟨_, by rw [if_pos d], Or.inr ⟨_, by omega, rfl, c, d⟩⟩
      · left
        refine ⟨(nI (rk L (8 * a + (a + 1 + (j + 1)))), nI (a + 1 + (j + 1))), ?_, rfl, fun i hi hl => ?_⟩
        · rw [if_neg d, nI_1, nI_1, show 8 * a + (a + 1 + (j + 1)) = 8 * a + (a + 1 + j) + 1 by omega, hR.1, if_pos c]
          rfl
        · rcases Nat.lt_or_ge i (8 * a + (a + 1 + j)) with z | z
          · exact hn i z hl
          · have : i = 8 * a + (a + 1 + j) := by omega
            subst this; exact d
    · left
      refine ⟨(nI (rk L (8 * a + (a + 1 + (j + 1)))), nI (a + 1 + (j + 1))), ?_, rfl, fun i hi hl => ?_⟩
      · rw [if_neg c, nI_1, show 8 * a + (a + 1 + (j + 1)) = 8 * a + (a + 1 + j) + 1 by omega, hR.1, if_neg c]
        rfl
      · rcases Nat.lt_or_ge i (8 * a + (a + 1 + j)) with z | z
        · exact hn i z hl
        · have : i = 8 * a + (a + 1 + j) := by omega
          subst this; exact absurd hl c
  · rintro t ⟨rfl, hn⟩
    rw [show a + 1 + (7 - a) = 8 by omega] at hn ⊢
    refine ⟨(nI (rk L (8 * a + 8)), nI 8), ?_, Or.inl ⟨rfl, hn⟩⟩
    simp only [fX2_contradictedAt_L25]
    rw [if_pos (by decide)]
theorem c_conA (hR : RKP (lsV vt) rk ct) (hv : ∀ k, vt k ≤ 12) (h18 : arr sg 18 64 vt) {a1 : Int32} {L : Nat} (hL : 0 < L) (hL12 : L ≤ 12) :
    ∃ u, lpO (fun t => fX2_contradictedAt_L12 a1 (nI L) sg t.1 t.2) 300 (nI (rk L 0), (0 : Int32)) = some u ∧ fnd (lsV vt) rk a1 L (nI (rk L 64), nI 8) 64 u := by
  refine lpO_for (step := fun t => fX2_contradictedAt_L12 a1 (nI L) sg t.1 t.2) (t0 := (nI (rk L 0), (0 : Int32))) 8
    (fun a t => t = (nI (rk L (8 * a)), nI a) ∧ noF (lsV vt) rk a1 L (8 * a)) ⟨rfl, fun i hi => by omega⟩ ?_ ?_ (by decide)
  · rintro a t ha ⟨rfl, hn⟩
    obtain ⟨u, e1, e2⟩ := c_conB hR hv h18 hL hL12 ha hn
    have hst : fX2_contradictedAt_L12 a1 (nI L) sg (nI (rk L (8 * a))) (nI a) = onE u (fun t => fX2_contradictedAt_L12_E70 a1 (nI L) (nI a) t.1 t.2 sg) (fun r => some (.inr (.inl r))) := by
      simp only [fX2_contradictedAt_L12]
      rw [if_neg (by rw [l8, nI_leI (by decide) (by omega)]; omega), e1, Option.bind_some]
    dsimp only
    rw [hst]
    rcases e2 with ⟨rfl, e2⟩ | ⟨i, h1, rfl, h2, h3⟩
    · left
      exact ⟨(nI (rk L (8 * (a + 1))), nI (a + 1)), by show some (Sum.inr (Sum.inr (nI (rk L (8 * a + 8)), nI a + 1))) = _; rw [nI_1]; rfl, rfl, e2⟩
    · right
      exact ⟨nI i, rfl, Or.inr ⟨i, h1, rfl, h2, h3⟩⟩
  · rintro t ⟨rfl, hn⟩
    refine ⟨(nI (rk L 64), nI 8), ?_, Or.inl ⟨rfl, hn⟩⟩
    simp only [fX2_contradictedAt_L12]
    rw [if_pos (by decide)]
theorem dwn : ∀ j, j < 12 → nI (12 - j) + (-1 : Int32) = nI (12 - (j + 1)) := by decide +kernel
theorem c_con (hR : RKP (lsV vt) rk ct) (hv : ∀ k, vt k ≤ 12) (h18 : arr sg 18 64 vt) (a1 : Int32) : ∃ r, fX2_contradictedAt a1 sg = some r ∧ conA (lsV vt) rk a1 r := by
  have h0 : rk 12 0 = 0 := hR.2.2.2.1 12 (ls_le hv)
  obtain ⟨u, e1, r, e2, e3⟩ := lpO_for (step := fun t => fX2_contradictedAt_L5 a1 sg t.1 t.2) (t0 := ((0 : Int32), (12 : Int32))) (Q := fun u => ∃ r, onE u (fun t => fX2_contradictedAt_E82 a1 t.1 t.2 sg) (fun r => some r) = some r ∧ conA (lsV vt) rk a1 r) 12
    (fun j t => t = (nI (rk (12 - j) 0), nI (12 - j)) ∧ ∀ k, k < 64 → 12 - j < lsV vt k → ¬ nI (rk (lsV vt k) k) = a1)
    ⟨by rw [Nat.sub_zero, h0]; rfl, fun k _ hk => by have := ls_le hv k; omega⟩
    (by
      rintro j t hj ⟨rfl, hn⟩
      obtain ⟨u, q1, q2⟩ := c_conA hR (a1 := a1) (L := 12 - j) hv h18 (by omega) (by omega)
      have hst : fX2_contradictedAt_L5 a1 sg (nI (rk (12 - j) 0)) (nI (12 - j)) = onE u (fun t => fX2_contradictedAt_L5_E76 a1 (nI (12 - j)) t.1 t.2 sg) (fun r => some (.inr (.inl r))) := by
        simp only [fX2_contradictedAt_L5]
        rw [if_neg (by rw [l0, nI_leI (by omega) (by decide)]; omega), q1, Option.bind_some]
      dsimp only
      rw [hst]
      rcases q2 with ⟨rfl, q2⟩ | ⟨i, h1, rfl, h2, h3⟩
      · left
        refine ⟨(nI (rk (12 - (j + 1)) 0), nI (12 - (j + 1))), ?_, rfl, fun k hk hl => ?_⟩
        · show some (Sum.inr (Sum.inr (nI (rk (12 - j) 64), nI (12 - j) + (-1 : Int32)))) = _
          rw [dwn j hj, show 12 - j = 12 - (j + 1) + 1 by omega, hR.2.2.1]
        · rcases Nat.lt_or_ge (12 - j) (lsV vt k) with z | z
          · exact hn k hk z
          · have e : lsV vt k = 12 - j := by omega
            rw [e]; exact q2 k hk e
      · right
        exact ⟨nI i, rfl, nI i, rfl, Or.inl ⟨i, h1, by omega, by rw [h2]; exact h3, rfl⟩⟩)
    (by
      rintro t ⟨rfl, hn⟩
      refine ⟨(nI (rk (12 - 12) 0), nI (12 - 12)), ?_, -1, rfl, Or.inr ⟨rfl, fun k hk hl => hn k hk hl⟩⟩
      simp only [fX2_contradictedAt_L5]
      rw [if_pos (by decide)]) (by decide)
  refine ⟨r, ?_, e3⟩
  unfold fX2_contradictedAt
  rw [e1, Option.bind_some, e2]
theorem m_conC (hR : RKP (lsV vt) rk ct) (hv : ∀ k, vt k ≤ 12) (h11 : arr sg 11 64 vt) {a1 : Int32} {k : Nat} (hk : k < 64) : lpS (fun t => fX8_contradictedNow_L17 a1 (nI k) sg t.1 t.2) 300 ((0 : Int32), (0 : Int32)) = some (nI (rk (lsV vt k) k), nI 64) := by
  have h := lpS_det (step := fun t => fX8_contradictedNow_L17 a1 (nI k) sg t.1 t.2) (u := (nI (ct k 64), nI 64)) 64 (fun j => (nI (ct k j), nI j)) (fun j hj => by
    simp only [fX8_contradictedNow_L17, fX8_contradictedNow_L17_J59, fX8_contradictedNow_L17_J63, fX8_contradictedNow_L17_J64]
    have z1 := ls_le hv k
    have z2 := ls_le hv j
    rw [if_neg (by rw [show (64 : Int32) = nI 64 from rfl, nI_leI (by decide) (by omega)]; omega), m_lesser hv h11 hk, m_lesser hv h11 hj]
    simp (disch := omega) only [Option.bind_some, nI_ltI, nI_leI, nI_eq]
    rw [hR.2.2.2.2.2.1, nI_1]
    unfold ahV
    by_cases c : lsV vt k < lsV vt j
    · rw [if_pos c, if_pos (by simp [c]), nI_1]
    · rw [if_neg c]
      by_cases d : lsV vt j = lsV vt k
      · rw [if_pos d]
        by_cases e : k ≤ j
        · rw [if_pos e, if_neg (by simp [d]; omega), l0, nI_add, nI_1]
        · rw [if_neg e, if_pos (by simp [d]; omega), nI_1]
      · rw [if_neg d, if_neg (by simp [d]; omega), l0, nI_add, nI_1]) (by
    simp only [fX8_contradictedNow_L17]
    rw [if_pos (by decide)]) (by decide)
  rw [hR.2.2.2.2.2.2.2 k hk, hR.2.2.2.2.2.2.1] at h
  exact h
theorem m_con (hR : RKP (lsV vt) rk ct) (hv : ∀ k, vt k ≤ 12) (h11 : arr sg 11 64 vt) (a1 : Int32) : ∃ u r, lpO (fun t => fX8_contradictedNow_L6 a1 sg t) 300 (0 : Int32) = some u ∧ onE u (fun t => fX8_contradictedNow_E93 a1 t sg) (fun r => some r) = some (r, sg) ∧ conA (lsV vt) rk a1 r := by
  obtain ⟨u, e1, r, e2, e3⟩ := lpO_for (step := fun t => fX8_contradictedNow_L6 a1 sg t) (t0 := (0 : Int32)) (Q := fun u => ∃ r, onE u (fun t => fX8_contradictedNow_E93 a1 t sg) (fun r => some r) = some (r, sg) ∧ conA (lsV vt) rk a1 r) 64
    (fun j t => t = nI j ∧ ∀ k, k < j → 0 < lsV vt k → ¬ nI (rk (lsV vt k) k) = a1) ⟨rfl, fun k hk => by omega⟩
    (by
      rintro j t hj ⟨rfl, hn⟩
      have hst : fX8_contradictedNow_L6 a1 sg (nI j) = if lsV vt j ≤ 0 then some (.inr (.inr (nI j + 1))) else (if nI (rk (lsV vt j) j) = a1 then some (.inr (.inl (nI j, sg))) else some (.inr (.inr (nI j + 1)))) := by
        simp only [fX8_contradictedNow_L6]
        rw [if_neg (by rw [show (64 : Int32) = nI 64 from rfl, nI_leI (by decide) (by omega)]; omega), m_conC hR hv h11 hj, Option.bind_some]
        simp only [fX8_contradictedNow_L6_E72, fX8_contradictedNow_L6_J87]
        have z1 := ls_le hv j
        rw [m_lesser hv h11 hj, Option.bind_some, l0]
        simp (disch := omega) only [nI_leI]
      rw [hst]
      have hnx : ∀ k, k < j + 1 → (k = j → 0 < lsV vt k → ¬ nI (rk (lsV vt k) k) = a1) → 0 < lsV vt k → ¬ nI (rk (lsV vt k) k) = a1 := fun k hk h1 h2 => by
        rcases Nat.lt_or_ge k j with z | z
        · exact hn k z h2
        · exact h1 (by omega) h2
      by_cases c : lsV vt j ≤ 0
      · left
        exact ⟨nI j + 1, by rw [if_pos c], nI_1 j, fun k hk => hnx k hk (fun z y => by subst z; omega)⟩
      · rw [if_neg c]
        by_cases d : nI (rk (lsV vt j) j) = a1
        · right
          exact ⟨(nI j, sg), by rw [if_pos d], nI j, rfl, Or.inl ⟨j, hj, by omega, d, rfl⟩⟩
        · left
          exact ⟨nI j + 1, by rw [if_neg d], nI_1 j, fun k hk => hnx k hk (fun z y => by subst z; exact d)⟩)
    (by
      rintro t ⟨rfl, hn⟩
      refine ⟨nI 64, ?_, -1, rfl, Or.inr ⟨rfl, hn⟩⟩
      simp only [fX8_contradictedNow_L6]
      rw [if_pos (by decide)]) (by decide)
  exact ⟨u, r, e1, e2, e3⟩
end CN
section QC
variable {n W ex : Nat} {len : Nat → Nat} {net : Nat → Nat → Nat} {p t : Nat → Nat} {c m : Sg}
theorem q_con (h : LD n W ex len net p t c m) (a : Int32) : qe (fX7_contradicted a c) (fX8_contradictedNow a) m := by
  have hO := h.1.2.1.1
  have hv := s_vt (ex := ex) hO
  have d11 := h.1.2.2.2.2.2.2.2.2.2.2.2.2.2.1
  have x10 := h.2.2.2.2.2.2.2.2.2.2.2.1
  obtain ⟨rk, ct, hR⟩ := rk_ex (lsV (sVT W ex len net))
  obtain ⟨r, e1, e2⟩ := c_con hR hv d11 a
  obtain ⟨u, r2, e3, e4, e5⟩ := m_con hR hv x10 a
  have hm : fX8_contradictedNow a m = some (r2, m) := by
    unfold fX8_contradictedNow
    rw [ld_lay h, Option.bind_some, e3, Option.bind_some, e4]
  by_cases z : (0 : Int32) ≤ a
  · refine qe_same (r := r2) ?_ hm
    unfold fX7_contradicted fX7_contradicted_J16
    rw [if_pos z, e1, Option.bind_some, conA_one hR e2 e5]
  · have hr : r2 = -1 := by
      refine conA_one hR e5 (Or.inr ⟨rfl, fun k hk _ y => z ?_⟩)
      have hle := hR.2.1 (lsV (sVT W ex len net) k) k
      rw [← y, l0]
      exact (nI_leI (by decide) (by omega)).mpr (Nat.zero_le _)
    refine qe_same (r := r2) ?_ hm
    unfold fX7_contradicted fX7_contradicted_J16
    rw [if_neg z, hr]
end QC
