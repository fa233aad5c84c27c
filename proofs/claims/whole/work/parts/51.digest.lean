/-! the digest: both fold the same answers -/
def hg (g : Nat → Int64 → Int64) (h : Int64) : Nat → Int64
  | 0 => h
  | j + 1 => g j (hg g h j)
theorem hg_add (g : Nat → Int64 → Int64) (h : Int64) (a : Nat) : ∀ b, hg g h (a + b) = hg (fun j => g (a + j)) (hg g h a) b
  | 0 => rfl
  | b + 1 => by
    show g (a + b) (hg g h (a + b)) = g (a + b) (hg (fun j => g (a + j)) (hg g h a) b)
    rw [hg_add g h a b]
theorem hg_rows (g : Nat → Int64 → Int64) (h : Int64) : ∀ a, hg g h (8 * a) = hg (fun a h => hg (fun b => g (8 * a + b)) h 8) h a
  | 0 => rfl
  | a + 1 => by
    rw [show 8 * (a + 1) = 8 * a + 8 by omega, hg_add, hg_rows g h a]
    rfl
theorem hg_cong {g g2 : Nat → Int64 → Int64} {h : Int64} : ∀ {n : Nat}, (∀ j x, j < n → g j x = g2 j x) → hg g h n = hg g2 h n
  | 0, _ => rfl
  | n + 1, hh => by
    show g n (hg g h n) = g2 n (hg g2 h n)
    rw [hg_cong (fun j x hj => hh j x (by omega)), hh n _ (by omega)]
theorem cloop {step : Int64 × Int32 → Option ((Int64 × Int32) ⊕ (Int64 × Int32))} (g : Nat → Int64 → Int64) (s N : Nat) (hs : ∀ j h, s ≤ j → j < N → step (h, nI j) = some (.inr (g j h, nI (j + 1)))) (he : ∀ h, step (h, nI N) = some (.inl (h, nI N))) (hsN : s ≤ N) (hN : N < 300) (h : Int64) : lpS step 300 (h, nI s) = some (hg (fun j => g (s + j)) h (N - s), nI N) := by
  have := lpS_det (step := step) (u := (hg (fun j => g (s + j)) h (N - s), nI N)) (N - s) (fun j => (hg (fun j => g (s + j)) h j, nI (s + j))) (fun j hj => by
    rw [hs (s + j) _ (by omega) (by omega)]
    rfl) (by
    rw [show s + (N - s) = N by omega, he]) (by omega)
  exact this
theorem mloop {step : Int32 × Sg → Option ((Int32 × Sg) ⊕ (Int32 × Sg))} {D : Int64 → Sg → Prop} (g : Nat → Int64 → Int64) (s N : Nat) (hs : ∀ j h u, s ≤ j → j < N → D h u → ∃ u2, step (nI j, u) = some (.inr (nI (j + 1), u2)) ∧ D (g j h) u2) (he : ∀ h u, D h u → step (nI N, u) = some (.inl (nI N, u))) (hsN : s ≤ N) (hN : N < 300) {h : Int64} {u : Sg} (hD : D h u) : ∃ u2, lpS step 300 (nI s, u) = some (nI N, u2) ∧ D (hg (fun j => g (s + j)) h (N - s)) u2 := by
  obtain ⟨⟨x, u2⟩, e1, rfl, e2⟩ := lpS_for (step := step) (t0 := (nI s, u)) (Q := fun t => t.1 = nI N ∧ D (hg (fun j => g (s + j)) h (N - s)) t.2) (N - s) (fun j t => t.1 = nI (s + j) ∧ D (hg (fun j => g (s + j)) h j) t.2) ⟨rfl, hD⟩
    (by
      rintro j ⟨x, v⟩ hj ⟨rfl, q⟩
      obtain ⟨v2, f1, f2⟩ := hs (s + j) _ v (by omega) (by omega) q
      exact ⟨(nI (s + j + 1), v2), f1, rfl, f2⟩)
    (by
      rintro ⟨x, v⟩ ⟨rfl, q⟩
      refine ⟨(nI N, v), ?_, rfl, q⟩
      rw [show s + (N - s) = N by omega]
      exact he _ v q) (by omega)
  exact ⟨u2, e1, e2⟩
def gA (a : Nat → Int32) : Nat → Int64 → Int64 := fun j h => (31 : Int64) * h + Int32.toInt64 (a j)
section DG
variable {n W ex : Nat} {len : Nat → Nat} {net : Nat → Nat → Nat} {p t : Nat → Nat} {c : Sg}
def DG (n W ex : Nat) (len : Nat → Nat) (net : Nat → Nat → Nat) (p t : Nat → Nat) (c : Sg) (h : Int64) (u : Sg) : Prop := RD n W ex len net p t c u ∧ (rd u 0 8 = 0 ∨ (rd u 0 8 = 1 ∧ derM W ex len net u)) ∧ rdL u 0 24 = h
theorem rdL_wrL {u : Sg} {v : Int64} : rdL (wrL u 0 24 v) 0 24 = v := by
  unfold rdL wrL
  simp
theorem sam_wrL {u : Sg} {v : Int64} {l sl : List Nat} : sam l sl (wrL u 0 24 v) u := fun _ _ _ _ => rfl
theorem dg_wrL {h v : Int64} {u : Sg} (hD : DG n W ex len net p t c h u) : DG n W ex len net p t c v (wrL u 0 24 v) := by
  refine ⟨hD.1.mof (l := []) (sl := []) sam_wrL (by simp) (by simp) (by simp) (by simp) (by simp) (by simp) (by simp) (by simp) (by simp), ?_, rdL_wrL⟩
  rcases hD.2.1 with q | ⟨q1, q2⟩
  · exact Or.inl q
  · exact Or.inr ⟨q1, q2.of sam_wrL⟩
theorem dg_lay {h : Int64} {u : Sg} (hD : DG n W ex len net p t c h u) : ∃ m1, fX8_lay u = some m1 ∧ LD n W ex len net p t c m1 ∧ m1.2 = u.2 := by
  have hR := hD.1
  obtain ⟨g, e1, e2, e3, e4⟩ := m_lay hR.2.1.1 hR.2.1.2.2.1 hR.2.1.2.2.2.1 hR.2.1.2.2.2.2.2 hD.2.1
  exact ⟨g, e1, ⟨hR.mof e4 (by simp) (by simp) (by simp) (by simp) (by simp) (by simp) (by simp) (by simp) (by simp), e2, e3⟩, lay_keep e1⟩
theorem dg_of {h : Int64} {u : Sg} (hD : LD n W ex len net p t c u) (hh : rdL u 0 24 = h) : DG n W ex len net p t c h u := ⟨hD.1, Or.inr hD.2, hh⟩
theorem dg_mix {f : Sg → Option (Int32 × Sg)} {fc : Option Int32} {h : Int64} {u : Sg} (hD : DG n W ex len net p t c h u) (hq : ∀ m, LD n W ex len net p t c m → qe fc f m) (hn : ∀ m m1, fX8_lay m = some m1 → fX8_lay m1 = some m1 → f m = f m1) : ∃ u2, DG n W ex len net p t c ((31 : Int64) * h + Int32.toInt64 (fc.getD 0)) u2 ∧ ∀ (β : Type) (K : Sg → Option β), ((f u).bind fun q => ltP q fun r s => (fX8_mix (Int32.toInt64 r) s).bind K) = K u2 := by
  obtain ⟨m1, l1, l2, l3⟩ := dg_lay hD
  obtain ⟨r, m2, e1, e2, e3, e4⟩ := hq m1 l2
  have hm2 := l2.of e3
  have hr : rdL m2 0 24 = h := by
    have : m2.2 = u.2 := e4.trans l3
    have h3 := hD.2.2
    unfold rdL at h3 ⊢
    rw [this]; exact h3
  refine ⟨wrL m2 0 24 ((31 : Int64) * h + Int32.toInt64 (fc.getD 0)), dg_wrL (dg_of hm2 hr), fun β K => ?_⟩
  rw [hn u m1 l1 (ld_lay l2), e2, Option.bind_some, ltP_m, e1]
  unfold fX8_mix
  rw [lt_d, hr, Option.bind_some]
  rfl
theorem dg_put {h : Int64} {u : Sg} (hD : DG n W ex len net p t c h u) (v : Int32) : ∃ u2, DG n W ex len net p t c ((31 : Int64) * h + Int32.toInt64 v) u2 ∧ ∀ (β : Type) (K : Sg → Option β), ((fX8_mix (Int32.toInt64 v) u).bind K) = K u2 := by
  refine ⟨wrL u 0 24 ((31 : Int64) * h + Int32.toInt64 v), dg_wrL hD, fun β K => ?_⟩
  unfold fX8_mix
  rw [lt_d, hD.2.2, Option.bind_some]
/-- an answer of the class, in its digest -/
theorem c_mix {x : Option Int32} {h : Int64} {β : Type} (hx : ∃ r, x = some r) (K : Int64 → Option β) : (x.bind fun r => lt (((31 : Int64) * h) + Int32.toInt64 r) K) = K ((31 : Int64) * h + Int32.toInt64 (x.getD 0)) := by
  obtain ⟨r, rfl⟩ := hx
  rfl
end DG
theorem le_no {a b : Nat} (ha : a < 1000) (hb : b < 1000) (h : b < a) : ¬ nI a ≤ nI b := by rw [nI_leI (by omega) (by omega)]; omega
theorem lt_no {a b : Nat} (ha : a < 1000) (hb : b < 1000) (h : b ≤ a) : ¬ nI a < nI b := by rw [nI_ltI (by omega) (by omega)]; omega
section DF
variable {n W ex : Nat} {len : Nat → Nat} {net : Nat → Nat → Nat} {p t : Nat → Nat} {c m : Sg}
def aNet (c : Sg) (a k : Nat) : Int32 := (fX7_net (nI a) (nI k) c).getD 0
def aRank (c : Sg) (k : Nat) : Int32 := (fX7_rank (nI k) c).getD 0
def aTop (c : Sg) : Int32 := (fX7_top c).getD 0
def aLink (c : Sg) (a b k : Nat) : Int32 := (fX7_link (nI a) (nI b) (nI k) c).getD 0
def aNear (c : Sg) (a b : Nat) : Int32 := (fX7_near (nI a) (nI b) (nI 0) c).getD 0
def aCon (c : Sg) (k : Nat) : Int32 := (fX7_contradicted (nI k) c).getD 0
def aSeen (c : Sg) (w k : Nat) : Int32 := (fX7_seen (nI w) (nI k) c).getD 0
def aCount (c : Sg) (k : Nat) : Int32 := (fX7_count (nI k) c).getD 0
/-- what each fold does -/
def g1 (c : Sg) (a : Nat) (h : Int64) : Int64 := hg (fun j => gA (aNet c a) (0 + j)) h (6 - 0)
def g3 (c : Sg) (a b : Nat) (h : Int64) : Int64 := hg (fun j => gA (aLink c a b) (0 + j)) h (5 - 0)
def g4 (c : Sg) (a : Nat) (h : Int64) : Int64 := hg (fun j => g3 c a (a + 1 + j)) h (8 - (a + 1))
def g5 (c : Sg) (a : Nat) (h : Int64) : Int64 := hg (fun j => gA (aNear c a) (0 + j)) h (8 - 0)
def g7 (c : Sg) (w : Nat) (h : Int64) : Int64 := hg (fun j => gA (aSeen c w) (0 + j)) h (3 - 0)
def hA (c : Sg) (h : Int64) : Int64 := hg (fun j => g1 c (0 + j)) h (8 - 0)
def hB (c : Sg) (h : Int64) : Int64 := hg (fun j => gA (aRank c) (0 + j)) h (8 - 0)
def hC (c : Sg) (h : Int64) : Int64 := (31 : Int64) * h + Int32.toInt64 (aTop c)
def hD (c : Sg) (h : Int64) : Int64 := hg (fun j => g4 c (0 + j)) h (8 - 0)
def hE (c : Sg) (h : Int64) : Int64 := hg (fun j => g5 c (0 + j)) h (8 - 0)
def hF (c : Sg) (h : Int64) : Int64 := hg (fun j => gA (aCon c) (0 + j)) h (4 - 0)
def hG (c : Sg) (W : Nat) (h : Int64) : Int64 := hg (fun j => g7 c (0 + j)) h (W - 0)
def hH (p : Nat → Nat) (n : Nat) (h : Int64) : Int64 := hg (fun j => gA (fun i => nI (p i)) (0 + j)) h (n - 0)
def hI (c : Sg) (h : Int64) : Int64 := hg (fun j => gA (aCount c) (0 + j)) h (12 - 0)
theorem qe_ex {fc : Option Int32} {f : Sg → Option (Int32 × Sg)} {m : Sg} (h : qe fc f m) : ∃ r, fc = some r := by
  obtain ⟨r, m2, e1, -⟩ := h
  exact ⟨r, e1⟩
/-! the class -/
theorem c_dA (h : LD n W ex len net p t c m) (x : Int64) : lpS (fun t => fX7_digestOfNets_L5 c t.1 t.2) 300 (x, nI 0) = some (hA c x, nI 8) := by
  refine cloop (g1 c) 0 8 (fun a y _ ha => ?_) (fun y => ?_) (by decide) (by decide) x
  · simp only [fX7_digestOfNets_L5]
    have hi := cloop (step := fun t => fX7_digestOfNets_L15 (nI a) c t.1 t.2) (gA (aNet c a)) 0 6 (fun k z _ hk => by
      simp only [fX7_digestOfNets_L15]
      rw [if_neg (show ¬ (5 : Int32) < nI k from fun q => by have := (nI_ltI (a := 5) (by decide) (by omega)).mp q; omega), c_mix (qe_ex (q_net h ha hk)), nI_1]
      rfl) (fun z => by
      simp only [fX7_digestOfNets_L15]
      rw [if_pos (by decide)]) (by decide) (by decide) y
    rw [if_neg (show ¬ (8 : Int32) ≤ nI a from le_no (a := 8) (by decide) (by omega) ha), l0, hi, Option.bind_some]
    simp only [fX7_digestOfNets_L5_E43]
    rw [nI_1]
    rfl
  · simp only [fX7_digestOfNets_L5]
    rw [if_pos (by decide)]
theorem c_dB (h : LD n W ex len net p t c m) (x : Int64) : lpS (fun t => fX7_digestOfNets_L52 c t.1 t.2) 300 (x, nI 0) = some (hB c x, nI 8) := by
  refine cloop (gA (aRank c)) 0 8 (fun a y _ ha => ?_) (fun y => ?_) (by decide) (by decide) x
  · simp only [fX7_digestOfNets_L52]
    rw [if_neg (show ¬ (8 : Int32) ≤ nI a from le_no (a := 8) (by decide) (by omega) ha), c_mix (qe_ex (q_rank h (nI a))), nI_1]
    rfl
  · simp only [fX7_digestOfNets_L52]
    rw [if_pos (by decide)]
theorem c_dD (h : LD n W ex len net p t c m) (x : Int64) : lpS (fun t => fX7_digestOfPairs_L5 c t.1 t.2) 300 (x, nI 0) = some (hD c x, nI 8) := by
  refine cloop (g4 c) 0 8 (fun a y _ ha => ?_) (fun y => ?_) (by decide) (by decide) x
  · simp only [fX7_digestOfPairs_L5]
    have hi := cloop (step := fun t => fX7_digestOfPairs_L18 (nI a) c t.1 t.2) (g3 c a) (a + 1) 8 (fun b z hab hb => by
      simp only [fX7_digestOfPairs_L18]
      have hj := cloop (step := fun t => fX7_digestOfPairs_L28 (nI a) (nI b) c t.1 t.2) (gA (aLink c a b)) 0 5 (fun k z _ hk => by
        simp only [fX7_digestOfPairs_L28]
        rw [if_neg (show ¬ (4 : Int32) < nI k from fun q => by have := (nI_ltI (a := 4) (by decide) (by omega)).mp q; omega), c_mix (qe_ex (q_link h ha hb hk (by omega))), nI_1]
        rfl) (fun z => by
        simp only [fX7_digestOfPairs_L28]
        rw [if_pos (by decide)]) (by decide) (by decide) z
      rw [if_neg (show ¬ (8 : Int32) ≤ nI b from le_no (a := 8) (by decide) (by omega) hb), l0, hj, Option.bind_some]
      simp only [fX7_digestOfPairs_L18_E58]
      rw [nI_1]
      rfl) (fun z => by
      simp only [fX7_digestOfPairs_L18]
      rw [if_pos (by decide)]) (by omega) (by decide) y
    rw [if_neg (show ¬ (8 : Int32) ≤ nI a from le_no (a := 8) (by decide) (by omega) ha), nI_1, hi, Option.bind_some]
    simp only [fX7_digestOfPairs_L5_E64]
    rw [nI_1]
    rfl
  · simp only [fX7_digestOfPairs_L5]
    rw [if_pos (by decide)]
theorem c_dE (h : LD n W ex len net p t c m) (x : Int64) : lpS (fun t => fX7_digestOfPairs_L73 c t.1 t.2) 300 (x, nI 0) = some (hE c x, nI 8) := by
  refine cloop (g5 c) 0 8 (fun a y _ ha => ?_) (fun y => ?_) (by decide) (by decide) x
  · simp only [fX7_digestOfPairs_L73]
    have hi := cloop (step := fun t => fX7_digestOfPairs_L83 (nI a) c t.1 t.2) (gA (aNear c a)) 0 8 (fun k z _ hk => by
      simp only [fX7_digestOfPairs_L83]
      rw [if_neg (show ¬ (8 : Int32) ≤ nI k from le_no (a := 8) (by decide) (by omega) hk), l0, c_mix (qe_ex (q_near h ha hk (by decide))), nI_1]
      rfl) (fun z => by
      simp only [fX7_digestOfPairs_L83]
      rw [if_pos (by decide)]) (by decide) (by decide) y
    rw [if_neg (show ¬ (8 : Int32) ≤ nI a from le_no (a := 8) (by decide) (by omega) ha), l0, hi, Option.bind_some]
    simp only [fX7_digestOfPairs_L73_E113]
    rw [nI_1]
    rfl
  · simp only [fX7_digestOfPairs_L73]
    rw [if_pos (by decide)]
theorem c_dF (h : LD n W ex len net p t c m) (x : Int64) : lpS (fun t => fX7_digestOfTheRest_L5 c t.1 t.2) 300 (x, nI 0) = some (hF c x, nI 4) := by
  refine cloop (gA (aCon c)) 0 4 (fun a y _ ha => ?_) (fun y => ?_) (by decide) (by decide) x
  · simp only [fX7_digestOfTheRest_L5]
    rw [if_neg (show ¬ (3 : Int32) < nI a from fun q => by have := (nI_ltI (a := 3) (by decide) (by omega)).mp q; omega), c_mix (qe_ex (q_con h (nI a))), nI_1]
    rfl
  · simp only [fX7_digestOfTheRest_L5]
    rw [if_pos (by decide)]
theorem c_dG (h : LD n W ex len net p t c m) (x : Int64) : lpS (fun t => fX7_digestOfTheRest_L34 c t.1 t.2) 300 (x, nI 0) = some (hG c W x, nI W) := by
  have hW12 := h.1.2.1.1.1
  have hWc := h.1.2.1.2.1.1
  refine cloop (g7 c) 0 W (fun a y _ ha => ?_) (fun y => ?_) (by omega) (by omega) x
  · simp only [fX7_digestOfTheRest_L34]
    have hi := cloop (step := fun t => fX7_digestOfTheRest_L49 (nI a) c t.1 t.2) (gA (aSeen c a)) 0 3 (fun k z _ hk => by
      simp only [fX7_digestOfTheRest_L49]
      rw [if_neg (show ¬ (2 : Int32) < nI k from fun q => by have := (nI_ltI (a := 2) (by decide) (by omega)).mp q; omega), c_mix (qe_ex (q_seen h ha (Or.inl hk))), nI_1]
      rfl) (fun z => by
      simp only [fX7_digestOfTheRest_L49]
      rw [if_pos (by decide)]) (by decide) (by decide) y
    rw [hWc, if_neg (le_no (by omega) (by omega) ha), l0, hi, Option.bind_some]
    simp only [fX7_digestOfTheRest_L34_E77]
    rw [nI_1]
    rfl
  · simp only [fX7_digestOfTheRest_L34]
    rw [hWc, if_pos (by rw [nI_leI (by omega) (by omega)]; omega)]
theorem c_dH (h : LD n W ex len net p t c m) (x : Int64) : lpS (fun t => fX7_digestOfTheRest_L86 c t.1 t.2) 300 (x, nI 0) = some (hH p n x, nI n) := by
  have tc := h.1.txc
  have hn := tc.1
  refine cloop (gA (fun i => nI (p i))) 0 n (fun a y _ ha => ?_) (fun y => ?_) (by omega) (by omega) x
  · simp only [fX7_digestOfTheRest_L86]
    have hcd : fX4_codeAt (nI a) c = some (nI (p a)) := by
      unfold fX4_codeAt fX4_codeAt_J24 fX4_codeAt_J25
      rw [if_neg (nI_pos (by omega)), tc.2.1, if_neg (le_no (by omega) (by omega) ha)]
      simp (disch := omega) only [inb_nI, gd_t, nI_clamp]
      rw [(tc.2.2 a ha).2.2, Int32.sub_add_cancel]
    rw [tc.2.1, if_neg (le_no (by omega) (by omega) ha), hcd, Option.bind_some, lt_d, nI_1]
    rfl
  · simp only [fX7_digestOfTheRest_L86]
    rw [tc.2.1, if_pos (by rw [nI_leI (by omega) (by omega)]; omega)]
theorem c_dI (h : LD n W ex len net p t c m) (x : Int64) : lpS (fun t => fX7_digestOfTheRest_L124 c t.1 t.2) 300 (x, nI 0) = some (hI c x, nI 12) := by
  refine cloop (gA (aCount c)) 0 12 (fun a y _ ha => ?_) (fun y => ?_) (by decide) (by decide) x
  · simp only [fX7_digestOfTheRest_L124]
    rw [if_neg (show ¬ (11 : Int32) < nI a from fun q => by have := (nI_ltI (a := 11) (by decide) (by omega)).mp q; omega), c_mix (qe_ex (q_count h (nI a))), nI_1]
    rfl
  · simp only [fX7_digestOfTheRest_L124]
    rw [if_pos (by decide)]
theorem c_digest (h : LD n W ex len net p t c m) : fX7_digest c = some (hI c (hH p n (hG c W (hF c (hE c (hD c (hC c (hB c (hA c 1747))))))))) := by
  have e1 : fX7_digestOfNets (1747 : Int64) c = some (hC c (hB c (hA c 1747))) := by
    unfold fX7_digestOfNets
    rw [l0, c_dA h, Option.bind_some]
    unfold fX7_digestOfNets_E49
    rw [l0, c_dB h, Option.bind_some]
    rfl
  have e2 : ∀ x, fX7_digestOfPairs x c = some (hE c (hD c x)) := by
    intro x
    unfold fX7_digestOfPairs
    rw [l0, c_dD h, Option.bind_some]
    unfold fX7_digestOfPairs_E70
    rw [l0, c_dE h, Option.bind_some]
    rfl
  have e3 : ∀ x, fX7_digestOfTheRest x c = some (hI c (hH p n (hG c W (hF c x)))) := by
    intro x
    unfold fX7_digestOfTheRest
    rw [l0, c_dF h, Option.bind_some]
    unfold fX7_digestOfTheRest_E31
    rw [l0, c_dG h, Option.bind_some]
    unfold fX7_digestOfTheRest_E83
    rw [l0, c_dH h, Option.bind_some]
    unfold fX7_digestOfTheRest_E121
    rw [l0, c_dI h, Option.bind_some]
    rfl
  unfold fX7_digest
  rw [e1, Option.bind_some, e2, Option.bind_some, e3, Option.bind_some]
end DF
