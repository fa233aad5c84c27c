/-! TOP: of all sets that have the first net and are all linked the best -/
theorem lpO_run {T R : Type} {step : T → Option (T ⊕ (R ⊕ T))} {Q : T ⊕ R → Prop} (N : Nat) (I : Nat → T → Prop) (hs : ∀ j t, j < N → I j t → (∃ u, step t = some (.inr (.inr u)) ∧ I (j + 1) u) ∨ ∃ r, step t = some (.inr (.inl r)) ∧ Q (.inr r)) (he : ∀ t, I N t → ∃ u, step t = some (.inl u) ∧ Q (.inl u)) : ∀ (n j : Nat) (t : T), j ≤ N → N < n + j → I j t → ∃ u, lpO step n t = some u ∧ Q u := by
  intro n
  induction n with
  | zero => intro j t h1 h2; omega
  | succ n ih =>
    intro j t h1 h2 hI
    rcases Nat.lt_or_ge j N with h | h
    · rcases hs j t h hI with ⟨u, hu, hI2⟩ | ⟨r, hr, hQ⟩
      · obtain ⟨v, hv, hQ⟩ := ih (j + 1) u h (by omega) hI2
        refine ⟨v, ?_, hQ⟩
        unfold lpO
        rw [hu]
        exact hv
      · refine ⟨.inr r, ?_, hQ⟩
        unfold lpO
        rw [hr]
    · have : j = N := by omega
      subst this
      obtain ⟨u, hu, hQ⟩ := he t hI
      refine ⟨.inl u, ?_, hQ⟩
      unfold lpO
      rw [hu]
theorem lpO_for {T R : Type} {step : T → Option (T ⊕ (R ⊕ T))} {Q : T ⊕ R → Prop} (N : Nat) (I : Nat → T → Prop) {t0 : T} (h0 : I 0 t0) (hs : ∀ j t, j < N → I j t → (∃ u, step t = some (.inr (.inr u)) ∧ I (j + 1) u) ∨ ∃ r, step t = some (.inr (.inl r)) ∧ Q (.inr r)) (he : ∀ t, I N t → ∃ u, step t = some (.inl u) ∧ Q (.inl u)) (hN : N < 300) : ∃ u, lpO step 300 t0 = some u ∧ Q u := lpO_run N I hs he 300 0 t0 (Nat.zero_le N) (by omega) h0
theorem bt_not {x : Nat} {i : Nat} (hi : i < 32) : bt (nI x ^^^ (-1)) i = !(x.testBit i) := by
  rw [b_xor, bt_nI hi, b_m1 i hi]; simp
theorem eq0_iff {x : Int32} : x = 0 ↔ ∀ i, i < 32 → bt x i = false := ⟨fun h i _ => by rw [h]; exact b_0 i, fun h => b_ext (fun i hi => by rw [h i hi, b_0])⟩
theorem tb8 {s k : Nat} (hs : s < 256) (h : s.testBit k = true) : k < 8 := by
  rcases Nat.lt_or_ge k 8 with q | q
  · exact q
  · rw [tb_big (i := 8) (by omega) q] at h; cases h
theorem sub_iff {s l : Nat} (hs : s < 256) : (nI s &&& (nI l ^^^ (-1)) = 0) ↔ ∀ k, s.testBit k = true → l.testBit k = true := by
  rw [eq0_iff]
  constructor
  · intro h k hk
    have h8 := tb8 hs hk
    have := h k (by omega)
    rw [b_and, bt_nI (by omega), bt_not (by omega), hk] at this
    simpa using this
  · intro h i hi
    rw [b_and, bt_nI hi, bt_not hi]
    cases e : s.testBit i with
    | false => rfl
    | true => rw [h i e]; rfl
theorem sub1_iff {s l n : Nat} (hs : s < 256) (hn : n < 8) : ((nI s &&& (nI (2 ^ n) ^^^ (-1))) &&& (nI l ^^^ (-1)) = 0) ↔ ∀ k, s.testBit k = true → k ≠ n → l.testBit k = true := by
  rw [eq0_iff]
  constructor
  · intro h k hk hne
    have h8 := tb8 hs hk
    have := h k (by omega)
    rw [b_and, b_and, bt_nI (by omega), bt_not (by omega), bt_not (by omega), hk, Nat.testBit_two_pow] at this
    have hne2 : ¬ n = k := fun z => hne z.symm
    simpa [hne2] using this
  · intro h i hi
    rw [b_and, b_and, bt_nI hi, bt_not hi, bt_not hi, Nat.testBit_two_pow]
    cases e : s.testBit i with
    | false => rfl
    | true =>
      by_cases q : n = i
      · simp [q]
      · rw [h i e (fun z => q z.symm)]; simp
theorem sub2_iff {s l n : Nat} (hs : s < 256) (hn : n < 8) (hsn : s.testBit n = true) (hl : l.testBit n = false) : (nI s &&& (nI l ^^^ (-1)) = nI (2 ^ n)) ↔ ∀ k, s.testBit k = true → k ≠ n → l.testBit k = true := by
  constructor
  · intro h k hk hne
    have h8 := tb8 hs hk
    have : bt (nI s &&& (nI l ^^^ (-1))) k = bt (nI (2 ^ n)) k := by rw [h]
    rw [b_and, bt_nI (by omega), bt_not (by omega), hk, bt_nI (by omega), Nat.testBit_two_pow] at this
    have hne2 : ¬ n = k := fun z => hne z.symm
    simpa [hne2] using this
  · intro h
    apply b_ext
    intro i hi
    rw [b_and, bt_nI hi, bt_not hi, bt_nI hi, Nat.testBit_two_pow]
    by_cases q : n = i
    · subst q; simp [hsn, hl]
    · cases e : s.testBit i with
      | false => simp [q]
      | true => rw [h i e (fun z => q z.symm)]; simp [q]
/-- all linked -/
def alN (lk : Nat → Nat) (s n : Nat) : Bool := fb_ct (fun k => s.testBit k && (!(k == n) && !((lk n).testBit k))) 8 == 0
def alU (lk : Nat → Nat) (s : Nat) : Nat → Bool
  | 0 => true
  | j + 1 => alU lk s j && (!(s.testBit j) || alN lk s j)
def alB (lk : Nat → Nat) (s : Nat) : Bool := alU lk s 8
theorem alN_iff {lk : Nat → Nat} {s n : Nat} (hs : s < 256) : alN lk s n = true ↔ ∀ k, s.testBit k = true → k ≠ n → (lk n).testBit k = true := by
  unfold alN
  rw [beq_iff_eq, fb_ct_zero]
  constructor
  · intro h k h1 h2
    have := h k (tb8 hs h1)
    simp [h1, h2] at this
    exact this
  · intro h k hk
    by_cases h1 : s.testBit k = true
    · by_cases h2 : k = n
      · simp [h2]
      · simp [h1, h2, h k h1 h2]
    · simp [h1]
theorem alU_iff {lk : Nat → Nat} {s : Nat} : ∀ j, alU lk s j = true ↔ ∀ n, n < j → s.testBit n = true → alN lk s n = true
  | 0 => by simp [alU]
  | j + 1 => by
    have ih := alU_iff (lk := lk) (s := s) j
    simp only [alU, Bool.and_eq_true, ih, Bool.or_eq_true, Bool.not_eq_true']
    constructor
    · rintro ⟨h1, h2⟩ n hn h3
      rcases Nat.lt_or_ge n j with q | q
      · exact h1 n q h3
      · have : n = j := by omega
        subst this
        rcases h2 with h2 | h2
        · rw [h2] at h3; cases h3
        · exact h2
    · intro h
      refine ⟨fun n hn => h n (by omega), ?_⟩
      cases hb : s.testBit j with
      | false => exact Or.inl rfl
      | true => exact Or.inr (h j (by omega) hb)
theorem al_to {lk : Nat → Nat} {s : Nat} (hs : s < 256) (h : alB lk s = true) {n k : Nat} (h1 : s.testBit n = true) (h2 : s.testBit k = true) (h3 : k ≠ n) : (lk n).testBit k = true := (alN_iff hs).mp ((alU_iff 8).mp h n (tb8 hs h1) h1) k h2 h3
theorem c_allLinked {lk : Nat → Nat} {s : Nat} {sg : Sg} (hs : s < 256) (h9 : arr sg 9 8 lk) : fX3_isAllLinked_8 (nI s) sg = some (b2i (alB lk s)) := by
  unfold fX3_isAllLinked_8
  obtain ⟨u, e1, q⟩ := lpO_for (step := fun t => fX3_isAllLinked_8_L2 (nI s) sg t) (t0 := (0 : Int32)) (Q := fun u => onE u (fun t => fX3_isAllLinked_8_E45 (nI s) t sg) (fun r => some r) = some (b2i (alB lk s))) 8
    (fun j t => t = nI j ∧ alU lk s j = true)
    ⟨rfl, rfl⟩
    (by
      rintro j t hj ⟨rfl, h⟩
      simp only [fX3_isAllLinked_8_L2]
      rw [if_neg (by rw [show (8 : Int32) = nI 8 from rfl, nI_leI (by decide) (by omega)]; omega), lt_d, has0 (by omega) (by omega)]
      simp only [Option.bind_some, b2i_0]
      cases hb : s.testBit j with
      | false =>
        exact Or.inl ⟨nI j + 1, by rw [if_pos rfl]; rfl, nI_1 j, by simp [alU, h, hb]⟩
      | true =>
        rw [if_neg (by decide)]
        simp (disch := omega) only [inb_nI, gd_t, nI_clamp, h9 j hj, nI_pow]
        by_cases hc : alN lk s j = true
        · exact Or.inl ⟨nI j + 1, by rw [if_pos ((sub1_iff hs hj).mpr ((alN_iff hs).mp hc))]; rfl, nI_1 j, by simp [alU, h, hc]⟩
        · refine Or.inr ⟨0, by rw [if_neg (fun z => hc ((alN_iff hs).mpr ((sub1_iff hs hj).mp z)))], ?_⟩
          have : alB lk s = false := by
            cases e : alB lk s with
            | false => rfl
            | true => exact absurd ((alU_iff 8).mp e j hj hb) hc
          rw [this]; rfl)
    (by
      rintro t ⟨rfl, h⟩
      refine ⟨nI 8, ?_, ?_⟩
      · simp only [fX3_isAllLinked_8_L2]
        rw [if_pos (by decide)]
      · have : alB lk s = true := h
        rw [this]; rfl) (by decide)
  rw [e1]
  exact q
theorem m_allLinked {lk : Nat → Nat} {s : Nat} {sg : Sg} (hs : s < 256) (hirr : ∀ c, (lk c).testBit c = false) (h7 : arr sg 7 8 lk) : fX8_areAllLinked (nI s) sg = some (b2i (alB lk s)) := by
  unfold fX8_areAllLinked
  have h := lpS_det (step := fun t => fX8_areAllLinked_L4 (nI s) sg t.1 t.2) (u := (b2i (alB lk s), nI 8)) 8 (fun j => (b2i (alU lk s j), nI j)) (fun j hj => by
    simp only [fX8_areAllLinked_L4]
    rw [if_neg (by rw [show (8 : Int32) = nI 8 from rfl, nI_leI (by decide) (by omega)]; omega)]
    simp only [fX8_areAllLinked_L4_J42, fX8_areAllLinked_L4_J38, fX8_areAllLinked_L4_J43, b2i_0, nI_1]
    rw [has8 (by omega) (by omega)]
    simp only [Option.bind_some, b2i_0]
    simp (disch := omega) only [inb_nI, gd_t, nI_clamp, h7 j hj, nI_pow]
    have hk : s.testBit j = true → ((nI s &&& (nI (lk j) ^^^ (-1)) = nI (2 ^ j)) ↔ alN lk s j = true) := fun hb => (sub2_iff hs hj hb (hirr j)).trans (alN_iff hs).symm
    show _ = some (Sum.inr (b2i (alU lk s j && (!(s.testBit j) || alN lk s j)), nI (j + 1)))
    cases c1 : alU lk s j with
    | false => rw [if_pos rfl]; rfl
    | true =>
      rw [if_neg (by decide)]
      cases hb : s.testBit j with
      | false => rw [if_pos rfl]; rfl
      | true =>
        rw [if_neg (by decide)]
        cases c2 : alN lk s j with
        | false => rw [if_neg (fun z => by rw [(hk hb).mp z] at c2; cases c2)]; rfl
        | true => rw [if_pos ((hk hb).mpr c2)]; rfl) (by
    simp only [fX8_areAllLinked_L4]
    rw [if_pos (by decide)]
    rfl) (by decide)
  rw [show ((1 : Int32), (0 : Int32)) = (b2i (alU lk s 0), nI 0) from rfl, h]
  simp only [Option.bind_some, fX8_areAllLinked_E50, zb_b2i, gd_t]
/-- the sum of degrees of a set -/
def dsm (dg : Nat → Nat) (s : Nat) : Nat := fb_sm (fun n => if s.testBit n then dg n else 0) 8
theorem dsm_le {dg : Nat → Nat} (hd : ∀ k, dg k ≤ 8) (s : Nat) : dsm dg s ≤ 64 := fb_sm_bound (c := 8) (n := 8) (fun k _ => by split; exact hd k; omega)
theorem c_degreeSum {dg : Nat → Nat} {s : Nat} {sg : Sg} (hs : s < 256) (h11 : arr sg 11 8 dg) : fX3_degreeSum_8 (nI s) sg = some (nI (dsm dg s)) := by
  unfold fX3_degreeSum_8
  have h := lpS_det (step := fun t => fX3_degreeSum_8_L4 (nI s) sg t.1 t.2) (u := (nI (dsm dg s), nI 8)) 8 (fun j => (nI (fb_sm (fun n => if s.testBit n then dg n else 0) j), nI j)) (fun j hj => by
    simp only [fX3_degreeSum_8_L4]
    rw [if_neg (by rw [show (8 : Int32) = nI 8 from rfl, nI_leI (by decide) (by omega)]; omega), has0 (by omega) (by omega)]
    simp (disch := omega) only [Option.bind_some, b2i_0, fb_sm_succ, fX3_degreeSum_8_L4_J29, inb_nI, gd_t, nI_clamp, h11 j hj, nI_1, fa_lit, nI_add]
    cases s.testBit j <;> rfl) (by
    simp only [fX3_degreeSum_8_L4]
    rw [if_pos (by decide)]
    rfl) (by decide)
  rw [show ((0 : Int32), (0 : Int32)) = (nI (fb_sm (fun n => if s.testBit n then dg n else 0) 0), nI 0) from rfl, h]
  rfl
theorem m_degrees {lk : Nat → Nat} {s : Nat} {sg : Sg} (hs : s < 256) (hl : ∀ k, lk k < 256) (h7 : arr sg 7 8 lk) : fX8_degrees (nI s) sg = some (nI (dsm (fun a => pc8 (lk a)) s)) := by
  unfold fX8_degrees
  have h := lpS_det (step := fun t => fX8_degrees_L4 (nI s) sg t.1 t.2) (u := (nI (dsm (fun a => pc8 (lk a)) s), nI 8)) 8 (fun j => (nI (fb_sm (fun n => if s.testBit n then pc8 (lk n) else 0) j), nI j)) (fun j hj => by
    have := hl j
    simp only [fX8_degrees_L4]
    rw [if_neg (by rw [show (8 : Int32) = nI 8 from rfl, nI_leI (by decide) (by omega)]; omega), has8 (by omega) (by omega)]
    simp (disch := omega) only [Option.bind_some, b2i_0, fb_sm_succ, fX8_degrees_L4_J32, inb_nI, gd_t, nI_clamp, h7 j hj, ones8, nI_1, fa_lit, nI_add]
    cases s.testBit j <;> rfl) (by
    simp only [fX8_degrees_L4]
    rw [if_pos (by decide)]
    rfl) (by decide)
  rw [show ((0 : Int32), (0 : Int32)) = (nI (fb_sm (fun n => if s.testBit n then pc8 (lk n) else 0) 0), nI 0) from rfl, h]
  rfl
def vls (dg : Nat → Nat) (s : Nat) : Nat := 100 * pc8 s + dsm dg s
theorem c_better {dg : Nat → Nat} {s t : Nat} {sg : Sg} (hs : s < 256) (ht : t < 256) (hd : ∀ k, dg k ≤ 8) (h11 : arr sg 11 8 dg) : fX3_isBetter_8 (nI s) (nI t) sg = some (b2i (decide (vls dg t < vls dg s))) := by
  have p1 := pc8_le s
  have p2 := pc8_le t
  have d1 := dsm_le hd s
  have d2 := dsm_le hd t
  unfold fX3_isBetter_8 fX3_isBetter_8_J44 vls
  rw [bcnt s hs, bcnt t ht]
  simp only [Option.bind_some, c_degreeSum hs h11, c_degreeSum ht h11]
  have e0 : (nI (pc8 s) - nI (pc8 t) = 0) ↔ pc8 s = pc8 t := by
    have : ∀ a, a < 9 → ∀ b, b < 9 → (nI a - nI b = 0 ↔ a = b) := by decide +kernel
    exact this _ (by omega) _ (by omega)
  by_cases c1 : pc8 s = pc8 t
  · rw [if_pos (e0.mpr c1)]
    by_cases c2 : dsm dg s ≤ dsm dg t
    · rw [if_pos (by rw [nI_leI (by omega) (by omega)]; exact c2)]
      have : ¬ (100 * pc8 t + dsm dg t < 100 * pc8 s + dsm dg s) := by omega
      simp [this, b2i, zb, gd]
    · rw [if_neg (by rw [nI_leI (by omega) (by omega)]; exact c2)]
      have : 100 * pc8 t + dsm dg t < 100 * pc8 s + dsm dg s := by omega
      simp [this, b2i, zb, gd]
  · rw [if_neg (fun z => c1 (e0.mp z))]
    by_cases c2 : pc8 s ≤ pc8 t
    · have hle : nI (pc8 s) - nI (pc8 t) ≤ 0 := by
        have : ∀ a, a < 9 → ∀ b, b < 9 → a ≤ b → nI a - nI b ≤ 0 := by decide +kernel
        exact this _ (by omega) _ (by omega) c2
      rw [if_pos hle]
      have : ¬ (100 * pc8 t + dsm dg t < 100 * pc8 s + dsm dg s) := by omega
      simp [this, b2i, zb, gd]
    · have hle : ¬ nI (pc8 s) - nI (pc8 t) ≤ 0 := by
        have : ∀ a, a < 9 → ∀ b, b < 9 → ¬ a ≤ b → ¬ nI a - nI b ≤ 0 := by decide +kernel
        exact this _ (by omega) _ (by omega) c2
      rw [if_neg hle]
      have : 100 * pc8 t + dsm dg t < 100 * pc8 s + dsm dg s := by omega
      simp [this, b2i, zb, gd]
/-- the best set of those up to j -/
def bst (f : Nat) (lk dg : Nat → Nat) : Nat → Nat
  | 0 => 2 ^ f
  | j + 1 => if (j + 1).testBit f && alB lk (j + 1) && decide (vls dg (bst f lk dg j) < vls dg (j + 1)) then j + 1 else bst f lk dg j
theorem bst_lt {f : Nat} {lk dg : Nat → Nat} (hf : f < 8) : ∀ j, j < 256 → bst f lk dg j < 256
  | 0, _ => show 2 ^ f < 2 ^ 8 from Nat.pow_lt_pow_right (by decide) hf
  | j + 1, hj => by
    unfold bst
    split
    · exact hj
    · exact bst_lt hf j (by omega)
theorem c_bestSet {f : Nat} {lk dg : Nat → Nat} {sg : Sg} (hf : f < 8) (hd : ∀ k, dg k ≤ 8) (h9 : arr sg 9 8 lk) (h11 : arr sg 11 8 dg) : fX3_bestSet_8 (nI f) sg = some (nI (bst f lk dg 255)) := by
  unfold fX3_bestSet_8
  rw [lt_d, nI_pow (by omega)]
  have h := lpS_det (step := fun t => fX3_bestSet_8_L6 (nI f) sg t.1 t.2) (u := (nI (bst f lk dg 255), nI 256)) 255 (fun j => (nI (bst f lk dg j), nI (j + 1))) (fun j hj => by
    have hb := bst_lt (f := f) (lk := lk) (dg := dg) hf j (by omega)
    simp only [fX3_bestSet_8_L6]
    rw [if_neg (by rw [show (256 : Int32) = nI 256 from rfl, nI_leI (by decide) (by omega)]; omega), has0 (by omega) (by omega)]
    simp only [Option.bind_some, b2i_0, fX3_bestSet_8_L6_J40, c_allLinked (show j + 1 < 256 by omega) h9, c_better (show j + 1 < 256 by omega) hb hd h11, nI_1]
    show _ = some (Sum.inr (nI (if (j + 1).testBit f && alB lk (j + 1) && decide (vls dg (bst f lk dg j) < vls dg (j + 1)) then j + 1 else bst f lk dg j), nI (j + 1 + 1)))
    cases (j + 1).testBit f <;> cases alB lk (j + 1) <;> cases decide (vls dg (bst f lk dg j) < vls dg (j + 1)) <;> rfl) (by
    simp only [fX3_bestSet_8_L6]
    rw [if_pos (by decide)]) (by decide)
  rw [show (nI (2 ^ f), (1 : Int32)) = (nI (bst f lk dg 0), nI (0 + 1)) from rfl, h]
  rfl
