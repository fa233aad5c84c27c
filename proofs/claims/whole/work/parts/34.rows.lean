/-! the class' shortest rows -/
theorem ltP_m {α β γ : Type} {a : α} {b : β} {f : α → β → Option γ} : ltP (a, b) f = f a b := rfl
theorem lpS_run2 {T : Type} {step : T → Option (T ⊕ T)} {Q : T → Prop} (N : Nat) (I : Nat → T → Prop) (hs : ∀ j t, j < N → I j t → (∃ u, step t = some (.inr u) ∧ I (j + 1) u) ∨ ∃ u, step t = some (.inl u) ∧ Q u) (he : ∀ t, I N t → ∃ u, step t = some (.inl u) ∧ Q u) : ∀ (n j : Nat) (t : T), j ≤ N → N < n + j → I j t → ∃ u, lpS step n t = some u ∧ Q u := by
  intro n
  induction n with
  | zero => intro j t h1 h2; omega
  | succ n ih =>
    intro j t h1 h2 hI
    rcases Nat.lt_or_ge j N with h | h
    · rcases hs j t h hI with ⟨u, hu, hI2⟩ | ⟨u, hu, hQ⟩
      · obtain ⟨v, hv, hQ⟩ := ih (j + 1) u h (by omega) hI2
        refine ⟨v, ?_, hQ⟩
        unfold lpS
        rw [hu]
        exact hv
      · refine ⟨u, ?_, hQ⟩
        unfold lpS
        rw [hu]
    · have : j = N := by omega
      subst this
      obtain ⟨u, hu, hQ⟩ := he t hI
      refine ⟨u, ?_, hQ⟩
      unfold lpS
      rw [hu]
theorem ff_eq {p : Nat → Bool} {n k : Nat} (hk : k < n) (h1 : p k = true) (h2 : ∀ i, i < k → p i = false) : fa_first p n = k := by
  have h3 : fa_first p n ≤ k := by
    rcases Nat.lt_or_ge k (fa_first p n) with h | h
    · have := fa_first_no p n k h
      rw [h1] at this; cases this
    · exact h
  have h4 := fa_first_yes p n (by omega)
  rcases Nat.lt_or_ge (fa_first p n) k with h | h
  · rw [h2 _ h] at h4; cases h4
  · omega
theorem rc_mono {sn e s : Nat} {nm : Nat → Nat → Nat} {i j : Nat} (h : i ≤ j) (hb : (RCd sn nm i s).testBit e = true) : (RCd sn nm j s).testBit e = true := by
  rw [rc_pr] at hb ⊢
  exact ⟨hb.1, pr_mono j h hb.2⟩
def few (sn : Nat) (nm : Nat → Nat → Nat) (j s e : Nat) : Int32 := if (RCd sn nm j s).testBit e then nI (fa_first (fun i => (RCd sn nm i s).testBit e) 16) else -1
theorem few_succ {sn : Nat} {nm : Nat → Nat → Nat} {j s e : Nat} (hj : j + 1 < 16) : (if (RCd sn nm (j + 1) s).testBit e && !((RCd sn nm j s).testBit e) then nI (j + 1) else few sn nm j s e) = few sn nm (j + 1) s e := by
  unfold few
  cases h1 : (RCd sn nm j s).testBit e with
  | true => rw [rc_mono (Nat.le_succ j) h1]; simp only [Bool.not_true, Bool.and_false, Bool.false_eq_true, if_false]
  | false =>
    cases h2 : (RCd sn nm (j + 1) s).testBit e with
    | false => simp only [Bool.false_and, Bool.false_eq_true, if_false]
    | true =>
      have : fa_first (fun i => (RCd sn nm i s).testBit e) 16 = j + 1 := ff_eq hj h2 (fun i hi => by
        cases h3 : (RCd sn nm i s).testBit e with
        | false => rfl
        | true => rw [rc_mono (by omega) h3] at h1; cases h1)
      rw [this]; simp only [Bool.not_false, Bool.and_true, if_true]
theorem few_0 {sn : Nat} {nm : Nat → Nat → Nat} {s e : Nat} : (if (RCd sn nm 0 s).testBit e && !((0 : Nat).testBit e) then nI 0 else -1) = few sn nm 0 s e := by
  unfold few
  cases h2 : (RCd sn nm 0 s).testBit e with
  | false => simp only [Bool.false_and, Bool.false_eq_true, if_false]
  | true =>
    have : fa_first (fun i => (RCd sn nm i s).testBit e) 16 = 0 := ff_eq (by decide) h2 (fun i hi => by omega)
    rw [this]; simp
theorem and_pow {n k : Nat} : n &&& 2 ^ k = if n.testBit k then 2 ^ k else 0 := by
  apply Nat.eq_of_testBit_eq
  intro i
  rw [Nat.testBit_and, Nat.testBit_two_pow]
  by_cases h : k = i
  · subst h
    cases n.testBit k <;> simp
  · cases n.testBit k <;> simp [h]
theorem rc_stop {sn : Nat} {nm : Nat → Nat → Nat} {j : Nat} (h : ∀ s e, s < 16 → e < 8 → (RCd sn nm (j + 1) s).testBit e = true → (RCd sn nm j s).testBit e = true) : ∀ k s e, s < 16 → e < 8 → (RCd sn nm k s).testBit e = true → (RCd sn nm j s).testBit e = true := by
  intro k s e hs he hb
  rw [rc_pr] at hb ⊢
  refine ⟨hb.1, pr_stable (fun s' hs' hp => ?_) k s hs hb.2⟩
  exact ((rc_pr j s').mp (h s' e hs' he ((rc_pr (j + 1) s').mpr ⟨hb.1, hp⟩))).2
theorem lpS_for2 {T : Type} {step : T → Option (T ⊕ T)} {Q : T → Prop} {t0 : T} (N : Nat) (I : Nat → T → Prop) (hs : ∀ j t, j < N → I j t → (∃ u, step t = some (.inr u) ∧ I (j + 1) u) ∨ ∃ u, step t = some (.inl u) ∧ Q u) (he : ∀ t, I N t → ∃ u, step t = some (.inl u) ∧ Q u) (hN : N < 300) (h0 : I 0 t0) : ∃ u, lpS step 300 t0 = some u ∧ Q u := lpS_run2 N I hs he 300 0 t0 (Nat.zero_le N) (by omega) h0
set_option maxHeartbeats 1000000 in
theorem c_rowsL {sn : Nat} {nm : Nat → Nat → Nat} {sg g3 : Sg} {mb : Bool} (hn : ∀ a b, nm a b ≤ 4) (h19 : namC sg nm) (t1 : arr g3 23 16 (RCd sn nm 0)) (t2 : ∀ s e, s < 16 → e < 8 → rd g3 22 (8 * s + e) = few sn nm 0 s e) (stop0 : mb = false → ∀ k s e, s < 16 → e < 8 → (RCd sn nm k s).testBit e = true → (RCd sn nm 0 s).testBit e = true) (s3 : same [22, 23, 24] g3 sg) : ∃ t, lpS (fun t => fX5_read_17_L66 t.1 t.2.1 t.2.2) 300 (b2i mb, (1 : Int32), g3) = some t ∧ (∀ s e, s < 16 → e < 8 → rd t.2.2 22 (8 * s + e) = few sn nm 15 s e) ∧ same [22, 23, 24] t.2.2 sg := by
  refine lpS_for2 (step := fun t => fX5_read_17_L66 t.1 t.2.1 t.2.2) (Q := fun t => (∀ s e, s < 16 → e < 8 → rd t.2.2 22 (8 * s + e) = few sn nm 15 s e) ∧ same [22, 23, 24] t.2.2 sg) 15
    (fun j t => t.2.1 = nI (j + 1) ∧ ∃ mb : Bool, t.1 = b2i mb ∧ arr t.2.2 23 16 (RCd sn nm j) ∧ (∀ s e, s < 16 → e < 8 → rd t.2.2 22 (8 * s + e) = few sn nm j s e) ∧ (mb = false → ∀ k s e, s < 16 → e < 8 → (RCd sn nm k s).testBit e = true → (RCd sn nm j s).testBit e = true) ∧ same [22, 23, 24] t.2.2 sg)
    (by
      rintro j ⟨m, a, g⟩ hj ⟨rfl, mb, rfl, h1, h2, h3, h4⟩
      dsimp only at h1 h2 h3 h4
      cases mb with
      | false =>
        right
        refine ⟨(b2i false, nI (j + 1), g), ?_, fun s e hs' he => ?_, h4⟩
        · simp only [fX5_read_17_L66]
          rw [if_pos (show b2i false = 0 from rfl)]
        · rw [h2 s e hs' he]
          unfold few
          have hst := h3 rfl 15 s e hs' he
          cases c : (RCd sn nm 15 s).testBit e with
          | true => rw [hst c]
          | false =>
            cases d : (RCd sn nm j s).testBit e with
            | false => rfl
            | true => rw [rc_mono (by omega) d] at c; cases c
      | true =>
        left
        obtain ⟨⟨a5, g5⟩, e5, v1, v2⟩ := lpS_for (step := fun t => fX5_read_17_L80 (nI (j + 1)) t.1 t.2) (t0 := ((0 : Int32), g)) (Q := fun t => arr t.2 24 16 (RCd sn nm (j + 1)) ∧ same [24] t.2 g) 16
          (fun i t => t.1 = nI i ∧ arr t.2 24 i (RCd sn nm (j + 1)) ∧ same [24] t.2 g)
          ⟨rfl, fun i hi => by omega, same.rf⟩
          (by
            rintro i ⟨c, g6⟩ hi ⟨rfl, k1, k2⟩
            have e23 : arr g6 23 16 (RCd sn nm j) := k2.arr (by simp) h1
            have hom := c_oneMore (nm := nm) (f := RCd sn nm j) (s := i) (sg := g6) hi hn (fun a b ha hb => ((k2 19 (by simp) _).trans (h4 19 (by simp) _)).trans (h19 a b ha hb)) e23
            refine ⟨(nI i + 1, wr g6 24 i (nI (RCd sn nm (j + 1) i))), ?_, nI_1 i, fun k hk => ?_, k2.wr (by simp)⟩
            · simp only [fX5_read_17_L80]
              rw [if_neg (by rw [show (16 : Int32) = nI 16 from rfl, nI_leI (by decide) (by omega)]; omega), hom]
              simp (disch := omega) only [inb_nI, gd_t, lt_d, nI_clamp, Option.bind_some, e23 i hi, fa_or]
              rfl
            · rw [rd_wr]
              split
              · rename_i z; rw [z.2]
              · rename_i z; exact k1 k (by have : k ≠ i := fun y => z ⟨rfl, y⟩; omega))
          (by
            rintro ⟨c, g6⟩ ⟨rfl, k1, k2⟩
            refine ⟨(nI 16, g6), ?_, k1, k2⟩
            simp only [fX5_read_17_L80]
            rw [if_pos (by decide)]) (by decide)
        dsimp only at v1 v2
        obtain ⟨mb2, g7, e7, w1, w2, w3, w4⟩ := c_settle (len := j + 1) (h := RCd sn nm (j + 1)) (f := RCd sn nm j) (FE := few sn nm j) (sg := g5) (fun k => rc_lt (j + 1) k) v1 (v2.arr (by simp) h1) (fun s e hs' he => by rw [v2 22 (by simp) _]; exact h2 s e hs' he)
        refine ⟨(b2i mb2, nI (j + 1) + 1, g7), ?_, nI_1 _, mb2, rfl, w1, fun s e hs' he => ?_, fun z => rc_stop (w3 z) |> fun y k s e hs' he hb => rc_mono (Nat.le_succ j) (y k s e hs' he hb), (w4.tr v2 (l3 := [22, 23, 24]) (by simp) (by simp)).tr h4 (fun _ h => h) (fun _ h => h)⟩
        · simp only [fX5_read_17_L66]
          rw [if_neg (by decide), if_neg (by rw [show (16 : Int32) = nI 16 from rfl, nI_leI (by decide) (by omega)]; omega), e5]
          simp only [Option.bind_some, fX5_read_17_L66_E115]
          rw [e7]
          rfl
        · rw [w2 s e hs' he]
          exact few_succ (by omega))
    (by
      rintro ⟨m, a, g⟩ ⟨rfl, mb, rfl, h1, h2, h3, h4⟩
      refine ⟨(b2i mb, nI 16, g), ?_, h2, h4⟩
      simp only [fX5_read_17_L66]
      cases mb with
      | false => rw [if_pos (show b2i false = 0 from rfl)]
      | true => rw [if_neg (by decide), if_pos (by decide)]) (by decide)
    ⟨rfl, mb, rfl, t1, t2, stop0, s3⟩
set_option maxHeartbeats 1000000 in
theorem c_rowsA {sn : Nat} {sg : Sg} : ∃ t, lpS (fun t => fX5_read_17_L2 (nI sn) t.1 t.2) 300 ((0 : Int32), sg) = some t ∧ (∀ k, k < 128 → rd t.2 22 k = -1) ∧ same [22] t.2 sg := by
  refine lpS_for (step := fun t => fX5_read_17_L2 (nI sn) t.1 t.2) (t0 := ((0 : Int32), sg)) 128
    (fun j t => t.1 = nI j ∧ (∀ k, k < j → rd t.2 22 k = -1) ∧ same [22] t.2 sg)
    ⟨rfl, fun i hi => by omega, same.rf⟩
    (by
      rintro j ⟨a, g⟩ hj ⟨rfl, h1, h4⟩
      refine ⟨(nI j + 1, wr g 22 j (-1)), ?_, nI_1 j, ?_, h4.wr (by simp)⟩
      · simp only [fX5_read_17_L2]
        rw [if_neg (by rw [show (128 : Int32) = nI 128 from rfl, nI_leI (by decide) (by omega)]; omega)]
        simp (disch := omega) only [inb_nI, gd_t, lt_d, nI_clamp]
      · intro i hi
        rw [rd_wr]
        split
        · rfl
        · rename_i hne; exact h1 i (by have : i ≠ j := fun z => hne ⟨rfl, z⟩; omega))
    (by
      rintro ⟨a, g⟩ ⟨rfl, h1, h4⟩
      refine ⟨(nI 128, g), ?_, h1, h4⟩
      simp only [fX5_read_17_L2]
      rw [if_pos (by decide)]) (by decide)
set_option maxHeartbeats 1000000 in
theorem c_rowsB {sn : Nat} {nm : Nat → Nat → Nat} {g1 : Sg} (hs : sn < 256) : ∃ t, lpS (fun t => fX5_read_17_L24 (nI sn) t.1 t.2) 300 ((0 : Int32), g1) = some t ∧ arr t.2 23 16 (fun _ => 0) ∧ arr t.2 24 16 (RCd sn nm 0) ∧ same [23, 24] t.2 g1 := by
  refine lpS_for (step := fun t => fX5_read_17_L24 (nI sn) t.1 t.2) (t0 := ((0 : Int32), g1)) 16
    (fun j t => t.1 = nI j ∧ arr t.2 23 j (fun _ => 0) ∧ arr t.2 24 j (RCd sn nm 0) ∧ same [23, 24] t.2 g1)
    ⟨rfl, fun i hi => by omega, fun i hi => by omega, same.rf⟩
    (by
      rintro j ⟨a, g⟩ hj ⟨rfl, h1, h2, h4⟩
      refine ⟨(nI j + 1, wr (wr g 23 j (nI 0)) 24 j (nI (RCd sn nm 0 j))), ?_, nI_1 j, ?_, ?_, (h4.wr (by simp)).wr (by simp)⟩
      · simp only [fX5_read_17_L24]
        rw [if_neg (by rw [show (16 : Int32) = nI 16 from rfl, nI_leI (by decide) (by omega)]; omega), (rem16 hj).2]
        simp (disch := omega) only [inb_nI, gd_t, lt_d, nI_clamp, nI_pow, fa_and, and_pow]
        rfl
      · intro i hi
        rw [rd_wr, if_neg (by simp), rd_wr]
        split
        · rfl
        · rename_i hne; exact h1 i (by have : i ≠ j := fun z => hne ⟨rfl, z⟩; omega)
      · intro i hi
        rw [rd_wr]
        split
        · rename_i z; rw [z.2]
        · rename_i hne
          rw [rd_wr, if_neg (by simp)]
          exact h2 i (by have : i ≠ j := fun z => hne ⟨rfl, z⟩; omega))
    (by
      rintro ⟨a, g⟩ ⟨rfl, h1, h2, h4⟩
      refine ⟨(nI 16, g), ?_, h1, h2, h4⟩
      simp only [fX5_read_17_L24]
      rw [if_pos (by decide)]) (by decide)
theorem c_rowsE {a2 a3 r : Int32} {g g3 : Sg} {t : Int32 × Int32 × Sg} (h1 : fX5_settle (0 : Int32) g = some (r, g3)) (h2 : lpS (fun t => fX5_read_17_L66 t.1 t.2.1 t.2.2) 300 (r, (1 : Int32), g3) = some t) : fX5_read_17_E57 a2 a3 g = some t.2.2 := by
  unfold fX5_read_17_E57 fX5_read_17_E128
  rw [h1, Option.bind_some, ltP_m, h2, Option.bind_some]
theorem c_rowsF {sn : Nat} {nm : Nat → Nat → Nat} {g2 sg : Sg} (hn : ∀ a b, nm a b ≤ 4) (h19 : namC sg nm) (r1 : arr g2 23 16 (fun _ => 0)) (r2 : arr g2 24 16 (RCd sn nm 0)) (q1 : ∀ k, k < 128 → rd g2 22 k = -1) (s2 : same [22, 23, 24] g2 sg) (a2 a3 : Int32) : ∃ g, fX5_read_17_E57 a2 a3 g2 = some g ∧ (∀ s e, s < 16 → e < 8 → rd g 22 (8 * s + e) = few sn nm 15 s e) ∧ same [22, 23, 24] g sg := by
  obtain ⟨mb, g3, e3, t1, t2, t3, t4⟩ := c_settle (len := 0) (h := RCd sn nm 0) (f := fun _ => 0) (FE := fun _ _ => -1) (sg := g2) (fun k => rc_lt 0 k) r2 r1 (fun s e hs' he => q1 _ (by omega))
  have s3 : same [22, 23, 24] g3 sg := t4.tr s2 (by simp) (by simp)
  have stop0 : mb = false → ∀ k s e, s < 16 → e < 8 → (RCd sn nm k s).testBit e = true → (RCd sn nm 0 s).testBit e = true := by
    intro z k s e hs' he hb
    have hse := ((rc_pr k s).mp hb).1
    have h0 : (RCd sn nm 0 e).testBit e = true := (rc_pr 0 e).mpr ⟨hse, by show e % 8 = e; omega⟩
    have := t3 z e e (by omega) he h0
    simp at this
  have t2' : ∀ s e, s < 16 → e < 8 → rd g3 22 (8 * s + e) = few sn nm 0 s e := fun s e hs' he => (t2 s e hs' he).trans few_0
  obtain ⟨t, e4, u1, u2⟩ := c_rowsL hn h19 t1 t2' stop0 s3
  exact ⟨t.2.2, c_rowsE e3 e4, u1, u2⟩
theorem c_rows {sn : Nat} {nm : Nat → Nat → Nat} {sg : Sg} (hs : sn < 256) (hn : ∀ a b, nm a b ≤ 4) (h19 : namC sg nm) : ∃ g, fX5_read_17 (nI sn) sg = some g ∧ (∀ s e, s < 16 → e < 8 → rd g 22 (8 * s + e) = few sn nm 15 s e) ∧ same [22, 23, 24] g sg := by
  obtain ⟨t1, e1, q1, q2⟩ := c_rowsA (sn := sn) (sg := sg)
  obtain ⟨t2, e2, r1, r2, r3⟩ := c_rowsB (nm := nm) (g1 := t1.2) hs
  obtain ⟨g, k1, k2, k3⟩ := c_rowsF (g2 := t2.2) (sg := sg) hn h19 r1 r2 (fun k hk => (r3 22 (by simp) k).trans (q1 k hk)) (r3.tr q2 (by simp) (by simp)) (nI sn) t2.1
  refine ⟨g, ?_, k2, k3⟩
  unfold fX5_read_17
  rw [e1, Option.bind_some]
  unfold fX5_read_17_E22
  rw [e2, Option.bind_some]
  exact k1
