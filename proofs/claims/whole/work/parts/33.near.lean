/-! rows without a valley: what is reached in so many links -/
def aftN (d nm : Nat) : Nat := if nm = 1 then (if d = 0 then 0 else 2) else if nm = 2 then 1 else if nm = 3 then (if d = 0 then 1 else 2) else if nm = 4 then d else 2
def aftI (d nm : Nat) : Int32 := if aftN d nm < 2 then nI (aftN d nm) else -1
theorem c_after {d nm : Nat} (hd : d < 2) (hn : nm ≤ 4) : fX2_after (nI d) (nI nm) = some (aftI d nm) := by
  have : ∀ d, d < 2 → ∀ nm, nm < 5 → fX2_after (nI d) (nI nm) = some (aftI d nm) := by decide +kernel
  exact this d hd nm (by omega)
theorem m_behind {d nm : Nat} (hd : d < 2) (hn : nm ≤ 4) : fX8_behind (nI nm) (nI d) = some (aftI d nm) := by
  have : ∀ d, d < 2 → ∀ nm, nm < 5 → fX8_behind (nI nm) (nI d) = some (aftI d nm) := by decide +kernel
  exact this d hd nm (by omega)
theorem aftI_m1 {d nm : Nat} (hd : d < 2) (hn : nm ≤ 4) : (aftI d nm = -1) ↔ ¬ aftN d nm < 2 := by
  have : ∀ d, d < 2 → ∀ nm, nm < 5 → ((aftI d nm = -1) ↔ ¬ aftN d nm < 2) := by decide +kernel
  exact this d hd nm (by omega)
/-- the ends that one link more gives -/
def OMd (nm : Nat → Nat → Nat) (f : Nat → Nat) (s : Nat) : Nat → Nat
  | 0 => 0
  | b + 1 => OMd nm f s b ||| (if aftN (s / 8) (nm (s % 8) b) < 2 then f (8 * aftN (s / 8) (nm (s % 8) b) + b) else 0)
theorem om_bit {nm : Nat → Nat → Nat} {f : Nat → Nat} {s e : Nat} : ∀ n, (OMd nm f s n).testBit e = true ↔ ∃ b, b < n ∧ aftN (s / 8) (nm (s % 8) b) < 2 ∧ (f (8 * aftN (s / 8) (nm (s % 8) b) + b)).testBit e = true
  | 0 => by simp [OMd]
  | n + 1 => by
    have ih := om_bit (nm := nm) (f := f) (s := s) (e := e) n
    unfold OMd
    rw [Nat.testBit_or, Bool.or_eq_true, ih]
    constructor
    · rintro (⟨b, h1, h2, h3⟩ | h)
      · exact ⟨b, by omega, h2, h3⟩
      · split at h
        · rename_i c; exact ⟨n, by omega, c, h⟩
        · simp at h
    · rintro ⟨b, h1, h2, h3⟩
      rcases Nat.lt_or_ge b n with q | q
      · exact Or.inl ⟨b, q, h2, h3⟩
      · have : b = n := by omega
        subst this
        rw [if_pos h2]
        exact Or.inr h3
theorem om_lt {nm : Nat → Nat → Nat} {f : Nat → Nat} {s : Nat} (hf : ∀ k, f k < 256) : ∀ n, OMd nm f s n < 256
  | 0 => (by decide : 0 < 256)
  | n + 1 => by
    unfold OMd
    refine Nat.or_lt_two_pow (n := 8) (om_lt hf n) ?_
    split
    · exact hf _
    · decide
def RCd (sn : Nat) (nm : Nat → Nat → Nat) : Nat → Nat → Nat
  | 0, s => if sn.testBit (s % 8) then 2 ^ (s % 8) else 0
  | j + 1, s => RCd sn nm j s ||| OMd nm (RCd sn nm j) s 8
theorem rc_lt {sn : Nat} {nm : Nat → Nat → Nat} : ∀ j s, RCd sn nm j s < 256
  | 0, s => by
    unfold RCd
    split
    · exact show 2 ^ (s % 8) < 2 ^ 8 from Nat.pow_lt_pow_right (by decide) (by omega)
    · decide
  | j + 1, s => Nat.or_lt_two_pow (n := 8) (rc_lt j s) (om_lt (rc_lt j) 8)
/-- a row of at most j links from s to the net e -/
def Pr (nm : Nat → Nat → Nat) (e : Nat) : Nat → Nat → Prop
  | 0, s => s % 8 = e
  | j + 1, s => Pr nm e j s ∨ ∃ b, b < 8 ∧ aftN (s / 8) (nm (s % 8) b) < 2 ∧ Pr nm e j (8 * aftN (s / 8) (nm (s % 8) b) + b)
theorem rc_pr {sn e : Nat} {nm : Nat → Nat → Nat} : ∀ j s, (RCd sn nm j s).testBit e = true ↔ (sn.testBit e = true ∧ Pr nm e j s)
  | 0, s => by
    unfold RCd Pr
    split
    · rename_i h
      rw [Nat.testBit_two_pow, decide_eq_true_eq]
      constructor
      · intro z; rw [← z]; exact ⟨h, rfl⟩
      · exact fun z => z.2
    · rename_i h
      simp only [Nat.zero_testBit, Bool.false_eq_true, false_iff]
      rintro ⟨h1, h2⟩
      rw [h2] at h; exact h h1
  | j + 1, s => by
    unfold RCd Pr
    rw [Nat.testBit_or, Bool.or_eq_true, rc_pr j s, om_bit]
    constructor
    · rintro (⟨h1, h2⟩ | ⟨b, h1, h2, h3⟩)
      · exact ⟨h1, Or.inl h2⟩
      · have := (rc_pr j _).mp h3
        exact ⟨this.1, Or.inr ⟨b, h1, h2, this.2⟩⟩
    · rintro ⟨h1, h2 | ⟨b, h3, h4, h5⟩⟩
      · exact Or.inl ⟨h1, h2⟩
      · exact Or.inr ⟨b, h3, h4, (rc_pr j _).mpr ⟨h1, h5⟩⟩
theorem pr_mono {nm : Nat → Nat → Nat} {e s i : Nat} : ∀ j, i ≤ j → Pr nm e i s → Pr nm e j s
  | 0, h, hp => by have : i = 0 := by omega
                   subst this; exact hp
  | j + 1, h, hp => by
    rcases Nat.lt_or_ge j i with q | q
    · have : i = j + 1 := by omega
      subst this; exact hp
    · exact Or.inl (pr_mono j q hp)
/-- once nothing more is reached, nothing is ever -/
theorem pr_stable {nm : Nat → Nat → Nat} {e i : Nat} (h : ∀ s, s < 16 → Pr nm e (i + 1) s → Pr nm e i s) : ∀ j s, s < 16 → Pr nm e j s → Pr nm e i s
  | 0, s, hs, hp => pr_mono i (Nat.zero_le i) hp
  | j + 1, s, hs, hp => by
    rcases hp with hp | ⟨b, h1, h2, h3⟩
    · exact pr_stable h j s hs hp
    · exact h s hs (Or.inr ⟨b, h1, h2, pr_stable h j _ (by omega) h3⟩)
theorem pr_15 {nm : Nat → Nat → Nat} {e : Nat} (he : e < 8) {j s : Nat} (hs : s < 16) (hp : Pr nm e j s) : Pr nm e 15 s := by
  have hdec : ∀ i s, Decidable (Pr nm e i s) := fun i s => Classical.propDecidable _
  have key : ∀ k, (∃ i, i < k ∧ ∀ s, s < 16 → Pr nm e (i + 1) s → Pr nm e i s) ∨ k + 2 ≤ fb_ct (fun s => @decide (Pr nm e k s) (hdec k s)) 16 := by
    intro k
    induction k with
    | zero =>
      right
      have h1 := fb_ct_upd (fun s => decide (s = e)) true (i := e + 8) (n := 16) (by omega)
      have h2 := fb_ct_upd (fun _ => false) true (i := e) (n := 16) (by omega)
      have hz : fb_ct (fun _ => false) 16 = 0 := rfl
      rw [hz] at h2
      have h3 : fb_ct (fun s => decide (s = e)) 16 = fb_ct (fun k => if k = e then true else false) 16 := fb_ct_cong (fun k _ => by by_cases c : k = e <;> simp [c])
      rw [h3, if_neg (by simp), if_pos rfl] at h1
      rw [if_neg (by decide), if_pos rfl] at h2
      have h4 : fb_ct (fun k => if k = e + 8 then true else decide (k = e)) 16 ≤ fb_ct (fun s => @decide (Pr nm e 0 s) (hdec 0 s)) 16 := fb_ct_sub (fun s hs2 z => by
        have : Pr nm e 0 s := by
          show s % 8 = e
          split at z
          · omega
          · rw [decide_eq_true_eq] at z; omega
        simp only [decide_eq_true_eq]; exact this)
      omega
    | succ k ih =>
      rcases ih with ⟨i, h1, h2⟩ | h
      · exact Or.inl ⟨i, by omega, h2⟩
      · by_cases c : ∀ s, s < 16 → Pr nm e (k + 1) s → Pr nm e k s
        · exact Or.inl ⟨k, by omega, c⟩
        · right
          have : ∃ s, s < 16 ∧ Pr nm e (k + 1) s ∧ ¬ Pr nm e k s := by
            apply Classical.byContradiction
            intro z
            exact c (fun s hs2 hp2 => Classical.byContradiction (fun y => z ⟨s, hs2, hp2, y⟩))
          obtain ⟨s0, q1, q2, q3⟩ := this
          have h1 := fb_ct_upd (fun s => @decide (Pr nm e k s) (hdec k s)) true (i := s0) (n := 16) q1
          rw [if_neg (by simp only [decide_eq_true_eq]; exact q3), if_pos rfl] at h1
          have h4 : fb_ct (fun s => if s = s0 then true else @decide (Pr nm e k s) (hdec k s)) 16 ≤ fb_ct (fun s => @decide (Pr nm e (k + 1) s) (hdec (k + 1) s)) 16 := fb_ct_sub (fun s hs2 z => by
            simp only [decide_eq_true_eq]
            split at z
            · rename_i y; rw [y]; exact q2
            · simp only [decide_eq_true_eq] at z; exact Or.inl z)
          omega
  rcases key 15 with ⟨i, h1, h2⟩ | h
  · exact pr_mono 15 (by omega) (pr_stable h2 j s hs hp)
  · have := fb_ct_le (fun s => @decide (Pr nm e 15 s) (hdec 15 s)) 16
    omega
def namC (sg : Sg) (nm : Nat → Nat → Nat) : Prop := ∀ a b, a < 8 → b < 8 → rd sg 19 (8 * a + b) = nI (nm a b)
theorem rem16 {k : Nat} (hk : k < 16) : nI k / (8 : Int32) = nI (k / 8) ∧ nI k - nI k / (8 : Int32) * (8 : Int32) = nI (k % 8) := rem8 (by omega)
theorem c_oneMore {nm : Nat → Nat → Nat} {f : Nat → Nat} {s : Nat} {sg : Sg} (hs : s < 16) (hn : ∀ a b, nm a b ≤ 4) (h19 : namC sg nm) (h23 : arr sg 23 16 f) : fX5_reachedByOneMore_17 (nI s) sg = some (nI (OMd nm f s 8)) := by
  unfold fX5_reachedByOneMore_17
  have h := lpS_det (step := fun t => fX5_reachedByOneMore_17_L5 (nI s) sg t.1 t.2) (u := (nI (OMd nm f s 8), nI 8)) 8 (fun j => (nI (OMd nm f s j), nI j)) (fun j hj => by
    simp only [fX5_reachedByOneMore_17_L5, fX5_reachedByOneMore_17_L5_J58]
    rw [if_neg (by rw [l8, nI_leI (by decide) (by omega)]; omega), (rem16 hs).2, (rem16 hs).1]
    simp (disch := omega) only [l8, nI_mul, nI_add, inb_nI, gd_t, nI_clamp]
    rw [Nat.mul_comm (s % 8) 8, h19 (s % 8) j (by omega) hj, c_after (by omega) (hn _ _)]
    simp only [Option.bind_some, nI_1]
    have hm := aftI_m1 (d := s / 8) (nm := nm (s % 8) j) (by omega) (hn _ _)
    by_cases c : aftN (s / 8) (nm (s % 8) j) < 2
    · rw [if_neg (fun z => hm.mp z c), show aftI (s / 8) (nm (s % 8) j) = nI (aftN (s / 8) (nm (s % 8) j)) by unfold aftI; rw [if_pos c]]
      simp (disch := omega) only [nI_mul, nI_add, inb_nI, gd_t, nI_clamp, lt_d]
      rw [Nat.mul_comm _ 8, h23 _ (by omega), fa_or]
      show _ = some (Sum.inr (nI (OMd nm f s j ||| (if aftN (s / 8) (nm (s % 8) j) < 2 then f (8 * aftN (s / 8) (nm (s % 8) j) + j) else 0)), nI (j + 1)))
      rw [if_pos c]
    · rw [if_pos (hm.mpr c)]
      show _ = some (Sum.inr (nI (OMd nm f s j ||| (if aftN (s / 8) (nm (s % 8) j) < 2 then f (8 * aftN (s / 8) (nm (s % 8) j) + j) else 0)), nI (j + 1)))
      rw [if_neg c, Nat.or_zero]) (by
    simp only [fX5_reachedByOneMore_17_L5]
    rw [if_pos (by decide)]) (by decide)
  rw [show ((0 : Int32), (0 : Int32)) = (nI (OMd nm f s 0), nI 0) from rfl, h]
  rfl
theorem fresh_nI {h f : Nat} (hh : h < 256) : ∃ x, x < 256 ∧ nI h &&& (nI f ^^^ (-1)) = nI x ∧ ∀ e, x.testBit e = (h.testBit e && !(f.testBit e)) := by
  refine ⟨h ^^^ (h &&& f), Nat.xor_lt_two_pow (n := 8) hh (Nat.lt_of_le_of_lt Nat.and_le_left hh), ?_, fun e => ?_⟩
  · apply b_ext
    intro i hi
    rw [b_and, bt_nI hi, bt_not hi, bt_nI hi, Nat.testBit_xor, Nat.testBit_and]
    cases h.testBit i <;> cases f.testBit i <;> rfl
  · rw [Nat.testBit_xor, Nat.testBit_and]
    cases h.testBit e <;> cases f.testBit e <;> rfl
set_option maxHeartbeats 1000000 in
theorem c_settle {len : Nat} {h f : Nat → Nat} {FE : Nat → Nat → Int32} {sg : Sg} (hh : ∀ k, h k < 256) (h24 : arr sg 24 16 h) (h23 : arr sg 23 16 f) (h22 : ∀ s e, s < 16 → e < 8 → rd sg 22 (8 * s + e) = FE s e) :
    ∃ (mb : Bool) (g : Sg), fX5_settle (nI len) sg = some (b2i mb, g) ∧ arr g 23 16 h ∧ (∀ s e, s < 16 → e < 8 → rd g 22 (8 * s + e) = if (h s).testBit e && !((f s).testBit e) then nI len else FE s e) ∧ (mb = false → ∀ s e, s < 16 → e < 8 → (h s).testBit e = true → (f s).testBit e = true) ∧ same [22, 23] g sg := by
  unfold fX5_settle
  obtain ⟨⟨m1, a1, g1⟩, e1, mb, rfl, q1, q2, q3, q4⟩ := lpS_for (step := fun t => fX5_settle_L4 (nI len) t.1 t.2.1 t.2.2) (t0 := ((0 : Int32), (0 : Int32), sg)) (Q := fun t => ∃ mb : Bool, t.1 = b2i mb ∧ arr t.2.2 23 16 h ∧ (∀ s e, s < 16 → e < 8 → rd t.2.2 22 (8 * s + e) = if (h s).testBit e && !((f s).testBit e) then nI len else FE s e) ∧ (mb = false → ∀ s e, s < 16 → e < 8 → (h s).testBit e = true → (f s).testBit e = true) ∧ same [22, 23] t.2.2 sg) 16
    (fun j t => t.2.1 = nI j ∧ ∃ mb : Bool, t.1 = b2i mb ∧ (arr t.2.2 23 j h ∧ ∀ k, j ≤ k → k < 16 → rd t.2.2 23 k = nI (f k)) ∧ (∀ s e, s < 16 → e < 8 → rd t.2.2 22 (8 * s + e) = if decide (s < j) && ((h s).testBit e && !((f s).testBit e)) then nI len else FE s e) ∧ (mb = false → ∀ s e, s < j → e < 8 → (h s).testBit e = true → (f s).testBit e = true) ∧ same [22, 23] t.2.2 sg)
    ⟨rfl, false, rfl, ⟨fun i hi => by omega, fun k _ hk => h23 k hk⟩, fun s e hs he => by simp only [Nat.not_lt_zero, decide_false, Bool.false_and, Bool.false_eq_true, if_false]; exact h22 s e hs he, fun _ s e hs => by omega, same.rf⟩
    (by
      rintro j ⟨m, a, g⟩ hj ⟨rfl, mb, rfl, ⟨k1, k1b⟩, k2, k3, k4⟩
      dsimp only at k1 k1b k2 k3 k4
      obtain ⟨x, x1, x2, x3⟩ := fresh_nI (h := h j) (f := f j) (hh j)
      obtain ⟨⟨m2, a2, g2⟩, e2, mb2, rfl, r1, r2, r3⟩ := lpS_for (step := fun t => fX5_settle_L30 (nI len) (nI j) (nI x) t.1 t.2.1 t.2.2) (t0 := (b2i mb, (0 : Int32), g)) (Q := fun t => ∃ mb2 : Bool, t.1 = b2i mb2 ∧ (∀ s e, s < 16 → e < 8 → rd t.2.2 22 (8 * s + e) = if decide (s < j + 1) && ((h s).testBit e && !((f s).testBit e)) then nI len else FE s e) ∧ (mb2 = false → mb = false ∧ ∀ e, e < 8 → x.testBit e = false) ∧ same [22] t.2.2 g) 8
        (fun i t => t.2.1 = nI i ∧ ∃ mb2 : Bool, t.1 = b2i mb2 ∧ (∀ s e, s < 16 → e < 8 → rd t.2.2 22 (8 * s + e) = if (decide (s < j) || (decide (s = j) && decide (e < i))) && ((h s).testBit e && !((f s).testBit e)) then nI len else FE s e) ∧ (mb2 = false → mb = false ∧ ∀ e, e < i → x.testBit e = false) ∧ same [22] t.2.2 g)
        ⟨rfl, mb, rfl, fun s e hs he => by simpa using k2 s e hs he, fun z => ⟨z, fun e he => by omega⟩, same.rf⟩
        (by
          rintro i ⟨m3, a3, g3⟩ hi ⟨rfl, mb3, rfl, y1, y2, y3⟩
          dsimp only at y1 y2 y3
          simp only [fX5_settle_L30, fX5_settle_L30_J62]
          rw [if_neg (by rw [l8, nI_leI (by decide) (by omega)]; omega), has0 (by omega) (by omega)]
          simp only [Option.bind_some, b2i_0]
          cases hb : x.testBit i with
          | false =>
            refine ⟨(b2i mb3, nI i + 1, g3), by rw [if_pos rfl], nI_1 i, mb3, rfl, fun s e hs he => ?_, fun z => ⟨(y2 z).1, fun e he => ?_⟩, y3⟩
            · rw [y1 s e hs he]
              have hx := x3 i
              rw [hb] at hx
              by_cases c : s = j ∧ e = i
              · obtain ⟨rfl, rfl⟩ := c
                rw [← hx]; simp
              · have hd : (decide (s < j) || (decide (s = j) && decide (e < i + 1))) = (decide (s < j) || (decide (s = j) && decide (e < i))) := by
                  rw [Bool.eq_iff_iff]; simp only [Bool.or_eq_true, Bool.and_eq_true, decide_eq_true_eq]; omega
                rw [hd]
            · rcases Nat.lt_or_ge e i with q | q
              · exact (y2 z).2 e q
              · have : e = i := by omega
                rw [this]; exact hb
          | true =>
            refine ⟨(b2i true, nI i + 1, wr g3 22 (8 * j + i) (nI len)), ?_, nI_1 i, true, rfl, fun s e hs he => ?_, (fun z => by cases z), y3.wr (by simp)⟩
            · rw [if_neg (by decide)]
              simp (disch := omega) only [l8, nI_mul, nI_add, inb_nI, gd_t, nI_clamp, lt_d]
              rw [Nat.mul_comm j 8]
              rfl
            · rw [rd_wr]
              have hx := x3 i
              rw [hb] at hx
              by_cases c : s = j ∧ e = i
              · obtain ⟨rfl, rfl⟩ := c
                rw [if_pos ⟨rfl, rfl⟩, ← hx]; simp
              · have hd : (decide (s < j) || (decide (s = j) && decide (e < i + 1))) = (decide (s < j) || (decide (s = j) && decide (e < i))) := by
                  rw [Bool.eq_iff_iff]; simp only [Bool.or_eq_true, Bool.and_eq_true, decide_eq_true_eq]; omega
                rw [if_neg (by omega), y1 s e hs he, hd])
        (by
          rintro ⟨m3, a3, g3⟩ ⟨rfl, mb3, rfl, y1, y2, y3⟩
          dsimp only at y1 y2 y3
          refine ⟨(b2i mb3, nI 8, g3), ?_, mb3, rfl, fun s e hs he => ?_, y2, y3⟩
          · simp only [fX5_settle_L30]
            rw [if_pos (by decide)]
          · have hd : (decide (s < j) || (decide (s = j) && decide (e < 8))) = decide (s < j + 1) := by
              rw [Bool.eq_iff_iff]; simp only [Bool.or_eq_true, Bool.and_eq_true, decide_eq_true_eq]; omega
            rw [y1 s e hs he, hd]) (by decide)
      dsimp only at r1 r2 r3
      have e24 : rd g2 24 j = nI (h j) := ((r3 24 (by simp) j).trans (k4 24 (by simp) j)).trans (h24 j hj)
      refine ⟨(b2i mb2, nI j + 1, wr g2 23 j (nI (h j))), ?_, nI_1 j, mb2, rfl, ⟨fun i hi => ?_, fun k hk1 hk2 => ?_⟩, fun s e hs he => ?_, fun z s e hs he hb => ?_, ?_⟩
      · simp only [fX5_settle_L4]
        rw [if_neg (by rw [show (16 : Int32) = nI 16 from rfl, nI_leI (by decide) (by omega)]; omega)]
        simp (disch := omega) only [inb_nI, gd_t, nI_clamp, lt_d]
        rw [(k4 24 (by simp) j).trans (h24 j hj), k1b j (Nat.le_refl j) hj, x2, e2]
        simp only [Option.bind_some, fX5_settle_L4_E68]
        simp (disch := omega) only [inb_nI, gd_t, nI_clamp, lt_d]
        rw [e24]
      · rw [rd_wr]
        split
        · rename_i z; rw [z.2]
        · rename_i z
          rw [r3 23 (by simp) i]
          exact k1 i (by have : i ≠ j := fun y => z ⟨rfl, y⟩; omega)
      · rw [rd_wr, if_neg (by omega), r3 23 (by simp) k]
        exact k1b k (by omega) hk2
      · rw [rd_wr, if_neg (by simp)]
        exact r1 s e hs he
      · obtain ⟨z1, z2⟩ := r2 z
        rcases Nat.lt_or_ge s j with q | q
        · exact k3 z1 s e q he hb
        · have : s = j := by omega
          subst this
          have := z2 e he
          rw [x3 e, hb] at this
          simpa using this
      · exact (r3.tr k4 (l3 := [22, 23]) (by simp) (by simp)).wr (by simp))
    (by
      rintro ⟨m, a, g⟩ ⟨rfl, mb, rfl, ⟨k1, k1b⟩, k2, k3, k4⟩
      dsimp only at k1 k1b k2 k3 k4
      refine ⟨(b2i mb, nI 16, g), ?_, mb, rfl, k1, fun s e hs he => ?_, k3, k4⟩
      · simp only [fX5_settle_L4]
        rw [if_pos (by decide)]
      · rw [k2 s e hs he]; simp [hs]) (by decide)
  rw [e1]
  simp only [Option.bind_some, fX5_settle_E86, zb_b2i, gd_t]
  exact ⟨mb, g1, rfl, q1, q2, q3, q4⟩
