/-! TOP, by both -/
def TPd (sn : Nat) (lk : Nat → Nat) (tr dg : Nat → Nat) : Nat := if pc8 sn = 0 then 0 else bst (RKd sn tr dg 0) lk dg 255
theorem bst_s {f j : Nat} {lk dg : Nat → Nat} : bst f lk dg (j + 1) = if (j + 1).testBit f && alB lk (j + 1) && decide (vls dg (bst f lk dg j) < vls dg (j + 1)) then j + 1 else bst f lk dg j := rfl
theorem vls_pos {dg : Nat → Nat} {s k : Nat} (hk : k < 8) (h : s.testBit k = true) : 0 < vls dg s := by
  have : 0 < pc8 s := fb_ct_pos.mpr ⟨k, hk, h⟩
  unfold vls
  omega
theorem bst_small {f : Nat} {lk dg : Nat → Nat} : ∀ j, j < 2 ^ f → bst f lk dg j = 2 ^ f
  | 0, _ => rfl
  | j + 1, hj => by
    unfold bst
    rw [tb_big (i := f) hj (Nat.le_refl f)]
    simp only [Bool.false_and, Bool.false_eq_true, if_false]
    exact bst_small j (by omega)
theorem al_single {lk : Nat → Nat} {f : Nat} (hf : f < 8) : alB lk (2 ^ f) = true := by
  have hlt : 2 ^ f < 256 := show 2 ^ f < 2 ^ 8 from Nat.pow_lt_pow_right (by decide) hf
  refine (alU_iff 8).mpr (fun n _ h1 => (alN_iff hlt).mpr (fun k h2 h3 => ?_))
  rw [Nat.testBit_two_pow, decide_eq_true_eq] at h1 h2
  omega
set_option maxHeartbeats 1000000 in
theorem m_top {sn : Nat} {lk tr : Nat → Nat} {sg : Sg} (hs : sn < 256) (hg : gdL lk sn) (h7 : arr sg 7 8 lk) (h13 : rd sg 0 13 = nI sn) (h15 : rd sg 0 15 = nI (pc8 sn)) (h9 : ∀ p, p < pc8 sn → rd sg 9 p = nI (RKd sn tr (fun a => pc8 (lk a)) p)) : ∃ g, fX8_layTop sg = some g ∧ rd g 0 17 = nI (TPd sn lk tr (fun a => pc8 (lk a))) ∧ sam [] [17] g sg := by
  obtain ⟨l1, l2, l3, l4⟩ := hg
  have hd : ∀ k, pc8 (lk k) ≤ 8 := fun k => pc8_le _
  unfold fX8_layTop
  rw [lt_d]
  have hpc := pc8_le sn
  have s0 : sam [] [17] (wr sg 0 17 (0 : Int32)) sg := sam.rf.wr (by simp)
  by_cases hz : pc8 sn = 0
  · have hT : TPd sn lk tr (fun a => pc8 (lk a)) = 0 := by unfold TPd; rw [if_pos hz]
    have : lpS (fun t => fX8_layTop_L9 t.1 t.2.1 t.2.2) 300 ((0 : Int32), (1 : Int32), wr sg 0 17 (0 : Int32)) = some ((0 : Int32), (1 : Int32), wr sg 0 17 (0 : Int32)) := by
      unfold lpS
      have e : fX8_layTop_L9 (0 : Int32) (1 : Int32) (wr sg 0 17 (0 : Int32)) = some (.inl ((0 : Int32), (1 : Int32), wr sg 0 17 (0 : Int32))) := by
        unfold fX8_layTop_L9
        rw [if_neg (by decide), s0 0 15 (by simp) (by simp), h15, hz, if_pos (by decide)]
      simp only [e]
    rw [this, hT]
    exact ⟨_, rfl, by rw [rd_wr_s]; rfl, s0⟩
  · have hT : TPd sn lk tr (fun a => pc8 (lk a)) = bst (RKd sn tr (fun a => pc8 (lk a)) 0) lk (fun a => pc8 (lk a)) 255 := by unfold TPd; rw [if_neg hz]
    rw [hT]
    obtain ⟨f1, f2, -⟩ := rk_ok (sn := sn) (tr := tr) (dg := fun a => pc8 (lk a)) (p := 0) (by omega)
    have h90 := h9 0 (by omega)
    generalize RKd sn tr (fun a => pc8 (lk a)) 0 = f at f1 f2 h90 ⊢
    have hdg : ∀ s, s < 256 → ∀ g, sam [] [17] g sg → fX8_degrees (nI s) g = some (nI (dsm (fun a => pc8 (lk a)) s)) := fun s hs' g hg' => m_degrees hs' l1 (hg'.arr (by simp) (by simp) h7)
    have hal : ∀ s, s < 256 → ∀ g, sam [] [17] g sg → fX8_areAllLinked (nI s) g = some (b2i (alB lk s)) := fun s hs' g hg' => m_allLinked hs' l3 (hg'.arr (by simp) (by simp) h7)
    generalize hdgg : (fun a => pc8 (lk a)) = dg at hdg ⊢
    have hd : ∀ k, dg k ≤ 8 := fun k => by rw [← hdgg]; exact pc8_le _
    have hpf : 2 ^ f < 256 := show 2 ^ f < 2 ^ 8 from Nat.pow_lt_pow_right (by decide) f1
    have hpf0 : 0 < 2 ^ f := Nat.two_pow_pos f
    have hsub : ∀ s, s < 256 → s.testBit f = true → alB lk s = true → ∀ k, s.testBit k = true → sn.testBit k = true := by
      intro s hs' h1 h2 k h3
      by_cases e : f = k
      · rw [← e]; exact f2
      · exact l4 k f (al_to hs' h2 h3 h1 e)
    obtain ⟨⟨a1, b1, g1⟩, e1, q1, q2⟩ := lpS_for (step := fun t => fX8_layTop_L9 t.1 t.2.1 t.2.2) (t0 := ((0 : Int32), (1 : Int32), wr sg 0 17 (0 : Int32))) (Q := fun t => rd t.2.2 0 17 = nI (bst f lk dg 255) ∧ sam [] [17] t.2.2 sg) 255
      (fun j t => t.1 = nI (if 2 ^ f ≤ j then vls dg (bst f lk dg j) else 0) ∧ t.2.1 = nI (j + 1) ∧ rd t.2.2 0 17 = nI (if 2 ^ f ≤ j then bst f lk dg j else 0) ∧ sam [] [17] t.2.2 sg)
      ⟨by rw [if_neg (by omega)]; rfl, rfl, by rw [if_neg (by omega), rd_wr_s]; rfl, s0⟩
      (by
        rintro j ⟨a, b, g⟩ hj ⟨h1, rfl, h2, h3⟩
        dsimp only at h1 h2 h3
        have hj1 : j + 1 < 256 := by omega
        have hv : ∃ v, v = (if (j + 1).testBit f && alB lk (j + 1) then vls dg (j + 1) else 0) ∧ v < 1000 ∧ fX8_layTop_L9 a (nI (j + 1)) g = fX8_layTop_L9_J82 a (nI (j + 1)) (nI v) g := by
          have p1 := pc8_le (j + 1)
          have p2 := dsm_le hd (j + 1)
          refine ⟨_, rfl, ?_, ?_⟩
          · split
            · unfold vls; omega
            · omega
          · unfold fX8_layTop_L9 fX8_layTop_L9_J59
            rw [if_neg (by rw [show (256 : Int32) = nI 256 from rfl, nI_leI (by decide) (by omega)]; omega), h3 0 15 (by simp) (by simp), h15, if_neg (by rw [show (0 : Int32) = nI 0 from rfl, nI_leI (by omega) (by decide)]; omega), show inb (0 : Int32) 8 = true from rfl, gd_t, show Int32.toNatClampNeg (0 : Int32) = 0 from rfl, h3 9 0 (by simp) (by simp), h90, has8 (by omega) (by omega)]
            simp only [Option.bind_some, b2i_0]
            cases c1 : (j + 1).testBit f with
            | false => rw [if_pos rfl]; unfold fX8_layTop_L9_J60; rw [if_pos rfl]; rfl
            | true =>
              rw [if_neg (by decide), h3 0 13 (by simp) (by simp), h13, hal _ hj1 g h3]
              simp only [Option.bind_some, b2i_0]
              cases c2 : alB lk (j + 1) with
              | false =>
                have : ∀ (x : Option ((Int32 × Int32 × Sg) ⊕ (Int32 × Int32 × Sg))) (c : Prop) [Decidable c], (if c then (if (false = false) then x else fX8_layTop_L9_J60 a (nI (j + 1)) 1 g) else x) = x := fun x c _ => by split <;> rfl
                rw [this]
                unfold fX8_layTop_L9_J60; rw [if_pos rfl]; rfl
              | true =>
                rw [if_pos ((sub_iff hj1).mpr (hsub _ hj1 c1 c2)), if_neg (by decide)]
                unfold fX8_layTop_L9_J60
                rw [if_neg (by decide), ones8 (by omega), hdg _ hj1 g h3]
                simp only [Option.bind_some, fa_lit, nI_mul, nI_add]
                rfl
        obtain ⟨v, hv1, hv2, hv3⟩ := hv
        have hb := bst_lt (f := f) (lk := lk) (dg := dg) f1 j (by omega)
        have pb := pc8_le (bst f lk dg j)
        have db := dsm_le hd (bst f lk dg j)
        have hm : (if 2 ^ f ≤ j then vls dg (bst f lk dg j) else 0) < 1000 := by
          split
          · unfold vls; omega
          · omega
        have hres : fX8_layTop_L9 a (nI (j + 1)) g = some (.inr ((if v ≤ (if 2 ^ f ≤ j then vls dg (bst f lk dg j) else 0) then a else nI v), nI (j + 1) + 1, (if v ≤ (if 2 ^ f ≤ j then vls dg (bst f lk dg j) else 0) then wr g 0 17 (rd g 0 17) else wr g 0 17 (nI (j + 1))))) := by
          rw [hv3]
          unfold fX8_layTop_L9_J82 fX8_layTop_L9_J99 fX8_layTop_L9_J114
          rw [h1]
          by_cases c : v ≤ (if 2 ^ f ≤ j then vls dg (bst f lk dg j) else 0)
          · simp only [lt_d]
            rw [if_pos (by rw [nI_leI (by omega) (by omega)]; exact c), if_pos (by rw [nI_leI (by omega) (by omega)]; exact c), if_pos c, if_pos c]
          · simp only [lt_d]
            rw [if_neg (by rw [nI_leI (by omega) (by omega)]; exact c), if_neg (by rw [nI_leI (by omega) (by omega)]; exact c), if_neg c, if_neg c]
        refine ⟨_, hres, ?_, nI_1 _, ?_, ?_⟩
        · dsimp only
          rcases Nat.lt_or_ge (j + 1) (2 ^ f) with c | c
          · have hvz : v = 0 := by rw [hv1, tb_big (i := f) c (Nat.le_refl f)]; rfl
            rw [if_pos (by omega), h1, if_neg (by omega), if_neg (by omega)]
          · rcases Nat.eq_or_lt_of_le c with c | c
            · have hvv : v = vls dg (j + 1) := by rw [hv1, ← c, al_single f1, Nat.testBit_two_pow_self]; rfl
              have hpos := vls_pos (dg := dg) (s := j + 1) f1 (by rw [← c]; exact Nat.testBit_two_pow_self)
              rw [if_neg (by rw [if_neg (by omega)]; omega), if_pos (by omega), hvv]
              congr 2
              rw [bst_s]
              rw [bst_small j (by omega), c]
              simp
            · rw [if_pos (show 2 ^ f ≤ j by omega), if_pos (show 2 ^ f ≤ j + 1 by omega), h1, if_pos (show 2 ^ f ≤ j by omega)]
              rw [bst_s]
              rw [hv1]
              cases (j + 1).testBit f && alB lk (j + 1) with
              | false => simp
              | true =>
                by_cases d : vls dg (bst f lk dg j) < vls dg (j + 1)
                · have d2 : ¬ vls dg (j + 1) ≤ vls dg (bst f lk dg j) := by omega
                  simp [d, d2]
                · have d2 : vls dg (j + 1) ≤ vls dg (bst f lk dg j) := by omega
                  simp [d, d2]
        · dsimp only
          rcases Nat.lt_or_ge (j + 1) (2 ^ f) with c | c
          · have hvz : v = 0 := by rw [hv1, tb_big (i := f) c (Nat.le_refl f)]; rfl
            rw [if_pos (show v ≤ _ by omega), rd_wr_s, h2, if_neg (by omega), if_neg (by omega)]
          · rcases Nat.eq_or_lt_of_le c with c | c
            · have hvv : v = vls dg (j + 1) := by rw [hv1, ← c, al_single f1, Nat.testBit_two_pow_self]; rfl
              have hpos := vls_pos (dg := dg) (s := j + 1) f1 (by rw [← c]; exact Nat.testBit_two_pow_self)
              rw [if_neg (show ¬ v ≤ _ by rw [if_neg (by omega)]; omega), rd_wr_s, if_pos (by omega)]
              congr 1
              rw [bst_s]
              rw [bst_small j (by omega), c]
              simp
            · rw [if_pos (show 2 ^ f ≤ j by omega), if_pos (show 2 ^ f ≤ j + 1 by omega)]
              rw [bst_s]
              rw [hv1]
              cases (j + 1).testBit f && alB lk (j + 1) with
              | false => simp [rd_wr_s, h2, show 2 ^ f ≤ j by omega]
              | true =>
                by_cases d : vls dg (bst f lk dg j) < vls dg (j + 1)
                · have d2 : ¬ vls dg (j + 1) ≤ vls dg (bst f lk dg j) := by omega
                  simp [d, d2, rd_wr_s]
                · have d2 : vls dg (j + 1) ≤ vls dg (bst f lk dg j) := by omega
                  simp [d, d2, rd_wr_s, h2, show 2 ^ f ≤ j by omega]
        · dsimp only
          by_cases c : v ≤ (if 2 ^ f ≤ j then vls dg (bst f lk dg j) else 0)
          · rw [if_pos c]; exact sam.wr (q := 0) (i := 17) h3 (by simp)
          · rw [if_neg c]; exact sam.wr (q := 0) (i := 17) h3 (by simp))
      (by
        rintro ⟨a, b, g⟩ ⟨h1, rfl, h2, h3⟩
        refine ⟨(a, nI 256, g), ?_, ?_, h3⟩
        · simp only [fX8_layTop_L9]
          rw [if_pos (by decide)]
        · dsimp only at h2 ⊢
          rw [h2, if_pos (by omega)]) (by decide)
    rw [e1]
    exact ⟨g1, rfl, q1, q2⟩
set_option maxHeartbeats 1000000 in
theorem c_order {sn : Nat} {lk tr dg : Nat → Nat} {sg : Sg} (hs : sn < 256) (ht : ∀ k, tr k ≤ 8) (hd : ∀ k, dg k ≤ 8) (h9 : arr sg 9 8 lk) (h12 : arr sg 12 8 tr) (h11 : arr sg 11 8 dg) (h8 : rd sg 8 5 = nI sn) : ∃ g, fX3_read_8 sg = some g ∧ rd g 14 2 = nI (pc8 sn) ∧ rd g 14 3 = nI (TPd sn lk tr dg) ∧ (∀ a, a < 8 → rd g 16 a = plI sn tr dg a) ∧ (∀ p, p < pc8 sn → rd g 15 p = nI (RKd sn tr dg p)) ∧ same [14, 15, 16] g sg := by
  unfold fX3_read_8
  rw [h8, bcnt sn hs]
  simp only [Option.bind_some, lt_d]
  have s0 : same [14] (wr sg 14 2 (nI (pc8 sn))) sg := same.rf.wr (by simp)
  obtain ⟨⟨a1, g1⟩, e1, q1, q2, q3⟩ := c_places hs ht hd (s0.arr (by simp) h12) (s0.arr (by simp) h11) ((s0 8 (by simp) 5).trans h8)
  rw [e1]
  simp only [Option.bind_some, fX3_read_8_E73]
  dsimp only at q1 q2 q3
  have hpc := pc8_le sn
  have e14 : rd g1 14 2 = nI (pc8 sn) := by rw [q3 14 (by simp) 2, rd_wr_s]
  have s1 : same [14, 15, 16] g1 sg := q3.tr s0 (by simp) (by simp)
  rw [e14]
  unfold TPd fX3_read_8_J95
  by_cases hz : pc8 sn = 0
  · rw [hz, if_pos rfl, if_pos nI_0, lt_d]
    refine ⟨_, rfl, ?_, rd_wr_s, fun a ha => ?_, fun p hp => ?_, s1.wr (by simp)⟩
    · rw [rd_wr, if_neg (by simp), e14, hz]
    · rw [rd_wr, if_neg (by simp)]; exact q1 a ha
    · omega
  · rw [if_neg (show ¬ nI (pc8 sn) = 0 from nI_ne0 (by omega) (by omega)), if_neg hz, show inb (0 : Int32) 8 = true from rfl, gd_t, show Int32.toNatClampNeg (0 : Int32) = 0 from rfl, q2 0 (by omega)]
    obtain ⟨f1, f2, -⟩ := rk_ok (sn := sn) (tr := tr) (dg := dg) (p := 0) (by omega)
    rw [c_bestSet f1 hd (s1.arr (by simp) h9) (s1.arr (by simp) h11)]
    simp only [Option.bind_some, lt_d]
    refine ⟨_, rfl, ?_, rd_wr_s, fun a ha => ?_, fun p hp => ?_, s1.wr (by simp)⟩
    · rw [rd_wr, if_neg (by simp), e14]
    · rw [rd_wr, if_neg (by simp)]; exact q1 a ha
    · rw [rd_wr, if_neg (by simp)]; exact q2 p hp
