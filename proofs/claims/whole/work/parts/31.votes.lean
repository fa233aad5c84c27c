/-! hills and votes -/
theorem l8 : (8 : Int32) = nI 8 := rfl
theorem l1 : (1 : Int32) = nI 1 := rfl
theorem l0 : (0 : Int32) = nI 0 := rfl
theorem b2i_n0 {b : Bool} : (b2i b = nI 0) = (b = false) := b2i_0
def hlN (v : Nat → Nat) : Nat → Nat
  | 0 => 0
  | j + 1 => if j = 0 then 0 else if v j < v (hlN v j) then j else hlN v j
def hillI (v : Nat → Nat) (n : Nat) : Int32 := if n = 0 then -1 else nI (hlN v n)
theorem hlN_lt {v : Nat → Nat} : ∀ j, 0 < j → hlN v j < j
  | 0, h => by omega
  | j + 1, _ => by
    unfold hlN
    split
    · omega
    · split
      · omega
      · have := hlN_lt (v := v) j (by omega); omega
theorem c_firstOf {w n : Nat} {r v : Nat → Nat} {sg : Sg} (hw : w < 12) (hn : n ≤ 6) (hr : ∀ i, i < n → r i < 8) (hv : ∀ i, i < n → v i ≤ 8) (hc : ∀ i, i < n → rd sg 6 (w * 6 + i) = nI (r i)) (hp : ∀ i, i < n → rd sg 16 (r i) = nI (v i)) : fX3_firstOf_6 (nI (w * 6)) (nI n) sg = some (hillI v n) := by
  unfold fX3_firstOf_6
  have h := lpS_det (step := fun t => fX3_firstOf_6_L6 (nI (w * 6)) (nI n) sg t.1 t.2) (u := (hillI v n, nI n)) n (fun j => (hillI v j, nI j)) (fun j hj => by
    simp only [fX3_firstOf_6_L6, fX3_firstOf_6_L6_J43, fX3_firstOf_6_L6_J47]
    rw [if_neg (by rw [nI_leI (by omega) (by omega)]; omega)]
    by_cases c : j = 0
    · subst c
      rw [show hillI v 0 = -1 from rfl, if_pos rfl]
      rfl
    · have hl := hlN_lt (v := v) j (by omega)
      rw [show hillI v j = nI (hlN v j) by unfold hillI; rw [if_neg c], if_neg (nI_ne_m1 (by omega))]
      have b1 := hr j hj
      have b2 := hr (hlN v j) (by omega)
      have v1 := hv j hj
      have v2 := hv (hlN v j) (by omega)
      simp (disch := omega) only [nI_add, inb_nI, gd_t, nI_clamp, hc j hj, hc (hlN v j) (by omega), hp j hj, hp (hlN v j) (by omega), nI_leI, nI_1]
      unfold hillI
      rw [if_neg (show ¬ j + 1 = 0 by omega)]
      simp only [hlN]
      rw [if_neg c]
      by_cases d : v (hlN v j) ≤ v j
      · rw [if_pos d, if_neg (show ¬ v j < v (hlN v j) by omega)]
      · rw [if_neg d, if_pos (show v j < v (hlN v j) by omega)]) (by
    simp only [fX3_firstOf_6_L6]
    rw [if_pos (Int32.le_refl _)]) (by omega)
  rw [show ((-1 : Int32), (0 : Int32)) = (hillI v 0, nI 0) from rfl, h]
  rfl
theorem m_hillOf {w n : Nat} {r v : Nat → Nat} {sg : Sg} (hw : w < 12) (hn : n ≤ 6) (hr : ∀ i, i < n → r i < 8) (hv : ∀ i, i < n → v i ≤ 8) (h6 : rd sg 6 w = nI n) (hc : ∀ i, i < n → rd sg 5 (8 * w + i) = nI (r i)) (hp : ∀ i, i < n → rd sg 10 (r i) = nI (v i)) : fX8_hillOf (nI w) sg = some (hillI v n) := by
  unfold fX8_hillOf
  have h := lpS_det (step := fun t => fX8_hillOf_L4 (nI w) sg t.1 t.2) (u := (hillI v n, nI n)) n (fun j => (hillI v j, nI j)) (fun j hj => by
    have b1 := hr j hj
    simp only [fX8_hillOf_L4, fX8_hillOf_L4_J58, fX8_hillOf_L4_J63]
    simp (disch := omega) only [inb_nI, gd_t, nI_clamp, h6]
    rw [if_neg (by rw [nI_leI (by omega) (by omega)]; omega)]
    simp (disch := omega) only [l8, nI_mul, nI_add, inb_nI, gd_t, nI_clamp, lt_d, hc j hj]
    by_cases c : j = 0
    · subst c
      rw [show hillI v 0 = -1 from rfl, if_pos rfl]
      rfl
    · have hl := hlN_lt (v := v) j (by omega)
      rw [show hillI v j = nI (hlN v j) by unfold hillI; rw [if_neg c], if_neg (nI_ne_m1 (by omega))]
      have b2 := hr (hlN v j) (by omega)
      have v1 := hv j hj
      have v2 := hv (hlN v j) (by omega)
      simp (disch := omega) only [nI_add, inb_nI, gd_t, nI_clamp, hc (hlN v j) (by omega), hp j hj, hp (hlN v j) (by omega), nI_leI, nI_1]
      unfold hillI
      rw [if_neg (show ¬ j + 1 = 0 by omega)]
      simp only [hlN]
      rw [if_neg c]
      by_cases d : v (hlN v j) ≤ v j
      · rw [if_pos d, if_neg (show ¬ v j < v (hlN v j) by omega)]
      · rw [if_neg d, if_pos (show v j < v (hlN v j) by omega)]) (by
    simp only [fX8_hillOf_L4]
    simp (disch := omega) only [inb_nI, gd_t, nI_clamp, h6]
    rw [if_pos (Int32.le_refl _)]) (by omega)
  rw [show ((-1 : Int32), (0 : Int32)) = (hillI v 0, nI 0) from rfl, h]
  rfl
def vst (tp h a b i : Nat) (f : Nat → Nat) : Nat → Nat := if tp.testBit a && tp.testBit b then f else if i < h then up f (8 * a + b) (f (8 * a + b) + 1) else up f (8 * b + a) (f (8 * b + a) + 1)
def rowV (tp h : Nat) (r : Nat → Nat) (n : Nat) (f : Nat → Nat) : Nat → Nat := it (fun i f => vst tp h (r i) (r (i + 1)) i f) n f
def VTd (tp : Nat) (pl : Nat → Nat) (bl : Nat → Nat) (bn : Nat → Nat → Nat) (w : Nat) : Nat → Nat := it (fun w f => rowV tp (hlN (fun i => pl (bn w i)) (bl w)) (bn w) (bl w - 1) f) w (fun _ => 0)
theorem arr_same {sg : Sg} {q n k : Nat} {f : Nat → Nat} (h : arr sg q n f) (hk : k < n) : arr (wr sg q k (nI (f k))) q n f := by
  intro i hi
  rw [rd_wr]
  split
  · rename_i z; rw [z.2]
  · exact h i hi
set_option maxHeartbeats 1000000 in
theorem c_vote {w n tp : Nat} {r v f : Nat → Nat} {sg : Sg} (hw : w < 12) (hn : n ≤ 6) (htp : tp < 256) (hr : ∀ i, i < n → r i < 8) (hv : ∀ i, i < n → v i ≤ 8) (hc : ∀ i, i < n → rd sg 6 (w * 6 + i) = nI (r i)) (hp : ∀ i, i < n → rd sg 16 (r i) = nI (v i)) (ht : rd sg 14 3 = nI tp) (h18 : arr sg 18 64 f) :
    ∃ g, fX2_vote_6_14 (nI (w * 6)) (nI n) sg = some g ∧ arr g 18 64 (rowV tp (hlN v n) r (n - 1) f) ∧ same [18] g sg := by
  unfold fX2_vote_6_14
  rw [c_firstOf hw hn hr hv hc hp]
  simp only [Option.bind_some]
  obtain ⟨⟨a1, g1⟩, e1, q1, q2⟩ := lpS_for (step := fun t => fX2_vote_6_14_L13 (nI (w * 6)) (nI n) (hillI v n) t.1 t.2) (t0 := ((0 : Int32), sg)) (Q := fun t => arr t.2 18 64 (rowV tp (hlN v n) r (n - 1) f) ∧ same [18] t.2 sg) (n - 1)
    (fun j t => t.1 = nI j ∧ arr t.2 18 64 (rowV tp (hlN v n) r j f) ∧ same [18] t.2 sg)
    ⟨rfl, h18, same.rf⟩
    (by
      rintro j ⟨a, g⟩ hj ⟨rfl, h1, h2⟩
      have e6 : ∀ i, i < n → rd g 6 (w * 6 + i) = nI (r i) := fun i hi => (h2 6 (by simp) _).trans (hc i hi)
      have b0 := hr j (by omega)
      have b1 := hr (j + 1) (by omega)
      have hl := hlN_lt (v := v) n (by omega)
      simp only [fX2_vote_6_14_L13]
      simp (disch := omega) only [fa_lit, nI_add, nI_leI, inb_nI, gd_t, nI_clamp, lt_d]
      rw [if_neg (by omega), e6 j (by omega), show w * 6 + j + 1 = w * 6 + (j + 1) by omega, e6 (j + 1) (by omega), h2 14 (by simp) 3, ht, has0 (by omega) (by omega), has0 (by omega) (by omega)]
      simp only [Option.bind_some, fX2_vote_6_14_L13_J112]
      simp only [b2i_n0]
      have hJ : ∃ g', fX2_vote_6_14_L13_J68 (nI (w * 6)) (nI n) (hillI v n) (nI j) (nI (r j)) (nI (r (j + 1))) g = some (.inr (nI j + 1, g')) ∧ arr g' 18 64 (if j < hlN v n then up (rowV tp (hlN v n) r j f) (8 * r j + r (j + 1)) (rowV tp (hlN v n) r j f (8 * r j + r (j + 1)) + 1) else up (rowV tp (hlN v n) r j f) (8 * r (j + 1) + r j) (rowV tp (hlN v n) r j f (8 * r (j + 1) + r j) + 1)) ∧ same [18] g' sg := by
        unfold fX2_vote_6_14_L13_J68 fX2_vote_6_14_L13_J112
        rw [show hillI v n = nI (hlN v n) by unfold hillI; rw [if_neg (by omega)]]
        simp (disch := omega) only [fa_lit, nI_mul, nI_add, nI_leI, inb_nI, gd_t, nI_clamp, lt_d]
        rw [Nat.mul_comm (r j) 8, Nat.mul_comm (r (j + 1)) 8]
        by_cases c : hlN v n ≤ j
        · rw [if_pos c, if_neg (show ¬ j < hlN v n by omega), h1 (8 * r (j + 1) + r j) (by omega), nI_add]
          exact ⟨_, rfl, arr_wr h1, h2.wr (by simp)⟩
        · rw [if_neg c, if_pos (show j < hlN v n by omega), h1 (8 * r j + r (j + 1)) (by omega), nI_add]
          exact ⟨_, rfl, arr_wr h1, h2.wr (by simp)⟩
      obtain ⟨g', k1, k2, k3⟩ := hJ
      cases c1 : tp.testBit (r j) with
      | false =>
        refine ⟨(nI j + 1, g'), by rw [if_pos rfl]; exact k1, nI_1 j, ?_, k3⟩
        show arr g' 18 64 (vst tp (hlN v n) (r j) (r (j + 1)) j (rowV tp (hlN v n) r j f))
        unfold vst
        rw [c1]
        exact k2
      | true =>
        rw [if_neg (by decide)]
        cases c2 : tp.testBit (r (j + 1)) with
        | false =>
          refine ⟨(nI j + 1, g'), by rw [if_pos rfl]; exact k1, nI_1 j, ?_, k3⟩
          show arr g' 18 64 (vst tp (hlN v n) (r j) (r (j + 1)) j (rowV tp (hlN v n) r j f))
          unfold vst
          rw [c1, c2]
          exact k2
        | true =>
          refine ⟨(nI j + 1, g), by rw [if_neg (by decide), nI_1], nI_1 j, ?_, h2⟩
          show arr g 18 64 (vst tp (hlN v n) (r j) (r (j + 1)) j (rowV tp (hlN v n) r j f))
          unfold vst
          rw [c1, c2]
          exact h1)
    (by
      rintro ⟨a, g⟩ ⟨rfl, h1, h2⟩
      refine ⟨(nI (n - 1), g), ?_, h1, h2⟩
      simp only [fX2_vote_6_14_L13]
      rw [if_pos (by rw [l1, nI_add, nI_leI (by omega) (by omega)]; omega)]) (by omega)
  rw [e1]
  exact ⟨g1, rfl, q1, q2⟩
theorem m_tops {tp a b : Nat} {sg : Sg} (htp : tp < 256) (ha : a < 8) (hb : b < 8) (ht : rd sg 0 17 = nI tp) : fX8_areTops (nI a) (nI b) sg = some (b2i (tp.testBit a && tp.testBit b)) := by
  unfold fX8_areTops fX8_areTops_J26 fX8_areTops_J27
  rw [ht, has8 (by omega) (by omega), has8 (by omega) (by omega)]
  simp only [Option.bind_some, b2i_0]
  cases tp.testBit a <;> cases tp.testBit b <;> rfl
set_option maxHeartbeats 1000000 in
theorem m_votes {W tp : Nat} {bl : Nat → Nat} {bn : Nat → Nat → Nat} {pl : Nat → Nat} {sg : Sg} (hB : okB W bl bn) (htp : tp < 256) (hpl : ∀ a, pl a ≤ 8) (hW : rd sg 0 2 = nI W) (hb : bareM sg W bl bn) (hp : ∀ w i, w < W → i < bl w → rd sg 10 (bn w i) = nI (pl (bn w i))) (ht : rd sg 0 17 = nI tp) (h11 : arr sg 11 64 (fun _ => 0)) :
    ∃ g, fX8_layVotes sg = some g ∧ arr g 11 64 (VTd tp pl bl bn W) ∧ sam [11] [] g sg := by
  unfold fX8_layVotes
  obtain ⟨⟨a1, g1⟩, e1, q1, q2⟩ := lpS_for (step := fun t => fX8_layVotes_L2 t.1 t.2) (t0 := ((0 : Int32), sg)) (Q := fun t => arr t.2 11 64 (VTd tp pl bl bn W) ∧ sam [11] [] t.2 sg) W
    (fun j t => t.1 = nI j ∧ arr t.2 11 64 (VTd tp pl bl bn j) ∧ sam [11] [] t.2 sg)
    ⟨rfl, h11, sam.rf⟩
    (by
      rintro w ⟨a, g⟩ hw ⟨rfl, h1, h2⟩
      have hW1 := hB.1
      obtain ⟨b1, b2, b3⟩ := hB.2 w hw
      have bg : bareM g W bl bn := hb.of h2 (by simp) (by simp)
      have pg : ∀ i, i < bl w → rd g 10 (bn w i) = nI (pl (bn w i)) := fun i hi => (h2 10 _ (by simp) (by simp)).trans (hp w i hw hi)
      obtain ⟨⟨c1, g5⟩, e5, v1, v2⟩ := lpS_for (step := fun t => fX8_layVotes_L18 (nI w) (hillI (fun i => pl (bn w i)) (bl w)) t.1 t.2) (t0 := ((1 : Int32), g)) (Q := fun t => arr t.2 11 64 (VTd tp pl bl bn (w + 1)) ∧ sam [11] [] t.2 g) (bl w - 1)
        (fun i t => t.1 = nI (i + 1) ∧ arr t.2 11 64 (rowV tp (hlN (fun i => pl (bn w i)) (bl w)) (bn w) i (VTd tp pl bl bn w)) ∧ sam [11] [] t.2 g)
        ⟨rfl, h1, sam.rf⟩
        (by
          rintro j ⟨c, g6⟩ hj ⟨rfl, k1, k2⟩
          have b6 : bareM g6 W bl bn := bg.of k2 (by simp) (by simp)
          have r0 := b2 j (by omega)
          have r1 := b2 (j + 1) (by omega)
          have hl := hlN_lt (v := fun i => pl (bn w i)) (bl w) (by omega)
          have ht6 : rd g6 0 17 = nI tp := (k2 0 17 (by simp) (by simp)).trans ((h2 0 17 (by simp) (by simp)).trans ht)
          simp only [fX8_layVotes_L18]
          simp (disch := omega) only [fa_lit, nI_mul, nI_add, nI_sub, inb_nI, gd_t, nI_clamp, lt_d, (b6 w hw).1]
          rw [if_neg (by rw [nI_leI (by omega) (by omega)]; omega), show 8 * w + (j + 1) - 1 = 8 * w + j by omega, (b6 w hw).2 j (by omega), (b6 w hw).2 (j + 1) (by omega)]
          rw [show hillI (fun i => pl (bn w i)) (bl w) = nI (hlN (fun i => pl (bn w i)) (bl w)) by unfold hillI; rw [if_neg (by omega)]]
          unfold fX8_layVotes_L18_J68 fX8_layVotes_L18_J82 fX8_layVotes_L18_J114
          simp (disch := omega) only [fa_lit, nI_mul, nI_add, nI_ltI, inb_nI, gd_t, nI_clamp, lt_d, m_tops htp r0 r1 ht6, Option.bind_some]
          simp only [b2i_n0]
          by_cases c : hlN (fun i => pl (bn w i)) (bl w) < j + 1
          · rw [if_pos c, if_pos c]
            cases d : (tp.testBit (bn w j) && tp.testBit (bn w (j + 1))) with
            | false =>
              rw [if_pos rfl, k1 (8 * bn w (j + 1) + bn w j) (by omega), nI_add]
              refine ⟨_, rfl, rfl, ?_, k2.wr (by simp)⟩
              show arr _ 11 64 (vst tp (hlN (fun i => pl (bn w i)) (bl w)) (bn w j) (bn w (j + 1)) j _)
              unfold vst
              rw [d, if_neg (by decide), if_neg (by omega)]
              exact arr_wr k1
            | true =>
              rw [if_neg (by decide), k1 (8 * bn w (j + 1) + bn w j) (by omega), nI_add, Nat.add_zero]
              refine ⟨_, rfl, rfl, ?_, k2.wr (by simp)⟩
              show arr _ 11 64 (vst tp (hlN (fun i => pl (bn w i)) (bl w)) (bn w j) (bn w (j + 1)) j _)
              unfold vst
              rw [d, if_pos rfl]
              exact arr_same k1 (by omega)
          · rw [if_neg c, if_neg c]
            cases d : (tp.testBit (bn w j) && tp.testBit (bn w (j + 1))) with
            | false =>
              rw [if_pos rfl, k1 (8 * bn w j + bn w (j + 1)) (by omega), nI_add]
              refine ⟨_, rfl, rfl, ?_, k2.wr (by simp)⟩
              show arr _ 11 64 (vst tp (hlN (fun i => pl (bn w i)) (bl w)) (bn w j) (bn w (j + 1)) j _)
              unfold vst
              rw [d, if_neg (by decide), if_pos (by omega)]
              exact arr_wr k1
            | true =>
              rw [if_neg (by decide), k1 (8 * bn w j + bn w (j + 1)) (by omega), nI_add, Nat.add_zero]
              refine ⟨_, rfl, rfl, ?_, k2.wr (by simp)⟩
              show arr _ 11 64 (vst tp (hlN (fun i => pl (bn w i)) (bl w)) (bn w j) (bn w (j + 1)) j _)
              unfold vst
              rw [d, if_pos rfl]
              exact arr_same k1 (by omega))
        (by
          rintro ⟨c, g6⟩ ⟨rfl, k1, k2⟩
          have b6 : bareM g6 W bl bn := bg.of k2 (by simp) (by simp)
          refine ⟨(nI (bl w - 1 + 1), g6), ?_, k1, k2⟩
          simp only [fX8_layVotes_L18]
          simp (disch := omega) only [inb_nI, gd_t, nI_clamp, (b6 w hw).1]
          rw [if_pos (by rw [nI_leI (by omega) (by omega)]; omega)]) (by omega)
      refine ⟨(nI w + 1, g5), ?_, nI_1 w, v1, v2.tr h2 (by simp) (by simp) (by simp) (by simp)⟩
      simp only [fX8_layVotes_L2]
      rw [h2 0 2 (by simp) (by simp), hW, if_neg (by rw [nI_leI (by omega) (by omega)]; omega), m_hillOf (r := bn w) (v := fun i => pl (bn w i)) (by omega) b1 b2 (fun i _ => hpl _) (bg w hw).1 (bg w hw).2 pg]
      simp only [Option.bind_some]
      rw [e5]
      rfl)
    (by
      rintro ⟨a, g⟩ ⟨rfl, h1, h2⟩
      refine ⟨(nI W, g), ?_, h1, h2⟩
      simp only [fX8_layVotes_L2]
      rw [h2 0 2 (by simp) (by simp), hW, if_pos (Int32.le_refl _)]) (by have := hB.1; omega)
  rw [e1]
  exact ⟨g1, rfl, q1, q2⟩
