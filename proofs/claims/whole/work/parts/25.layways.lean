/-! the reference: layWays -/
/-- nothing but these rows, and these slots of row 0, has changed -/
def sam (l sl : List Nat) (g sg : Sg) : Prop := ∀ q i, q ∉ l → (q = 0 → i ∉ sl) → rd g q i = rd sg q i
theorem sam.rf {l sl : List Nat} {sg : Sg} : sam l sl sg sg := fun _ _ _ _ => rfl
theorem sam.wr {l sl : List Nat} {g sg : Sg} {q i : Nat} {v : Int32} (h : sam l sl g sg) (hq : q ∈ l ∨ (q = 0 ∧ i ∈ sl)) : sam l sl (wr g q i v) sg := by
  intro q2 i2 h2 h3
  rw [rd_wr, if_neg ?_]
  · exact h q2 i2 h2 h3
  · rintro ⟨rfl, rfl⟩
    rcases hq with hq | ⟨h0, hq⟩
    · exact h2 hq
    · exact h3 h0 hq
theorem sam.tr {l l2 l3 s1 s2 s3 : List Nat} {a b c : Sg} (h : sam l s1 a b) (h2 : sam l2 s2 b c) (h3 : ∀ q, q ∈ l → q ∈ l3) (h4 : ∀ q, q ∈ l2 → q ∈ l3) (h5 : ∀ q, q ∈ s1 → q ∈ s3) (h6 : ∀ q, q ∈ s2 → q ∈ s3) : sam l3 s3 a c := fun q i hq hi => (h q i (fun z => hq (h3 q z)) (fun z y => hi z (h5 i y))).trans (h2 q i (fun z => hq (h4 q z)) (fun z y => hi z (h6 i y)))
theorem sam.arr {l sl : List Nat} {a b : Sg} (h : sam l sl a b) {q n : Nat} {f : Nat → Nat} (hq : q ∉ l) (h0 : q ≠ 0) (hf : arr b q n f) : arr a q n f := fun i hi => (h q i hq (fun z => absurd z h0)).trans (hf i hi)
def wayM (sg : Sg) (W : Nat) (len : Nat → Nat) (net : Nat → Nat → Nat) : Prop := rd sg 0 2 = nI W ∧ ∀ w, w < W → rd sg 3 w = nI (len w) ∧ ∀ k, k < len w → rd sg 2 (8 * w + k) = nI (net w k)
theorem wayM.of {sg g : Sg} {W : Nat} {len : Nat → Nat} {net : Nat → Nat → Nat} {l sl : List Nat} (h : wayM sg W len net) (hs : sam l sl g sg) (h0 : 0 ∉ l) (h2 : 2 ∉ l) (h3 : 3 ∉ l) (h4 : 2 ∉ sl) : wayM g W len net := ⟨(hs 0 2 h0 (fun _ => h4)).trans h.1, fun w hw => ⟨(hs 3 w h3 (fun z => by simp at z)).trans (h.2 w hw).1, fun k hk => (hs 2 _ h2 (fun z => by simp at z)).trans ((h.2 w hw).2 k hk)⟩⟩
def bareM (sg : Sg) (W : Nat) (bl : Nat → Nat) (bn : Nat → Nat → Nat) : Prop := ∀ w, w < W → rd sg 6 w = nI (bl w) ∧ ∀ i, i < bl w → rd sg 5 (8 * w + i) = nI (bn w i)
theorem bareM.of {sg g : Sg} {W : Nat} {bl : Nat → Nat} {bn : Nat → Nat → Nat} {l sl : List Nat} (h : bareM sg W bl bn) (hs : sam l sl g sg) (h5 : 5 ∉ l) (h6 : 6 ∉ l) : bareM g W bl bn := fun w hw => ⟨(hs 6 w h6 (fun z => by simp at z)).trans (h w hw).1, fun i hi => (hs 5 _ h5 (fun z => by simp at z)).trans ((h w hw).2 i hi)⟩
set_option maxHeartbeats 1000000 in
theorem m_layTwo {w i n : Nat} {r f o p : Nat → Nat} {sg : Sg} (hw : w < 12) (hn : n ≤ 6) (hi : i + 1 < n) (hr : ∀ i, i < n → r i < 8) (h6 : rd sg 6 w = nI n) (hc : ∀ i, i < n → rd sg 5 (8 * w + i) = nI (r i)) (h7 : arr sg 7 8 f) (h12 : arr sg 12 64 o) (h8 : arr sg 8 8 p) :
    ∃ g, fX8_layTwo (nI w) (nI (i + 1)) sg = some g ∧ arr g 7 8 (jn (r i) (r (i + 1)) f) ∧ arr g 12 64 (jo (r i) (r (i + 1)) o) ∧ arr g 8 8 (if i + 2 < n then jp (r i) (r (i + 1)) (r (i + 2)) p else p) ∧ sam [7, 8, 12] [] g sg := by
  have ha := hr i (by omega)
  have hb := hr (i + 1) hi
  unfold fX8_layTwo
  simp (disch := omega) only [fa_lit, nI_mul, nI_add, nI_sub, inb_nI, gd_t, lt_d, nI_clamp]
  rw [show 8 * w + (i + 1) - 1 = 8 * w + i by omega, hc i (by omega), hc (i + 1) hi]
  generalize hga : r i = a at ha ⊢
  generalize hgb : r (i + 1) = b at hb ⊢
  simp (disch := omega) only [nI_mul, nI_add, inb_nI, gd_t, nI_clamp, p_pow]
  have e1 : rd sg 7 a = nI (f a) := h7 a ha
  have g1 := arr_wr (k := a) (v := f a ||| 2 ^ b) h7
  have e2 := g1 b hb
  have g2 := arr_wr (k := b) (v := up f a (f a ||| 2 ^ b) b ||| 2 ^ a) g1
  have o0 : arr (wr (wr sg 7 a (nI (f a ||| 2 ^ b))) 7 b (nI (up f a (f a ||| 2 ^ b) b ||| 2 ^ a))) 12 64 o := arr_ne (arr_ne h12 (by decide)) (by decide)
  have e3 := o0 (8 * a + b) (by omega)
  have g3 := arr_wr (k := 8 * a + b) (v := o (8 * a + b) + 1) o0
  have e4 := g3 (8 * b + a) (by omega)
  have g4 := arr_wr (k := 8 * b + a) (v := up o (8 * a + b) (o (8 * a + b) + 1) (8 * b + a) + 1) g3
  rw [e1, fa_or, e2, fa_or, e3, nI_add, e4, nI_add]
  have s4 : sam [7, 8, 12] [] (wr (wr (wr (wr sg 7 a (nI (f a ||| 2 ^ b))) 7 b (nI (up f a (f a ||| 2 ^ b) b ||| 2 ^ a))) 12 (8 * a + b) (nI (o (8 * a + b) + 1))) 12 (8 * b + a) (nI (up o (8 * a + b) (o (8 * a + b) + 1) (8 * b + a) + 1))) sg := (((sam.rf.wr (by simp)).wr (by simp)).wr (by simp)).wr (by simp)
  have g7 : arr (wr (wr (wr (wr sg 7 a (nI (f a ||| 2 ^ b))) 7 b (nI (up f a (f a ||| 2 ^ b) b ||| 2 ^ a))) 12 (8 * a + b) (nI (o (8 * a + b) + 1))) 12 (8 * b + a) (nI (up o (8 * a + b) (o (8 * a + b) + 1) (8 * b + a) + 1))) 7 8 (jn a b f) := arr_ne (arr_ne g2 (by decide)) (by decide)
  have g8 : arr (wr (wr (wr (wr sg 7 a (nI (f a ||| 2 ^ b))) 7 b (nI (up f a (f a ||| 2 ^ b) b ||| 2 ^ a))) 12 (8 * a + b) (nI (o (8 * a + b) + 1))) 12 (8 * b + a) (nI (up o (8 * a + b) (o (8 * a + b) + 1) (8 * b + a) + 1))) 8 8 p := arr_ne (arr_ne (arr_ne (arr_ne h8 (by decide)) (by decide)) (by decide)) (by decide)
  generalize (wr (wr (wr (wr sg 7 a (nI (f a ||| 2 ^ b))) 7 b (nI (up f a (f a ||| 2 ^ b) b ||| 2 ^ a))) 12 (8 * a + b) (nI (o (8 * a + b) + 1))) 12 (8 * b + a) (nI (up o (8 * a + b) (o (8 * a + b) + 1) (8 * b + a) + 1))) = g9 at g4 s4 g7 g8 ⊢
  rw [s4 6 w (by simp) (by simp), h6]
  by_cases hlast : i + 2 < n
  · rw [if_neg (by rw [nI_leI (by omega) (by omega)]; omega), if_pos hlast]
    have hc3 := hr (i + 2) hlast
    rw [show 8 * w + (i + 1) + 1 = 8 * w + (i + 2) by omega, s4 5 _ (by simp) (by simp), hc (i + 2) hlast, g8 b hb]
    simp (disch := omega) only [p_pow, fa_or]
    exact ⟨_, rfl, arr_ne g7 (by decide), arr_ne g4 (by decide), arr_wr g8, s4.wr (by simp)⟩
  · rw [if_pos (by rw [nI_leI (by omega) (by omega)]; omega), if_neg hlast]
    exact ⟨_, rfl, g7, g4, g8, s4⟩
set_option maxHeartbeats 1000000 in
theorem m_bare {W ex : Nat} {len : Nat → Nat} {net : Nat → Nat → Nat} {sg : Sg} (hO : okW W len net) (hw : wayM sg W len net) (hex : ex < 256) (hx : rd sg 0 5 = nI ex) (h13 : rd sg 0 13 = nI 0) : ∃ g, lpS (fun t => fX8_layWays_L35 t.1 t.2) 300 ((0 : Int32), sg) = some g ∧ bareM g.2 W (BLd ex len net) (BNd ex len net) ∧ rd g.2 0 13 = nI (SNd (BLd ex len net) (BNd ex len net) W) ∧ sam [5, 6] [13] g.2 sg := by
  refine lpS_for (step := fun t => fX8_layWays_L35 t.1 t.2) (t0 := ((0 : Int32), sg)) W
    (fun j t => t.1 = nI j ∧ bareM t.2 j (BLd ex len net) (BNd ex len net) ∧ rd t.2 0 13 = nI (SNd (BLd ex len net) (BNd ex len net) j) ∧ sam [5, 6] [13] t.2 sg)
    ⟨rfl, fun w hw => by omega, h13, sam.rf⟩
    (by
      rintro j ⟨a, g⟩ hj ⟨rfl, h1, h1s, h2⟩
      have hW := hO.1
      obtain ⟨n1, n2, n3, n4⟩ := hO.2 j hj
      have hwg : wayM g W len net := hw.of h2 (by simp) (by simp) (by simp) (by simp)
      have hj1 : bareM (wr g 6 j (nI 0)) j (BLd ex len net) (BNd ex len net) := fun w hw' => ⟨by rw [rd_wr, if_neg (by omega)]; exact (h1 w hw').1, fun i hi => by rw [rd_wr, if_neg (by simp)]; exact (h1 w hw').2 i hi⟩
      obtain ⟨⟨b2, g2⟩, e2, r2, r3, r5, r4⟩ := lpS_for (step := fun t => fX8_layWays_L52 (nI j) t.1 t.2) (t0 := ((0 : Int32), wr g 6 j (nI 0))) (Q := fun t => bareM t.2 (j + 1) (BLd ex len net) (BNd ex len net) ∧ rd t.2 6 j = nI (BLd ex len net j) ∧ rd t.2 0 13 = nI (SNd (BLd ex len net) (BNd ex len net) (j + 1)) ∧ sam [5, 6] [13] t.2 g) (len j)
        (fun k t => t.1 = nI k ∧ rd t.2 6 j = nI (fb_ct (kp ex (net j)) k) ∧ (∀ i, i < fb_ct (kp ex (net j)) k → rd t.2 5 (8 * j + i) = nI (BNd ex len net j i)) ∧ bareM t.2 j (BLd ex len net) (BNd ex len net) ∧ rd t.2 0 13 = nI (rowS (BNd ex len net j) (fb_ct (kp ex (net j)) k) (SNd (BLd ex len net) (BNd ex len net) j)) ∧ sam [5, 6] [13] t.2 g)
        ⟨rfl, by rw [rd_wr, if_pos ⟨rfl, rfl⟩]; rfl, fun i hi => by simp [fb_ct] at hi, hj1, by rw [rd_wr, if_neg (by simp)]; exact h1s, sam.rf.wr (by simp)⟩
        (by
          rintro k ⟨c2, g3⟩ hk ⟨rfl, s0, s1, s2, s5, s3⟩
          have hw3 : wayM g3 W len net := hwg.of s3 (by simp) (by simp) (by simp) (by simp)
          have hnk := n3 k hk
          have hle : fb_ct (kp ex (net j)) k ≤ k := fb_ct_le _ _
          have hx3 : rd g3 0 5 = nI ex := (s3 0 5 (by simp) (by simp)).trans ((h2 0 5 (by simp) (by simp)).trans hx)
          have step0 : ∀ (x : Option ((Int32 × Sg) ⊕ (Int32 × Sg))), (gd (inb (nI j) 12) (if rd g3 3 (Int32.toNatClampNeg (nI j)) ≤ nI k then some (.inl (nI k, g3)) else gd (inb (8 * nI j + nI k) 96) x)) = x := by
            intro x
            simp (disch := omega) only [fa_lit, nI_mul, nI_add, inb_nI, gd_t, nI_clamp, (hw3.2 j hj).1]
            rw [if_neg (by rw [nI_leI (by omega) (by omega)]; omega)]
          simp only [fX8_layWays_L52, step0, lt_d]
          have e4 : rd g3 2 (Int32.toNatClampNeg (8 * nI j + nI k)) = nI (net j k) := by
            simp (disch := omega) only [fa_lit, nI_mul, nI_add, nI_clamp]
            exact (hw3.2 j hj).2 k hk
          rw [e4, hx3, has8 (by omega) (by omega)]
          simp only [Option.bind_some, b2i_0]
          cases hb : ex.testBit (net j k) with
          | false =>
            have hkp : kp ex (net j) k = true := by simp [kp, hb]
            refine ⟨(nI k + 1, wr (wr (wr g3 5 (8 * j + fb_ct (kp ex (net j)) k) (nI (net j k))) 6 j (nI (fb_ct (kp ex (net j)) k + 1))) 0 13 (nI (rowS (BNd ex len net j) (fb_ct (kp ex (net j)) k) (SNd (BLd ex len net) (BNd ex len net) j) ||| 2 ^ net j k))), ?_, nI_1 k, ?_, ?_, ?_, ?_, ((s3.wr (by simp)).wr (by simp)).wr (by simp)⟩
            · rw [if_pos rfl]
              simp (disch := omega) only [fa_lit, nI_mul, nI_add, inb_nI, gd_t, nI_clamp, fX8_layWays_L52_J124, s0]
              have q1 : ∀ v, rd (wr g3 5 (8 * j + fb_ct (kp ex (net j)) k) v) 6 j = nI (fb_ct (kp ex (net j)) k) := fun v => by rw [rd_wr, if_neg (by simp)]; exact s0
              rw [q1, nI_add]
              have q2 : ∀ v v2, rd (wr (wr g3 5 (8 * j + fb_ct (kp ex (net j)) k) v) 6 j v2) 0 13 = nI (rowS (BNd ex len net j) (fb_ct (kp ex (net j)) k) (SNd (BLd ex len net) (BNd ex len net) j)) := fun v v2 => by rw [rd_wr, if_neg (by simp), rd_wr, if_neg (by simp)]; exact s5
              rw [q2, p_pow (by omega), fa_or]
            · rw [rd_wr, if_neg (by simp), rd_wr, if_pos ⟨rfl, rfl⟩, fb_ct_succ, hkp]; rfl
            · intro i hi
              rw [fb_ct_succ, hkp] at hi
              rw [rd_wr, if_neg (by simp), rd_wr, if_neg (by simp), rd_wr]
              split
              · rename_i hz
                have : i = fb_ct (kp ex (net j)) k := by omega
                rw [this]
                unfold BNd
                rw [sel_at hk hkp]
              · rename_i hz
                exact s1 i (by have : i ≠ fb_ct (kp ex (net j)) k := fun z => hz ⟨rfl, by rw [z]⟩; simp at hi; omega)
            · intro w hw'
              have hbw : BLd ex len net w ≤ 6 := Nat.le_trans (fb_ct_le _ _) (hO.2 w (by omega)).2.1
              refine ⟨by rw [rd_wr, if_neg (by simp), rd_wr, if_neg (by omega), rd_wr, if_neg (by simp)]; exact (s2 w hw').1, fun i hi => ?_⟩
              rw [rd_wr, if_neg (by simp), rd_wr, if_neg (by simp), rd_wr, if_neg (by omega)]
              exact (s2 w hw').2 i hi
            · rw [rd_wr, if_pos ⟨rfl, rfl⟩, fb_ct_succ, hkp]
              show _ = nI (rowS _ (fb_ct (kp ex (net j)) k) _ ||| 2 ^ BNd ex len net j (fb_ct (kp ex (net j)) k))
              unfold BNd
              rw [sel_at hk hkp]
          | true =>
            have hkp : kp ex (net j) k = false := by simp [kp, hb]
            refine ⟨(nI k + 1, g3), ?_, nI_1 k, ?_, ?_, s2, ?_, s3⟩
            · rw [if_neg (by decide)]
              simp only [fX8_layWays_L52_J124]
            · rw [fb_ct_succ, hkp]; exact s0
            · intro i hi
              rw [fb_ct_succ, hkp] at hi
              exact s1 i (by simpa using hi)
            · rw [fb_ct_succ, hkp]; exact s5)
        (by
          rintro ⟨c2, g3⟩ ⟨rfl, s0, s1, s2, s5, s3⟩
          have hw3 : wayM g3 W len net := hwg.of s3 (by simp) (by simp) (by simp) (by simp)
          refine ⟨(nI (len j), g3), ?_, ?_, s0, s5, s3⟩
          · simp only [fX8_layWays_L52]
            simp (disch := omega) only [inb_nI, gd_t, nI_clamp, (hw3.2 j hj).1]
            rw [if_pos (Int32.le_refl _)]
          · intro w hw'
            rcases Nat.lt_or_ge w j with h | h
            · exact s2 w h
            · have : w = j := by omega
              subst this
              exact ⟨s0, s1⟩) (by omega)
      refine ⟨(nI j + 1, g2), ?_, nI_1 j, r2, r5, r4.tr h2 (by simp) (by simp) (by simp) (by simp)⟩
      simp only [fX8_layWays_L35]
      rw [hwg.1, if_neg (by rw [nI_leI (by omega) (by omega)]; omega)]
      simp (disch := omega) only [inb_nI, gd_t, lt_d, nI_clamp]
      rw [show (wr g 6 j (0 : Int32)) = wr g 6 j (nI 0) from rfl, e2]
      rfl)
    (by
      rintro ⟨a, g⟩ ⟨rfl, h1, h1s, h2⟩
      refine ⟨(nI W, g), ?_, h1, h1s, h2⟩
      simp only [fX8_layWays_L35]
      rw [h2 0 2 (by simp) (by simp), hw.1, if_pos (Int32.le_refl _)]) (by have := hO.1; omega)
