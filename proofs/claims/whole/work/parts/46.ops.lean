/-! calls that change the state: letter, blank, tell, exchange -/
section OP
variable {n W ex : Nat} {len : Nat → Nat} {net : Nat → Nat → Nat} {p t : Nat → Nat} {c m : Sg}
theorem derC.of {g : Sg} {l : List Nat} (h : derC W ex len net c) (hs : same l g c) (hl : ∀ q, q ∈ [6, 7, 8, 9, 11, 12, 13, 14, 15, 16, 18, 19, 20, 22] → q ∉ l) : derC W ex len net g := by
  obtain ⟨d1, d2, d3, d4, d5, d6, d7, d8, d9, d10, d11, d12, d13, d14⟩ := h
  refine ⟨fun w hw => ⟨(hs 7 (hl 7 (by simp)) w).trans (d1 w hw).1, fun i hi => (hs 6 (hl 6 (by simp)) _).trans ((d1 w hw).2 i hi)⟩, hs.arr (hl 9 (by simp)) d2, hs.arr (hl 13 (by simp)) d3, (hs 8 (hl 8 (by simp)) 5).trans d4, hs.arr (hl 11 (by simp)) d5, hs.arr (hl 12 (by simp)) d6, (hs 14 (hl 14 (by simp)) 2).trans d7, (hs 14 (hl 14 (by simp)) 3).trans d8, fun a ha => (hs 16 (hl 16 (by simp)) a).trans (d9 a ha), fun q hq => (hs 15 (hl 15 (by simp)) q).trans (d10 q hq), hs.arr (hl 18 (by simp)) d11, fun a b ha hb => (hs 19 (hl 19 (by simp)) _).trans (d12 a b ha hb), fun a ha => (hs 20 (hl 20 (by simp)) a).trans (d13 a ha), fun s e hs2 he => (hs 22 (hl 22 (by simp)) _).trans (d14 s e hs2 he)⟩
theorem derM.of2 {m2 : Sg} {l sl : List Nat} (h : derM W ex len net m) (hs : sam l sl m2 m) (h0 : 0 ∉ l) (hl : ∀ q, q ∈ [5, 6, 7, 8, 9, 10, 11, 12, 13] → q ∉ l) (hsl : ∀ q, q ∈ [13, 15, 17] → q ∉ sl) : derM W ex len net m2 := by
  obtain ⟨h1, h2, h3, h4, h5, h6, h7, h8, h9, h10, h11⟩ := h
  exact ⟨h1.of hs (hl 5 (by simp)) (hl 6 (by simp)), hs.arr (hl 7 (by simp)) (by simp) h2, hs.arr (hl 12 (by simp)) (by simp) h3, (hs 0 13 h0 (fun _ => hsl 13 (by simp))).trans h4, hs.arr (hl 8 (by simp)) (by simp) h5, (hs 0 15 h0 (fun _ => hsl 15 (by simp))).trans h6, (hs 0 17 h0 (fun _ => hsl 17 (by simp))).trans h7, fun a ha => (hs 10 a (hl 10 (by simp)) (by simp)).trans (h8 a ha), fun q hq => (hs 9 q (hl 9 (by simp)) (by simp)).trans (h9 q hq), hs.arr (hl 11 (by simp)) (by simp) h10, fun a b ha hb => (hs 13 _ (hl 13 (by simp)) (by simp)).trans (h11 a b ha hb)⟩
/-- a new text -/
theorem rel_text {c2 m2 : Sg} {n2 : Nat} {p2 : Nat → Nat} (h : RD n W ex len net p t c m) (hL : rd m 0 8 = 0 ∨ (rd m 0 8 = 1 ∧ derM W ex len net m)) (hc : same [1, 2] c2 c) (hm : sam [1] [0] m2 m) (hn : n2 ≤ 6) (h1 : rd c2 1 1 = nI n2) (h2 : rd m2 0 0 = nI n2) (h3 : ∀ i, i < n2 → 32 ≤ p2 i ∧ p2 i ≤ 126 ∧ rd m2 1 i = nI (p2 i) ∧ rd c2 2 i = nI (p2 i) - 48) : Rel c2 m2 := by
  obtain ⟨-, ⟨b1, b2, b3, b4, b5, b6⟩, ⟨c1, c3⟩, d⟩ := h
  refine ⟨n2, W, ex, len, net, p2, t, ⟨⟨hn, h1, h2, h3⟩, ⟨b1, b2.of hc (by simp) (by simp) (by simp), b3.of hm (by simp) (by simp) (by simp) (by simp), b4, (hc 0 (by simp) 7).trans b5, (hm 0 5 (by simp) (by simp)).trans b6⟩, ⟨fun k hk => ⟨(c1 k hk).1, (hc 25 (by simp) k).trans (c1 k hk).2.1, (hm 4 k (by simp) (by simp)).trans (c1 k hk).2.2⟩, ((hc 0 (by simp) 8).trans c3).trans (hm 0 7 (by simp) (by simp)).symm⟩, d.of hc (by simp)⟩, ?_⟩
  rw [hm 0 8 (by simp) (by simp)]
  rcases hL with q | ⟨q1, q2⟩
  · exact Or.inl q
  · exact Or.inr ⟨q1, q2.of2 hm (by simp) (by simp) (by simp)⟩
end OP
theorem sim_letter (a1 : Int32) {c m : Sg} (h : Rel c m) : ∃ (r : Int32) (c2 : Sg) (m2 : Sg), fX7_letter a1 c = some (r, c2) ∧ fX8_letter a1 m = some (r, m2) ∧ Rel c2 m2 := by
  obtain ⟨n, W, ex, len, net, p, t, hR, hL⟩ := id h
  have tc := hR.txc
  have tm := hR.txm
  have hn := tc.1
  cases hin : (!(decide (a1 < 32)) && !(decide ((126 : Int32) < a1))) with
  | false =>
    refine ⟨-1002, c, m, ?_, ?_, h⟩
    · unfold fX7_letter fX7_letter_J12
      by_cases z : a1 < 32
      · rw [if_pos z]
      · rw [if_neg z, if_neg]
        intro y
        have : ¬ (126 : Int32) < a1 := fun x => by rw [fa_lt] at x; rw [fa_le] at y; omega
        simp [z, this] at hin
    · unfold fX8_letter
      rw [m_within, hin]; rfl
  | true =>
    simp only [Bool.and_eq_true, Bool.not_eq_true', decide_eq_false_iff_not] at hin
    obtain ⟨k, k1, rfl⟩ : ∃ k, k < 2147483648 ∧ a1 = nI k := nI_of (fun y => hin.1 (by rw [fa_lt] at y ⊢; have : (32 : Int32).toInt = 32 := rfl; have : (0 : Int32).toInt = 0 := rfl; omega))
    have hk1 : 32 ≤ k := by
      rcases Nat.lt_or_ge k 32 with y | y
      · exact absurd ((nI_ltI (b := 32) k1 (by decide)).mpr y) hin.1
      · exact y
    have hk2 : k ≤ 126 := by
      rcases Nat.lt_or_ge 126 k with y | y
      · exact absurd ((nI_ltI (a := 126) (by decide) k1).mpr y) hin.2
      · exact y
    have hw : (!(decide (nI k < 32)) && !(decide ((126 : Int32) < nI k))) = true := by simp [hin]
    have hle : nI k ≤ 126 := (nI_leI (b := 126) k1 (by decide)).mpr hk2
    by_cases h6 : n = 6
    · refine ⟨-1004, c, m, ?_, ?_, h⟩
      · unfold fX7_letter
        rw [if_neg hin.1, if_pos hle, tc.2.1, if_neg (by rw [h6]; decide)]
      · unfold fX8_letter
        rw [m_within, hw, Option.bind_some, if_neg (by decide), tm.2.1, if_pos (by rw [h6]; rfl)]
    · have hn5 : n < 6 := by omega
      refine ⟨nI (n + 1), wr (wr c 2 n (nI k - 48)) 1 1 (nI (n + 1)), wr (wr m 1 n (nI k)) 0 0 (nI (n + 1)), ?_, ?_, ?_⟩
      · unfold fX7_letter fX4_append fX4_append_J32
        rw [if_neg hin.1, if_pos hle, tc.2.1, if_pos (show nI n < 6 from (nI_ltI (b := 6) (by omega) (by decide)).mpr hn5), if_neg (show ¬ (6 : Int32) ≤ nI n from fun z => by have := (nI_leI (a := 6) (by decide) (by omega)).mp z; omega)]
        simp (disch := omega) only [inb_nI, gd_t, nI_clamp, lt_d]
        rw [rd_wr, if_neg (by simp), tc.2.1, l1, nI_add, Option.bind_some, rd_wr_s]
      · unfold fX8_letter
        rw [m_within, hw, Option.bind_some, if_neg (by decide), tm.2.1, if_neg (show ¬ nI n = 6 from fun z => h6 ((nI_eq (b := 6) (by omega) (by decide)).mp z))]
        simp (disch := omega) only [inb_nI, gd_t, nI_clamp, lt_d]
        rw [show rd (wr m 1 n (nI k)) 0 0 = nI n from (by rw [rd_wr, if_neg (by simp), tm.2.1]), l1, nI_add, rd_wr_s]
      · refine rel_text (p2 := up p n k) hR hL ((same.rf.wr (by simp)).wr (by simp)) ((sam.rf.wr (by simp)).wr (by simp)) (by omega) rd_wr_s rd_wr_s (fun i hi => ?_)
        have w1 : rd (wr (wr m 1 n (nI k)) 0 0 (nI (n + 1))) 1 i = rd (wr m 1 n (nI k)) 1 i := by rw [rd_wr, if_neg (by simp)]
        have w2 : rd (wr (wr c 2 n (nI k - 48)) 1 1 (nI (n + 1))) 2 i = rd (wr c 2 n (nI k - 48)) 2 i := by rw [rd_wr, if_neg (by simp)]
        rw [w1, w2, rd_wr, rd_wr]
        unfold up
        by_cases z : i = n
        · subst z
          simp only [and_self, if_true]
          exact ⟨hk1, hk2, trivial⟩
        · simp only [z, and_false, if_false]
          have := hR.1.2.2.2 i (by omega)
          exact this
theorem sim_blank {c m : Sg} (h : Rel c m) : ∃ (r : Int32) (c2 : Sg) (m2 : Sg), fX7_blank c = some (r, c2) ∧ fX8_blank m = some (r, m2) ∧ Rel c2 m2 := by
  obtain ⟨n, W, ex, len, net, p, t, hR, hL⟩ := id h
  refine ⟨nI n, wr c 1 1 0, wr m 0 0 0, ?_, ?_, rel_text (n2 := 0) (p2 := p) hR hL (same.rf.wr (by simp)) (sam.rf.wr (by simp)) (by decide) rd_wr_s rd_wr_s (fun i hi => by omega)⟩
  · unfold fX7_blank
    rw [lt_d, hR.1.2.1]
  · unfold fX8_blank
    rw [lt_d, hR.1.2.2.1]
def trn (k : Nat) : Nat := if k = 1 then 2 else if k = 2 then 1 else k
theorem c_turned {k : Nat} (hk : k ≤ 4) : fX2_turned (nI k) = some (nI (trn k)) := by
  have : ∀ k, k < 5 → fX2_turned (nI k) = some (nI (trn k)) := by decide +kernel
  exact this k (by omega)
theorem m_turned {k : Nat} (hk : k ≤ 4) : fX8_turned (nI k) = some (nI (trn k)) := by
  have : ∀ k, k < 5 → fX8_turned (nI k) = some (nI (trn k)) := by decide +kernel
  exact this k (by omega)
theorem trn_le {k : Nat} (hk : k ≤ 4) : trn k ≤ 4 := by unfold trn; split <;> (try split) <;> omega
theorem sim_tell (a1 a2 a3 : Int32) {c m : Sg} (h : Rel c m) : ∃ (r : Int32) (c2 : Sg) (m2 : Sg), fX7_tell a1 a2 a3 c = some (r, c2) ∧ fX8_tell a1 a2 a3 m = some (r, m2) ∧ Rel c2 m2 := by
  obtain ⟨n, W, ex, len, net, p, t, hR, hL⟩ := id h
  cases hp : isP a1 a2 with
  | false =>
    refine ⟨-1001, c, m, ?_, ?_, h⟩
    · unfold fX7_tell
      rw [c_arePair, hp]; rfl
    · unfold fX8_tell
      rw [m_areTwo, hp]; rfl
  | true =>
    cases hin : (!(decide (a3 < 0)) && !(decide ((4 : Int32) < a3))) with
    | false =>
      refine ⟨-1002, c, m, ?_, ?_, h⟩
      · unfold fX7_tell fX7_tell_J21
        rw [c_arePair, hp, Option.bind_some, if_neg (by decide)]
        by_cases z : a3 < 0
        · rw [if_pos z]
        · rw [if_neg z, if_neg]
          intro y
          have : ¬ (4 : Int32) < a3 := fun x => by rw [fa_lt] at x; rw [fa_le] at y; omega
          simp [z, this] at hin
      · unfold fX8_tell
        rw [m_areTwo, hp, Option.bind_some, if_neg (by decide), m_within, hin]; rfl
    | true =>
      obtain ⟨k, hk, rfl⟩ := small_ex (hi := 4) (by decide) hin
      obtain ⟨a, b, ha, hb, hab, rfl, rfl⟩ := isP_ex hp
      have ht := hR.2.2.1.1
      refine ⟨nI (t (8 * a + b)), wr (wr c 25 (8 * a + b) (nI k)) 25 (8 * b + a) (nI (trn k)), wr (wr m 4 (8 * a + b) (nI k)) 4 (8 * b + a) (nI (trn k)), ?_, ?_, ?_⟩
      · unfold fX7_tell
        rw [c_arePair, hp, Option.bind_some, if_neg (by decide), if_neg (nI_pos (by omega)), if_pos (show nI k ≤ 4 from (nI_leI (b := 4) (by omega) (by decide)).mpr hk)]
        simp (disch := omega) only [l8, nI_mul, nI_add, inb_nI, gd_t, nI_clamp, lt_d]
        rw [c_turned hk, Option.bind_some, Nat.mul_comm a 8, Nat.mul_comm b 8, (ht _ (by omega)).2.1]
      · unfold fX8_tell
        rw [m_areTwo, hp, Option.bind_some, if_neg (by decide), m_within, hin, Option.bind_some, if_neg (by decide)]
        simp (disch := omega) only [l8, nI_mul, nI_add, inb_nI, gd_t, nI_clamp, lt_d]
        rw [m_turned hk, Option.bind_some, (ht _ (by omega)).2.2]
      · obtain ⟨⟨a1, a2, a3, a4⟩, ⟨b1, b2, b3, b4, b5, b6⟩, ⟨c1, c2⟩, d⟩ := hR
        have sc : same [25] (wr (wr c 25 (8 * a + b) (nI k)) 25 (8 * b + a) (nI (trn k))) c := (same.rf.wr (by simp)).wr (by simp)
        have sm : sam [4] [] (wr (wr m 4 (8 * a + b) (nI k)) 4 (8 * b + a) (nI (trn k))) m := (sam.rf.wr (by simp)).wr (by simp)
        have htr := trn_le hk
        refine ⟨n, W, ex, len, net, p, up (up t (8 * a + b) k) (8 * b + a) (trn k), ⟨⟨a1, (sc 1 (by simp) 1).trans a2, (sm 0 0 (by simp) (by simp)).trans a3, fun i hi => ?_⟩, ⟨b1, b2.of sc (by simp) (by simp) (by simp), b3.of sm (by simp) (by simp) (by simp) (by simp), b4, (sc 0 (by simp) 7).trans b5, (sm 0 5 (by simp) (by simp)).trans b6⟩, ⟨fun i hi => ?_, ((sc 0 (by simp) 8).trans c2).trans (sm 0 7 (by simp) (by simp)).symm⟩, d.of sc (by simp)⟩, ?_⟩
        · obtain ⟨x1, x2, x3, x4⟩ := a4 i hi
          exact ⟨x1, x2, (sm 1 i (by simp) (by simp)).trans x3, (sc 2 (by simp) i).trans x4⟩
        · obtain ⟨x1, x2, x3⟩ := c1 i hi
          rw [rd_wr, rd_wr, rd_wr, rd_wr]
          unfold up
          by_cases z1 : i = 8 * b + a
          · simp only [z1, and_self, if_true]; exact ⟨htr, trivial⟩
          · by_cases z2 : i = 8 * a + b
            · simp only [z1, z2, and_self, if_true, and_false, if_false]
              rw [z2] at z1
              simp only [z1, and_false, if_false]
              exact ⟨hk, trivial⟩
            · simp only [z1, z2, and_false, if_false]
              exact ⟨x1, x2, x3⟩
        · rw [sm 0 8 (by simp) (by simp)]
          rcases hL with q | ⟨q1, q2⟩
          · exact Or.inl q
          · exact Or.inr ⟨q1, q2.of2 sm (by simp) (by simp) (by simp)⟩
/-- new ways or exchanges: the class reads them anew, the reference lays them later -/
theorem rel_ways {n W2 ex2 : Nat} {len2 : Nat → Nat} {net2 : Nat → Nat → Nat} {p t : Nat → Nat} {c1 m1 : Sg} (hn : n ≤ 6) (h1 : rd c1 1 1 = nI n) (h2 : rd m1 0 0 = nI n) (h3 : ∀ i, i < n → 32 ≤ p i ∧ p i ≤ 126 ∧ rd m1 1 i = nI (p i) ∧ rd c1 2 i = nI (p i) - 48) (hO : okW W2 len2 net2) (hwc : wayC c1 W2 len2 net2) (hwm : wayM m1 W2 len2 net2) (hex : ex2 < 256) (hxc : rd c1 0 7 = nI ex2) (hxm : rd m1 0 5 = nI ex2) (ht : ∀ k, k < 64 → t k ≤ 4 ∧ rd c1 25 k = nI (t k) ∧ rd m1 4 k = nI (t k)) (hrd : rd c1 0 8 = rd m1 0 7) (hl : rd m1 0 8 = 0) : ∃ g, fX7_refresh c1 = some g ∧ rd g 3 4 = nI W2 ∧ Rel g m1 := by
  obtain ⟨g, e1, e2, e3⟩ := c_refresh hO hwc hex hxc
  refine ⟨g, e1, (e3 3 (by simp) 4).trans hwc.1, n, W2, ex2, len2, net2, p, t, ⟨⟨hn, (e3 1 (by simp) 1).trans h1, h2, fun i hi => ?_⟩, ⟨hO, hwc.of e3 (by simp) (by simp) (by simp), hwm, hex, (e3 0 (by simp) 7).trans hxc, hxm⟩, ⟨fun k hk => ⟨(ht k hk).1, (e3 25 (by simp) k).trans (ht k hk).2.1, (ht k hk).2.2⟩, (e3 0 (by simp) 8).trans hrd⟩, e2⟩, Or.inl hl⟩
  obtain ⟨x1, x2, x3, x4⟩ := h3 i hi
  exact ⟨x1, x2, x3, (e3 2 (by simp) i).trans x4⟩
theorem sim_exchange (a1 a2 : Int32) {c m : Sg} (h : Rel c m) : ∃ (r : Int32) (c2 : Sg) (m2 : Sg), fX7_exchange a1 a2 c = some (r, c2) ∧ fX8_exchange a1 a2 m = some (r, m2) ∧ Rel c2 m2 := by
  obtain ⟨n, W, ex, len, net, p, t, hR, hL⟩ := id h
  cases hp : isN a1 with
  | false =>
    refine ⟨-1001, c, m, ?_, ?_, h⟩
    · unfold fX7_exchange
      rw [c_isNet, hp]; rfl
    · unfold fX8_exchange
      rw [m_isNet, hp]; rfl
  | true =>
    obtain ⟨a, ha, rfl⟩ := isN_ex hp
    obtain ⟨⟨p1, p2, p3, p4⟩, ⟨b1, b2, b3, b4, b5, b6⟩, ⟨c1, c2⟩, d⟩ := hR
    obtain ⟨x2, y1, y2⟩ : ∃ x2, x2 < 256 ∧ (if a2 = 0 then nI ex &&& (((1 : Int32) <<< (nI a &&& 31)) ^^^ (-1 : Int32)) else nI ex ||| ((1 : Int32) <<< (nI a &&& 31))) = nI x2 := by
      rw [nI_pow (by omega)]
      by_cases z : a2 = 0
      · obtain ⟨x, q1, q2, -⟩ := fresh_nI (h := ex) (f := 2 ^ a) b4
        exact ⟨x, q1, by rw [if_pos z]; exact q2⟩
      · exact ⟨ex ||| 2 ^ a, or_lt b4 ha, by rw [if_neg z, fa_or]⟩
    have sc : same [0] (wr c 0 7 (nI x2)) c := same.rf.wr (by simp)
    have sm : sam [] [5, 8] (wr (wr m 0 5 (nI x2)) 0 8 0) m := (sam.rf.wr (by simp)).wr (by simp)
    obtain ⟨g, e1, e2, e3⟩ := rel_ways (c1 := wr c 0 7 (nI x2)) (m1 := wr (wr m 0 5 (nI x2)) 0 8 0) (p := p) (t := t) p1 ((sc 1 (by simp) 1).trans p2) ((sm 0 0 (by simp) (by simp)).trans p3) (fun i hi => by
        obtain ⟨z1, z2, z3, z4⟩ := p4 i hi
        exact ⟨z1, z2, (sm 1 i (by simp) (by simp)).trans z3, (sc 2 (by simp) i).trans z4⟩) b1 (b2.of sc (by simp) (by simp) (by simp)) (b3.of sm (by simp) (by simp) (by simp) (by simp)) y1 rd_wr_s (by rw [rd_wr, if_neg (by simp), rd_wr_s]) (fun k hk => ⟨(c1 k hk).1, (sc 25 (by simp) k).trans (c1 k hk).2.1, (sm 4 k (by simp) (by simp)).trans (c1 k hk).2.2⟩) (by
        rw [sm 0 7 (by simp) (by simp), rd_wr, if_neg (by simp)]; exact c2) rd_wr_s
    refine ⟨b2i (ex.testBit a), g, _, ?_, ?_, e3⟩
    · unfold fX7_exchange fX7_exchange_J46 fX0_at
      rw [c_isNet, hp, Option.bind_some, if_neg (by decide), b5, Option.bind_some, nI_bit (by omega) (by omega)]
      have : ∀ z, z = nI x2 → (lt (wr c 0 7 z) fun sg_7 => (fX7_refresh sg_7).bind fun sg_9 => some (b2i (ex.testBit a), sg_9)) = some (b2i (ex.testBit a), g) := fun z hz => by
        rw [hz, lt_d, e1, Option.bind_some]
      by_cases z : a2 = 0
      · rw [if_pos z] at y2 ⊢; exact this _ y2
      · rw [if_neg z] at y2 ⊢; exact this _ y2
    · unfold fX8_exchange fX8_exchange_J46
      rw [m_isNet, hp, Option.bind_some, if_neg (by decide), b6, lt_d, nI_bit (by omega) (by omega)]
      by_cases z : a2 = 0
      · rw [if_pos z] at y2 ⊢; rw [y2]; rfl
      · rw [if_neg z] at y2 ⊢; rw [y2]; rfl
