/-! the class' links, out of the ways without exchanges: bl w their lengths, bn w i their nets -/
def it {α : Type} (f : Nat → α → α) : Nat → α → α
  | 0, x => x
  | n + 1, x => f n (it f n x)
def rowL (r : Nat → Nat) (n : Nat) (f : Nat → Nat) : Nat → Nat := it (fun i f => jn (r i) (r (i + 1)) f) n f
def rowO (r : Nat → Nat) (n : Nat) (f : Nat → Nat) : Nat → Nat := it (fun i f => jo (r i) (r (i + 1)) f) n f
def rowP (r : Nat → Nat) (n : Nat) (f : Nat → Nat) : Nat → Nat := it (fun i f => jp (r i) (r (i + 1)) (r (i + 2)) f) n f
def rowS (r : Nat → Nat) (n : Nat) (x : Nat) : Nat := it (fun i x => x ||| 2 ^ r i) n x
def LKd (bl : Nat → Nat) (bn : Nat → Nat → Nat) (w : Nat) : Nat → Nat := it (fun w f => rowL (bn w) (bl w - 1) f) w (fun _ => 0)
def OFd (bl : Nat → Nat) (bn : Nat → Nat → Nat) (w : Nat) : Nat → Nat := it (fun w f => rowO (bn w) (bl w - 1) f) w (fun _ => 0)
def PSd (bl : Nat → Nat) (bn : Nat → Nat → Nat) (w : Nat) : Nat → Nat := it (fun w f => rowP (bn w) (bl w - 2) f) w (fun _ => 0)
def SNd (bl : Nat → Nat) (bn : Nat → Nat → Nat) (w : Nat) : Nat := it (fun w x => rowS (bn w) (bl w) x) w 0
theorem up_z {k j : Nat} : up (fun _ => 0) k 0 j = 0 := by unfold up; split <;> rfl
theorem c_clear (sg : Sg) : ∃ g, fX1_clear sg = some g ∧ arr g 9 8 (fun _ => 0) ∧ arr g 10 8 (fun _ => 0) ∧ arr g 13 64 (fun _ => 0) ∧ rd g 8 5 = nI 0 ∧ same [8, 9, 10, 13] g sg := by
  unfold fX1_clear
  rw [lt_d]
  obtain ⟨⟨a1, g1⟩, e1, q1, q2, q3, q4⟩ := lpS_for (step := fun t => fX1_clear_L7 t.1 t.2) (t0 := ((0 : Int32), wr sg 8 5 (0 : Int32))) (Q := fun t => arr t.2 9 8 (fun _ => 0) ∧ arr t.2 10 8 (fun _ => 0) ∧ rd t.2 8 5 = nI 0 ∧ same [8, 9, 10, 13] t.2 sg) 8
    (fun j t => t.1 = nI j ∧ arr t.2 9 j (fun _ => 0) ∧ arr t.2 10 j (fun _ => 0) ∧ rd t.2 8 5 = nI 0 ∧ same [8, 9, 10, 13] t.2 sg)
    ⟨rfl, fun i hi => by omega, fun i hi => by omega, rfl, same.rf.wr (by simp)⟩
    (by
      rintro j ⟨a, g⟩ hj ⟨rfl, h1, h2, h3, h4⟩
      refine ⟨(nI j + 1, wr (wr g 9 j (nI 0)) 10 j (nI 0)), ?_, nI_1 j, ?_, ?_, ?_, ?_⟩
      · simp only [fX1_clear_L7]
        rw [if_neg (by rw [show (8 : Int32) = nI 8 from rfl, nI_leI (by decide) (by omega)]; omega)]
        simp (disch := omega) only [fa_lit, inb_nI, gd_t, lt_d, nI_clamp]
      · intro i hi
        rw [rd_wr, if_neg (by simp), rd_wr]
        split
        · rfl
        · rename_i hne; exact h1 i (by have : i ≠ j := fun z => hne ⟨rfl, z⟩; omega)
      · intro i hi
        rw [rd_wr]
        split
        · rfl
        · rename_i hne
          rw [rd_wr, if_neg (by simp)]
          exact h2 i (by have : i ≠ j := fun z => hne ⟨rfl, z⟩; omega)
      · rw [rd_wr, if_neg (by simp), rd_wr, if_neg (by simp)]; exact h3
      · exact (h4.wr (by simp)).wr (by simp))
    (by
      rintro ⟨a, g⟩ ⟨rfl, h1, h2, h3, h4⟩
      refine ⟨(nI 8, g), ?_, h1, h2, h3, h4⟩
      simp only [fX1_clear_L7]
      rw [if_pos (by decide)]) (by decide)
  rw [e1]
  simp only [Option.bind_some, fX1_clear_E33]
  obtain ⟨⟨a2, g2⟩, e2, r1, r2⟩ := lpS_for (step := fun t => fX1_clear_L35 t.1 t.2) (t0 := ((0 : Int32), g1)) (Q := fun t => arr t.2 13 64 (fun _ => 0) ∧ same [13] t.2 g1) 64
    (fun j t => t.1 = nI j ∧ arr t.2 13 j (fun _ => 0) ∧ same [13] t.2 g1)
    ⟨rfl, fun i hi => by omega, same.rf⟩
    (by
      rintro j ⟨a, g⟩ hj ⟨rfl, h1, h4⟩
      refine ⟨(nI j + 1, wr g 13 j (nI 0)), ?_, nI_1 j, ?_, h4.wr (by simp)⟩
      · simp only [fX1_clear_L35]
        rw [if_neg (by rw [show (64 : Int32) = nI 64 from rfl, nI_leI (by decide) (by omega)]; omega)]
        simp (disch := omega) only [fa_lit, inb_nI, gd_t, lt_d, nI_clamp]
      · intro i hi
        rw [rd_wr]
        split
        · rfl
        · rename_i hne; exact h1 i (by have : i ≠ j := fun z => hne ⟨rfl, z⟩; omega))
    (by
      rintro ⟨a, g⟩ ⟨rfl, h1, h4⟩
      refine ⟨(nI 64, g), ?_, h1, h4⟩
      simp only [fX1_clear_L35]
      rw [if_pos (by decide)]) (by decide)
  rw [e2]
  refine ⟨g2, rfl, r2.arr (by simp) q1, r2.arr (by simp) q2, r1, ?_, r2.tr q4 (by simp) (by simp)⟩
  rw [r2 8 (by simp) 5]; exact q3
theorem last_toInt {s n : Nat} (h : s + n < 1000) : (nI s + nI n - nI 1).toInt = (s : Int) + n - 1 := by
  rcases Nat.eq_zero_or_pos (s + n) with h0 | h0
  · have h1 : s = 0 := by omega
    have h2 : n = 0 := by omega
    subst h1; subst h2; decide
  · rw [nI_add, nI_sub (by omega), nI_toInt (by omega)]; omega
theorem le_toInt {x : Int32} {z : Int} {k : Nat} (hx : x.toInt = z) (hk : k < 2 ^ 31) : (x ≤ nI k) = (z ≤ k) := by rw [fa_le, hx, nI_toInt hk]
theorem lt_toInt {x : Int32} {z : Int} {k : Nat} (hx : x.toInt = z) (hk : k < 2 ^ 31) : (x < nI k) = (z < k) := by rw [fa_lt, hx, nI_toInt hk]
set_option maxHeartbeats 1000000 in
theorem c_readRow {w n x : Nat} {r f o p : Nat → Nat} {sg : Sg} (hw : w < 12) (hn : n ≤ 6) (hr : ∀ i, i < n → r i < 8) (hc : ∀ i, i < n → rd sg 6 (w * 6 + i) = nI (r i)) (h9 : arr sg 9 8 f) (h13 : arr sg 13 64 o) (h10 : arr sg 10 8 p) (hx : rd sg 8 5 = nI x) :
    ∃ g, fX1_readRow_6 (nI (w * 6)) (nI n) sg = some g ∧ arr g 9 8 (rowL r (n - 1) f) ∧ arr g 13 64 (rowO r (n - 1) o) ∧ arr g 10 8 (rowP r (n - 2) p) ∧ rd g 8 5 = nI (rowS r n x) ∧ same [8, 9, 10, 13] g sg := by
  unfold fX1_readRow_6
  simp only [lt_d, fa_lit]
  have hl := last_toInt (s := w * 6) (n := n) (by omega)
  generalize nI (w * 6) + nI n - nI 1 = z at hl ⊢
  obtain ⟨⟨a1, g1⟩, e1, q1, q2⟩ := lpS_for (step := fun t => fX1_readRow_6_L10 (nI (w * 6)) z t.1 t.2) (t0 := (nI (w * 6), sg)) (Q := fun t => rd t.2 8 5 = nI (rowS r n x) ∧ same [8] t.2 sg) n
    (fun j t => t.1 = nI (w * 6 + j) ∧ rd t.2 8 5 = nI (rowS r j x) ∧ same [8] t.2 sg)
    ⟨rfl, hx, same.rf⟩
    (by
      rintro j ⟨a, g⟩ hj ⟨rfl, h1, h4⟩
      refine ⟨(nI (w * 6 + j) + 1, wr g 8 5 (nI (rowS r j x ||| 2 ^ r j))), ?_, by rw [nI_1]; rfl, by rw [rd_wr, if_pos ⟨rfl, rfl⟩]; rfl, h4.wr (by simp)⟩
      have e6 : rd g 6 (w * 6 + j) = nI (r j) := (h4 6 (by simp) _).trans (hc j hj)
      have hrj := hr j hj
      simp only [fX1_readRow_6_L10]
      rw [if_neg (by rw [lt_toInt hl (by omega)]; omega)]
      simp (disch := omega) only [fa_lit, inb_nI, gd_t, lt_d, nI_clamp, e6, h1, p_pow, fa_or])
    (by
      rintro ⟨a, g⟩ ⟨rfl, h1, h4⟩
      refine ⟨(nI (w * 6 + n), g), ?_, h1, h4⟩
      simp only [fX1_readRow_6_L10]
      rw [if_pos (by rw [lt_toInt hl (by omega)]; omega)]) (by omega)
  rw [e1]
  simp only [Option.bind_some, fX1_readRow_6_E38]
  obtain ⟨⟨a2, g2⟩, e2, s1, s2, s3⟩ := lpS_for (step := fun t => fX1_readRow_6_L41 (nI (w * 6)) z t.1 t.2) (t0 := (nI (w * 6), g1)) (Q := fun t => arr t.2 9 8 (rowL r (n - 1) f) ∧ arr t.2 13 64 (rowO r (n - 1) o) ∧ same [9, 13] t.2 g1) (n - 1)
    (fun j t => t.1 = nI (w * 6 + j) ∧ arr t.2 9 8 (rowL r j f) ∧ arr t.2 13 64 (rowO r j o) ∧ same [9, 13] t.2 g1)
    ⟨rfl, q2.arr (by simp) h9, q2.arr (by simp) h13, same.rf⟩
    (by
      rintro j ⟨a, g⟩ hj ⟨rfl, h1, h2, h4⟩
      have e6 : ∀ i, i < n → rd g 6 (w * 6 + i) = nI (r i) := fun i hi => ((h4 6 (by simp) _).trans (q2 6 (by simp) _)).trans (hc i hi)
      obtain ⟨g', k1, k2, k3, k4⟩ := c_join (hr j (by omega)) (hr (j + 1) (by omega)) h1 h2
      refine ⟨(nI (w * 6 + j) + 1, g'), ?_, by rw [nI_1]; rfl, k2, k3, k4.tr h4 (fun _ h => h) (fun _ h => h)⟩
      simp only [fX1_readRow_6_L41]
      rw [if_neg (by rw [le_toInt hl (by omega)]; omega)]
      simp (disch := omega) only [fa_lit, nI_add, inb_nI, gd_t, lt_d, nI_clamp]
      rw [e6 j (by omega), Nat.add_assoc, e6 (j + 1) (by omega), k1]
      rfl)
    (by
      rintro ⟨a, g⟩ ⟨rfl, h1, h2, h4⟩
      refine ⟨(nI (w * 6 + (n - 1)), g), ?_, h1, h2, h4⟩
      simp only [fX1_readRow_6_L41]
      rw [if_pos (by rw [le_toInt hl (by omega)]; omega)]) (by omega)
  rw [e2]
  simp only [Option.bind_some, fX1_readRow_6_E68]
  have g12 : same [8, 9, 13] g2 sg := s3.tr q2 (by simp) (by simp)
  rw [fa_lit, nI_add]
  obtain ⟨⟨a3, g3⟩, e3, t1, t2⟩ := lpS_for (step := fun t => fX1_readRow_6_L73 z t.1 t.2) (t0 := (nI (w * 6 + 1), g2)) (Q := fun t => arr t.2 10 8 (rowP r (n - 2) p) ∧ same [10] t.2 g2) (n - 2)
    (fun j t => t.1 = nI (w * 6 + 1 + j) ∧ arr t.2 10 8 (rowP r j p) ∧ same [10] t.2 g2)
    ⟨rfl, g12.arr (by simp) h10, same.rf⟩
    (by
      rintro j ⟨a, g⟩ hj ⟨rfl, h1, h4⟩
      have e6 : ∀ i, i < n → rd g 6 (w * 6 + i) = nI (r i) := fun i hi => ((h4 6 (by simp) _).trans (g12 6 (by simp) _)).trans (hc i hi)
      have b0 := hr j (by omega)
      have b1 := hr (j + 1) (by omega)
      have b2 := hr (j + 2) (by omega)
      refine ⟨(nI (w * 6 + 1 + j) + 1, wr g 10 (r (j + 1)) (nI (rowP r j p (r (j + 1)) ||| (2 ^ r j ||| 2 ^ r (j + 2))))), ?_, by rw [nI_1]; rfl, arr_wr h1, h4.wr (by simp)⟩
      simp only [fX1_readRow_6_L73]
      rw [if_neg (by rw [le_toInt hl (by omega)]; omega)]
      rw [show w * 6 + 1 + j = w * 6 + (j + 1) by omega]
      simp (disch := omega) only [fa_lit, nI_add, nI_sub, inb_nI, gd_t, lt_d, nI_clamp, e6 (j + 1) (by omega)]
      rw [show w * 6 + (j + 1) - 1 = w * 6 + j by omega, show w * 6 + (j + 1) + 1 = w * 6 + (j + 2) by omega, e6 j (by omega), e6 (j + 2) (by omega), h1 (r (j + 1)) b1]
      simp (disch := omega) only [p_pow, fa_or, inb_nI, gd_t])
    (by
      rintro ⟨a, g⟩ ⟨rfl, h1, h4⟩
      refine ⟨(nI (w * 6 + 1 + (n - 2)), g), ?_, h1, h4⟩
      simp only [fX1_readRow_6_L73]
      rw [if_pos (by rw [le_toInt hl (by omega)]; omega)]) (by omega)
  rw [e3]
  refine ⟨g3, rfl, t2.arr (by simp) s1, t2.arr (by simp) s2, t1, ?_, t2.tr g12 (by simp) (by simp)⟩
  rw [t2 8 (by simp) 5, s3 8 (by simp) 5]; exact q1
/-- the cut ways, as the class has them -/
def cutC (sg : Sg) (W : Nat) (bl : Nat → Nat) (bn : Nat → Nat → Nat) : Prop := ∀ w, w < W → rd sg 7 w = nI (bl w) ∧ ∀ i, i < bl w → rd sg 6 (w * 6 + i) = nI (bn w i)
def okB (W : Nat) (bl : Nat → Nat) (bn : Nat → Nat → Nat) : Prop := W ≤ 12 ∧ ∀ w, w < W → bl w ≤ 6 ∧ (∀ i, i < bl w → bn w i < 8) ∧ ∀ i j, i < bl w → j < bl w → bn w i = bn w j → i = j
set_option maxHeartbeats 1000000 in
theorem c_links {W : Nat} {bl : Nat → Nat} {bn : Nat → Nat → Nat} {sg : Sg} (hB : okB W bl bn) (hW : rd sg 3 4 = nI W) (hc : cutC sg W bl bn) (hL : ∀ a, a < 8 → LKd bl bn W a < 256) (hP : ∀ a, a < 8 → PSd bl bn W a < 256) :
    ∃ g, fX1_read_3 sg = some g ∧ arr g 9 8 (LKd bl bn W) ∧ arr g 13 64 (OFd bl bn W) ∧ arr g 10 8 (PSd bl bn W) ∧ rd g 8 5 = nI (SNd bl bn W) ∧ arr g 11 8 (fun a => pc8 (LKd bl bn W a)) ∧ arr g 12 8 (fun a => pc8 (PSd bl bn W a)) ∧ same [8, 9, 10, 11, 12, 13] g sg := by
  unfold fX1_read_3
  obtain ⟨g0, e0, p1, p2, p3, p4, p5⟩ := c_clear sg
  rw [e0]
  simp only [Option.bind_some]
  obtain ⟨⟨a1, g1⟩, e1, q1, q2, q3, q4, q5⟩ := lpS_for (step := fun t => fX1_read_3_L6 t.1 t.2) (t0 := ((0 : Int32), g0)) (Q := fun t => arr t.2 9 8 (LKd bl bn W) ∧ arr t.2 13 64 (OFd bl bn W) ∧ arr t.2 10 8 (PSd bl bn W) ∧ rd t.2 8 5 = nI (SNd bl bn W) ∧ same [8, 9, 10, 13] t.2 sg) W
    (fun j t => t.1 = nI j ∧ arr t.2 9 8 (LKd bl bn j) ∧ arr t.2 13 64 (OFd bl bn j) ∧ arr t.2 10 8 (PSd bl bn j) ∧ rd t.2 8 5 = nI (SNd bl bn j) ∧ same [8, 9, 10, 13] t.2 sg)
    ⟨rfl, p1, p3, p2, p4, p5⟩
    (by
      rintro j ⟨a, g⟩ hj ⟨rfl, h1, h2, h3, h4, h5⟩
      have hW1 := hB.1
      obtain ⟨b1, b2, b3⟩ := hB.2 j hj
      obtain ⟨c1, c2⟩ := hc j hj
      obtain ⟨g', k1, k2, k3, k4, k5, k6⟩ := c_readRow (w := j) (n := bl j) (r := bn j) (by omega) b1 b2 (fun i hi => (h5 6 (by simp) _).trans (c2 i hi)) h1 h2 h3 h4
      refine ⟨(nI j + 1, g'), ?_, nI_1 j, k2, k3, k4, k5, k6.tr h5 (fun _ h => h) (fun _ h => h)⟩
      simp only [fX1_read_3_L6]
      rw [h5 3 (by simp) 4, hW, if_neg (by rw [nI_leI (by omega) (by omega)]; omega)]
      simp (disch := omega) only [fa_lit, nI_mul, inb_nI, gd_t, lt_d, nI_clamp]
      rw [h5 7 (by simp) j, c1, k1]
      rfl)
    (by
      rintro ⟨a, g⟩ ⟨rfl, h1, h2, h3, h4, h5⟩
      refine ⟨(nI W, g), ?_, h1, h2, h3, h4, h5⟩
      simp only [fX1_read_3_L6]
      rw [h5 3 (by simp) 4, hW, if_pos (Int32.le_refl _)]) (by have := hB.1; omega)
  rw [e1]
  simp only [Option.bind_some, fX1_read_3_E38]
  obtain ⟨⟨a2, g2⟩, e2, r1, r2, r3⟩ := lpS_for (step := fun t => fX1_read_3_L40 t.1 t.2) (t0 := ((0 : Int32), g1)) (Q := fun t => arr t.2 11 8 (fun a => pc8 (LKd bl bn W a)) ∧ arr t.2 12 8 (fun a => pc8 (PSd bl bn W a)) ∧ same [11, 12] t.2 g1) 8
    (fun j t => t.1 = nI j ∧ arr t.2 11 j (fun a => pc8 (LKd bl bn W a)) ∧ arr t.2 12 j (fun a => pc8 (PSd bl bn W a)) ∧ same [11, 12] t.2 g1)
    ⟨rfl, fun i hi => by omega, fun i hi => by omega, same.rf⟩
    (by
      rintro j ⟨a, g⟩ hj ⟨rfl, h1, h2, h4⟩
      have e9 : rd g 9 j = nI (LKd bl bn W j) := (h4 9 (by simp) j).trans (q1 j hj)
      have e10 : ∀ v, rd (wr g 11 j v) 10 j = nI (PSd bl bn W j) := fun v => by rw [rd_wr, if_neg (by simp)]; exact (h4 10 (by simp) j).trans (q3 j hj)
      refine ⟨(nI j + 1, wr (wr g 11 j (nI (pc8 (LKd bl bn W j)))) 12 j (nI (pc8 (PSd bl bn W j)))), ?_, nI_1 j, ?_, ?_, (h4.wr (by simp)).wr (by simp)⟩
      · simp only [fX1_read_3_L40]
        rw [if_neg (by rw [show (8 : Int32) = nI 8 from rfl, nI_leI (by decide) (by omega)]; omega)]
        simp (disch := omega) only [inb_nI, gd_t, lt_d, nI_clamp, e9, bcnt _ (hL j hj), Option.bind_some, e10, bcnt _ (hP j hj)]
      · intro i hi
        rw [rd_wr, if_neg (by simp), rd_wr]
        split
        · rename_i hz; rw [hz.2]
        · rename_i hne; exact h1 i (by have : i ≠ j := fun z => hne ⟨rfl, z⟩; omega)
      · intro i hi
        rw [rd_wr]
        split
        · rename_i hz; rw [hz.2]
        · rename_i hne
          rw [rd_wr, if_neg (by simp)]
          exact h2 i (by have : i ≠ j := fun z => hne ⟨rfl, z⟩; omega))
    (by
      rintro ⟨a, g⟩ ⟨rfl, h1, h2, h4⟩
      refine ⟨(nI 8, g), ?_, h1, h2, h4⟩
      simp only [fX1_read_3_L40]
      rw [if_pos (by decide)]) (by decide)
  rw [e2]
  refine ⟨g2, rfl, r3.arr (by simp) q1, r3.arr (by simp) q2, r3.arr (by simp) q3, ?_, r1, r2, r3.tr q5 (by simp) (by simp)⟩
  rw [r3 8 (by simp) 5]; exact q4
