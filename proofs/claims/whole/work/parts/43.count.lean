/-! counts of links -/
def lkC (w x t l : Nat) : Bool := if w = 1 then true else if w = 2 then decide (x < 3) else if w = 3 then decide (x = 3) else if w = 4 then decide (x = 4) else if w = 5 then decide (0 < l) else if w = 7 then decide (t = x) else (decide (0 < t) && !(decide (t = x)))
def lkB (w : Nat) (x t l : Nat → Nat) (k : Nat) : Bool := decide (k / 8 < k % 8) && (decide (0 < x k) && lkC w (x k) (t k) (l k))
section LS
variable {w k x t l : Nat} {v : Int32} {sg : Sg}
theorem jB (p q r : Bool) (a1 : Int32) : fX8_linksOf_L4_J163 a1 v (nI k) (b2i p) (b2i q) (b2i r) sg = some (.inr (if p && (q || r) then v + 1 else v + 0, nI k + 1)) := by
  cases p <;> cases q <;> cases r <;> rfl
def rB (w x t : Nat) : Bool := (decide (w = 7) && decide (t = x)) || (decide (w = 8) && (decide (0 < t) && !(decide (t = x))))
theorem jC (p q : Bool) (hw : w ≤ 8) (hk : k < 64) (hx : x ≤ 4) (ht : t ≤ 4) (h13 : rd sg 13 k = nI x) (h4 : rd sg 4 k = nI t) : fX8_linksOf_L4_J105 (nI w) v (nI k) (b2i p) (b2i q) sg = some (.inr (if p && (q || rB w x t) then v + 1 else v + 0, nI k + 1)) := by
  have e7 : (nI w = 7) ↔ w = 7 := nI_eq (b := 7) (by omega) (by decide)
  have e8 : (nI w = 8) ↔ w = 8 := nI_eq (b := 8) (by omega) (by decide)
  have c6 : (nI t = nI x) ↔ t = x := nI_eq (by omega) (by omega)
  have c7 : (nI t ≤ 0) ↔ t ≤ 0 := nI_leI (b := 0) (by omega) (by decide)
  have hT : fX8_linksOf_L4_J158 (nI w) v (nI k) (b2i p) (b2i q) sg = some (.inr (if p && (q || true) then v + 1 else v + 0, nI k + 1)) := jB p q true _
  have hF : fX8_linksOf_L4_J162 (nI w) v (nI k) (b2i p) (b2i q) sg = some (.inr (if p && (q || false) then v + 1 else v + 0, nI k + 1)) := jB p q false _
  simp only [fX8_linksOf_L4_J105, fX8_linksOf_L4_J128]
  rw [hT, hF]
  simp (disch := omega) only [inb_nI, gd_t, nI_clamp, h13, h4, e7, e8, c6, c7]
  unfold rB
  by_cases d7 : w = 7
  · by_cases d : t = x
    · simp [d7, d]
    · simp [d7, d]
  · by_cases d8 : w = 8
    · by_cases d : t ≤ 0
      · have : ¬ 0 < t := by omega
        simp [d8, d, this]
      · have : 0 < t := by omega
        by_cases e : t = x
        · subst e; simp [d8, d]
        · simp [d8, d, this, e]
    · simp [d7, d8]
def qB (w x l : Nat) : Bool := decide (w = 1) || (decide (w = 2) && decide (x < 3)) || (decide (w = 3) && decide (x = 3)) || (decide (w = 4) && decide (x = 4)) || (decide (w = 5) && decide (0 < l))
theorem jD (p : Bool) (hw : w ≤ 8) (hk : k < 64) (hx : x ≤ 4) (ht : t ≤ 4) (hl : l ≤ 12) (h13 : rd sg 13 k = nI x) (h4 : rd sg 4 k = nI t) (hls : fX8_lesserOf (nI k) sg = some (nI l)) : fX8_linksOf_L4_J35 (nI w) v (nI k) (b2i p) sg = some (.inr (if p && (qB w x l || rB w x t) then v + 1 else v + 0, nI k + 1)) := by
  have e1 : (nI w = 1) ↔ w = 1 := nI_eq (b := 1) (by omega) (by decide)
  have e2 : (nI w = 2) ↔ w = 2 := nI_eq (b := 2) (by omega) (by decide)
  have e3 : (nI w = 3) ↔ w = 3 := nI_eq (b := 3) (by omega) (by decide)
  have e4 : (nI w = 4) ↔ w = 4 := nI_eq (b := 4) (by omega) (by decide)
  have e5 : (nI w = 5) ↔ w = 5 := nI_eq (b := 5) (by omega) (by decide)
  have c2 : (nI x < 3) ↔ x < 3 := nI_ltI (b := 3) (by omega) (by decide)
  have c3 : (nI x = 3) ↔ x = 3 := nI_eq (b := 3) (by omega) (by decide)
  have c4 : (nI x = 4) ↔ x = 4 := nI_eq (b := 4) (by omega) (by decide)
  have c5 : (nI l ≤ 0) ↔ l ≤ 0 := nI_leI (b := 0) (by omega) (by decide)
  have hT : fX8_linksOf_L4_J100 (nI w) v (nI k) (b2i p) sg = some (.inr (if p && (true || rB w x t) then v + 1 else v + 0, nI k + 1)) := jC p true hw hk hx ht h13 h4
  have hF : fX8_linksOf_L4_J104 (nI w) v (nI k) (b2i p) sg = some (.inr (if p && (false || rB w x t) then v + 1 else v + 0, nI k + 1)) := jC p false hw hk hx ht h13 h4
  have s5 : fX8_linksOf_L4_J87 (nI w) v (nI k) (b2i p) sg = some (.inr (if p && ((decide (w = 5) && decide (0 < l)) || rB w x t) then v + 1 else v + 0, nI k + 1)) := by
    simp only [fX8_linksOf_L4_J87]
    rw [hT, hF, hls, Option.bind_some]
    simp only [e5, c5]
    by_cases d5 : w = 5
    · by_cases d : l ≤ 0
      · have : ¬ 0 < l := by omega
        simp [d5, d, this]
      · have : 0 < l := by omega
        simp [d5, d, this]
    · simp [d5]
  have s4 : fX8_linksOf_L4_J72 (nI w) v (nI k) (b2i p) sg = some (.inr (if p && ((decide (w = 4) && decide (x = 4) || (decide (w = 5) && decide (0 < l))) || rB w x t) then v + 1 else v + 0, nI k + 1)) := by
    simp only [fX8_linksOf_L4_J72]
    rw [hT, s5]
    simp (disch := omega) only [inb_nI, gd_t, nI_clamp, h13, e4, c4]
    by_cases d4 : w = 4
    · by_cases d : x = 4 <;> simp [d4, d]
    · simp [d4]
  have s3 : fX8_linksOf_L4_J57 (nI w) v (nI k) (b2i p) sg = some (.inr (if p && ((decide (w = 3) && decide (x = 3) || (decide (w = 4) && decide (x = 4) || (decide (w = 5) && decide (0 < l)))) || rB w x t) then v + 1 else v + 0, nI k + 1)) := by
    simp only [fX8_linksOf_L4_J57]
    rw [hT, s4]
    simp (disch := omega) only [inb_nI, gd_t, nI_clamp, h13, e3, c3]
    by_cases d4 : w = 3
    · by_cases d : x = 3 <;> simp [d4, d]
    · simp [d4]
  simp only [fX8_linksOf_L4_J35]
  rw [hT, s3]
  simp (disch := omega) only [inb_nI, gd_t, nI_clamp, h13, e1, e2, c2]
  unfold qB
  by_cases d1 : w = 1
  · simp [d1]
  · by_cases d2 : w = 2
    · by_cases d : x < 3 <;> simp [d2, d]
    · simp [d1, d2, Bool.or_assoc]
theorem qr_lkC (hw : w = 1 ∨ w = 2 ∨ w = 3 ∨ w = 4 ∨ w = 5 ∨ w = 7 ∨ w = 8) : (qB w x l || rB w x t) = lkC w x t l := by
  unfold qB rB lkC
  rcases hw with rfl | rfl | rfl | rfl | rfl | rfl | rfl <;> simp
theorem m_linkStep (hw : w = 1 ∨ w = 2 ∨ w = 3 ∨ w = 4 ∨ w = 5 ∨ w = 7 ∨ w = 8) (hk : k < 64) (hx : x ≤ 4) (ht : t ≤ 4) (hl : l ≤ 12) (h13 : rd sg 13 k = nI x) (h4 : rd sg 4 k = nI t) (hls : fX8_lesserOf (nI k) sg = some (nI l)) :
    fX8_linksOf_L4 (nI w) sg v (nI k) = some (.inr (if decide (k / 8 < k % 8) && (decide (0 < x) && lkC w x t l) then v + 1 else v + 0, nI k + 1)) := by
  have hT := jD (v := v) (sg := sg) true (show w ≤ 8 by omega) hk hx ht hl h13 h4 hls
  have hF := jD (v := v) (sg := sg) false (show w ≤ 8 by omega) hk hx ht hl h13 h4 hls
  rw [qr_lkC hw] at hT hF
  have c0 : (nI (k % 8) ≤ nI (k / 8)) ↔ k % 8 ≤ k / 8 := nI_leI (by omega) (by omega)
  have c1 : (nI x ≤ 0) ↔ x ≤ 0 := nI_leI (b := 0) (by omega) (by decide)
  simp only [fX8_linksOf_L4, fX8_linksOf_L4_J34]
  rw [if_neg (by rw [show (64 : Int32) = nI 64 from rfl, nI_leI (by decide) (by omega)]; omega), (rem8 hk).2, (rem8 hk).1]
  simp (disch := omega) only [inb_nI, gd_t, nI_clamp, h13, c0, c1]
  rw [show (1 : Int32) = b2i true from rfl, show (0 : Int32) = b2i false from rfl]
  rw [show (1 : Int32) = b2i true from rfl, show (0 : Int32) = b2i false from rfl] at hT hF
  by_cases u : k % 8 ≤ k / 8
  · have u2 : ¬ k / 8 < k % 8 := by omega
    rw [if_pos u, hF]
    simp [u2]
  · have u2 : k / 8 < k % 8 := by omega
    rw [if_neg u]
    by_cases y : x ≤ 0
    · have y2 : ¬ 0 < x := by omega
      rw [if_pos y, hF]
      simp [y2]
    · have y2 : 0 < x := by omega
      rw [if_neg y, hT]
      simp [y2, u2]
end LS
theorem m_linksOf {w N : Nat} {x t l : Nat → Nat} {sg : Sg} (hN : N = 64) (hw : w = 1 ∨ w = 2 ∨ w = 3 ∨ w = 4 ∨ w = 5 ∨ w = 7 ∨ w = 8) (hx : ∀ k, x k ≤ 4) (ht : ∀ k, k < 64 → t k ≤ 4) (hl : ∀ k, l k ≤ 12) (h13 : ∀ k, k < 64 → rd sg 13 k = nI (x k)) (h4 : ∀ k, k < 64 → rd sg 4 k = nI (t k)) (hls : ∀ k, k < 64 → fX8_lesserOf (nI k) sg = some (nI (l k))) : fX8_linksOf (nI w) sg = some (nI (fb_ct (lkB w x t l) N)) := by
  have h := lpS_det (step := fun t => fX8_linksOf_L4 (nI w) sg t.1 t.2) (u := (nI (fb_ct (lkB w x t l) N), nI N)) N (fun j => (nI (fb_ct (lkB w x t l) j), nI j)) (fun j hj => by
    rw [m_linkStep hw (by omega) (hx j) (ht j (by omega)) (hl j) (h13 j (by omega)) (h4 j (by omega)) (hls j (by omega)), fb_ct_succ, nI_1]
    unfold lkB
    split
    · rw [nI_1]
    · rw [l0, nI_add, nI_1]) (by
    simp only [fX8_linksOf_L4]
    rw [if_pos (by rw [hN]; decide)]) (by omega)
  unfold fX8_linksOf
  have h0 : ((0 : Int32), (0 : Int32)) = (nI (fb_ct (lkB w x t l) 0), nI 0) := rfl
  rw [h0, h]
  rfl
/-- two loops over all pairs -/
theorem dbl_skip {P : Nat → Bool} (hP : ∀ k, ¬ k / 8 < k % 8 → P k = false) {a : Nat} (ha : a < 8) : ∀ j, j ≤ a + 1 → fb_ct P (8 * a + j) = fb_ct P (8 * a)
  | 0, _ => rfl
  | j + 1, hj => by
    rw [show 8 * a + (j + 1) = 8 * a + j + 1 by omega, fb_ct_succ, dbl_skip hP ha j (by omega), hP (8 * a + j) (by omega)]
    rfl
theorem dbl {sI : Int32 → Int32 × Int32 → Option ((Int32 × Int32) ⊕ (Int32 × Int32))} {sO : Int32 × Int32 → Option ((Int32 × Int32) ⊕ (Int32 × Int32))} {P : Nat → Bool} {N : Nat} (hN : N = 64) (hP : ∀ k, ¬ k / 8 < k % 8 → P k = false) (hI : ∀ a b v, a < 8 → b < 8 → a < b → sI (nI a) (v, nI b) = some (.inr (if P (8 * a + b) then v + 1 else v, nI b + 1))) (hIe : ∀ a v, a < 8 → sI (nI a) (v, nI 8) = some (.inl (v, nI 8))) (hO : ∀ a v, a < 8 → sO (v, nI a) = (lpS (sI (nI a)) 300 (v, nI a + 1)).bind fun t => some (.inr (t.1, nI a + 1))) (hOe : ∀ v, sO (v, nI 8) = some (.inl (v, nI 8))) : lpS sO 300 ((0 : Int32), (0 : Int32)) = some (nI (fb_ct P N), nI 8) := by
  have inner : ∀ a, a < 8 → lpS (sI (nI a)) 300 (nI (fb_ct P (8 * a)), nI a + 1) = some (nI (fb_ct P (8 * (a + 1))), nI 8) := by
    intro a ha
    have h := lpS_det (step := sI (nI a)) (u := (nI (fb_ct P (8 * (a + 1))), nI 8)) (7 - a) (fun j => (nI (fb_ct P (8 * a + (a + 1 + j))), nI (a + 1 + j))) (fun j hj => by
      rw [hI a (a + 1 + j) _ ha (by omega) (by omega), show 8 * a + (a + 1 + (j + 1)) = 8 * a + (a + 1 + j) + 1 by omega, fb_ct_succ, nI_1]
      split
      · rw [nI_1]; rfl
      · rw [nI_1]; rfl) (by
      rw [show a + 1 + (7 - a) = 8 by omega, hIe a _ ha]
      rfl) (by omega)
    rw [Nat.add_zero, dbl_skip hP ha (a + 1) (Nat.le_refl _)] at h
    rw [nI_1]
    exact h
  have h := lpS_det (step := sO) (u := (nI (fb_ct P N), nI 8)) 8 (fun a => (nI (fb_ct P (8 * a)), nI a)) (fun a ha => by
    rw [hO a _ ha, inner a ha, Option.bind_some, nI_1]) (by
    rw [hOe, hN]) (by decide)
  have h0 : ((0 : Int32), (0 : Int32)) = (nI (fb_ct P (8 * 0)), nI 0) := rfl
  rw [h0]
  exact h
section CC
variable {nm : Nat → Nat → Nat} {vt t : Nat → Nat} {sg : Sg}
def upB (q : Nat → Bool) (k : Nat) : Bool := decide (k / 8 < k % 8) && q k
theorem upB_no {q : Nat → Bool} (k : Nat) (h : ¬ k / 8 < k % 8) : upB q k = false := by simp [upB, h]
theorem upB_at {q : Nat → Bool} {a b : Nat} (hb : b < 8) (h : a < b) : upB q (8 * a + b) = q (8 * a + b) := by
  unfold upB
  rw [show (8 * a + b) / 8 = a by omega, show (8 * a + b) % 8 = b by omega]
  simp [h]
def nmk (nm : Nat → Nat → Nat) (k : Nat) : Nat := nm (k / 8) (k % 8)
theorem nmk_at {a b : Nat} (hb : b < 8) : nmk nm (8 * a + b) = nm a b := by
  unfold nmk
  rw [show (8 * a + b) / 8 = a by omega, show (8 * a + b) % 8 = b by omega]
theorem c_named {N w : Nat} (hN : N = 64) (hw : w < 5) (hn : ∀ a b, nm a b ≤ 4) (h19 : namC sg nm) : fX2_named (nI w) sg = some (nI (fb_ct (upB fun k => decide (nmk nm k = w)) N)) := by
  have h := dbl (sI := fun a t => fX2_named_L15 (nI w) a sg t.1 t.2) (sO := fun t => fX2_named_L4 (nI w) sg t.1 t.2) (P := upB fun k => decide (nmk nm k = w)) hN upB_no
    (fun a b v ha hb hab => by
      have z := hn a b
      rw [upB_at hb hab, nmk_at hb]
      simp only [fX2_named_L15, fX2_named_L15_J41]
      rw [if_neg (by rw [l8, nI_leI (by decide) (by omega)]; omega)]
      simp (disch := omega) only [l8, nI_mul, nI_add, inb_nI, gd_t, nI_clamp]
      rw [Nat.mul_comm a 8, h19 a b ha hb]
      simp (disch := omega) only [nI_eq]
      by_cases c : nm a b = w <;> simp [c])
    (fun a v ha => by
      simp only [fX2_named_L15]
      rw [if_pos (by decide)])
    (fun a v ha => by
      simp only [fX2_named_L4]
      rw [if_neg (by rw [l8, nI_leI (by decide) (by omega)]; omega)]
      rfl)
    (fun v => by
      simp only [fX2_named_L4]
      rw [if_pos (by decide)])
  unfold fX2_named
  rw [h, Option.bind_some]
  rfl
theorem c_contra {N : Nat} (hN : N = 64) (hv : ∀ k, vt k ≤ 12) (h18 : arr sg 18 64 vt) : fX2_contradictions sg = some (nI (fb_ct (upB fun k => decide (0 < lsV vt k)) N)) := by
  have h := dbl (sI := fun a t => fX2_contradictions_L14 a sg t.1 t.2) (sO := fun t => fX2_contradictions_L4 sg t.1 t.2) (P := upB fun k => decide (0 < lsV vt k)) hN upB_no
    (fun a b v ha hb hab => by
      have z := ls_le hv (8 * a + b)
      rw [upB_at hb hab]
      simp only [fX2_contradictions_L14, fX2_contradictions_L14_J32]
      rw [if_neg (by rw [l8, nI_leI (by decide) (by omega)]; omega), c_lesser hv h18 ha hb, Option.bind_some, ← ls_pair hb hab, l0]
      simp (disch := omega) only [nI_leI]
      by_cases c : lsV vt (8 * a + b) ≤ 0
      · rw [if_pos c, if_neg (by simp; omega)]
      · rw [if_neg c, if_pos (by simp; omega)])
    (fun a v ha => by
      simp only [fX2_contradictions_L14]
      rw [if_pos (by decide)])
    (fun a v ha => by
      simp only [fX2_contradictions_L4]
      rw [if_neg (by rw [l8, nI_leI (by decide) (by omega)]; omega)]
      rfl)
    (fun v => by
      simp only [fX2_contradictions_L4]
      rw [if_pos (by decide)])
  unfold fX2_contradictions
  rw [h, Option.bind_some]
  rfl
theorem c_told {N : Nat} (b0 : Bool) (hN : N = 64) (hn : ∀ a b, nm a b ≤ 4) (ht : ∀ k, k < 64 → t k ≤ 4) (h19 : namC sg nm) (h25 : ∀ k, k < 64 → rd sg 25 k = nI (t k)) : fX7_toldLinks (b2i b0) sg = some (nI (fb_ct (upB fun k => (!(decide (nmk nm k = 0)) && (!(decide (t k = 0)) && (decide (t k = nmk nm k) == b0)))) N)) := by
  have h := dbl (sI := fun a t => fX7_toldLinks_L15 (b2i b0) a sg t.1 t.2) (sO := fun t => fX7_toldLinks_L4 (b2i b0) sg t.1 t.2) (P := upB fun k => (!(decide (nmk nm k = 0)) && (!(decide (t k = 0)) && (decide (t k = nmk nm k) == b0)))) hN upB_no
    (fun a b v ha hb hab => by
      have z := hn a b
      have y := ht (8 * a + b) (by omega)
      rw [upB_at hb hab, nmk_at hb]
      simp only [fX7_toldLinks_L15, fX7_toldLinks_L15_J75, fX7_toldLinks_L15_J82]
      rw [if_neg (by rw [l8, nI_leI (by decide) (by omega)]; omega)]
      simp (disch := omega) only [l8, nI_mul, nI_add, inb_nI, gd_t, nI_clamp, lt_d]
      rw [Nat.mul_comm a 8, h19 a b ha hb, h25 _ (by omega)]
      have c1 : (nI (nm a b) = 0) ↔ nm a b = 0 := nI_eq (b := 0) (by omega) (by decide)
      have c2 : (nI (t (8 * a + b)) = 0) ↔ t (8 * a + b) = 0 := nI_eq (b := 0) (by omega) (by decide)
      have c3 : (nI (t (8 * a + b)) = nI (nm a b)) ↔ t (8 * a + b) = nm a b := nI_eq (by omega) (by omega)
      simp only [c1, c2, c3]
      by_cases e1 : nm a b = 0
      · simp [e1]
      · by_cases e2 : t (8 * a + b) = 0
        · simp [e1, e2]
        · by_cases e3 : t (8 * a + b) = nm a b
          · cases b0 <;> simp [e1, e3, b2i]
          · cases b0 <;> simp [e1, e2, e3, b2i])
    (fun a v ha => by
      simp only [fX7_toldLinks_L15]
      rw [if_pos (by decide)])
    (fun a v ha => by
      simp only [fX7_toldLinks_L4]
      rw [if_neg (by rw [l8, nI_leI (by decide) (by omega)]; omega)]
      rfl)
    (fun v => by
      simp only [fX7_toldLinks_L4]
      rw [if_pos (by decide)])
  unfold fX7_toldLinks
  rw [h, Option.bind_some]
  rfl
end CC
