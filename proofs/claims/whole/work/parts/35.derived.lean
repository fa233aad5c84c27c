/-! votes: how many, of which links; all that follows from the ways, by both -/
theorem fb_ct_one {p : Nat → Bool} {n : Nat} (h : ∀ i j, i < n → j < n → p i = true → p j = true → i = j) : fb_ct p n ≤ 1 := by
  rcases Nat.lt_or_ge 1 (fb_ct p n) with q | q
  · obtain ⟨i, h1, h2, h3⟩ := fb_ct_kth (p := p) (k := 0) (n := n) (by omega)
    obtain ⟨j, k1, k2, k3⟩ := fb_ct_kth (p := p) (k := 1) (n := n) q
    have := h i j h1 k1 h2 k2
    rw [this, k3] at h3
    omega
  · exact q
theorem vst_le {tp h a b i : Nat} {f : Nat → Nat} (k : Nat) : vst tp h a b i f k ≤ f k + (if decide (8 * a + b = k) || decide (8 * b + a = k) then 1 else 0) := by
  unfold vst
  split
  · exact Nat.le_add_right _ _
  · split
    · by_cases hk : k = 8 * a + b
      · subst hk; simp [up]
      · simp only [up, if_neg hk]; exact Nat.le_add_right _ _
    · by_cases hk : k = 8 * b + a
      · subst hk; simp [up]
      · simp only [up, if_neg hk]; exact Nat.le_add_right _ _
theorem rowV_le {tp h : Nat} {r f : Nat → Nat} {k : Nat} : ∀ n, rowV tp h r n f k ≤ f k + fb_ct (fun i => decide (8 * r i + r (i + 1) = k) || decide (8 * r (i + 1) + r i = k)) n
  | 0 => Nat.le_refl _
  | n + 1 => by
    have ih := rowV_le (tp := tp) (h := h) (r := r) (f := f) (k := k) n
    have h2 := vst_le (tp := tp) (h := h) (a := r n) (b := r (n + 1)) (i := n) (f := rowV tp h r n f) k
    show vst tp h (r n) (r (n + 1)) n (rowV tp h r n f) k ≤ _
    rw [fb_ct_succ]
    omega
theorem vt_le {W tp : Nat} {pl : Nat → Nat} {bl : Nat → Nat} {bn : Nat → Nat → Nat} (hB : okB W bl bn) (k : Nat) : ∀ w, w ≤ W → VTd tp pl bl bn w k ≤ w
  | 0, _ => Nat.le_refl 0
  | w + 1, hw => by
    obtain ⟨b1, b2, b3⟩ := hB.2 w (by omega)
    have ih := vt_le (tp := tp) (pl := pl) hB k w (by omega)
    have h1 := rowV_le (tp := tp) (h := hlN (fun i => pl (bn w i)) (bl w)) (r := bn w) (f := VTd tp pl bl bn w) (k := k) (bl w - 1)
    have h2 : fb_ct (fun i => decide (8 * bn w i + bn w (i + 1) = k) || decide (8 * bn w (i + 1) + bn w i = k)) (bl w - 1) ≤ 1 := fb_ct_one (fun i j hi hj p1 p2 => by
      simp only [Bool.or_eq_true, decide_eq_true_eq] at p1 p2
      have c1 := b2 i (by omega)
      have c2 := b2 (i + 1) (by omega)
      have c3 := b2 j (by omega)
      have c4 := b2 (j + 1) (by omega)
      have key : (bn w i = bn w j ∧ bn w (i + 1) = bn w (j + 1)) ∨ (bn w i = bn w (j + 1) ∧ bn w (i + 1) = bn w j) := by omega
      rcases key with ⟨k1, -⟩ | ⟨k1, k2⟩
      · exact b3 i j (by omega) (by omega) k1
      · have e1 := b3 i (j + 1) (by omega) (by omega) k1
        have e2 := b3 (i + 1) j (by omega) (by omega) k2
        omega)
    show rowV tp (hlN (fun i => pl (bn w i)) (bl w)) (bn w) (bl w - 1) (VTd tp pl bl bn w) k ≤ _
    omega
theorem rowV_lk {tp h : Nat} {r f g : Nat → Nat} {n : Nat} (hr : ∀ i, i < n → r i < 8) (hi : ∀ i j, i < n → j < n → r i = r j → i = j) (hfg : ∀ a b, a < 8 → b < 8 → 0 < f (8 * a + b) → (g a).testBit b = true) : ∀ k, k ≤ n - 1 → ∀ a b, a < 8 → b < 8 → 0 < rowV tp h r k f (8 * a + b) → (rowL r k g a).testBit b = true
  | 0, _ => hfg
  | k + 1, hk => by
    intro a b ha hb hp
    have ih := rowV_lk (tp := tp) (h := h) hr hi hfg k (by omega)
    have c1 := hr k (by omega)
    have c2 := hr (k + 1) (by omega)
    have hne : r k ≠ r (k + 1) := fun z => by have := hi k (k + 1) (by omega) (by omega) z; omega
    show (jn (r k) (r (k + 1)) (rowL r k g) a).testBit b = true
    rw [jn_bit hne]
    have hp : 0 < vst tp h (r k) (r (k + 1)) k (rowV tp h r k f) (8 * a + b) := hp
    have hle := vst_le (tp := tp) (h := h) (a := r k) (b := r (k + 1)) (i := k) (f := rowV tp h r k f) (8 * a + b)
    by_cases q : 0 < rowV tp h r k f (8 * a + b)
    · rw [ih a b ha hb q]; rfl
    · have : (8 * r k + r (k + 1) = 8 * a + b) ∨ (8 * r (k + 1) + r k = 8 * a + b) := by
        split at hle
        · rename_i c
          simpa using c
        · omega
      have : (a = r k ∧ b = r (k + 1)) ∨ (a = r (k + 1) ∧ b = r k) := by omega
      rcases this with ⟨h1, h2⟩ | ⟨h1, h2⟩ <;> simp [h1, h2]
theorem vt_lk {W tp : Nat} {pl : Nat → Nat} {bl : Nat → Nat} {bn : Nat → Nat → Nat} (hB : okB W bl bn) : ∀ w, w ≤ W → ∀ a b, a < 8 → b < 8 → 0 < VTd tp pl bl bn w (8 * a + b) → (LKd bl bn w a).testBit b = true
  | 0, _ => fun a b _ _ h => by simp [VTd, it] at h
  | w + 1, hw => by
    obtain ⟨b1, b2, b3⟩ := hB.2 w (by omega)
    exact rowV_lk (n := bl w) b2 b3 (vt_lk (tp := tp) (pl := pl) hB w (by omega)) (bl w - 1) (by omega)
section SP
variable (W ex : Nat) (len : Nat → Nat) (net : Nat → Nat → Nat)
def sLK : Nat → Nat := LKd (BLd ex len net) (BNd ex len net) W
def sOF : Nat → Nat := OFd (BLd ex len net) (BNd ex len net) W
def sPS : Nat → Nat := PSd (BLd ex len net) (BNd ex len net) W
def sSN : Nat := SNd (BLd ex len net) (BNd ex len net) W
def sTR : Nat → Nat := fun a => pc8 (sPS W ex len net a)
def sDG : Nat → Nat := fun a => pc8 (sLK W ex len net a)
def sPL : Nat → Nat := PLd (sSN W ex len net) (sTR W ex len net) (sDG W ex len net)
def sTP : Nat := TPd (sSN W ex len net) (sLK W ex len net) (sTR W ex len net) (sDG W ex len net)
def sVT : Nat → Nat := VTd (sTP W ex len net) (sPL W ex len net) (BLd ex len net) (BNd ex len net) W
def sNM : Nat → Nat → Nat := nmD (sTP W ex len net) (sLK W ex len net) (sVT W ex len net)
def sRK : Nat → Nat := RKd (sSN W ex len net) (sTR W ex len net) (sDG W ex len net)
def derC (sg : Sg) : Prop := cutC sg W (BLd ex len net) (BNd ex len net) ∧ arr sg 9 8 (sLK W ex len net) ∧ arr sg 13 64 (sOF W ex len net) ∧ rd sg 8 5 = nI (sSN W ex len net) ∧ arr sg 11 8 (sDG W ex len net) ∧ arr sg 12 8 (sTR W ex len net) ∧ rd sg 14 2 = nI (pc8 (sSN W ex len net)) ∧ rd sg 14 3 = nI (sTP W ex len net) ∧ (∀ a, a < 8 → rd sg 16 a = plI (sSN W ex len net) (sTR W ex len net) (sDG W ex len net) a) ∧ (∀ p, p < pc8 (sSN W ex len net) → rd sg 15 p = nI (sRK W ex len net p)) ∧ arr sg 18 64 (sVT W ex len net) ∧ namC sg (sNM W ex len net) ∧ (∀ a, a < 8 → rd sg 20 a = nI (PYd (sTP W ex len net) (sLK W ex len net) (sVT W ex len net) a 8)) ∧ ∀ s e, s < 16 → e < 8 → rd sg 22 (8 * s + e) = few (sSN W ex len net) (sNM W ex len net) 15 s e
def derM (sg : Sg) : Prop := bareM sg W (BLd ex len net) (BNd ex len net) ∧ arr sg 7 8 (sLK W ex len net) ∧ arr sg 12 64 (sOF W ex len net) ∧ rd sg 0 13 = nI (sSN W ex len net) ∧ arr sg 8 8 (sPS W ex len net) ∧ rd sg 0 15 = nI (pc8 (sSN W ex len net)) ∧ rd sg 0 17 = nI (sTP W ex len net) ∧ (∀ a, a < 8 → rd sg 10 a = plI (sSN W ex len net) (sTR W ex len net) (sDG W ex len net) a) ∧ (∀ p, p < pc8 (sSN W ex len net) → rd sg 9 p = nI (sRK W ex len net p)) ∧ arr sg 11 64 (sVT W ex len net) ∧ ∀ a b, a < 8 → b < 8 → rd sg 13 (8 * a + b) = nI (sNM W ex len net a b)
end SP
section SPF
variable {W ex : Nat} {len : Nat → Nat} {net : Nat → Nat → Nat}
theorem s_gd (h : okW W len net) : gdL (sLK W ex len net) (sSN W ex len net) := (lk_facts (okB_of (ex := ex) h) W (Nat.le_refl W)).1
theorem s_ps (h : okW W len net) : ∀ c, sPS W ex len net c < 256 := (lk_facts (okB_of (ex := ex) h) W (Nat.le_refl W)).2.1
theorem s_sn (h : okW W len net) : sSN W ex len net < 256 := (lk_facts (okB_of (ex := ex) h) W (Nat.le_refl W)).2.2
theorem s_tr : ∀ k, sTR W ex len net k ≤ 8 := fun k => pc8_le _
theorem s_dg : ∀ k, sDG W ex len net k ≤ 8 := fun k => pc8_le _
theorem s_pl : ∀ k, sPL W ex len net k ≤ 8 := fun k => pl_le
theorem s_tp : sTP W ex len net < 256 := by
  unfold sTP TPd
  split
  · decide
  · rename_i h
    exact bst_lt (rk_ok (by omega)).1 255 (by decide)
theorem s_vt (h : okW W len net) : ∀ k, sVT W ex len net k ≤ 12 := fun k => Nat.le_trans (vt_le (okB_of (ex := ex) h) k W (Nat.le_refl W)) h.1
theorem s_vl (h : okW W len net) : ∀ a b, a < 8 → b < 8 → 0 < sVT W ex len net (8 * a + b) → (sLK W ex len net a).testBit b = true := vt_lk (okB_of (ex := ex) h) W (Nat.le_refl W)
theorem s_nm : ∀ a b, sNM W ex len net a b ≤ 4 := fun a b => nmD_le
theorem s_bn (h : okW W len net) : ∀ w i, w < W → i < BLd ex len net w → (sSN W ex len net).testBit (BNd ex len net w i) = true := fun w i hw hi => sn_bn (W := W) W w i hw hi
theorem s_plI {a : Nat} (ha : (sSN W ex len net).testBit a = true) : plI (sSN W ex len net) (sTR W ex len net) (sDG W ex len net) a = nI (sPL W ex len net a) := by
  unfold plI
  rw [ha]
  rfl
set_option maxHeartbeats 1000000 in
theorem c_refresh {sg : Sg} (hO : okW W len net) (hw : wayC sg W len net) (hex : ex < 256) (hx : rd sg 0 7 = nI ex) : ∃ g, fX7_refresh sg = some g ∧ derC W ex len net g ∧ same [6, 7, 8, 9, 10, 11, 12, 13, 14, 15, 16, 18, 19, 20, 22, 23, 24] g sg := by
  have hB := okB_of (ex := ex) hO
  obtain ⟨g1, e1, p1, p2⟩ := c_cut hO hw hex
  obtain ⟨g2, e2, q1, q2, q3, q4, q5, q6, q7⟩ := c_links (sg := g1) hB ((p2 3 (by simp) 4).trans hw.1) p1 (fun a _ => (s_gd (ex := ex) hO).1 a) (fun a _ => s_ps (ex := ex) hO a)
  have q1 : arr g2 9 8 (sLK W ex len net) := q1
  have q5 : arr g2 11 8 (sDG W ex len net) := q5
  have q6 : arr g2 12 8 (sTR W ex len net) := q6
  have q4 : rd g2 8 5 = nI (sSN W ex len net) := q4
  obtain ⟨g3, e3, r1, r2, r3, r4, r5⟩ := c_order (sg := g2) (s_sn (ex := ex) hO) s_tr s_dg q1 q6 q5 q4
  have r2 : rd g3 14 3 = nI (sTP W ex len net) := r2
  have c3 : cutC g3 W (BLd ex len net) (BNd ex len net) := fun w hw' => ⟨((r5 7 (by simp) w).trans (q7 7 (by simp) w)).trans (p1 w hw').1, fun i hi => ((r5 6 (by simp) _).trans (q7 6 (by simp) _)).trans ((p1 w hw').2 i hi)⟩
  obtain ⟨g4, e4, t1, t2, t3, t4⟩ := c_names (sg := g3) (tp := sTP W ex len net) (pl := sPL W ex len net) (lk := sLK W ex len net) hB s_tp s_pl (s_gd (ex := ex) hO).1 (fun k => Nat.le_trans (s_vt (ex := ex) hO k) (by decide)) (((r5 3 (by simp) 4).trans (q7 3 (by simp) 4)).trans ((p2 3 (by simp) 4).trans hw.1)) c3 (fun w i hw' hi => by rw [r3 _ ((hB.2 w hw').2.1 i hi)]; exact s_plI (s_bn hO w i hw' hi)) r2 (r5.arr (by simp) q1)
  have t2 : namC g4 (sNM W ex len net) := t2
  have h85 : rd g4 8 5 = nI (sSN W ex len net) := ((t4 8 (by simp) 5).trans (r5 8 (by simp) 5)).trans q4
  obtain ⟨g5, e5, u1, u2⟩ := c_rows (sg := g4) (s_sn (ex := ex) hO) s_nm t2
  refine ⟨g5, ?_, ⟨?_, ?_, ?_, ?_, ?_, ?_, ?_, ?_, ?_, ?_, ?_, ?_, ?_, u1⟩, ?_⟩
  · unfold fX7_refresh
    rw [hx, e1, Option.bind_some, e2, Option.bind_some, e3, Option.bind_some, e4, Option.bind_some, h85, e5, Option.bind_some]
  · exact fun w hw' => ⟨((u2 7 (by simp) w).trans (t4 7 (by simp) w)).trans (c3 w hw').1, fun i hi => ((u2 6 (by simp) _).trans (t4 6 (by simp) _)).trans ((c3 w hw').2 i hi)⟩
  · exact u2.arr (by simp) (t4.arr (by simp) (r5.arr (by simp) q1))
  · exact u2.arr (by simp) (t4.arr (by simp) (r5.arr (by simp) q2))
  · exact (u2 8 (by simp) 5).trans h85
  · exact u2.arr (by simp) (t4.arr (by simp) (r5.arr (by simp) q5))
  · exact u2.arr (by simp) (t4.arr (by simp) (r5.arr (by simp) q6))
  · exact ((u2 14 (by simp) 2).trans (t4 14 (by simp) 2)).trans r1
  · exact ((u2 14 (by simp) 3).trans (t4 14 (by simp) 3)).trans r2
  · exact fun a ha => ((u2 16 (by simp) a).trans (t4 16 (by simp) a)).trans (r3 a ha)
  · exact fun p hp => ((u2 15 (by simp) p).trans (t4 15 (by simp) p)).trans (r4 p hp)
  · exact u2.arr (by simp) t1
  · exact fun a b ha hb => (u2 19 (by simp) _).trans (t2 a b ha hb)
  · exact fun a ha => (u2 20 (by simp) a).trans (t3 a ha)
  · refine (u2.tr (t4.tr (r5.tr (q7.tr p2 (l3 := [6, 7, 8, 9, 10, 11, 12, 13]) (by simp) (by simp)) (l3 := [6, 7, 8, 9, 10, 11, 12, 13, 14, 15, 16]) (by simp) (by simp)) (l3 := [6, 7, 8, 9, 10, 11, 12, 13, 14, 15, 16, 18, 19, 20]) (by simp) (by simp)) (by simp) (by simp))
set_option maxHeartbeats 1000000 in
theorem m_lay {sg : Sg} (hO : okW W len net) (hw : wayM sg W len net) (hex : ex < 256) (hx : rd sg 0 5 = nI ex) (hl : rd sg 0 8 = 0 ∨ (rd sg 0 8 = 1 ∧ derM W ex len net sg)) : ∃ g, fX8_lay sg = some g ∧ rd g 0 8 = 1 ∧ derM W ex len net g ∧ sam [5, 6, 7, 8, 9, 10, 11, 12, 13] [8, 13, 15, 17] g sg := by
  rcases hl with hl | ⟨hl, hd⟩
  · have hB := okB_of (ex := ex) hO
    have s0 : sam [] [8] (wr sg 0 8 (1 : Int32)) sg := sam.rf.wr (by simp)
    obtain ⟨g1, e1, p1, p2, p3, p4, p5, p6, p7⟩ := m_layWays (sg := wr sg 0 8 (1 : Int32)) hO (hw.of s0 (by simp) (by simp) (by simp) (by simp)) hex ((s0 0 5 (by simp) (by simp)).trans hx)
    have p2 : arr g1 7 8 (sLK W ex len net) := p2
    have p4 : arr g1 8 8 (sPS W ex len net) := p4
    have p5 : rd g1 0 13 = nI (sSN W ex len net) := p5
    obtain ⟨g2, e2, q1, q2, q3, q4⟩ := m_ranks (sg := g1) (s_sn (ex := ex) hO) (s_gd (ex := ex) hO).1 (s_ps (ex := ex) hO) p2 p4 p5
    obtain ⟨g3, e3, r1, r2⟩ := m_top (sg := g2) (tr := sTR W ex len net) (s_sn (ex := ex) hO) (s_gd (ex := ex) hO) (q4.arr (by simp) (by simp) p2) ((q4 0 13 (by simp) (by simp)).trans p5) q1 q3
    have r1 : rd g3 0 17 = nI (sTP W ex len net) := r1
    have b3 : bareM g3 W (BLd ex len net) (BNd ex len net) := (p1.of q4 (by simp) (by simp)).of r2 (by simp) (by simp)
    obtain ⟨g4, e4, t1, t2⟩ := m_votes (sg := g3) (tp := sTP W ex len net) (pl := sPL W ex len net) hB s_tp s_pl ((r2 0 2 (by simp) (by simp)).trans ((q4 0 2 (by simp) (by simp)).trans ((p7 0 2 (by simp) (by simp)).trans ((s0 0 2 (by simp) (by simp)).trans hw.1)))) b3 (fun w i hw' hi => by rw [r2 10 _ (by simp) (by simp), q2 _ ((hB.2 w hw').2.1 i hi)]; exact s_plI (s_bn hO w i hw' hi)) r1 (r2.arr (by simp) (by simp) (q4.arr (by simp) (by simp) p6))
    have t1 : arr g4 11 64 (sVT W ex len net) := t1
    have l4 : arr g4 7 8 (sLK W ex len net) := t2.arr (by simp) (by simp) (r2.arr (by simp) (by simp) (q4.arr (by simp) (by simp) p2))
    obtain ⟨t5, e5, u1, u2⟩ := m_names (sg := g4) (tp := sTP W ex len net) s_tp (s_gd (ex := ex) hO).1 (fun k => Nat.le_trans (s_vt (ex := ex) hO k) (by decide)) l4 t1 ((t2 0 17 (by simp) (by simp)).trans r1)
    have sA : sam [5, 6, 7, 8, 11, 12] [8, 13] g1 sg := p7.tr s0 (by simp) (by simp) (by simp) (by simp)
    have sB : sam [5, 6, 7, 8, 9, 10, 11, 12] [8, 13, 15] g2 sg := q4.tr sA (by simp) (by simp) (by simp) (by simp)
    have sC : sam [5, 6, 7, 8, 9, 10, 11, 12] [8, 13, 15, 17] g3 sg := r2.tr sB (by simp) (by simp) (by simp) (by simp)
    have sD : sam [5, 6, 7, 8, 9, 10, 11, 12] [8, 13, 15, 17] g4 sg := t2.tr sC (by simp) (by simp) (by simp) (by simp)
    refine ⟨t5.2, ?_, ?_, ⟨?_, u2.arr (by simp) (by simp) l4, ?_, ?_, ?_, ?_, ?_, ?_, ?_, u2.arr (by simp) (by simp) t1, u1⟩, u2.tr sD (by simp) (by simp) (by simp) (by simp)⟩
    · unfold fX8_lay
      rw [if_pos hl, lt_d, e1, Option.bind_some, e2, Option.bind_some, e3, Option.bind_some, e4, Option.bind_some, e5, Option.bind_some]
      rfl
    · rw [u2 0 8 (by simp) (by simp), t2 0 8 (by simp) (by simp), r2 0 8 (by simp) (by simp), q4 0 8 (by simp) (by simp), p7 0 8 (by simp) (by simp), rd_wr_s]
    · exact (b3.of t2 (by simp) (by simp)).of u2 (by simp) (by simp)
    · exact u2.arr (by simp) (by simp) (t2.arr (by simp) (by simp) (r2.arr (by simp) (by simp) (q4.arr (by simp) (by simp) p3)))
    · rw [u2 0 13 (by simp) (by simp), t2 0 13 (by simp) (by simp), r2 0 13 (by simp) (by simp), q4 0 13 (by simp) (by simp)]; exact p5
    · exact u2.arr (by simp) (by simp) (t2.arr (by simp) (by simp) (r2.arr (by simp) (by simp) (q4.arr (by simp) (by simp) p4)))
    · rw [u2 0 15 (by simp) (by simp), t2 0 15 (by simp) (by simp), r2 0 15 (by simp) (by simp)]; exact q1
    · rw [u2 0 17 (by simp) (by simp), t2 0 17 (by simp) (by simp)]; exact r1
    · exact fun a ha => by rw [u2 10 a (by simp) (by simp), t2 10 a (by simp) (by simp), r2 10 a (by simp) (by simp)]; exact q2 a ha
    · exact fun p hp => by rw [u2 9 p (by simp) (by simp), t2 9 p (by simp) (by simp), r2 9 p (by simp) (by simp)]; exact q3 p hp
  · refine ⟨sg, ?_, hl, hd, sam.rf⟩
    unfold fX8_lay
    rw [if_neg (by rw [hl]; decide)]
end SPF
