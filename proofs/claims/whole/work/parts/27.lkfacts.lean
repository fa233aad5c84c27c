/-! what holds of links -/
theorem jn_bit {a b c d : Nat} {f : Nat → Nat} (hab : a ≠ b) : (jn a b f c).testBit d = ((f c).testBit d || (decide (c = a) && decide (d = b)) || (decide (c = b) && decide (d = a))) := by
  unfold jn up
  by_cases h1 : c = b
  · subst h1
    rw [if_pos rfl, if_neg (fun z => hab z.symm), fb_bit_set]
    have hca : ¬ c = a := fun z => hab z.symm
    simp [hca]
  · rw [if_neg h1]
    by_cases h2 : c = a
    · subst h2
      rw [if_pos rfl, fb_bit_set]
      simp [h1]
    · rw [if_neg h2]
      simp [h1, h2]
theorem or_lt {a b : Nat} (ha : a < 256) (hb : b < 8) : a ||| 2 ^ b < 256 := Nat.or_lt_two_pow (n := 8) ha (Nat.pow_lt_pow_right (by decide) hb)
theorem jn_lt {a b : Nat} {f : Nat → Nat} (ha : a < 8) (hb : b < 8) (h : ∀ c, f c < 256) (c : Nat) : jn a b f c < 256 := by
  unfold jn up
  split
  · split
    · exact or_lt (or_lt (h _) hb) ha
    · exact or_lt (h _) ha
  · split
    · exact or_lt (h _) hb
    · exact h c
theorem jp_lt {a b c : Nat} {f : Nat → Nat} (ha : a < 8) (hc : c < 8) (h : ∀ c, f c < 256) (d : Nat) : jp a b c f d < 256 := by
  unfold jp up
  split
  · exact Nat.or_lt_two_pow (n := 8) (h _) (Nat.or_lt_two_pow (n := 8) (Nat.pow_lt_pow_right (by decide) ha) (Nat.pow_lt_pow_right (by decide) hc))
  · exact h d
/-- links: within eight bits, either way alike, none with itself, only of nets that are seen -/
def gdL (f : Nat → Nat) (x : Nat) : Prop := (∀ c, f c < 256) ∧ (∀ c d, (f c).testBit d = (f d).testBit c) ∧ (∀ c, (f c).testBit c = false) ∧ ∀ c d, (f c).testBit d = true → x.testBit c = true
theorem gdL_jn {a b x : Nat} {f : Nat → Nat} (h : gdL f x) (ha : a < 8) (hb : b < 8) (hab : a ≠ b) (xa : x.testBit a = true) (xb : x.testBit b = true) : gdL (jn a b f) x := by
  obtain ⟨h1, h2, h3, h4⟩ := h
  refine ⟨jn_lt ha hb h1, fun c d => ?_, fun c => ?_, fun c d hc => ?_⟩
  · rw [jn_bit hab, jn_bit hab, h2 c d]
    by_cases e1 : c = a <;> by_cases e2 : d = b <;> by_cases e3 : c = b <;> by_cases e4 : d = a <;> simp [e1, e2, e3, e4]
  · rw [jn_bit hab, h3 c]
    by_cases e1 : c = a <;> by_cases e3 : c = b <;> simp [e1, e3] <;> omega
  · rw [jn_bit hab] at hc
    simp only [Bool.or_eq_true, Bool.and_eq_true, decide_eq_true_eq] at hc
    rcases hc with (hc | ⟨rfl, -⟩) | ⟨rfl, -⟩
    · exact h4 c d hc
    · exact xa
    · exact xb
theorem rowS_bit {r : Nat → Nat} {x d : Nat} : ∀ n, (rowS r n x).testBit d = true ↔ (x.testBit d = true ∨ ∃ i, i < n ∧ r i = d)
  | 0 => by simp [rowS, it]
  | n + 1 => by
    have ih := rowS_bit (r := r) (x := x) (d := d) n
    show (rowS r n x ||| 2 ^ r n).testBit d = true ↔ _
    rw [fb_bit_set, Bool.or_eq_true, ih, decide_eq_true_eq]
    constructor
    · rintro ((h | ⟨i, h1, h2⟩) | h)
      · exact Or.inl h
      · exact Or.inr ⟨i, by omega, h2⟩
      · exact Or.inr ⟨n, by omega, h.symm⟩
    · rintro (h | ⟨i, h1, h2⟩)
      · exact Or.inl (Or.inl h)
      · rcases Nat.lt_or_ge i n with h3 | h3
        · exact Or.inl (Or.inr ⟨i, h3, h2⟩)
        · exact Or.inr (by rw [← h2, show i = n by omega])
theorem rowS_lt {r : Nat → Nat} {x : Nat} (hx : x < 256) : ∀ n, (∀ i, i < n → r i < 8) → rowS r n x < 256
  | 0, _ => hx
  | n + 1, h => or_lt (rowS_lt hx n (fun i hi => h i (by omega))) (h n (by omega))
theorem rowL_gd {r f : Nat → Nat} {x n : Nat} (h : gdL f x) (hr : ∀ i, i < n → r i < 8) (hi : ∀ i j, i < n → j < n → r i = r j → i = j) (hx : ∀ i, i < n → x.testBit (r i) = true) : ∀ k, k ≤ n - 1 → gdL (rowL r k f) x
  | 0, _ => h
  | k + 1, hk => gdL_jn (rowL_gd h hr hi hx k (by omega)) (hr k (by omega)) (hr (k + 1) (by omega)) (fun z => by have := hi k (k + 1) (by omega) (by omega) z; omega) (hx k (by omega)) (hx (k + 1) (by omega))
theorem rowP_lt {r f : Nat → Nat} {n : Nat} (h : ∀ c, f c < 256) (hr : ∀ i, i < n → r i < 8) : ∀ k, k ≤ n - 2 → ∀ c, rowP r k f c < 256
  | 0, _ => h
  | k + 1, hk => jp_lt (hr k (by omega)) (hr (k + 2) (by omega)) (rowP_lt h hr k (by omega))
theorem lk_facts {W : Nat} {bl : Nat → Nat} {bn : Nat → Nat → Nat} (hB : okB W bl bn) : ∀ w, w ≤ W → gdL (LKd bl bn w) (SNd bl bn w) ∧ (∀ c, PSd bl bn w c < 256) ∧ SNd bl bn w < 256
  | 0, _ => ⟨⟨fun _ => (by decide : 0 < 256), fun _ _ => by simp [LKd, it], fun _ => by simp [LKd, it], fun _ _ h => by simp [LKd, it] at h⟩, fun _ => (by decide : 0 < 256), (by decide : 0 < 256)⟩
  | w + 1, hw => by
    obtain ⟨h1, h2, h3⟩ := lk_facts hB w (by omega)
    obtain ⟨b1, b2, b3⟩ := hB.2 w (by omega)
    have hsn : ∀ d, (SNd bl bn w).testBit d = true → (SNd bl bn (w + 1)).testBit d = true := fun d hd => (rowS_bit (r := bn w) (x := SNd bl bn w) (d := d) (bl w)).mpr (Or.inl hd)
    have hsi : ∀ i, i < bl w → (SNd bl bn (w + 1)).testBit (bn w i) = true := fun i hi => (rowS_bit (r := bn w) (x := SNd bl bn w) (d := bn w i) (bl w)).mpr (Or.inr ⟨i, hi, rfl⟩)
    refine ⟨rowL_gd (n := bl w) ⟨h1.1, h1.2.1, h1.2.2.1, fun c d hc => hsn c (h1.2.2.2 c d hc)⟩ b2 b3 hsi (bl w - 1) (by omega), rowP_lt h2 b2 (bl w - 2) (by omega), rowS_lt h3 (bl w) b2⟩
theorem sn_bn {W : Nat} {bl : Nat → Nat} {bn : Nat → Nat → Nat} : ∀ W, ∀ w i, w < W → i < bl w → (SNd bl bn W).testBit (bn w i) = true
  | 0, w, i, hw, _ => by omega
  | W + 1, w, i, hw, hi => by
    refine (rowS_bit (r := bn W) (x := SNd bl bn W) (d := bn w i) (bl W)).mpr ?_
    rcases Nat.lt_or_ge w W with h | h
    · exact Or.inl (sn_bn (W := W) W w i h hi)
    · have : w = W := by omega
      subst this
      exact Or.inr ⟨i, hi, rfl⟩
