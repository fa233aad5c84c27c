/-! numbers, bits and loops, as the printed functions use them -/
theorem gd_t {α : Type} {x : Option α} : gd true x = x := rfl
theorem lt_d {α β : Type} {x : α} {f : α → Option β} : lt x f = f x := rfl
theorem ltP_d {α β γ : Type} {p : α × β} {f : α → β → Option γ} : ltP p f = f p.1 p.2 := rfl
theorem inb_nI {k n : Nat} (h : k < n) (hn : n < 2147483648) : inb (nI k) n = true := by
  unfold inb
  rw [nI_clamp (by omega)]
  simp [h, nI_pos (show k < 2 ^ 31 by omega)]
theorem nI_mul (a b : Nat) : nI a * nI b = nI (a * b) := (Int32.ofNat_mul a b).symm
theorem nI_sub {a b : Nat} (h : b ≤ a) : nI a - nI b = nI (a - b) := by
  obtain ⟨k, rfl⟩ : ∃ k, a = b + k := ⟨a - b, by omega⟩
  rw [← nI_add, Nat.add_sub_cancel_left, Int32.add_comm, Int32.add_sub_cancel]
theorem bt_nI {n i : Nat} (hi : i < 32) : bt (nI n) i = n.testBit i := by
  unfold bt
  show (BitVec.ofNat 32 n).getLsbD i = _
  rw [BitVec.getLsbD_ofNat]
  simp [hi]
theorem tb_big {n i : Nat} (h : n < 2 ^ i) {j : Nat} (hj : i ≤ j) : n.testBit j = false := Nat.testBit_lt_two_pow (Nat.lt_of_lt_of_le h (Nat.pow_le_pow_right (by decide) hj))
theorem nI_shr {x k : Nat} (hx : x < 2147483648) (hk : k < 32) : nI x >>> (nI k &&& 31) = nI (x >>> k) := by
  apply b_ext
  intro i hi
  rw [b_sshr k hk _ hi, bt_nI hi, Nat.testBit_shiftRight]
  split
  · rename_i h; rw [bt_nI h]
  · rename_i h
    rw [bt_nI (by decide), tb_big (i := 31) (by omega) (by decide), tb_big (i := 31) (by omega) (by omega)]
theorem nI_pow {k : Nat} (hk : k < 31) : (1 : Int32) <<< (nI k &&& 31) = nI (2 ^ k) := by
  apply b_ext
  intro i hi
  rw [b_shl k (by omega) _ hi, bt_nI hi, Nat.testBit_two_pow, show (1 : Int32) = nI 1 from rfl]
  by_cases h : k ≤ i
  · rw [bt_nI (by omega), show (1 : Nat) = 2 ^ 0 from rfl, Nat.testBit_two_pow]
    simp only [h, decide_true, Bool.true_and]
    congr 1
    simp only [eq_iff_iff]
    omega
  · simp [h]
    omega
def b2i (b : Bool) : Int32 := if b then 1 else 0
theorem b2i_0 {b : Bool} : (b2i b = 0) = (b = false) := by cases b <;> simp [b2i]
theorem b2i_t : b2i true = 1 := rfl
theorem b2i_f : b2i false = 0 := rfl
theorem zb_b2i (b : Bool) : zb (b2i b) = true := by cases b <;> rfl
theorem nI_bit {x k : Nat} (hx : x < 2147483648) (hk : k < 32) : (nI x >>> (nI k &&& 31)) &&& 1 = b2i (x.testBit k) := by
  rw [nI_shr hx hk, show (1 : Int32) = nI 1 from rfl, fa_and, Nat.and_one_is_mod]
  rw [Nat.testBit_eq_decide_div_mod_eq, Nat.shiftRight_eq_div_pow]
  have : x / 2 ^ k % 2 = 0 ∨ x / 2 ^ k % 2 = 1 := by omega
  rcases this with h | h <;> rw [h] <;> rfl
theorem b2i_1 {b : Bool} : (b2i b = 1) = (b = true) := by cases b <;> simp [b2i]
theorem has8 {x k : Nat} (hx : x < 2147483648) (hk : k < 32) : fX8_has (nI x) (nI k) = some (b2i (x.testBit k)) := by
  unfold fX8_has fX8_has_J14
  rw [nI_bit hx hk]
  simp only [b2i_1]
  cases x.testBit k <;> rfl
theorem has0 {x k : Nat} (hx : x < 2147483648) (hk : k < 32) : fX0_has (nI x) (nI k) = some (b2i (x.testBit k)) := by
  unfold fX0_has fX0_has_J14
  rw [nI_bit hx hk]
  simp only [b2i_1]
  cases x.testBit k <;> rfl
/-- a loop that counts to N -/
theorem lpS_run {T : Type} {step : T → Option (T ⊕ T)} {Q : T → Prop} (N : Nat) (I : Nat → T → Prop) (hs : ∀ j t, j < N → I j t → ∃ u, step t = some (.inr u) ∧ I (j + 1) u) (he : ∀ t, I N t → ∃ u, step t = some (.inl u) ∧ Q u) : ∀ (n j : Nat) (t : T), j ≤ N → N < n + j → I j t → ∃ u, lpS step n t = some u ∧ Q u := by
  intro n
  induction n with
  | zero => intro j t h1 h2; omega
  | succ n ih =>
    intro j t h1 h2 hI
    rcases Nat.lt_or_ge j N with h | h
    · obtain ⟨u, hu, hI2⟩ := hs j t h hI
      obtain ⟨v, hv, hQ⟩ := ih (j + 1) u h (by omega) hI2
      refine ⟨v, ?_, hQ⟩
      unfold lpS
      rw [hu]
      exact hv
    · have : j = N := by omega
      subst this
      obtain ⟨u, hu, hQ⟩ := he t hI
      refine ⟨u, ?_, hQ⟩
      unfold lpS
      rw [hu]
theorem lpS_for {T : Type} {step : T → Option (T ⊕ T)} {Q : T → Prop} (N : Nat) (I : Nat → T → Prop) {t0 : T} (h0 : I 0 t0) (hs : ∀ j t, j < N → I j t → ∃ u, step t = some (.inr u) ∧ I (j + 1) u) (he : ∀ t, I N t → ∃ u, step t = some (.inl u) ∧ Q u) (hN : N < 300) : ∃ u, lpS step 300 t0 = some u ∧ Q u := lpS_run N I hs he 300 0 t0 (Nat.zero_le N) (by omega) h0
theorem lpS_det {T : Type} {step : T → Option (T ⊕ T)} {u : T} (N : Nat) (st : Nat → T) (hs : ∀ j, j < N → step (st j) = some (.inr (st (j + 1)))) (he : step (st N) = some (.inl u)) (hN : N < 300) : lpS step 300 (st 0) = some u := by
  obtain ⟨v, h1, h2⟩ := lpS_for (Q := fun v => v = u) N (fun j t => t = st j) (t0 := st 0) rfl (fun j t hj ht => ⟨_, by rw [ht]; exact hs j hj, rfl⟩) (fun t ht => ⟨u, by rw [ht]; exact he, rfl⟩) hN
  rw [h1, h2]
/-- one bits among the first eight -/
def pc8 (x : Nat) : Nat := fb_ct (fun k => x.testBit k) 8
theorem ones8 {x : Nat} (hx : x < 2147483648) : fX8_ones (nI x) = some (nI (pc8 x)) := by
  unfold fX8_ones
  have h := lpS_det (step := fun t => fX8_ones_L4 (nI x) t.1 t.2) (u := (nI (pc8 x), nI 8)) 8 (fun j => (nI (fb_ct (fun k => x.testBit k) j), nI j)) (fun j hj => by
    simp only [fX8_ones_L4]
    rw [if_neg (by rw [show (8 : Int32) = nI 8 from rfl, nI_leI (by decide) (by omega)]; omega), lt_d, nI_bit hx (by omega), fb_ct_succ, ← nI_1]
    congr 4
    cases x.testBit j <;> simp [b2i, nI_1]) (by
    simp only [fX8_ones_L4]
    rw [if_pos (by decide)]
    rfl) (by decide)
  have h0 : ((0 : Int32), (0 : Int32)) = (nI (fb_ct (fun k => x.testBit k) 0), nI 0) := rfl
  rw [h0, h]
  rfl
theorem bcnt : ∀ x, x < 256 → fJ6_bitCount_0f7a4 (nI x) = some (nI (pc8 x)) := by decide +kernel
theorem pc8_le (x : Nat) : pc8 x ≤ 8 := fb_ct_le _ 8
