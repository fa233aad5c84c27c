/-! rows of numbers in the state; what a link does to them -/
theorem rd_wr (sg : Sg) (q i q2 i2 : Nat) (v : Int32) : rd (wr sg q i v) q2 i2 = if q2 = q ∧ i2 = i then v else rd sg q2 i2 := rfl
def arr (sg : Sg) (q n : Nat) (f : Nat → Nat) : Prop := ∀ i, i < n → rd sg q i = nI (f i)
def up (f : Nat → Nat) (k v : Nat) : Nat → Nat := fun j => if j = k then v else f j
theorem arr_wr {sg : Sg} {q n k v : Nat} {f : Nat → Nat} (h : arr sg q n f) : arr (wr sg q k (nI v)) q n (up f k v) := by
  intro i hi
  rw [rd_wr]
  unfold up
  by_cases hk : i = k
  · simp [hk]
  · simp [hk, h i hi]
theorem arr_ne {sg : Sg} {q q2 n k : Nat} {v : Int32} {f : Nat → Nat} (h : arr sg q n f) (hq : q ≠ q2) : arr (wr sg q2 k v) q n f := by
  intro i hi
  rw [rd_wr, if_neg (fun z => hq z.1), h i hi]
def jn (a b : Nat) (f : Nat → Nat) : Nat → Nat := up (up f a (f a ||| 2 ^ b)) b ((up f a (f a ||| 2 ^ b)) b ||| 2 ^ a)
def jo (a b : Nat) (f : Nat → Nat) : Nat → Nat := up (up f (8 * a + b) (f (8 * a + b) + 1)) (8 * b + a) ((up f (8 * a + b) (f (8 * a + b) + 1)) (8 * b + a) + 1)
def jp (a b c : Nat) (f : Nat → Nat) : Nat → Nat := up f b (f b ||| (2 ^ a ||| 2 ^ c))
theorem p_pow {k : Nat} (hk : k < 31) : nI 1 <<< (nI k &&& nI 31) = nI (2 ^ k) := nI_pow hk
theorem p_bit {x k : Nat} (hx : x < 2147483648) (hk : k < 32) : (nI x >>> (nI k &&& nI 31)) &&& nI 1 = b2i (x.testBit k) := nI_bit hx hk
/-- nothing but these rows has changed -/
def same (l : List Nat) (g sg : Sg) : Prop := ∀ q, q ∉ l → ∀ i, rd g q i = rd sg q i
theorem same.rf {l : List Nat} {sg : Sg} : same l sg sg := fun _ _ _ => rfl
theorem same.wr {l : List Nat} {g sg : Sg} {q i : Nat} {v : Int32} (h : same l g sg) (hq : q ∈ l) : same l (wr g q i v) sg := by
  intro q2 h2 j
  rw [rd_wr, if_neg (show ¬ (q2 = q ∧ j = i) from fun z => h2 (by rw [z.1]; exact hq))]
  exact h q2 h2 j
theorem same.tr {l l2 l3 : List Nat} {a b c : Sg} (h : same l a b) (h2 : same l2 b c) (h3 : ∀ q, q ∈ l → q ∈ l3) (h4 : ∀ q, q ∈ l2 → q ∈ l3) : same l3 a c := fun q hq i => (h q (fun z => hq (h3 q z)) i).trans (h2 q (fun z => hq (h4 q z)) i)
theorem same.arr {l : List Nat} {a b : Sg} (h : same l a b) {q n : Nat} {f : Nat → Nat} (hq : q ∉ l) (hf : arr b q n f) : arr a q n f := fun i hi => (h q hq i).trans (hf i hi)
set_option maxHeartbeats 1000000 in
theorem c_join {a b : Nat} {f o : Nat → Nat} {sg : Sg} (ha : a < 8) (hb : b < 8) (h1 : arr sg 9 8 f) (h2 : arr sg 13 64 o) : ∃ g, fX1_join (nI a) (nI b) sg = some g ∧ arr g 9 8 (jn a b f) ∧ arr g 13 64 (jo a b o) ∧ same [9, 13] g sg := by
  unfold fX1_join
  simp (disch := omega) only [fa_lit, nI_mul, nI_add, inb_nI, gd_t, lt_d, nI_clamp, p_pow]
  have e1 : rd sg 9 a = nI (f a) := h1 a ha
  have g1 := arr_wr (k := a) (v := f a ||| 2 ^ b) h1
  have e2 := g1 b hb
  have g2 := arr_wr (k := b) (v := up f a (f a ||| 2 ^ b) b ||| 2 ^ a) g1
  have o0 : arr (wr (wr sg 9 a (nI (f a ||| 2 ^ b))) 9 b (nI (up f a (f a ||| 2 ^ b) b ||| 2 ^ a))) 13 64 o := arr_ne (arr_ne h2 (by decide)) (by decide)
  have e3 := o0 (a * 8 + b) (by omega)
  have g3 := arr_wr (k := a * 8 + b) (v := o (a * 8 + b) + 1) o0
  have e4 := g3 (b * 8 + a) (by omega)
  have g4 := arr_wr (k := b * 8 + a) (v := up o (a * 8 + b) (o (a * 8 + b) + 1) (b * 8 + a) + 1) g3
  rw [e1, fa_or, e2, fa_or, e3, nI_add, e4, nI_add]
  refine ⟨_, rfl, arr_ne (arr_ne g2 (by decide)) (by decide), ?_, ?_⟩
  · unfold jo
    rw [Nat.mul_comm 8 a, Nat.mul_comm 8 b]
    exact g4
  · exact (((same.rf.wr (by simp)).wr (by simp)).wr (by simp)).wr (by simp)
