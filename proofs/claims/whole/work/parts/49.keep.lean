/-! what lays the reference anew leaves its long alone -/
def kO {α : Type} (π : α → Sg) (z : Nat → Nat → Int64) (x : Option α) : Prop := ∀ a, x = some a → (π a).2 = z
def oA {A : Type} (o : A ⊕ A) : A := match o with
  | .inl a => a
  | .inr a => a
section KO
variable {α β A : Type} {π : α → Sg} {z : Nat → Nat → Int64}
theorem kO_some {a : α} (h : (π a).2 = z) : kO π z (some a) := fun b e => by rw [← Option.some.inj e]; exact h
theorem kO_gd {b : Bool} {x : Option α} (h : kO π z x) : kO π z (gd b x) := fun a e => h a (gd_some e).2
theorem kO_lt {x : β} {f : β → Option α} (h : kO π z (f x)) : kO π z (lt x f) := h
theorem kO_ite {c : Prop} [Decidable c] {x y : Option α} (h : kO π z x) (h2 : kO π z y) : kO π z (if c then x else y) := by
  split
  · exact h
  · exact h2
theorem kO_bind {x : Option β} {f : β → Option α} (h : ∀ r, kO π z (f r)) : kO π z (x.bind f) := by
  intro a e
  cases x with
  | none => cases e
  | some r => exact h r a e
theorem kO_bindS {ρ : β → Sg} {x : Option β} {f : β → Option α} (h1 : kO ρ z x) (h : ∀ r, (ρ r).2 = z → kO π z (f r)) : kO π z (x.bind f) := by
  intro a e
  cases x with
  | none => cases e
  | some r => exact h r (h1 r rfl) a e
theorem kO_lpS {ρ : A → Sg} {step : A → Option (A ⊕ A)} (h : ∀ t, (ρ t).2 = z → kO (fun o => ρ (oA o)) z (step t)) : ∀ (n : Nat) (t : A), (ρ t).2 = z → kO ρ z (lpS step n t) := by
  intro n
  induction n with
  | zero => intro t _ a e; cases e
  | succ n ih =>
    intro t ht a e
    unfold lpS at e
    cases hs : step t with
    | none => rw [hs] at e; cases e
    | some o =>
      have ho := h t ht o hs
      rw [hs] at e
      cases o with
      | inl u => rw [← Option.some.inj e]; exact ho
      | inr u => exact ih u ho a e
end KO
section KF
set_option maxHeartbeats 200000
variable {z : Nat → Nat → Int64}
theorem k_layTwo {a b : Int32} {sg : Sg} (h : sg.2 = z) : kO (fun s => s) z (fX8_layTwo a b sg) := by
  unfold fX8_layTwo fX8_layTwo_J126
  repeat' (first | (with_reducible apply kO_gd) | (with_reducible apply kO_lt) | (with_reducible apply kO_ite) | ((with_reducible apply kO_bind); intro r) | ((with_reducible apply kO_some); exact h))
theorem k_L2 (t : Int32 × Sg) (h : t.2.2 = z) : kO (fun o => (oA o).2) z (fX8_layWays_L2 t.1 t.2) := by
  unfold fX8_layWays_L2
  repeat' (first | (with_reducible apply kO_gd) | (with_reducible apply kO_lt) | (with_reducible apply kO_ite) | ((with_reducible apply kO_bind); intro r) | ((with_reducible apply kO_some); exact h))
theorem k_L52 {a : Int32} (t : Int32 × Sg) (h : t.2.2 = z) : kO (fun o => (oA o).2) z (fX8_layWays_L52 a t.1 t.2) := by
  unfold fX8_layWays_L52 fX8_layWays_L52_J124
  repeat' (first | (with_reducible apply kO_gd) | (with_reducible apply kO_lt) | (with_reducible apply kO_ite) | ((with_reducible apply kO_bind); intro r) | ((with_reducible apply kO_some); exact h))
theorem k_L35 (t : Int32 × Sg) (h : t.2.2 = z) : kO (fun o => (oA o).2) z (fX8_layWays_L35 t.1 t.2) := by
  unfold fX8_layWays_L35 fX8_layWays_L35_E130
  refine kO_ite (kO_some h) (kO_gd (kO_lt (kO_bindS (kO_lpS (ρ := fun t => t.2) k_L52 300 _ h) (fun r hr => kO_some hr))))
theorem k_L138 (t : Int32 × Sg) (h : t.2.2 = z) : kO (fun o => (oA o).2) z (fX8_layWays_L138 t.1 t.2) := by
  unfold fX8_layWays_L138
  repeat' (first | (with_reducible apply kO_gd) | (with_reducible apply kO_lt) | (with_reducible apply kO_ite) | ((with_reducible apply kO_bind); intro r) | ((with_reducible apply kO_some); exact h))
theorem k_L176 {a : Int32} (t : Int32 × Sg) (h : t.2.2 = z) : kO (fun o => (oA o).2) z (fX8_layWays_L176 a t.1 t.2) := by
  unfold fX8_layWays_L176
  exact kO_gd (kO_ite (kO_some h) (kO_bindS (k_layTwo h) (fun r hr => kO_some hr)))
theorem k_L166 (t : Int32 × Sg) (h : t.2.2 = z) : kO (fun o => (oA o).2) z (fX8_layWays_L166 t.1 t.2) := by
  unfold fX8_layWays_L166 fX8_layWays_L166_E198
  exact kO_ite (kO_some h) (kO_bindS (kO_lpS (ρ := fun t => t.2) k_L176 300 _ h) (fun r hr => kO_some hr))
theorem k_layWays {sg : Sg} (h : sg.2 = z) : kO (fun s => s) z (fX8_layWays sg) := by
  unfold fX8_layWays
  refine kO_bindS (kO_lpS (ρ := fun t => t.2) k_L2 300 _ h) (fun r hr => ?_)
  unfold fX8_layWays_E28
  refine kO_lt (kO_bindS (kO_lpS (ρ := fun t => t.2) k_L35 300 _ hr) (fun r hr => ?_))
  unfold fX8_layWays_E136
  refine kO_bindS (kO_lpS (ρ := fun t => t.2) k_L138 300 _ hr) (fun r hr => ?_)
  unfold fX8_layWays_E164
  exact kO_bindS (kO_lpS (ρ := fun t => t.2) k_L166 300 _ hr) (fun r hr => kO_some hr)
theorem k_R13 (t : Int32 × Sg) (h : t.2.2 = z) : kO (fun o => (oA o).2) z (fX8_layRanks_L13 t.1 t.2) := by
  unfold fX8_layRanks_L13
  refine kO_ite (kO_some h) (kO_gd (kO_lt (kO_bind (fun r => ?_))))
  unfold fX8_layRanks_L13_E74 fX8_layRanks_L13_J99
  repeat' (first | (with_reducible apply kO_gd) | (with_reducible apply kO_lt) | (with_reducible apply kO_ite) | ((with_reducible apply kO_bind); intro r) | ((with_reducible apply kO_some); exact h))
theorem k_layRanks {sg : Sg} (h : sg.2 = z) : kO (fun s => s) z (fX8_layRanks sg) := by
  unfold fX8_layRanks
  exact kO_bind (fun r => kO_lt (kO_bindS (kO_lpS (ρ := fun t => t.2) k_R13 300 _ h) (fun r hr => kO_some hr)))
theorem k_T99 {a b c d : Int32} {sg : Sg} (h : sg.2 = z) : kO (fun o => (oA o).2.2) z (fX8_layTop_L9_J99 a b c d sg) := by
  unfold fX8_layTop_L9_J99 fX8_layTop_L9_J114
  exact kO_lt (kO_ite (kO_some h) (kO_some h))
theorem k_T60 {a b c : Int32} {sg : Sg} (h : sg.2 = z) : kO (fun o => (oA o).2.2) z (fX8_layTop_L9_J60 a b c sg) := by
  unfold fX8_layTop_L9_J60 fX8_layTop_L9_J82
  exact kO_ite (kO_ite (k_T99 h) (k_T99 h)) (kO_bind (fun r => kO_bind (fun r2 => kO_ite (k_T99 h) (k_T99 h))))
theorem k_T9 (t : Int32 × Int32 × Sg) (h : t.2.2.2 = z) : kO (fun o => (oA o).2.2) z (fX8_layTop_L9 t.1 t.2.1 t.2.2) := by
  unfold fX8_layTop_L9 fX8_layTop_L9_J59
  exact kO_ite (kO_some h) (kO_ite (kO_some h) (kO_gd (kO_bind (fun r => kO_ite (k_T60 h) (kO_ite (kO_bind (fun r => kO_ite (k_T60 h) (k_T60 h))) (k_T60 h))))))
theorem k_layTop {sg : Sg} (h : sg.2 = z) : kO (fun s => s) z (fX8_layTop sg) := by
  unfold fX8_layTop
  exact kO_lt (kO_bindS (kO_lpS (ρ := fun t => t.2.2) k_T9 300 _ h) (fun r hr => kO_some hr))
theorem k_V82 {a b c d e f g : Int32} {sg : Sg} (h : sg.2 = z) : kO (fun o => (oA o).2) z (fX8_layVotes_L18_J82 a b c d e f g sg) := by
  unfold fX8_layVotes_L18_J82 fX8_layVotes_L18_J114
  repeat' (first | (with_reducible apply kO_gd) | (with_reducible apply kO_lt) | (with_reducible apply kO_ite) | ((with_reducible apply kO_bind); intro r) | ((with_reducible apply kO_some); exact h))
theorem k_V18 {a b : Int32} (t : Int32 × Sg) (h : t.2.2 = z) : kO (fun o => (oA o).2) z (fX8_layVotes_L18 a b t.1 t.2) := by
  unfold fX8_layVotes_L18 fX8_layVotes_L18_J68
  repeat' (first | (with_reducible apply kO_gd) | (with_reducible apply kO_lt) | (with_reducible apply kO_ite) | (with_reducible exact k_V82 h) | ((with_reducible apply kO_bind); intro r) | ((with_reducible apply kO_some); exact h))
theorem k_V2 (t : Int32 × Sg) (h : t.2.2 = z) : kO (fun o => (oA o).2) z (fX8_layVotes_L2 t.1 t.2) := by
  unfold fX8_layVotes_L2
  exact kO_ite (kO_some h) (kO_bind (fun r => kO_bindS (kO_lpS (ρ := fun t => t.2) k_V18 300 _ h) (fun r hr => kO_some hr)))
theorem k_layVotes {sg : Sg} (h : sg.2 = z) : kO (fun s => s) z (fX8_layVotes sg) := by
  unfold fX8_layVotes
  exact kO_bindS (kO_lpS (ρ := fun t => t.2) k_V2 300 _ h) (fun r hr => kO_some hr)
theorem k_N31 (t : Int32 × Sg) (h : t.2.2 = z) : kO (fun o => (oA o).2) z (fX8_lay_L31 t.1 t.2) := by
  unfold fX8_lay_L31
  exact kO_ite (kO_some h) (kO_bind (fun r => kO_gd (kO_lt (kO_some h))))
theorem k_lay {sg : Sg} (h : sg.2 = z) : kO (fun s => s) z (fX8_lay sg) := by
  unfold fX8_lay
  refine kO_ite (kO_lt (kO_bindS (k_layWays h) (fun r h => kO_bindS (k_layRanks h) (fun r h => kO_bindS (k_layTop h) (fun r h => kO_bindS (k_layVotes h) (fun r h => kO_bindS (kO_lpS (ρ := fun t => t.2) k_N31 300 _ h) (fun r hr => kO_some hr))))))) (kO_some h)
end KF
theorem lay_keep {sg g : Sg} (h : fX8_lay sg = some g) : g.2 = sg.2 := k_lay (z := sg.2) rfl g h
