/-! The first text, as the class's constructor reads it. -/
def tapeS (k : Nat) : St := (fun o i => if o = 27 ∧ i < k then chS 0 i else if o = 26 ∧ i = 1 then nI k else sig0.1 o i, sig0.2)
theorem tapeS_0 : tapeS 0 = sig0 := by
  refine Prod.ext (funext fun o => funext fun i => ?_) rfl
  show (if o = 27 ∧ i < 0 then _ else if o = 26 ∧ i = 1 then nI 0 else sig0.1 o i) = sig0.1 o i
  rw [if_neg (by omega)]
  by_cases q : o = 26 ∧ i = 1
  · rw [if_pos q, q.1, q.2]; decide
  · rw [if_neg q]
theorem tapeS_1 : ∀ k, k < 48 → S1_add (chS 0 k) (tapeS k) = some ((), tapeS (k + 1)) := by
  intro k hk
  have h1 : gI (tapeS k) 26 1 = nI k := rfl
  unfold S1_add
  rw [h1, if_neg (show ¬ (160 : Int32) ≤ nI k from nI_ge (b := 160) (by omega) (by omega)), if_pos (inb_nI (by omega) (by omega)), nI_clamp (by omega)]
  refine congrArg (fun z => some ((), z)) (Prod.ext (funext fun o => funext fun i => ?_) rfl)
  show (if o = 26 ∧ i = 1 then (if 26 = 27 ∧ 1 = k then chS 0 k else nI k) + 1 else if o = 27 ∧ i = k then chS 0 k else if o = 27 ∧ i < k then chS 0 i else if o = 26 ∧ i = 1 then nI k else sig0.1 o i) = if o = 27 ∧ i < k + 1 then chS 0 i else if o = 26 ∧ i = 1 then nI (k + 1) else sig0.1 o i
  by_cases q : o = 26 ∧ i = 1
  · rw [if_pos q, if_neg (by omega), if_neg (by omega), if_pos q, nI_1]
  · rw [if_neg q]
    by_cases q2 : o = 27 ∧ i = k
    · rw [if_pos q2, if_pos (by omega), q2.2]
    · rw [if_neg q2]
      by_cases q3 : o = 27 ∧ i < k
      · rw [if_pos q3, if_pos (by omega)]
      · rw [if_neg q3, if_neg q, if_neg (show ¬ (o = 27 ∧ i < k + 1) by omega), if_neg q]
set_option maxRecDepth 100000 in
theorem first_ok : (S1_readInto 49 (tapeS 48)).map (·.1) = some (-1) := by decide +kernel
