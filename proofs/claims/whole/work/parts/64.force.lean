/-! How strong one is, how long one stands, how far one starts ahead: in numbers, on both sides. -/
def plainF (v a h : Int32) : Int32 := if a = 2 then (if h = 0 then 2 * v else 0) else v
def forceF (kind more v a h : Int32) : Int32 :=
  if kind = 1 then (if a = 0 then plainF v a h + 3 * more else plainF v a h)
  else if kind = 2 ∨ kind = 4 then (if a = 1 then plainF v a h + 5 else plainF v a h / 2)
  else if kind = 3 then (if h = 2 then 0 else if a = 0 then plainF v a h + 3 * more else plainF v a h)
  else if kind = 5 then (if a = h then plainF v a h / 2 else plainF v a h + more)
  else plainF v a h
theorem forces2 (w : Nat) (v a h : Int32) (σ : St) : S7_forces w v a h σ = some (forceF (gI σ w 0) (gI σ w 1) v a h, σ) := by
  have key : ∀ x, S7_forces_20 w v a h x σ = some (if gI σ w 0 = 1 then (if a = 0 then x + 3 * gI σ w 1 else x) else if gI σ w 0 = 2 ∨ gI σ w 0 = 4 then (if a = 1 then x + 5 else x / 2) else if gI σ w 0 = 3 then (if h = 2 then 0 else if a = 0 then x + 3 * gI σ w 1 else x) else if gI σ w 0 = 5 then (if a = h then x / 2 else x + gI σ w 1) else x, σ) := by
    intro x
    unfold S7_forces_20 S7_pushes S7_forces_68
    generalize gI σ w 0 = k
    generalize gI σ w 1 = mo
    by_cases k1 : k = 1
    · simp only [if_pos k1]
      split <;> rfl
    · by_cases k2 : k = 2
      · simp only [if_neg k1, if_pos k2, if_pos (show k = 2 ∨ k = 4 from Or.inl k2)]
        split <;> rfl
      · by_cases k3 : k = 3
        · have n4 : ¬ k = 4 := by rw [k3]; decide
          simp only [if_neg k1, if_neg k2, if_pos k3, if_neg (show ¬ (k = 2 ∨ k = 4) from fun z => z.elim k2 n4)]
          split
          · rfl
          · split <;> rfl
        · by_cases k4 : k = 4
          · simp only [if_neg k1, if_neg k2, if_neg k3, if_pos k4, if_pos (show k = 2 ∨ k = 4 from Or.inr k4)]
            split <;> rfl
          · have n24 : ¬ (k = 2 ∨ k = 4) := fun z => z.elim k2 k4
            by_cases k5 : k = 5
            · simp only [if_neg k1, if_neg k2, if_neg k3, if_neg k4, if_neg n24, if_pos k5]
              split <;> rfl
            · simp only [if_neg k1, if_neg k2, if_neg k3, if_neg k4, if_neg n24, if_neg k5]
  unfold S7_forces forceF plainF
  by_cases h2 : a = 2
  · rw [if_pos h2]
    by_cases h0 : h = 0
    · rw [if_pos h0, key]; simp only [if_pos h2, if_pos h0]
    · rw [if_neg h0, key]; simp only [if_pos h2, if_neg h0]
  · rw [if_neg h2, key]; simp only [if_neg h2]
theorem forces9 (m : Nat) (hm : m < 6) (v a h : Int32) (σ : St) : S9_forcesOf (nI m) v a h σ = some (forceF (gI σ 76 m) (gI σ 77 m) v a h, σ) := by
  unfold S9_forcesOf
  have hp : S9_plainForce v a h σ = some (plainF v a h, σ) := by
    unfold S9_plainForce plainF
    split
    · split <;> rfl
    · rfl
  rw [hp, bnd_s]
  simp only [if_pos (inb_nI hm (show 6 < 2 ^ 31 by omega)), nI_clamp (show m < 2 ^ 31 by omega)]
  unfold forceF S9_forcesOf_77
  generalize gI σ 76 m = k
  generalize gI σ 77 m = mo
  have p1 : a = 1 → plainF v a h = v := by
    intro q; unfold plainF; rw [q, if_neg (by decide)]
  by_cases k1 : k = 1
  · simp only [if_pos k1]
    split <;> rfl
  · by_cases k2 : k = 2
    · simp only [if_neg k1, if_pos k2, if_pos (show k = 2 ∨ k = 4 from Or.inl k2)]
      by_cases q : a = 1
      · rw [if_pos q, if_pos q, p1 q]
      · rw [if_neg q, if_neg q]
    · by_cases k3 : k = 3
      · have n4 : ¬ k = 4 := by rw [k3]; decide
        simp only [if_neg k1, if_neg k2, if_pos k3, if_neg (show ¬ (k = 2 ∨ k = 4) from fun z => z.elim k2 n4)]
        split
        · rfl
        · split <;> rfl
      · by_cases k4 : k = 4
        · simp only [if_neg k1, if_neg k2, if_neg k3, if_pos k4, if_pos (show k = 2 ∨ k = 4 from Or.inr k4)]
          by_cases q : a = 1
          · rw [if_pos q, if_pos q, p1 q]
          · rw [if_neg q, if_neg q]
        · have n24 : ¬ (k = 2 ∨ k = 4) := fun z => z.elim k2 k4
          by_cases k5 : k = 5
          · simp only [if_neg k1, if_neg k2, if_neg k3, if_neg k4, if_neg n24, if_pos k5]
            split <;> rfl
          · simp only [if_neg k1, if_neg k2, if_neg k3, if_neg k4, if_neg n24, if_neg k5]
def wi (v lo hi : Int32) : Int32 := jmax lo (jmin hi v)
theorem within8 (v lo hi : Int32) (σ : St) : S8_within v lo hi σ = some (wi v lo hi, σ) := rfl
theorem within9g (v lo hi : Int32) (h : lo ≤ hi) (σ : St) : S9_within v lo hi σ = some (wi v lo hi, σ) := by
  unfold S9_within wi jmax jmin
  split <;> split <;> (congr 2; grind)
def strF (cs : Nat → List Int32) (s : Nat → Int32) (a h c : Int32) : Int32 := jmax 0 (forceF (s 0) (s 1) (sayF (cs 0) 0 (envS s a h c)) a h - s 4)
def standF (cs : Nat → List Int32) (s : Nat → Int32) : Int32 := wi (sayF (cs 1) 1 (envS s 0 0 0) + (if s 0 = 2 ∨ s 0 = 4 then 1 else 0) + (if s 0 = 4 then s 1 else 0)) 0 9
def startF (cs : Nat → List Int32) (s : Nat → Int32) : Int32 := if s 0 = 4 then jmin (sayF (cs 2) 2 (envS s 0 0 4)) 0 else if s 0 = 3 then sayF (cs 2) 2 (envS s 0 0 4) + 1 else sayF (cs 2) 2 (envS s 0 0 4)
theorem envS_cg {s s' : Nat → Int32} (h : ∀ k, k < 5 → s k = s' k) (a b c : Int32) : envS s a b c = envS s' a b c := by
  funext k
  unfold envS
  rw [h 2 (by omega), h 3 (by omega), h 4 (by omega)]
theorem strF_cg {s s' : Nat → Int32} (h : ∀ k, k < 5 → s k = s' k) (cs : Nat → List Int32) : strF cs s = strF cs s' := by
  funext a b c
  unfold strF
  rw [envS_cg h, h 0 (by omega), h 1 (by omega), h 4 (by omega)]
theorem standF_cg {s s' : Nat → Int32} (h : ∀ k, k < 5 → s k = s' k) (cs : Nat → List Int32) : standF cs s = standF cs s' := by
  unfold standF
  rw [envS_cg h, h 0 (by omega), h 1 (by omega)]
theorem startF_cg {s s' : Nat → Int32} (h : ∀ k, k < 5 → s k = s' k) (cs : Nat → List Int32) : startF cs s = startF cs s' := by
  unfold startF
  rw [envS_cg h, h 0 (by omega)]
theorem standing2 (w : Nat) (v : Int32) (σ : St) : S7_standing w v σ = some (wi (v + (if gI σ w 0 = 2 ∨ gI σ w 0 = 4 then 1 else 0) + (if gI σ w 0 = 4 then gI σ w 1 else 0)) 0 9, σ) := by
  unfold S7_standing S7_isOf S7_isOf_68 S7_standing_13 S7_standing_33
  simp only [if_neg (show ¬ (2 : Int32) = 0 by decide), if_neg (show ¬ (2 : Int32) = 1 by decide), if_true]
  by_cases k2 : gI σ w 0 = 2
  · have k4 : ¬ gI σ w 0 = 4 := by rw [k2]; decide
    simp only [if_pos k2, bnd_s, if_neg (show ¬ (1 : Int32) = 0 by decide), if_neg k4, if_pos (show gI σ w 0 = 2 ∨ gI σ w 0 = 4 from Or.inl k2)]
    rfl
  · by_cases k4 : gI σ w 0 = 4
    · simp only [if_neg k2, if_pos k4, bnd_s, if_neg (show ¬ (1 : Int32) = 0 by decide), if_pos (show gI σ w 0 = 2 ∨ gI σ w 0 = 4 from Or.inr k4)]
      rfl
    · simp only [if_neg k2, if_neg k4, bnd_s, if_true, if_neg (show ¬ (gI σ w 0 = 2 ∨ gI σ w 0 = 4) from fun q => q.elim k2 k4)]
      rfl
theorem starts2 (w : Nat) (v : Int32) (σ : St) : S7_starts w v σ = some (if gI σ w 0 = 4 then jmin v 0 else if gI σ w 0 = 3 then v + 1 else v, σ) := by
  unfold S7_starts
  split
  · rfl
  · split <;> rfl
theorem stM_0 (σ : St) (m : Nat) : stM σ m 0 = gI σ 76 m := rfl
theorem stM_1 (σ : St) (m : Nat) : stM σ m 1 = gI σ 77 m := rfl
theorem stM_4 (σ : St) (m : Nat) : stM σ m 4 = gI σ 78 (5 * m + 2) := rfl
theorem stM_fr {σ σ' : St} (h : ∀ a b, a = 76 ∨ a = 77 ∨ a = 78 → gI σ' a b = gI σ a b) (m : Nat) : stM σ' m = stM σ m := by
  funext k
  unfold stM
  rw [h 76 m (Or.inl rfl), h 77 m (Or.inr (Or.inl rfl)), h 78 _ (Or.inr (Or.inr rfl))]
theorem stands9 {σ : St} {t m : Nat} (ht : t < 6) (hm : m < 6) (hr : gI σ 75 10 = nI t) (hT : TxOk σ t) : ∃ σ', S9_standsOf (nI m) σ = some (standF (txC σ t) (stM σ m), σ') ∧ Fr (fun a _ => a = 90 ∨ a = 91) noR σ σ' := by
  obtain ⟨σ1, h1, f1⟩ := says9 (p := 1) (act := 0) (his := 0) (cell := 0) ht (by omega) hm hr hT
  refine ⟨σ1, ?_, f1⟩
  unfold S9_standsOf S9_standsOf_50
  rw [show S9_asksOf (1 : Int32) (nI m) 0 0 0 σ = _ from h1, bnd_s]
  have e0 : gI σ1 76 m = gI σ 76 m := f1.1 _ _ (by omega)
  have e1 : gI σ1 77 m = gI σ 77 m := f1.1 _ _ (by omega)
  simp only [if_pos (inb_nI hm (show 6 < 2 ^ 31 by omega)), nI_clamp (show m < 2 ^ 31 by omega), e0, e1, within9g _ (0 : Int32) 9 (by decide), bnd_s]
  unfold standF
  rw [stM_0, stM_1]
  by_cases k2 : gI σ 76 m = 2
  · have k4 : ¬ gI σ 76 m = 4 := by rw [k2]; decide
    simp only [if_pos k2, if_neg k4, if_pos (show gI σ 76 m = 2 ∨ gI σ 76 m = 4 from Or.inl k2), Int32.add_zero]
  · by_cases k4 : gI σ 76 m = 4
    · simp only [if_neg k2, if_pos k4, if_pos (show gI σ 76 m = 2 ∨ gI σ 76 m = 4 from Or.inr k4)]
    · simp only [if_neg k2, if_neg k4, if_neg (show ¬ (gI σ 76 m = 2 ∨ gI σ 76 m = 4) from fun q => q.elim k2 k4), Int32.add_zero]
theorem starts9 {σ : St} {t m : Nat} (ht : t < 6) (hm : m < 6) (hr : gI σ 75 10 = nI t) (hT : TxOk σ t) : ∃ σ', S9_startsOf (nI m) σ = some (startF (txC σ t) (stM σ m), σ') ∧ Fr (fun a _ => a = 90 ∨ a = 91) noR σ σ' := by
  obtain ⟨σ1, h1, f1⟩ := says9 (p := 2) (act := 0) (his := 0) (cell := 4) ht (by omega) hm hr hT
  refine ⟨σ1, ?_, f1⟩
  unfold S9_startsOf
  rw [show S9_asksOf (2 : Int32) (nI m) 0 0 4 σ = _ from h1, bnd_s]
  have e0 : gI σ1 76 m = gI σ 76 m := f1.1 _ _ (by omega)
  simp only [if_pos (inb_nI hm (show 6 < 2 ^ 31 by omega)), nI_clamp (show m < 2 ^ 31 by omega), e0]
  unfold startF
  rw [stM_0]
  generalize sayF _ _ _ = v
  by_cases k3 : gI σ 76 m = 3
  · have k4 : ¬ gI σ 76 m = 4 := by rw [k3]; decide
    rw [if_pos k3, if_neg k4, if_pos k3]
  · rw [if_neg k3]
    by_cases k4 : gI σ 76 m = 4
    · rw [if_pos k4, if_pos k4]
      unfold jmin
      split <;> (split <;> (congr 2 <;> grind))
    · rw [if_neg k4, if_neg k4, if_neg k3]
