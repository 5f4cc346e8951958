/-! cell, copy, taken. -/
theorem has01_inG {z : Nat} (hz : z ≤ 1000) (m : Int32) : in01 m 0 (nI z - 1) = has01 z m := by
  unfold in01 has01
  by_cases q : m < 0
  · rw [if_pos q, if_pos q]
  · rw [if_neg q, if_neg q]
    have e : nI z - 1 < m ↔ nI z ≤ m := by
      have h1 : nI z ≤ nI 1000 := nI_le hz (by omega)
      have h2 : ¬ nI z < 0 := nI_pos (by omega)
      have h3 : nI 1000 = 1000 := rfl
      rw [h3] at h1
      generalize nI z = y at h1 h2 ⊢
      constructor <;> intro <;> grind
    by_cases q2 : nI z ≤ m
    · rw [if_pos q2, if_pos (e.mpr q2)]
    · rw [if_neg q2, if_neg (fun y => q2 (e.mp y))]
theorem has01_tG {z : Nat} {m : Int32} (hz : z ≤ 1000) (h : ¬ has01 z m = 0) : ∃ k, k < z ∧ m = nI k := by
  unfold has01 at h
  by_cases q : m < 0
  · rw [if_pos q] at h; exact absurd rfl h
  · rw [if_neg q] at h
    by_cases q2 : nI z ≤ m
    · rw [if_pos q2] at h; exact absurd rfl h
    · obtain ⟨k, rfl, hk⟩ := ex_nI q
      refine ⟨k, ?_, rfl⟩
      rw [nI_le_iff (by omega) hk] at q2
      omega
def hF (z : Nat) (a b : Int32) : Int32 := if a < 0 then 0 else if b < 0 then 0 else if nI z < a then 0 else if nI z - a < b then 0 else 1
theorem hasFrom8 {o z : Nat} {σ : St} (h : gI σ o 2 = nI z) (a b : Int32) : S3_hasFrom o a b σ = some (hF z a b, σ) := by
  unfold S3_hasFrom hF
  rw [h]
  split
  · rfl
  · split
    · rfl
    · split
      · rfl
      · split <;> rfl
theorem hF_t {z : Nat} {a b : Int32} (hz : z ≤ 1000) (h : ¬ hF z a b = 0) : ∃ A B, a = nI A ∧ b = nI B ∧ A + B ≤ z := by
  unfold hF at h
  by_cases q : a < 0
  · rw [if_pos q] at h; exact absurd rfl h
  rw [if_neg q] at h
  by_cases q1 : b < 0
  · rw [if_pos q1] at h; exact absurd rfl h
  rw [if_neg q1] at h
  by_cases q2 : nI z < a
  · rw [if_pos q2] at h; exact absurd rfl h
  rw [if_neg q2] at h
  by_cases q3 : nI z - a < b
  · rw [if_pos q3] at h; exact absurd rfl h
  obtain ⟨A, rfl, hA⟩ := ex_nI q
  obtain ⟨B, rfl, hB⟩ := ex_nI q1
  rw [nI_lt_iff (by omega) hA] at q2
  rw [nI_sub (by omega), nI_lt_iff (by omega) hB] at q3
  exact ⟨A, B, rfl, rfl, by omega⟩
theorem hF_1 {z A B : Nat} (hz : z ≤ 1000) (h : A + B ≤ z) : hF z (nI A) (nI B) = 1 := by
  unfold hF
  rw [if_neg (nI_pos (by omega)), if_neg (nI_pos (by omega)), if_neg (nI_nlt (by omega) (by omega)), nI_sub (by omega), if_neg (nI_nlt (by omega) (by omega))]
theorem hF_has {z : Nat} (hz : z ≤ 1000) (i : Int32) : hF z i 1 = has01 z i := by
  by_cases q : has01 z i = 0
  · rw [q]
    by_cases q2 : hF z i 1 = 0
    · exact q2
    · obtain ⟨A, B, rfl, hB, hAB⟩ := hF_t hz q2
      rw [show (1 : Int32) = nI 1 from rfl] at hB
      have hB1 : 1 = B := by
        have hB31 : B < 2 ^ 31 := by omega
        exact (nI_inj (by omega) hB31).mp hB
      exfalso
      have : has01 z (nI A) = 1 := by
        unfold has01
        rw [if_neg (nI_pos (by omega)), if_neg (nI_ge (by omega) (by omega))]
      rw [this] at q
      exact absurd q (by decide)
  · obtain ⟨k, hk, rfl⟩ := has01_tG hz q
    have e1 : has01 z (nI k) = 1 := by
      unfold has01
      rw [if_neg (nI_pos (by omega)), if_neg (nI_ge hk (by omega))]
    rw [e1]
    exact hF_1 (B := 1) hz (by omega)
theorem same_cell (s i v : Int32) : Same (S8_cell s i v) (S9_cell s i v) := by
  intro n T t σ hI
  by_cases hs : in01 s 0 3 = 0
  · refine same_rf hI (-2) ?_ ?_
    · unfold S8_cell; rw [sheetFault8 hI, bnd_s]; unfold shV; rw [if_pos hs, if_neg (by decide)]
    · unfold S9_cell; rw [in9, bnd_s, if_pos hs]
  · obtain ⟨S, hS, rfl⟩ := in03_t hs
    obtain ⟨⟨o1, o2⟩, ⟨z, hz, z8, z9⟩, hrow⟩ := hI.sh hS
    have hsv : shV σ (nI S) = if gI σ 84 S = -1 then -11 else 0 := by
      unfold shV; rw [if_neg hs, nI_clamp (by omega)]
    by_cases ho : gI σ 84 S = -1
    · refine same_rf hI (-11) ?_ ?_
      · unfold S8_cell; rw [sheetFault8 hI, bnd_s, hsv, if_pos ho, if_neg (by decide)]
      · unfold S9_cell
        rw [in9, bnd_s, if_neg hs]
        simp only [if_pos (inb_nI hS (show 4 < 2 ^ 31 by omega)), nI_clamp (show S < 2 ^ 31 by omega), if_pos ho]
    · by_cases hi : has01 z i = 0
      · refine same_rf hI (-12) ?_ ?_
        · unfold S8_cell; rw [sheetFault8 hI, bnd_s, hsv, if_neg ho, if_pos rfl, sheetAt8 hS, bnd_s, hasFrom8 z8, bnd_s, hF_has (by omega), if_pos hi]
        · unfold S9_cell
          rw [in9, bnd_s, if_neg hs]
          simp only [if_pos (inb_nI hS (show 4 < 2 ^ 31 by omega)), nI_clamp (show S < 2 ^ 31 by omega), if_neg ho]
          rw [in9, bnd_s, z9, has01_inG (by omega), if_pos hi]
      · obtain ⟨j, hj, rfl⟩ := has01_tG (by omega) hi
        have e40 : (40 : Int32) * nI S + nI j = nI (40 * S + j) := by rw [show (40 : Int32) = nI 40 from rfl, nI_mul, nI_add]
        let σ1 : St := sI σ (68 + 2 * S) j (wrV (gI σ 84 S) v)
        have m1 : ∀ a b, ¬ (a = 68 + 2 * S ∧ b = j) → gI σ1 a b = gI σ a b := fun a b h => by show gI (sI σ _ _ _) a b = _; rw [gI_sI, if_neg h]
        have c1 : gI σ1 (68 + 2 * S) j = wrV (gI σ 84 S) v := by show gI (sI σ _ _ _) _ _ = _; rw [gI_sI, if_pos ⟨rfl, rfl⟩]
        refine ⟨1, σ1, sI σ1 86 (40 * S + j) (wrV (gI σ 84 S) v), ?_, ?_, n, T, t, inv_sheet hI hS (fun a b h1 h2 => ?_) ⟨⟨?_, ?_⟩, ⟨z, hz, ?_, ?_⟩, fun y hy => ?_⟩⟩
        · unfold S8_cell
          rw [sheetFault8 hI, bnd_s, hsv, if_neg ho, if_pos rfl, sheetAt8 hS, bnd_s, hasFrom8 z8, bnd_s, hF_has (by omega), if_neg hi, sheetAt8 hS, bnd_s, write8 (so := gI σ 84 S) (by omega) o1, bnd_s]
        · have k84 : gI σ1 84 S = gI σ 84 S := m1 84 S (by omega)
          have k85 : gI σ1 85 S = nI z := (m1 85 S (by omega)).trans z9
          unfold S9_cell S9_cell_84
          rw [in9, bnd_s, if_neg hs]
          simp only [if_pos (inb_nI hS (show 4 < 2 ^ 31 by omega)), nI_clamp (show S < 2 ^ 31 by omega), e40, if_pos (inb_nI (show 40 * S + j < 160 by omega) (show 160 < 2 ^ 31 by omega)), nI_clamp (show 40 * S + j < 2 ^ 31 by omega)]
          rw [k84, if_neg ho, in9, bnd_s, k85, has01_inG (by omega), if_neg hi, k84]
          unfold wrV
          by_cases q : gI σ 84 S = 0
          · rw [if_pos q, if_pos q]
          · rw [if_neg q, if_neg q]
            by_cases q1 : gI σ 84 S = 1
            · rw [if_pos q1, if_pos q1]
            · rw [if_neg q1, if_neg q1]
        · rw [gI_sI, if_neg (by omega)]; exact m1 a b (by omega)
        · rw [gI_sI, if_neg (by omega), m1 _ _ (by omega), gI_sI, if_neg (by omega), m1 84 S (by omega)]; exact o1
        · rw [gI_sI, if_neg (by omega), m1 84 S (by omega)]; exact o2
        · rw [gI_sI, if_neg (by omega), m1 _ _ (by omega)]; exact z8
        · rw [gI_sI, if_neg (by omega), m1 85 S (by omega)]; exact z9
        · by_cases q : y = j
          · subst q
            rw [gI_sI, if_neg (by omega), c1, gI_sI, if_pos ⟨rfl, rfl⟩]
          · rw [gI_sI, if_neg (by omega), m1 _ _ (by omega), gI_sI, if_neg (by omega), m1 86 _ (by omega)]; exact hrow y hy
theorem same_copy (s i o j m : Int32) : Same (S8_copy s i o j m) (S9_copy s i o j m) := by
  intro n T t σ hI
  by_cases hs : in01 s 0 3 = 0
  · refine same_rf hI (-2) ?_ ?_
    · unfold S8_copy; rw [isSheet8, bnd_s, if_pos hs]
    · unfold S9_copy; rw [in9, bnd_s, if_pos hs]
  obtain ⟨S, hS, rfl⟩ := in03_t hs
  by_cases ho : in01 o 0 3 = 0
  · refine same_rf hI (-2) ?_ ?_
    · unfold S8_copy; rw [isSheet8, bnd_s, if_neg hs, isSheet8, bnd_s, if_pos ho]
    · unfold S9_copy; rw [in9, bnd_s, if_neg hs, in9, bnd_s, if_pos ho]
  obtain ⟨O, hO, rfl⟩ := in03_t ho
  obtain ⟨⟨s1, s2⟩, ⟨zs, hzs, zs8, zs9⟩, hrs⟩ := hI.sh hS
  obtain ⟨⟨o1, o2⟩, ⟨zo, hzo, zo8, zo9⟩, hro⟩ := hI.sh hO
  -- the two, brought to one form
  have e8 : S8_copy (nI S) i (nI O) j m σ = if gI σ 84 S = -1 then some (-11, σ) else if gI σ 84 O = -1 then some (-11, σ) else if gI σ 84 S = gI σ 84 O then (if hF zs i m = 0 then some (-12, σ) else if hF zo j m = 0 then some (-12, σ) else (if ¬ i < 0 then (if ¬ j < 0 then (if ¬ m < 0 then (if (i).toNatClampNeg + (m).toNatClampNeg ≤ 40 then (if (j).toNatClampNeg + (m).toNatClampNeg ≤ 40 then (some (m, (copyS σ (67 + 2 * S + 1) i (67 + 2 * O + 1) j m))) else none) else none) else none) else none) else none)) else some (-13, σ) := by
    unfold S8_copy
    rw [isSheet8, bnd_s, if_neg hs, isSheet8, bnd_s, if_neg ho, sheetAt8 hS, bnd_s, sheetAt8 hO, bnd_s, s1, o1, hasFrom8 zs8, bnd_s, hasFrom8 zo8, bnd_s]
  have e9 : ∀ τ, gI τ 84 S = gI σ 84 S → gI τ 84 O = gI σ 84 O → gI τ 85 S = nI zs → gI τ 85 O = nI zo → S9_copy (nI S) i (nI O) j m τ = if gI σ 84 S = -1 then some (-11, τ) else if gI σ 84 O = -1 then some (-11, τ) else if gI σ 84 S = gI σ 84 O then (if m < 0 then some (-12, τ) else if i < 0 then some (-12, τ) else if j < 0 then some (-12, τ) else if nI zs < i then some (-12, τ) else if nI zo < j then some (-12, τ) else if nI zs - i < m then some (-12, τ) else if m ≤ nI zo - j then S9_copy_147 (nI S) i (nI O) j m 4096 0 τ else some (-12, τ)) else some (-13, τ) := by
    intro τ h1 h2 h3 h4
    unfold S9_copy
    rw [in9, bnd_s, if_neg hs, in9, bnd_s, if_neg ho]
    simp only [if_pos (inb_nI hS (show 4 < 2 ^ 31 by omega)), nI_clamp (show S < 2 ^ 31 by omega), if_pos (inb_nI hO (show 4 < 2 ^ 31 by omega)), nI_clamp (show O < 2 ^ 31 by omega), h1, h2, h3, h4]
  by_cases k1 : gI σ 84 S = -1
  · exact same_rf hI (-11) (by rw [e8, if_pos k1]) (by rw [e9 σ rfl rfl zs9 zo9, if_pos k1])
  by_cases k2 : gI σ 84 O = -1
  · exact same_rf hI (-11) (by rw [e8, if_neg k1, if_pos k2]) (by rw [e9 σ rfl rfl zs9 zo9, if_neg k1, if_pos k2])
  by_cases k3 : gI σ 84 S = gI σ 84 O
  · rw [if_neg k1, if_neg k2, if_pos k3] at e8
    have e9' : ∀ τ, gI τ 84 S = gI σ 84 S → gI τ 84 O = gI σ 84 O → gI τ 85 S = nI zs → gI τ 85 O = nI zo → S9_copy (nI S) i (nI O) j m τ = if m < 0 then some (-12, τ) else if i < 0 then some (-12, τ) else if j < 0 then some (-12, τ) else if nI zs < i then some (-12, τ) else if nI zo < j then some (-12, τ) else if nI zs - i < m then some (-12, τ) else if m ≤ nI zo - j then S9_copy_147 (nI S) i (nI O) j m 4096 0 τ else some (-12, τ) := fun τ h1 h2 h3 h4 => by rw [e9 τ h1 h2 h3 h4, if_neg k1, if_neg k2, if_pos k3]
    by_cases hb : hF zs i m = 0 ∨ hF zo j m = 0
    · refine same_rf hI (-12) ?_ ?_
      · rw [e8]
        by_cases y : hF zs i m = 0
        · rw [if_pos y]
        · rw [if_neg y, if_pos (hb.resolve_left y)]
      · rw [e9' σ rfl rfl zs9 zo9]
        by_cases c1 : m < 0
        · rw [if_pos c1]
        rw [if_neg c1]
        by_cases c2 : i < 0
        · rw [if_pos c2]
        rw [if_neg c2]
        by_cases c3 : j < 0
        · rw [if_pos c3]
        rw [if_neg c3]
        by_cases c4 : nI zs < i
        · rw [if_pos c4]
        rw [if_neg c4]
        by_cases c5 : nI zo < j
        · rw [if_pos c5]
        rw [if_neg c5]
        by_cases c6 : nI zs - i < m
        · rw [if_pos c6]
        rw [if_neg c6]
        by_cases c7 : m ≤ nI zo - j
        · exfalso
          rcases hb with y | y
          · unfold hF at y; rw [if_neg c2, if_neg c1, if_neg c4, if_neg c6] at y; exact absurd y (by decide)
          · unfold hF at y; rw [if_neg c3, if_neg c1, if_neg c5, if_neg (Int32.not_lt.mpr c7)] at y; exact absurd y (by decide)
        · rw [if_neg c7]
    · have b1 : ¬ hF zs i m = 0 := fun y => hb (Or.inl y)
      have b2 : ¬ hF zo j m = 0 := fun y => hb (Or.inr y)
      obtain ⟨I, M, rfl, rfl, hIM⟩ := hF_t (by omega) b1
      obtain ⟨J, M', rfl, hMM, hJM⟩ := hF_t (by omega) b2
      have hM : M = M' := (nI_inj (by omega) (by omega)).mp hMM
      subst hM
      -- the class
      let σ1 : St := copyS σ (67 + 2 * S + 1) (nI I) (67 + 2 * O + 1) (nI J) (nI M)
      have g8 : S8_copy (nI S) (nI I) (nI O) (nI J) (nI M) σ = some (nI M, σ1) := by
        rw [e8, if_neg b1, if_neg b2, if_pos (nI_pos (by omega)), if_pos (nI_pos (by omega)), if_pos (nI_pos (by omega)), nI_clamp (by omega), nI_clamp (by omega), nI_clamp (by omega), if_pos (by omega), if_pos (by omega)]
      have m1 : ∀ a b, a ≠ 68 + 2 * O → gI σ1 a b = gI σ a b := fun a b h => by
        show gI (sRow σ (67 + 2 * O + 1) _) a b = _
        rw [gI_row, if_neg (by omega)]
      have c1 : ∀ b, gI σ1 (68 + 2 * O) b = if J ≤ b ∧ b < J + M then gI σ (68 + 2 * S) (I + (b - J)) else gI σ (68 + 2 * O) b := fun b => by
        show gI (sRow σ (67 + 2 * O + 1) _) (68 + 2 * O) b = _
        rw [gI_row, if_pos (by omega), nI_clamp (by omega), nI_clamp (by omega), nI_clamp (by omega), show 67 + 2 * S + 1 = 68 + 2 * S by omega, show 67 + 2 * O + 1 = 68 + 2 * O by omega]
        by_cases q : J ≤ b ∧ b < J + M
        · rw [if_pos q, pk_cpy_in q.1 q.2]; rfl
        · rw [if_neg q, pk_cpy_out (by omega)]; rfl
      -- the reference
      have eA : (40 : Int32) * nI S + nI I = nI (40 * S + I) := by rw [show (40 : Int32) = nI 40 from rfl, nI_mul, nI_add]
      have eB : (40 : Int32) * nI O + nI J = nI (40 * O + J) := by rw [show (40 : Int32) = nI 40 from rfl, nI_mul, nI_add]
      let L : Nat → St → Prop := fun k τ => (∀ y, gI τ 86 y = if (40 * O + J ≤ 40 * S + I ∧ 40 * O + J ≤ y ∧ y < 40 * O + J + k) ∨ (¬ 40 * O + J ≤ 40 * S + I ∧ 40 * O + J + M - k ≤ y ∧ y < 40 * O + J + M) then gI σ1 86 (40 * S + I + (y - (40 * O + J))) else gI σ1 86 y) ∧ ∀ a b, a ≠ 86 → gI τ a b = gI σ1 a b
      have step : ∀ (k f : Nat) (τ : St), k < M → L k τ → ∃ τ', S9_copy_147 (nI S) (nI I) (nI O) (nI J) (nI M) (f + 1) (nI k) τ = S9_copy_147 (nI S) (nI I) (nI O) (nI J) (nI M) f (nI (k + 1)) τ' ∧ L (k + 1) τ' := by
        intro k f τ hk ⟨l1, l2⟩
        by_cases q : 40 * O + J ≤ 40 * S + I
        · refine ⟨sI τ 86 (40 * O + J + k) (gI τ 86 (40 * S + I + k)), ?_, fun y => ?_, fun a b h => ?_⟩
          · show B9_copy_147 _ _ _ _ _ _ _ τ = _
            unfold B9_copy_147 S9_copy_173
            rw [if_neg (nI_ge hk (by omega)), eA, eB, if_pos (nI_le q (by omega)), nI_add, nI_add, if_pos (inb_nI (by omega) (by omega)), if_pos (inb_nI (by omega) (by omega)), nI_clamp (by omega), nI_clamp (by omega), nI_1]
          · rw [gI_sI]
            by_cases y1 : y = 40 * O + J + k
            · rw [if_pos ⟨rfl, y1⟩, if_pos (by omega), l1, if_neg (by omega), y1]
              congr 1; omega
            · rw [if_neg (fun w => y1 w.2), l1]
              by_cases y2 : 40 * O + J ≤ y ∧ y < 40 * O + J + k
              · rw [if_pos (by omega), if_pos (by omega)]
              · rw [if_neg (by omega), if_neg (by omega)]
          · rw [gI_sI, if_neg (fun w => h w.1)]; exact l2 a b h
        · have ex : nI M - 1 - nI k = nI (M - 1 - k) := by
            rw [nI_pred2 (by omega), nI_sub (by omega)]
          refine ⟨sI τ 86 (40 * O + J + (M - 1 - k)) (gI τ 86 (40 * S + I + (M - 1 - k))), ?_, fun y => ?_, fun a b h => ?_⟩
          · show B9_copy_147 _ _ _ _ _ _ _ τ = _
            unfold B9_copy_147 S9_copy_173
            rw [if_neg (nI_ge hk (by omega)), eA, eB, if_neg (nI_ge (by omega) (by omega)), ex, nI_add, nI_add, if_pos (inb_nI (by omega) (by omega)), if_pos (inb_nI (by omega) (by omega)), nI_clamp (by omega), nI_clamp (by omega), nI_1]
          · rw [gI_sI]
            by_cases y1 : y = 40 * O + J + (M - 1 - k)
            · rw [if_pos ⟨rfl, y1⟩, if_pos (by omega), l1, if_neg (by omega), y1]
              congr 1; omega
            · rw [if_neg (fun w => y1 w.2), l1]
              by_cases y2 : 40 * O + J + M - k ≤ y ∧ y < 40 * O + J + M
              · rw [if_pos (by omega), if_pos (by omega)]
              · rw [if_neg (by omega), if_neg (by omega)]
          · rw [gI_sI, if_neg (fun w => h w.1)]; exact l2 a b h
      obtain ⟨f', σ2, e2, l1, l2⟩ := loopR (fun f k τ => S9_copy_147 (nI S) (nI I) (nI O) (nI J) (nI M) f (nI k) τ) M L step M 0 4096 σ1 (by omega) (by omega) ⟨fun y => by rw [if_neg (by omega)], fun _ _ _ => rfl⟩
      have l1' : ∀ y, gI σ2 86 y = if 40 * O + J ≤ y ∧ y < 40 * O + J + M then gI σ1 86 (40 * S + I + (y - (40 * O + J))) else gI σ1 86 y := fun y => by
        rw [l1]
        by_cases q : 40 * O + J ≤ y ∧ y < 40 * O + J + M
        · rw [if_pos (by omega), if_pos q]
        · rw [if_neg (by omega), if_neg q]
      refine ⟨nI M, σ1, σ2, g8, ?_, n, T, t, inv_sheet hI hO (fun a b h1 h2 => ?_) ⟨⟨?_, ?_⟩, ⟨zo, hzo, ?_, ?_⟩, fun y hy => ?_⟩⟩
      · rw [e9' σ1 (m1 84 S (by omega)) (m1 84 O (by omega)) ((m1 85 S (by omega)).trans zs9) ((m1 85 O (by omega)).trans zo9), if_neg (nI_pos (by omega)), if_neg (nI_pos (by omega)), if_neg (nI_pos (by omega)), if_neg (nI_nlt (by omega) (by omega)), if_neg (nI_nlt (by omega) (by omega)), nI_sub (by omega), if_neg (nI_nlt (by omega) (by omega)), nI_sub (by omega), if_pos (nI_le (by omega) (by omega)), show S9_copy_147 (nI S) (nI I) (nI O) (nI J) (nI M) 4096 (0 : Int32) σ1 = _ from e2]
        show B9_copy_147 _ _ _ _ _ _ _ σ2 = _
        unfold B9_copy_147
        rw [if_pos (Int32.le_refl _)]
      · by_cases q : a = 86
        · rw [q, l1', if_neg (by omega)]; exact m1 86 b (by omega)
        · rw [l2 a b q]; exact m1 a b (by omega)
      · rw [l2 _ _ (by omega), m1 _ _ (by omega), l2 84 O (by omega), m1 84 O (by omega)]; exact o1
      · rw [l2 84 O (by omega), m1 84 O (by omega)]; exact o2
      · rw [l2 _ _ (by omega), m1 _ _ (by omega)]; exact zo8
      · rw [l2 85 O (by omega), m1 85 O (by omega)]; exact zo9
      · rw [l2 _ _ (by omega), c1, l1']
        by_cases q : J ≤ y ∧ y < J + M
        · rw [if_pos q, if_pos (by omega), m1 86 _ (by omega), hrs _ (by omega)]
          congr 1; omega
        · rw [if_neg q, if_neg (by omega), m1 86 _ (by omega)]; exact hro y hy
  · exact same_rf hI (-13) (by rw [e8, if_neg k1, if_neg k2, if_neg k3]) (by rw [e9 σ rfl rfl zs9 zo9, if_neg k1, if_neg k2, if_neg k3])
