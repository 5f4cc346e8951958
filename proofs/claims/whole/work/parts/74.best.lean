/-! Short plans, the plan that wins soonest, the surest one, what all come to. -/
def wp8 (p : Int32) (n : Nat) : Nat → Int32
  | 0 => 0
  | t + 1 => wp8 p n t ||| (actF p (min t (n - 1)) <<< ((2 * nI t) &&& 31))
def wp9 (p : Int32) (n : Nat) : Nat → Int32
  | 0 => p
  | i + 1 => wp9 p n i ||| (actF p (n - 1) <<< ((2 * nI (n + i)) &&& 31))
def WP (n p : Nat) : Int32 := wp8 (nI p) n 9
theorem wp_eq : ∀ n, n < 4 → ∀ p, p < 64 → 1 ≤ n → p < 4 ^ n → wp8 (nI p) n 9 = wp9 (nI p) n (9 - n) := by decide +kernel
theorem sp_eq : ∀ n, n < 4 → (1 : Int32) <<< ((2 * nI n) &&& 31) = nI (4 ^ n) := by decide +kernel
theorem actIn8 (p : Int32) (t : Nat) (σ : St) : S8_actIn p (nI t) σ = some (actF p t, σ) := rfl
theorem short8 {n : Nat} (hn : n < 4) (σ : St) : S8_shortPlans (nI n) σ = some (nI (4 ^ n), σ) := by
  unfold S8_shortPlans
  rw [sp_eq n hn]
theorem whole8 {n : Nat} (h1 : 1 ≤ n) (h2 : n < 4) (p : Int32) (σ : St) : S8_wholePlan p (nI n) σ = some (wp8 p n 9, σ) := by
  have step : ∀ (t f : Nat) (τ : St), t < 9 → τ = σ → ∃ τ', S8_wholePlan_4 p (nI n) (f + 1) (wp8 p n t) (nI t) τ = S8_wholePlan_4 p (nI n) f (wp8 p n (t + 1)) (nI (t + 1)) τ' ∧ τ' = σ := by
    intro t f τ ht hτ
    refine ⟨τ, ?_, hτ⟩
    show B8_wholePlan_4 _ _ _ _ _ τ = _
    unfold B8_wholePlan_4
    have e : jmin (nI t) (nI n - 1) = nI (min t (n - 1)) := by
      rw [nI_pred2 h1]
      unfold jmin
      by_cases q : n - 1 < t
      · rw [if_pos (nI_lt q (by omega)), Nat.min_eq_right (by omega)]
      · rw [if_neg (nI_nlt (by omega) (by omega)), Nat.min_eq_left (by omega)]
    rw [if_neg (show ¬ (9 : Int32) ≤ nI t from nI_ge (b := 9) ht (by omega)), e, actIn8, bnd_s, ← nI_succ]
    rfl
  obtain ⟨f', σ', e1, l1⟩ := loopR (fun f t τ => S8_wholePlan_4 p (nI n) f (wp8 p n t) (nI t) τ) 9 (fun _ τ => τ = σ) step 9 0 4096 σ rfl (by omega) rfl
  subst l1
  unfold S8_wholePlan
  rw [show S8_wholePlan_4 p (nI n) 4096 (0 : Int32) (0 : Int32) σ' = _ from e1]
  show B8_wholePlan_4 _ _ _ _ _ σ' = _
  unfold B8_wholePlan_4
  rw [if_pos (show (9 : Int32) ≤ nI 9 by decide)]
theorem whole9 {n p : Nat} (h1 : 1 ≤ n) (h2 : n < 4) (hp : p < 4 ^ n) (σ : St) : S9_wholeOf (nI p) (nI n) σ = some (WP n p, σ) := by
  have h64 : p < 64 := Nat.lt_of_lt_of_le hp (by
    match n, h2 with
    | 0, _ => decide
    | 1, _ => decide
    | 2, _ => decide
    | 3, _ => decide)
  have step : ∀ (i f : Nat) (τ : St), i < 9 - n → τ = σ → ∃ τ', S9_wholeOf_15 (nI p) (nI n) (f + 1) (wp9 (nI p) n i) (nI (n + i)) τ = S9_wholeOf_15 (nI p) (nI n) f (wp9 (nI p) n (i + 1)) (nI (n + (i + 1))) τ' ∧ τ' = σ := by
    intro i f τ hi hτ
    refine ⟨τ, ?_, hτ⟩
    show B9_wholeOf_15 _ _ _ _ _ τ = _
    unfold B9_wholeOf_15
    rw [if_neg (show ¬ (9 : Int32) ≤ nI (n + i) from nI_ge (b := 9) (by omega) (by omega)), nI_pred2 h1, ← nI_succ]
    rfl
  obtain ⟨f', σ', e1, l1⟩ := loopR (fun f i τ => S9_wholeOf_15 (nI p) (nI n) f (wp9 (nI p) n i) (nI (n + i)) τ) (9 - n) (fun _ τ => τ = σ) step (9 - n) 0 4096 σ (by omega) (by omega) rfl
  subst l1
  unfold S9_wholeOf
  rw [show S9_wholeOf_15 (nI p) (nI n) 4096 (nI p) (nI n) σ' = _ from e1]
  show B9_wholeOf_15 _ _ _ _ _ σ' = _
  unfold B9_wholeOf_15
  rw [if_pos (show (9 : Int32) ≤ nI (n + (9 - n)) from nI_le (a := 9) (by omega) (by omega))]
  unfold WP
  rw [wp_eq n h2 p h64 h1 hp]
theorem lead8 {cs : Nat → List Int32} {s1 s2 : Nat → Int32} {pa pb : Int32} {σ : St} (h : B2 cs s1 s2 pa pb σ) : (gI σ 35 5 ≤ 0 ↔ cel cs s1 s2 pa pb 9 ≤ 4) ∧ (0 ≤ gI σ 35 5 ↔ 4 ≤ cel cs s1 s2 pa pb 9) := by
  obtain ⟨c1, c2⟩ := cel_b cs s1 s2 pa pb 9
  rw [h.2.2]
  generalize cel cs s1 s2 pa pb 9 = c at c1 c2 ⊢
  constructor <;> (constructor <;> intro <;> grind)
theorem m1_ne {k : Nat} (hk : k < 6) : ¬ nI k = -1 := fun z => absurd (nI_pos' (n := k) (by omega)) (by rw [z]; decide)
theorem winF_w {k l : Nat} (hk : k < 6) (hl : l < 6) (hkl : k ≠ l) (c : Int32) : winF (nI k) (nI l) c = nI k ↔ ¬ c ≤ 4 := by
  unfold winF
  by_cases q : c ≤ 4
  · rw [if_pos q]
    refine ⟨fun h => ?_, fun h => absurd q h⟩
    by_cases q2 : 4 ≤ c
    · rw [if_pos q2] at h; exact absurd h.symm (m1_ne hk)
    · rw [if_neg q2] at h; exact absurd ((nI_inj (by omega) (by omega)).mp h).symm hkl
  · rw [if_neg q]; exact ⟨fun _ => q, fun _ => rfl⟩
theorem winF_e {k l : Nat} (hk : k < 6) (hl : l < 6) (hkl : k ≠ l) (c : Int32) (h1 : 0 ≤ c) (h2 : c ≤ 8) : winF (nI k) (nI l) c = nI l ↔ ¬ 4 ≤ c := by
  unfold winF
  by_cases q : c ≤ 4
  · rw [if_pos q]
    by_cases q2 : 4 ≤ c
    · rw [if_pos q2]; exact ⟨fun h => absurd h.symm (m1_ne hl), fun h => absurd q2 h⟩
    · rw [if_neg q2]; exact ⟨fun _ => q2, fun _ => rfl⟩
  · rw [if_neg q]
    refine ⟨fun h => absurd ((nI_inj (by omega) (by omega)).mp h) hkl, fun h => ?_⟩
    exfalso; grind
/-- the plan that wins soonest so far, its seconds -/
def bst (cs : Nat → List Int32) (s1 s2 : Nat → Int32) (pb : Int32) (N : Nat) : Nat → Int32 × Int32
  | 0 => (-1, -1)
  | p + 1 => if cel cs s1 s2 (WP N p) pb 9 ≤ 4 then bst cs s1 s2 pb N p else if (bst cs s1 s2 pb N p).1 < 0 then (nI p, sec cs s1 s2 (WP N p) pb) else if (bst cs s1 s2 pb N p).2 ≤ sec cs s1 s2 (WP N p) pb then bst cs s1 s2 pb N p else (nI p, sec cs s1 s2 (WP N p) pb)
theorem bst_m (cs : Nat → List Int32) (s1 s2 : Nat → Int32) (pb : Int32) (N : Nat) : ∀ p, p < 2 ^ 31 → ((bst cs s1 s2 pb N p).1 < 0 ↔ (bst cs s1 s2 pb N p).1 = -1) := by
  intro p
  induction p with
  | zero => intro _; exact ⟨fun _ => rfl, fun _ => by show (-1 : Int32) < 0; decide⟩
  | succ p ih =>
    intro hp
    have hh : (nI p < 0 ↔ nI p = -1) := ⟨fun h => absurd h (nI_pos (by omega)), fun h => absurd (nI_pos' (n := p) (by omega)) (by rw [h]; decide)⟩
    unfold bst
    split
    · exact ih (by omega)
    · split
      · exact hh
      · split
        · exact ih (by omega)
        · exact hh
theorem pow4 {N : Nat} (h : N < 4) : 4 ^ N ≤ 64 := by
  match N, h with
  | 0, _ => decide
  | 1, _ => decide
  | 2, _ => decide
  | 3, _ => decide
theorem best8 {cs : Nat → List Int32} {s1 s2 : Nat → Int32} {σ : St} (k1 : smS s1) (k2 : smS s2) (hP : PC cs s1 s2 σ) {N : Nat} (h1 : 1 ≤ N) (h2 : N < 4) (x pb w : Int32) : ∃ σ', S8_best_72 x pb (nI N) w 4096 (-1) (-1) 0 σ = some (if w = 0 then (bst cs s1 s2 pb N (4 ^ N)).1 else (bst cs s1 s2 pb N (4 ^ N)).2, σ') ∧ Ag σ σ' := by
  have h64 := pow4 h2
  have step : ∀ (p f : Nat) (τ : St), p < 4 ^ N → (Ag σ τ ∧ PC cs s1 s2 τ) → ∃ τ', S8_best_72 x pb (nI N) w (f + 1) (bst cs s1 s2 pb N p).1 (bst cs s1 s2 pb N p).2 (nI p) τ = S8_best_72 x pb (nI N) w f (bst cs s1 s2 pb N (p + 1)).1 (bst cs s1 s2 pb N (p + 1)).2 (nI (p + 1)) τ' ∧ (Ag σ τ' ∧ PC cs s1 s2 τ') := by
    intro p f τ hp ⟨a1, P1⟩
    obtain ⟨τ', g1, a2, P2, hB⟩ := goMen8 k1 k2 P1 (WP N p) pb
    refine ⟨τ', ?_, a1.tr a2, P2⟩
    show B8_best_72 _ _ _ _ _ _ _ _ τ = _
    unfold B8_best_72 S8_best_122 S8_best_135
    rw [short8 h2, bnd_s, if_neg (nI_ge hp (by omega)), whole8 h1 h2, bnd_s, show wp8 (nI p) N 9 = WP N p from rfl, g1, bnd_s, hB.2.1, ← nI_succ]
    show _ = S8_best_72 x pb (nI N) w f (if cel cs s1 s2 (WP N p) pb 9 ≤ 4 then bst cs s1 s2 pb N p else if (bst cs s1 s2 pb N p).1 < 0 then (nI p, sec cs s1 s2 (WP N p) pb) else if (bst cs s1 s2 pb N p).2 ≤ sec cs s1 s2 (WP N p) pb then bst cs s1 s2 pb N p else (nI p, sec cs s1 s2 (WP N p) pb)).1 (if cel cs s1 s2 (WP N p) pb 9 ≤ 4 then bst cs s1 s2 pb N p else if (bst cs s1 s2 pb N p).1 < 0 then (nI p, sec cs s1 s2 (WP N p) pb) else if (bst cs s1 s2 pb N p).2 ≤ sec cs s1 s2 (WP N p) pb then bst cs s1 s2 pb N p else (nI p, sec cs s1 s2 (WP N p) pb)).2 (nI (p + 1)) τ'
    by_cases q : cel cs s1 s2 (WP N p) pb 9 ≤ 4
    · rw [if_pos ((lead8 hB).1.mpr q), if_pos q]
    · rw [if_neg (fun z => q ((lead8 hB).1.mp z)), if_neg q]
      by_cases q2 : (bst cs s1 s2 pb N p).1 < 0
      · rw [if_pos q2, if_pos q2]
      · rw [if_neg q2, if_neg q2]
        by_cases q3 : (bst cs s1 s2 pb N p).2 ≤ sec cs s1 s2 (WP N p) pb
        · rw [if_pos q3, if_pos q3]
        · rw [if_neg q3, if_neg q3]
  obtain ⟨f', σ', e1, l1, -⟩ := loopR (fun f p τ => S8_best_72 x pb (nI N) w f (bst cs s1 s2 pb N p).1 (bst cs s1 s2 pb N p).2 (nI p) τ) (4 ^ N) (fun _ τ => Ag σ τ ∧ PC cs s1 s2 τ) step (4 ^ N) 0 4096 σ (by omega) (by omega) ⟨Ag.rf, hP⟩
  refine ⟨σ', ?_, l1⟩
  rw [show S8_best_72 x pb (nI N) w 4096 (-1) (-1) (0 : Int32) σ = _ from e1]
  show B8_best_72 _ _ _ _ _ _ _ _ σ' = _
  unfold B8_best_72
  rw [short8 h2, bnd_s, if_pos (Int32.le_refl _)]
  split <;> rfl
theorem best9 {cs : Nat → List Int32} {s1 s2 : Nat → Int32} {k l : Nat} {σ : St} (hk : k < 6) (hl : l < 6) (hkl : k ≠ l) (k1 : smS s1) (k2 : smS s2) (hP : PM cs s1 s2 k l σ) {N : Nat} (h1 : 1 ≤ N) (h2 : N < 4) (x pb w : Int32) : ∃ σ', S9_best_61 x pb (nI N) w 4096 (-1) (-1) 0 σ = some (if w = 0 then (bst cs s1 s2 pb N (4 ^ N)).1 else (bst cs s1 s2 pb N (4 ^ N)).2, σ') ∧ Ag σ σ' := by
  have h64 := pow4 h2
  have step : ∀ (p f : Nat) (τ : St), p < 4 ^ N → (Ag σ τ ∧ PM cs s1 s2 k l τ) → ∃ τ', S9_best_61 x pb (nI N) w (f + 1) (bst cs s1 s2 pb N p).1 (bst cs s1 s2 pb N p).2 (nI p) τ = S9_best_61 x pb (nI N) w f (bst cs s1 s2 pb N (p + 1)).1 (bst cs s1 s2 pb N (p + 1)).2 (nI (p + 1)) τ' ∧ (Ag σ τ' ∧ PM cs s1 s2 k l τ') := by
    intro p f τ hp ⟨a1, P1⟩
    obtain ⟨τ', g1, a2, P2, hB⟩ := goMen9 k1 k2 P1 (WP N p) pb
    refine ⟨τ', ?_, a1.tr a2, P2⟩
    show B9_best_61 _ _ _ _ _ _ _ _ τ = _
    unfold B9_best_61 S9_best_108 S9_best_112 S9_best_113 S9_best_127 S9_best_143
    rw [sp_eq N h2, if_neg (nI_ge hp (by omega)), whole9 h1 h2 hp, bnd_s, g1, bnd_s, hB.2.1, hB.2.2.1, hB.2.2.2.1, ← nI_succ]
    simp only [if_true, if_neg (show ¬ (1 : Int32) = 0 by decide)]
    show _ = S9_best_61 x pb (nI N) w f (if cel cs s1 s2 (WP N p) pb 9 ≤ 4 then bst cs s1 s2 pb N p else if (bst cs s1 s2 pb N p).1 < 0 then (nI p, sec cs s1 s2 (WP N p) pb) else if (bst cs s1 s2 pb N p).2 ≤ sec cs s1 s2 (WP N p) pb then bst cs s1 s2 pb N p else (nI p, sec cs s1 s2 (WP N p) pb)).1 (if cel cs s1 s2 (WP N p) pb 9 ≤ 4 then bst cs s1 s2 pb N p else if (bst cs s1 s2 pb N p).1 < 0 then (nI p, sec cs s1 s2 (WP N p) pb) else if (bst cs s1 s2 pb N p).2 ≤ sec cs s1 s2 (WP N p) pb then bst cs s1 s2 pb N p else (nI p, sec cs s1 s2 (WP N p) pb)).2 (nI (p + 1)) τ'
    have hm := bst_m cs s1 s2 pb N p (by omega)
    by_cases q : cel cs s1 s2 (WP N p) pb 9 ≤ 4
    · rw [if_neg (fun z => ((winF_w hk hl hkl _).mp z) q), if_pos q]
    · rw [if_pos ((winF_w hk hl hkl _).mpr q), if_neg q]
      by_cases q2 : (bst cs s1 s2 pb N p).1 < 0
      · rw [if_pos (hm.mp q2), if_pos q2]
      · rw [if_neg (fun z => q2 (hm.mpr z)), if_neg q2]
        by_cases q3 : (bst cs s1 s2 pb N p).2 ≤ sec cs s1 s2 (WP N p) pb
        · rw [if_pos q3, if_pos q3]
        · rw [if_neg q3, if_neg q3]
  obtain ⟨f', σ', e1, l1, -⟩ := loopR (fun f p τ => S9_best_61 x pb (nI N) w f (bst cs s1 s2 pb N p).1 (bst cs s1 s2 pb N p).2 (nI p) τ) (4 ^ N) (fun _ τ => Ag σ τ ∧ PM cs s1 s2 k l τ) step (4 ^ N) 0 4096 σ (by omega) (by omega) ⟨Ag.rf, hP⟩
  refine ⟨σ', ?_, l1⟩
  rw [show S9_best_61 x pb (nI N) w 4096 (-1) (-1) (0 : Int32) σ = _ from e1]
  show B9_best_61 _ _ _ _ _ _ _ _ σ' = _
  unfold B9_best_61
  rw [sp_eq N h2, if_pos (Int32.le_refl _)]
  split <;> rfl
theorem in01_w {w : Int32} : in01 w 0 1 = 0 ↔ ¬ (w = 0 ∨ w = 1) := by
  unfold in01
  by_cases q : w < 0
  · rw [if_pos q]; exact ⟨fun _ => by rintro (rfl | rfl) <;> exact absurd q (by decide), fun _ => rfl⟩
  · rw [if_neg q]
    by_cases q2 : 1 < w
    · rw [if_pos q2]; exact ⟨fun _ => by rintro (rfl | rfl) <;> exact absurd q2 (by decide), fun _ => rfl⟩
    · rw [if_neg q2]; exact ⟨fun h => absurd h (by decide), fun h => by exfalso; apply h; grind⟩
theorem same_best (x pb nn w : Int32) : Same (S8_best x pb nn w) (S9_best x pb nn w) := by
  intro n T t σ hI
  have hn := hI.n6
  by_cases hp : pair01 n x = 0
  · refine same_rf hI (-5) ?_ ?_
    · unfold S8_best; rw [isPair8 hI.n8, bnd_s, if_pos hp]
    · unfold S9_best; rw [areTwoMen9 hn hI.n9, bnd_s, if_pos hp]
  · obtain ⟨k, l, hk, hl, hkl, xk, xl⟩ := pair01_t hn hp
    by_cases hq : pl01 pb = 0
    · refine same_rf hI (-7) ?_ ?_
      · unfold S8_best; rw [isPair8 hI.n8, bnd_s, if_neg hp, isPlan8, bnd_s, if_pos hq]
      · unfold S9_best; rw [areTwoMen9 hn hI.n9, bnd_s, if_neg hp, isPlan9, bnd_s, if_pos hq]
    · by_cases hN : in01 nn 1 3 = 0
      · refine same_rf hI (-7) ?_ ?_
        · unfold S8_best; rw [isPair8 hI.n8, bnd_s, if_neg hp, isPlan8, bnd_s, if_neg hq]
          rcases in01_f hN with z | z
          · rw [if_pos z]
          · by_cases z0 : nn < 1
            · rw [if_pos z0]
            · rw [if_neg z0, if_pos z]
        · unfold S9_best; rw [areTwoMen9 hn hI.n9, bnd_s, if_neg hp, isPlan9, bnd_s, if_neg hq, in9, bnd_s, if_pos hN]
      · obtain ⟨n1, n2⟩ := in01_t hN
        by_cases hw : in01 w 0 1 = 0
        · have hw' := in01_w.mp hw
          refine same_rf hI (-7) ?_ ?_
          · unfold S8_best; rw [isPair8 hI.n8, bnd_s, if_neg hp, isPlan8, bnd_s, if_neg hq, if_neg n1, if_neg n2, if_neg (fun z => hw' (Or.inl z)), if_neg (fun z => hw' (Or.inr z))]
          · unfold S9_best; rw [areTwoMen9 hn hI.n9, bnd_s, if_neg hp, isPlan9, bnd_s, if_neg hq, in9, bnd_s, if_neg hN, in9, bnd_s, if_pos hw]
        · have hw' : w = 0 ∨ w = 1 := Decidable.byContradiction fun z => hw (in01_w.mpr z)
          obtain ⟨N, rfl, hN3⟩ := ex_nIc (a := nn) (c := 3) (by omega) (by grind) n2
          have hN1 : 1 ≤ N := by
            rw [show (1 : Int32) = nI 1 from rfl, nI_lt_iff (by omega) (by omega)] at n1
            omega
          obtain ⟨σ1, g1, A1, P1⟩ := pairMen8 hI hk hl
          obtain ⟨σ2, g2, A2⟩ := best8 (hI.bd hk).1 (hI.bd hl).1 P1 hN1 (show N < 4 by omega) x pb w
          have A := A1.tr A2
          have hI2 := hI.ag A
          obtain ⟨σ3, g3, A3, P3⟩ := beginsMen9 hI2 hk hl
          rw [txC_ag A, stM_ag A, stM_ag A] at P3
          obtain ⟨σ4, g4, A4⟩ := best9 (show k < 6 by omega) (show l < 6 by omega) hkl (hI.bd hk).1 (hI.bd hl).1 P3 hN1 (show N < 4 by omega) x pb w
          refine same_q hI (if w = 0 then (bst (txC σ t) (stM σ k) (stM σ l) pb N (4 ^ N)).1 else (bst (txC σ t) (stM σ k) (stM σ l) pb N (4 ^ N)).2) ?_ A ⟨σ4, ?_, A3.tr A4⟩
          · have e42 : S8_best_42 x pb (nI N) w σ = some (if w = 0 then (bst (txC σ t) (stM σ k) (stM σ l) pb N (4 ^ N)).1 else (bst (txC σ t) (stM σ k) (stM σ l) pb N (4 ^ N)).2, σ2) := by
              unfold S8_best_42
              rw [theOne8 xk (by omega), bnd_s, theOther8 xl (by omega), bnd_s, theLaw8 hI.t6 hI.l8, bnd_s, g1, bnd_s, g2]
            unfold S8_best
            rw [isPair8 hI.n8, bnd_s, if_neg hp, isPlan8, bnd_s, if_neg hq, if_neg n1, if_neg n2, e42]
            rcases hw' with z | z
            · rw [if_pos z]
            · rw [if_neg (show ¬ w = 0 by rw [z]; decide), if_pos z]
          · unfold S9_best
            rw [areTwoMen9 hn hI2.n9, bnd_s, if_neg hp, isPlan9, bnd_s, if_neg hq, in9, bnd_s, if_neg hN, in9, bnd_s, if_neg hw, xk, xl, g3, bnd_s, g4]
