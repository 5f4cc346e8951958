/-! taken, image, back. -/
theorem isOf8 {w K : Nat} (hK : K < 6) (k : Int32) (σ τ : St) (h : gI σ w 0 = k) : ∃ v, S7_isOf w (nI K) σ = some (v, σ) ∧ S9_isUnder k (nI K) τ = some (v, τ) := by
  unfold S7_isOf S7_isOf_46 S7_isOf_68 S9_isUnder S9_isUnder_19 S9_isUnder_29
  rw [h]
  match K, hK with
  | 0, _ => exact ⟨1, rfl, rfl⟩
  | 1, _ =>
    simp only [if_neg (show ¬ nI 1 = (0 : Int32) by decide), if_pos (show nI 1 = (1 : Int32) from rfl), if_neg (show ¬ nI 1 = (2 : Int32) by decide)]
    rw [show nI 1 = (1 : Int32) from rfl]
    by_cases q : k = 1
    · exact ⟨1, by rw [if_pos q], by rw [if_pos q]⟩
    · by_cases q3 : k = 3
      · exact ⟨1, by rw [if_neg q, if_pos q3], by rw [if_neg q, if_pos q3]⟩
      · exact ⟨0, by rw [if_neg q, if_neg q3], by rw [if_neg q, if_neg q3]⟩
  | 2, _ =>
    simp only [if_neg (show ¬ nI 2 = (0 : Int32) by decide), if_neg (show ¬ nI 2 = (1 : Int32) by decide), if_pos (show nI 2 = (2 : Int32) from rfl)]
    rw [show nI 2 = (2 : Int32) from rfl]
    by_cases q : k = 2
    · exact ⟨1, by rw [if_pos q], by rw [if_pos q]⟩
    · by_cases q3 : k = 4
      · exact ⟨1, by rw [if_neg q, if_pos q3], by rw [if_neg q, if_pos q3]⟩
      · exact ⟨0, by rw [if_neg q, if_neg q3], by rw [if_neg q, if_neg q3]⟩
  | 3, _ =>
    simp only [if_neg (show ¬ nI 3 = (0 : Int32) by decide), if_neg (show ¬ nI 3 = (1 : Int32) by decide), if_neg (show ¬ nI 3 = (2 : Int32) by decide)]
    by_cases q : k = nI 3
    · exact ⟨1, by rw [if_pos q], by rw [if_pos q]⟩
    · exact ⟨0, by rw [if_neg q], by rw [if_neg q]⟩
  | 4, _ =>
    simp only [if_neg (show ¬ nI 4 = (0 : Int32) by decide), if_neg (show ¬ nI 4 = (1 : Int32) by decide), if_neg (show ¬ nI 4 = (2 : Int32) by decide)]
    by_cases q : k = nI 4
    · exact ⟨1, by rw [if_pos q], by rw [if_pos q]⟩
    · exact ⟨0, by rw [if_neg q], by rw [if_neg q]⟩
  | 5, _ =>
    simp only [if_neg (show ¬ nI 5 = (0 : Int32) by decide), if_neg (show ¬ nI 5 = (1 : Int32) by decide), if_neg (show ¬ nI 5 = (2 : Int32) by decide)]
    by_cases q : k = nI 5
    · exact ⟨1, by rw [if_pos q], by rw [if_pos q]⟩
    · exact ⟨0, by rw [if_neg q], by rw [if_neg q]⟩
theorem same_taken (i k : Int32) : Same (S8_taken i k) (S9_taken i k) := by
  intro n T t σ hI
  have hn := hI.n6
  by_cases hk : in01 k 0 6 = 0
  · refine same_rf hI (-2) ?_ ?_
    · unfold S8_taken
      rcases in01_f hk with y | y
      · rw [if_pos y]
      · by_cases y0 : k < 0
        · rw [if_pos y0]
        · rw [if_neg y0, if_neg (Int32.not_le.mpr y)]
    · unfold S9_taken; rw [in9, bnd_s, if_pos hk]
  obtain ⟨k1, k2⟩ := in01_t hk
  by_cases hi : in01 i 0 11 = 0
  · refine same_rf hI (-12) ?_ ?_
    · unfold S8_taken
      rw [if_neg k1, if_pos (Int32.not_lt.mp k2)]
      rcases in01_f hi with y | y
      · rw [if_pos y]
      · by_cases y0 : i < 0
        · rw [if_pos y0]
        · rw [if_neg y0, if_neg (show ¬ i < 12 by grind)]
    · unfold S9_taken; rw [in9, bnd_s, if_neg hk, in9, bnd_s, if_pos hi]
  obtain ⟨i1, i2⟩ := in01_t hi
  obtain ⟨K, rfl, hK⟩ := ex_nIc (a := k) (c := 6) (by omega) k1 k2
  obtain ⟨A, rfl, hA⟩ := ex_nIc (a := i) (c := 11) (by omega) i1 i2
  have hr : jrem (nI A) 6 = nI (A % 6) := nI_rem (b := 6) (by omega) (by omega)
  have e8 : S8_taken (nI A) (nI K) σ = if has01 n (nI (A % 6)) = 0 then some (-11, σ) else if 6 ≤ nI A then S8_taken_54 (nI A) (nI K) 0 σ else S8_taken_54 (nI A) (nI K) 1 σ := by
    unfold S8_taken
    rw [if_neg k1, if_pos (Int32.not_lt.mp k2), if_neg i1, if_pos (show nI A < (12 : Int32) from nI_lt (b := 12) (by omega) (by omega)), hr, has8 hI.n8, bnd_s]
  have e9 : S9_taken (nI A) (nI K) σ = if nI (A % 6) < nI n then (if nI A < 6 then (if 6 ≤ nI K then some (-13, σ) else (if inb (nI A) 6 then (bnd (S9_isUnder (gI σ 76 (nI A).toNatClampNeg) (nI K) σ) fun r32 σ31 => if r32 = 0 then (some ((-13 : Int32), σ31)) else (some (nI A, σ31))) else none)) else (if nI K = (6 : Int32) then (if inb (((5 : Int32) * (nI A - (6 : Int32))) + (3 : Int32)) 30 then (some ((gI σ 78 ((((5 : Int32) * (nI A - (6 : Int32))) + (3 : Int32))).toNatClampNeg), σ)) else none) else (some ((-13 : Int32), σ)))) else some (-11, σ) := by
    unfold S9_taken
    rw [in9, bnd_s, if_neg hk, in9, bnd_s, if_neg hi, hr, hI.n9]
  by_cases hm : A % 6 < n
  · rw [has01_1 hn hm, if_neg (by decide)] at e8
    rw [if_pos (nI_lt hm (by omega))] at e9
    by_cases ha : A < 6
    · rw [if_neg (show ¬ (6 : Int32) ≤ nI A from nI_ge (b := 6) ha (by omega))] at e8
      rw [if_pos (show nI A < (6 : Int32) from nI_lt (b := 6) ha (by omega))] at e9
      by_cases hk6 : K = 6
      · subst hk6
        refine same_rf hI (-13) ?_ ?_
        · rw [e8]; unfold S8_taken_54 S8_taken_66
          rw [if_pos (show (6 : Int32) ≤ nI 6 by decide), if_neg (by decide)]
        · rw [e9, if_pos (show (6 : Int32) ≤ nI 6 by decide)]
      · have hAm : A % 6 = A := Nat.mod_eq_of_lt ha
        rw [hAm] at hm
        obtain ⟨v, v8, v9⟩ := isOf8 (w := 3 + A) (show K < 6 by omega) (gI σ 76 A) σ σ (hI.men hm 0 (by omega))
        refine same_rf hI (if v = 0 then -13 else nI A) ?_ ?_
        · rw [e8]; unfold S8_taken_54 S8_taken_66 S8_taken_96
          rw [if_neg (show ¬ (6 : Int32) ≤ nI K from nI_ge (b := 6) (by omega) (by omega)), if_pos rfl, if_neg (by decide), man8 ha, bnd_s, v8, bnd_s]
          by_cases q : v = 0
          · rw [if_pos q, if_pos q]
          · rw [if_neg q, if_neg q, if_neg (by decide)]
        · rw [e9, if_neg (show ¬ (6 : Int32) ≤ nI K from nI_ge (b := 6) (by omega) (by omega)), if_pos (inb_nI ha (by omega)), nI_clamp (by omega), v9, bnd_s]
          by_cases q : v = 0
          · rw [if_pos q, if_pos q]
          · rw [if_neg q, if_neg q]
    · rw [if_pos (show (6 : Int32) ≤ nI A from nI_le (a := 6) (by omega) (by omega))] at e8
      rw [if_neg (show ¬ nI A < (6 : Int32) from nI_nlt (b := 6) (by omega) (by omega))] at e9
      by_cases hk6 : K = 6
      · subst hk6
        have hAm : A % 6 = A - 6 := by omega
        rw [hAm] at hm hr
        refine same_rf hI (stM σ (A - 6) 5) ?_ ?_
        · rw [e8]; unfold S8_taken_54 S8_taken_66 S8_taken_96
          rw [if_pos (show (6 : Int32) ≤ nI 6 by decide), if_pos rfl, if_pos rfl, if_pos rfl, hr, man8 (by omega), bnd_s, hI.men hm 5 (by omega)]
        · have ei : (5 : Int32) * (nI A - 6) + 3 = nI (5 * (A - 6) + 3) := by
            rw [show (6 : Int32) = nI 6 from rfl, nI_sub (by omega), show (5 : Int32) = nI 5 from rfl, nI_mul, show (3 : Int32) = nI 3 from rfl, nI_add]
          rw [e9, if_pos (show nI 6 = (6 : Int32) from rfl), ei, if_pos (inb_nI (by omega) (by omega)), nI_clamp (by omega)]
          rfl
      · refine same_rf hI (-13) ?_ ?_
        · rw [e8]; unfold S8_taken_54 S8_taken_66
          rw [if_neg (show ¬ (6 : Int32) ≤ nI K from nI_ge (b := 6) (by omega) (by omega)), if_neg (by decide)]
        · rw [e9, if_neg (show ¬ nI K = (6 : Int32) from fun y => hk6 ((nI_inj (b := 6) (by omega) (by omega)).mp y))]
  · refine same_rf hI (-11) ?_ ?_
    · rw [e8]
      have : has01 n (nI (A % 6)) = 0 := by
        unfold has01
        rw [if_neg (nI_pos (by omega)), if_pos (nI_le (by omega) (by omega))]
      rw [if_pos this]
    · rw [e9, if_neg (nI_nlt (by omega) (by omega))]
/-! one stable becomes like another -/
theorem stable8 {o p : Nat} (ho : Ob 75 5 o) (hp : Ob 75 5 p) (hop : o + 8 ≤ p ∨ p + 8 ≤ o) (hw : ∀ k, k < 6 → Ob 75 7 (o + 2 + k)) (σ : St) : ∃ σ', S5_becomesLike o p σ = some ((), σ') ∧ (∀ m j, m < 6 → j < 7 → gI σ' (o + 2 + m) j = gI σ (p + 2 + m) j) ∧ (gI σ' o 1 = gI σ p 1 ∧ gI σ' o 2 = gI σ p 2 ∧ gI σ' o 3 = gI σ p 3) ∧ ∀ a b, ¬ (o ≤ a ∧ a < o + 8) → gI σ' a b = gI σ a b := by
  have step : ∀ (i f : Nat) (τ : St), i < 6 → ((∀ m j, m < i → j < 7 → gI τ (o + 2 + m) j = gI σ (p + 2 + m) j) ∧ ∀ a b, ¬ (o + 2 ≤ a ∧ a < o + 8) → gI τ a b = gI σ a b) → ∃ τ', S5_becomesLike_2 o p (f + 1) (nI i) τ = S5_becomesLike_2 o p f (nI (i + 1)) τ' ∧ ((∀ m j, m < i + 1 → j < 7 → gI τ' (o + 2 + m) j = gI σ (p + 2 + m) j) ∧ ∀ a b, ¬ (o + 2 ≤ a ∧ a < o + 8) → gI τ' a b = gI σ a b) := by
    intro i f τ hi ⟨l1, l2⟩
    obtain ⟨τ', g, a1, b1⟩ := like8 (o := o + 2 + i) (w := p + 2 + i) (by omega) τ
    refine ⟨τ', ?_, fun m j hm hj => ?_, fun a b h => ?_⟩
    · show B5_becomesLike_2 _ _ _ _ τ = _
      unfold B5_becomesLike_2
      rw [if_neg (show ¬ (6 : Int32) ≤ nI i from nI_ge (b := 6) hi (by omega)), at8 ho hi, bnd_s, at8 hp hi, bnd_s, g, bnd_s, nI_1]
    · by_cases q : m = i
      · subst q; rw [a1 j hj, l2 _ _ (by omega)]
      · rw [b1 _ _ (by omega)]; exact l1 m j (by omega) hj
    · rw [b1 _ _ (by omega)]; exact l2 a b h
  obtain ⟨f', σ1, e1, l1, l2⟩ := loopR (fun f i τ => S5_becomesLike_2 o p f (nI i) τ) 6 (fun i τ => (∀ m j, m < i → j < 7 → gI τ (o + 2 + m) j = gI σ (p + 2 + m) j) ∧ ∀ a b, ¬ (o + 2 ≤ a ∧ a < o + 8) → gI τ a b = gI σ a b) step 6 0 4096 σ (by omega) (by omega) ⟨fun m j hm => absurd hm (by omega), fun _ _ _ => rfl⟩
  have e2 : S5_becomesLike_2 o p (f' + 1) (nI 6) σ1 = some ((), sI (sI (sI σ1 o 1 (gI σ1 p 1)) o 2 (gI (sI σ1 o 1 (gI σ1 p 1)) p 2)) o 3 (gI (sI (sI σ1 o 1 (gI σ1 p 1)) o 2 (gI (sI σ1 o 1 (gI σ1 p 1)) p 2)) p 3)) := by
    show B5_becomesLike_2 _ _ _ _ σ1 = _
    unfold B5_becomesLike_2
    rw [if_pos (show (6 : Int32) ≤ nI 6 by decide)]
  have hpo : ¬ p = o := by omega
  refine ⟨sI (sI (sI σ1 o 1 (gI σ1 p 1)) o 2 (gI (sI σ1 o 1 (gI σ1 p 1)) p 2)) o 3 (gI (sI (sI σ1 o 1 (gI σ1 p 1)) o 2 (gI (sI σ1 o 1 (gI σ1 p 1)) p 2)) p 3), ?_, ?_, ⟨?_, ?_, ?_⟩, ?_⟩
  · unfold S5_becomesLike
    rw [show S5_becomesLike_2 o p 4096 (0 : Int32) σ = _ from e1]
    exact e2
  · intro m j hm hj
    rw [gI_sI, if_neg (by omega), gI_sI, if_neg (by omega), gI_sI, if_neg (by omega)]; exact l1 m j hm hj
  · rw [gI_sI, if_neg (by omega), gI_sI, if_neg (by omega), gI_sI, if_pos ⟨rfl, rfl⟩]; exact l2 p 1 (by omega)
  · rw [gI_sI, if_neg (by omega), gI_sI, if_pos ⟨rfl, rfl⟩, gI_sI, if_neg (by omega)]; exact l2 p 2 (by omega)
  · rw [gI_sI, if_pos ⟨rfl, rfl⟩, gI_sI, if_neg (by omega), gI_sI, if_neg (by omega)]; exact l2 p 3 (by omega)
  · intro a b h
    rw [gI_sI, if_neg (by omega), gI_sI, if_neg (by omega), gI_sI, if_neg (by omega)]; exact l2 a b (by omega)
theorem same_image : Same S8_image S9_image := by
  intro n T t σ hI
  have hn := hI.n6
  obtain ⟨σ1, g1, a1, ⟨a2, a3, a4⟩, a5⟩ := stable8 (o := 17) (p := 1) ob17 ob1 (by omega) (by decide +kernel) σ
  let σ2 : St := sI σ1 0 10 1
  have m2 : ∀ a b, ¬ (17 ≤ a ∧ a < 25) → ¬ (a = 0 ∧ b = 10) → gI σ2 a b = gI σ a b := fun a b h1 h2 => by show gI (sI σ1 0 10 1) a b = _; rw [gI_sI, if_neg h2]; exact a5 a b (by omega)
  have m3 : ∀ a b, ¬ (a = 0 ∧ b = 10) → gI σ2 a b = gI σ1 a b := fun a b h2 => by show gI (sI σ1 0 10 1) a b = _; rw [gI_sI, if_neg h2]
  have m4 : gI σ2 0 10 = 1 := by show gI (sI σ1 0 10 1) 0 10 = _; rw [gI_sI, if_pos ⟨rfl, rfl⟩]
  have g8 : S8_image σ = some (nI n, σ2) := by
    unfold S8_image
    rw [g1, bnd_s, show gI (sI σ1 0 10 1) 1 1 = nI n from (m2 1 1 (by omega) (by omega)).trans hI.n8]
  let σ3 : St := sI σ2 75 11 1
  have n3 : ∀ a b, ¬ (a = 75 ∧ b = 11) → gI σ3 a b = gI σ2 a b := fun a b h => by show gI (sI σ2 75 11 1) a b = _; rw [gI_sI, if_neg h]
  have n4 : gI σ3 75 11 = 1 := by show gI (sI σ2 75 11 1) 75 11 = _; rw [gI_sI, if_pos ⟨rfl, rfl⟩]
  have step : ∀ (i f : Nat) (τ : St), i < 30 → ((∀ j, j < i → gI τ 82 j = gI σ 78 j) ∧ ∀ a b, a ≠ 82 → gI τ a b = gI σ3 a b) → ∃ τ', S9_image_7 (f + 1) (nI i) τ = S9_image_7 f (nI (i + 1)) τ' ∧ ((∀ j, j < i + 1 → gI τ' 82 j = gI σ 78 j) ∧ ∀ a b, a ≠ 82 → gI τ' a b = gI σ3 a b) := by
    intro i f τ hi ⟨l1, l2⟩
    refine ⟨sI τ 82 i (gI τ 78 i), ?_, fun j hj => ?_, fun a b h => ?_⟩
    · show B9_image_7 _ _ τ = _
      unfold B9_image_7
      rw [if_neg (show ¬ (30 : Int32) ≤ nI i from nI_ge (b := 30) hi (by omega)), if_pos (inb_nI hi (by omega)), if_pos (inb_nI hi (by omega)), nI_clamp (by omega), nI_1]
    · rw [gI_sI]
      by_cases q : j = i
      · subst q; rw [if_pos ⟨rfl, rfl⟩, l2 78 _ (by omega), n3 _ _ (by omega), m2 _ _ (by omega) (by omega)]
      · rw [if_neg (by omega)]; exact l1 j (by omega)
    · rw [gI_sI, if_neg (fun y => h y.1)]; exact l2 a b h
  obtain ⟨f', σ4, e4, l1, l2⟩ := loopR (fun f i τ => S9_image_7 f (nI i) τ) 30 (fun i τ => (∀ j, j < i → gI τ 82 j = gI σ 78 j) ∧ ∀ a b, a ≠ 82 → gI τ a b = gI σ3 a b) step 30 0 4096 σ3 (by omega) (by omega) ⟨fun j hj => absurd hj (by omega), fun _ _ _ => rfl⟩
  have q4 : ∀ b, b ≠ 11 → gI σ4 75 b = gI σ 75 b := fun b h => by rw [l2 _ _ (by omega), n3 _ _ (by omega), m2 _ _ (by omega) (by omega)]
  have c0 : (0 : Int32).toNatClampNeg = 0 := rfl
  have c1 : (1 : Int32).toNatClampNeg = 1 := rfl
  have c2 : (2 : Int32).toNatClampNeg = 2 := rfl
  let σ5 : St := sI (sI (sI σ4 83 0 (nI n)) 83 1 (gI σ 75 4)) 83 2 (nI t)
  have p5 : ∀ a b, a ≠ 83 → gI σ5 a b = gI σ4 a b := fun a b h => by show gI (sI (sI (sI σ4 83 0 _) 83 1 _) 83 2 _) a b = _; rw [gI_sI, if_neg (by omega), gI_sI, if_neg (by omega), gI_sI, if_neg (by omega)]
  have v0 : gI σ5 83 0 = nI n := by show gI (sI (sI (sI σ4 83 0 _) 83 1 _) 83 2 _) _ _ = _; rw [gI_sI, if_neg (by omega), gI_sI, if_neg (by omega), gI_sI, if_pos ⟨rfl, rfl⟩]
  have v1 : gI σ5 83 1 = gI σ 75 4 := by show gI (sI (sI (sI σ4 83 0 _) 83 1 _) 83 2 _) _ _ = _; rw [gI_sI, if_neg (by omega), gI_sI, if_pos ⟨rfl, rfl⟩]
  have v2 : gI σ5 83 2 = nI t := by show gI (sI (sI (sI σ4 83 0 _) 83 1 _) 83 2 _) _ _ = _; rw [gI_sI, if_pos ⟨rfl, rfl⟩]
  have g9 : S9_image σ2 = some (nI n, σ5) := by
    unfold S9_image
    rw [show S9_image_7 4096 (0 : Int32) (sI σ2 75 11 1) = _ from e4]
    show B9_image_7 _ _ σ4 = _
    unfold B9_image_7
    have w0 : gI σ4 75 0 = nI n := (q4 0 (by omega)).trans hI.n9
    have w1 : gI (sI σ4 83 0 (nI n)) 75 4 = gI σ 75 4 := by rw [gI_sI, if_neg (by omega)]; exact q4 4 (by omega)
    have w2 : gI (sI (sI σ4 83 0 (nI n)) 83 1 (gI σ 75 4)) 75 10 = nI t := by rw [gI_sI, if_neg (by omega), gI_sI, if_neg (by omega)]; exact (q4 10 (by omega)).trans hI.l9
    have w3 : gI (sI (sI (sI σ4 83 0 (nI n)) 83 1 (gI σ 75 4)) 83 2 (nI t)) 75 0 = nI n := (p5 75 0 (by omega)).trans w0
    rw [if_pos (show (30 : Int32) ≤ nI 30 by decide), c0, c1, c2, w0, w1, w2, w3]
  have F : ∀ a b, ¬ (17 ≤ a ∧ a < 25) → ¬ (a = 0 ∧ b = 10) → ¬ (a = 75 ∧ b = 11) → a ≠ 82 → a ≠ 83 → gI σ5 a b = gI σ a b := fun a b h1 h2 h3 h4 h5 => by rw [p5 a b h5, l2 a b h4, n3 a b h3]; exact m2 a b h1 h2
  have G : ∀ a b, 17 ≤ a ∧ a < 25 → gI σ5 a b = gI σ1 a b := fun a b h => by rw [p5 _ _ (by omega), l2 _ _ (by omega), n3 _ _ (by omega), m3 _ _ (by omega)]
  have v11 : gI σ5 75 11 = 1 := by rw [p5 _ _ (by omega), l2 _ _ (by omega)]; exact n4
  have v10 : gI σ5 0 10 = 1 := by rw [p5 _ _ (by omega), l2 _ _ (by omega), n3 _ _ (by omega)]; exact m4
  have v82 : ∀ j, j < 30 → gI σ5 82 j = gI σ 78 j := fun j hj => by rw [p5 _ _ (by omega)]; exact l1 j hj
  refine ⟨nI n, σ2, σ5, g8, g9, n, T, t, ?_⟩
  obtain ⟨h1, h2, h3, h4, h5, h6, h7⟩ := id hI
  refine ⟨h1.fr (fun a b z => F a b (by omega) (by omega) (by omega) (by omega) (by omega)), h2.fr hn (fun a b z => F a b (by omega) (by omega) (by omega) (by omega) (by omega)), fun j hj => TxOk_fr (by have := hI.T6; omega) (fun a b z => F a b (by omega) (by omega) (by omega) (by omega) (by omega)) (h3 j hj), h4.fr (fun a b z => F a b (by omega) (by omega) (by omega) (by omega) (by omega)), fun s hs => (h5 s hs).fr hs (fun a b z => F a b (by omega) (by omega) (by omega) (by omega) (by omega)), ⟨by rw [v10, v11], Or.inr ⟨by rw [v11]; decide, n, t, Nat.le_refl _, hI.tT, ⟨?_, v0⟩, ?_, ⟨?_, v2⟩, fun m hm => ?_⟩⟩, fun j hj => ?_⟩
  · rw [G _ _ (by omega), a2]; exact hI.n8
  · rw [G _ _ (by omega), a3, v1]; exact hI.d
  · rw [G _ _ (by omega), a4]; exact hI.l8
  · have e : ∀ k, k < 7 → kpM σ5 m k = stM σ m k := by
      intro k hk
      unfold kpM stM
      rw [F 76 m (by omega) (by omega) (by omega) (by omega) (by omega), F 77 m (by omega) (by omega) (by omega) (by omega) (by omega)]
      by_cases q0 : k = 0
      · rw [if_pos q0, if_pos q0]
      · rw [if_neg q0, if_neg q0]
        by_cases q1 : k = 1
        · rw [if_pos q1, if_pos q1]
        · rw [if_neg q1, if_neg q1]; exact v82 _ (by omega)
    refine ⟨fun k hk => ?_, bdM_cg (fun k hk => (e k hk).symm) (hI.bd hm)⟩
    rw [G _ _ (by omega), e k hk, show 19 + m = 17 + 2 + m by omega, a1 m k (by omega) hk, show 1 + 2 + m = 3 + m by omega]
    exact hI.men hm k hk
  · rw [F 88 j (by omega) (by omega) (by omega) (by omega) (by omega)]; exact h7 j hj
theorem same_back : Same S8_back S9_back := by
  intro n T t σ hI
  have hn := hI.n6
  obtain ⟨k0, k1⟩ := hI.kp
  rcases k1 with k1 | ⟨k1, kn, kt, hkn, hkt, ⟨c1, c2⟩, c3, ⟨c4, c5⟩, c6⟩
  · refine same_rf hI (-3) ?_ ?_
    · unfold S8_back; rw [k0, if_pos k1]
    · unfold S9_back; rw [if_pos k1]
  · obtain ⟨σ1, g1, a1, ⟨a2, a3, a4⟩, a5⟩ := stable8 (o := 1) (p := 17) ob1 ob17 (by omega) (by decide +kernel) σ
    have g8 : S8_back σ = some (nI kn, σ1) := by
      unfold S8_back
      rw [k0, if_neg k1, g1, bnd_s, a2, c1]
    have step : ∀ (i f : Nat) (τ : St), i < 30 → ((∀ j, j < i → gI τ 78 j = gI σ 82 j) ∧ ∀ a b, a ≠ 78 → gI τ a b = gI σ1 a b) → ∃ τ', S9_back_12 (f + 1) (nI i) τ = S9_back_12 f (nI (i + 1)) τ' ∧ ((∀ j, j < i + 1 → gI τ' 78 j = gI σ 82 j) ∧ ∀ a b, a ≠ 78 → gI τ' a b = gI σ1 a b) := by
      intro i f τ hi ⟨l1, l2⟩
      refine ⟨sI τ 78 i (gI τ 82 i), ?_, fun j hj => ?_, fun a b h => ?_⟩
      · show B9_back_12 _ _ τ = _
        unfold B9_back_12
        rw [if_neg (show ¬ (30 : Int32) ≤ nI i from nI_ge (b := 30) hi (by omega)), if_pos (inb_nI hi (by omega)), if_pos (inb_nI hi (by omega)), nI_clamp (by omega), nI_1]
      · rw [gI_sI]
        by_cases q : j = i
        · subst q; rw [if_pos ⟨rfl, rfl⟩, l2 82 _ (by omega), a5 _ _ (by omega)]
        · rw [if_neg (by omega)]; exact l1 j (by omega)
      · rw [gI_sI, if_neg (fun y => h y.1)]; exact l2 a b h
    obtain ⟨f', σ2, e2, l1, l2⟩ := loopR (fun f i τ => S9_back_12 f (nI i) τ) 30 (fun i τ => (∀ j, j < i → gI τ 78 j = gI σ 82 j) ∧ ∀ a b, a ≠ 78 → gI τ a b = gI σ1 a b) step 30 0 4096 σ1 (by omega) (by omega) ⟨fun j hj => absurd hj (by omega), fun _ _ _ => rfl⟩
    have F2 : ∀ a b, a ≠ 78 → ¬ (1 ≤ a ∧ a < 9) → gI σ2 a b = gI σ a b := fun a b h1 h2 => by rw [l2 a b h1]; exact a5 a b (by omega)
    have c0' : (0 : Int32).toNatClampNeg = 0 := rfl
    have c1' : (1 : Int32).toNatClampNeg = 1 := rfl
    have c2' : (2 : Int32).toNatClampNeg = 2 := rfl
    let σ5 : St := sI (sI (sI σ2 75 0 (nI kn)) 75 4 (gI σ 83 1)) 75 10 (nI kt)
    have p5 : ∀ a b, ¬ (a = 75 ∧ (b = 0 ∨ b = 4 ∨ b = 10)) → gI σ5 a b = gI σ2 a b := fun a b h => by show gI (sI (sI (sI σ2 75 0 _) 75 4 _) 75 10 _) a b = _; rw [gI_sI, if_neg (by omega), gI_sI, if_neg (by omega), gI_sI, if_neg (by omega)]
    have v0 : gI σ5 75 0 = nI kn := by show gI (sI (sI (sI σ2 75 0 _) 75 4 _) 75 10 _) _ _ = _; rw [gI_sI, if_neg (by omega), gI_sI, if_neg (by omega), gI_sI, if_pos ⟨rfl, rfl⟩]
    have v1 : gI σ5 75 4 = gI σ 83 1 := by show gI (sI (sI (sI σ2 75 0 _) 75 4 _) 75 10 _) _ _ = _; rw [gI_sI, if_neg (by omega), gI_sI, if_pos ⟨rfl, rfl⟩]
    have v2 : gI σ5 75 10 = nI kt := by show gI (sI (sI (sI σ2 75 0 _) 75 4 _) 75 10 _) _ _ = _; rw [gI_sI, if_pos ⟨rfl, rfl⟩]
    have g9 : S9_back σ1 = some (nI kn, σ5) := by
      unfold S9_back
      rw [a5 75 11 (by omega), if_neg k1, show S9_back_12 4096 (0 : Int32) σ1 = _ from e2]
      show B9_back_12 _ _ σ2 = _
      unfold B9_back_12
      have w0 : gI σ2 83 0 = nI kn := (F2 83 0 (by omega) (by omega)).trans c2
      have w1 : gI (sI σ2 75 0 (nI kn)) 83 1 = gI σ 83 1 := by rw [gI_sI, if_neg (by omega)]; exact F2 83 1 (by omega) (by omega)
      have w2 : gI (sI (sI σ2 75 0 (nI kn)) 75 4 (gI σ 83 1)) 83 2 = nI kt := by rw [gI_sI, if_neg (by omega), gI_sI, if_neg (by omega)]; exact (F2 83 2 (by omega) (by omega)).trans c5
      rw [if_pos (show (30 : Int32) ≤ nI 30 by decide), c0', c1', c2', w0, w1, w2, v0]
    have F : ∀ a b, ¬ (1 ≤ a ∧ a < 9) → a ≠ 78 → ¬ (a = 75 ∧ (b = 0 ∨ b = 4 ∨ b = 10)) → gI σ5 a b = gI σ a b := fun a b h1 h2 h3 => by rw [p5 a b h3]; exact F2 a b h2 h1
    have G : ∀ a b, 1 ≤ a ∧ a < 9 → gI σ5 a b = gI σ1 a b := fun a b h => by rw [p5 _ _ (by omega), l2 _ _ (by omega)]
    have v78 : ∀ j, j < 30 → gI σ5 78 j = gI σ 82 j := fun j hj => by rw [p5 _ _ (by omega)]; exact l1 j hj
    refine ⟨nI kn, σ1, σ5, g8, g9, kn, T, kt, ?_⟩
    obtain ⟨h1, h2, h3, h4, h5, h6, h7⟩ := id hI
    refine ⟨⟨⟨by omega, hI.T6, hkt⟩, ⟨by rw [G _ _ (by omega), a2]; exact c1, v0⟩, ⟨by rw [F _ _ (by omega) (by omega) (by omega)]; exact hI.T8, by rw [F _ _ (by omega) (by omega) (by omega)]; exact hI.T9⟩, ⟨by rw [G _ _ (by omega), a4]; exact c4, v2⟩, by rw [G _ _ (by omega), a3, v1]; exact c3⟩, fun m hm => ?_, fun j hj => TxOk_fr (by have := hI.T6; omega) (fun a b z => F a b (by omega) (by omega) (by omega)) (h3 j hj), h4.fr (fun a b z => F a b (by omega) (by omega) (by omega)), fun s hs => (h5 s hs).fr hs (fun a b z => F a b (by omega) (by omega) (by omega)), ⟨by rw [F _ _ (by omega) (by omega) (by omega), F _ _ (by omega) (by omega) (by omega)]; exact k0, Or.inr ⟨by rw [F _ _ (by omega) (by omega) (by omega)]; exact k1, kn, kt, Nat.le_refl _, hkt, ⟨by rw [F _ _ (by omega) (by omega) (by omega)]; exact c1, by rw [F _ _ (by omega) (by omega) (by omega)]; exact c2⟩, by rw [F _ _ (by omega) (by omega) (by omega), F _ _ (by omega) (by omega) (by omega)]; exact c3, ⟨by rw [F _ _ (by omega) (by omega) (by omega)]; exact c4, by rw [F _ _ (by omega) (by omega) (by omega)]; exact c5⟩, fun m hm => ?_⟩⟩, fun j hj => ?_⟩
    · have e : ∀ k, k < 7 → stM σ5 m k = kpM σ m k := by
        intro k hk
        unfold kpM stM
        rw [F 76 m (by omega) (by omega) (by omega), F 77 m (by omega) (by omega) (by omega)]
        by_cases q0 : k = 0
        · rw [if_pos q0, if_pos q0]
        · rw [if_neg q0, if_neg q0]
          by_cases q1 : k = 1
          · rw [if_pos q1, if_pos q1]
          · rw [if_neg q1, if_neg q1]; exact v78 _ (by omega)
      refine ⟨fun k hk => ?_, bdM_cg (fun k hk => (e k hk).symm) (c6 m hm).2⟩
      rw [G _ _ (by omega), e k hk, show 3 + m = 1 + 2 + m by omega, a1 m k (by omega) hk, show 17 + 2 + m = 19 + m by omega]
      exact (c6 m hm).1 k hk
    · have e : kpM σ5 m = kpM σ m := kpM_fr (fun a b z => F a b (by omega) (by omega) (by omega)) m
      rw [e]
      exact ⟨fun k hk => by rw [F _ _ (by omega) (by omega) (by omega)]; exact (c6 m hm).1 k hk, (c6 m hm).2⟩
    · rw [F 88 j (by omega) (by omega) (by omega)]; exact h7 j hj
