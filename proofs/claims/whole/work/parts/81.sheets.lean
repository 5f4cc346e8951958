/-! film, sheet, cell, copy. -/
theorem inv_sheet {n T t : Nat} {σ σ2 : St} (hI : Inv n T t σ) {S : Nat} (hS : S < 4) (k1 : ∀ a b, ¬ scr a b → ¬ (a = 67 + 2 * S ∨ a = 68 + 2 * S ∨ (a = 84 ∧ b = S) ∨ (a = 85 ∧ b = S) ∨ (a = 86 ∧ 40 * S ≤ b ∧ b < 40 * S + 40)) → gI σ2 a b = gI σ a b) (h : ShOk σ2 S) : Inv n T t σ2 := by
  obtain ⟨h1, h2, h3, h4, h5, h6, h7⟩ := hI
  have hb0 := h1.1
  refine ⟨h1.fr (fun a b z => k1 a b (by unfold scr; omega) (by omega)), h2.fr hb0.1 (fun a b z => k1 a b (by unfold scr; omega) (by omega)), fun j hj => TxOk_fr (by omega) (fun a b z => k1 a b (by unfold scr; omega) (by omega)) (h3 j hj), h4.fr (fun a b z => k1 a b (by unfold scr; omega) (by omega)), fun s hs => ?_, h6.fr (Nat.le_refl _) (Nat.le_refl _) hb0.1 (fun a b z => k1 a b (by unfold scr; omega) (by omega)), fun j hj => ?_⟩
  · by_cases q : s = S
    · subst q; exact h
    · exact (h5 s hs).fr hs (fun a b z => k1 a b (by unfold scr; omega) (by omega))
  · rw [k1 88 j (by unfold scr; omega) (by omega)]; exact h7 j hj
theorem wi40 {z : Nat} (hz : z ≤ 40) : wi (nI z) 0 40 = nI z := by
  unfold wi jmax jmin
  have g1 : nI z ≤ nI 40 := nI_le hz (by omega)
  have g2 : ¬ nI z < 0 := nI_pos (by omega)
  rw [show nI 40 = (40 : Int32) from rfl] at g1
  generalize nI z = y at g1 g2 ⊢
  split <;> (split at * <;> grind)
theorem row8 {S z : Nat} (hz : z ≤ 40) (so : Int32) (σ : St) : ∃ σ', S3_becomesRow (67 + 2 * S) so (nI z) σ = some ((), σ') ∧ gI σ' (67 + 2 * S) 1 = so ∧ gI σ' (67 + 2 * S) 2 = nI z ∧ (∀ i, i < 40 → gI σ' (68 + 2 * S) i = 0) ∧ ∀ a b, a ≠ 67 + 2 * S → a ≠ 68 + 2 * S → gI σ' a b = gI σ a b := by
  unfold S3_becomesRow
  rw [within8, bnd_s, wi40 hz]
  refine ⟨_, rfl, ?_, ?_, fun i hi => ?_, fun a b h1 h2 => ?_⟩
  · rw [gI_fill, if_neg (by omega), gI_sI, if_neg (by omega), gI_sI, if_pos ⟨rfl, rfl⟩]
  · rw [gI_fill, if_neg (by omega), gI_sI, if_pos ⟨rfl, rfl⟩]
  · rw [gI_fill, if_pos ⟨by omega, hi⟩]
  · rw [gI_fill, if_neg (by omega), gI_sI, if_neg (by omega), gI_sI, if_neg (by omega)]
def wrV (so v : Int32) : Int32 := if so = 0 then v.toInt8.toInt32 else if so = 1 then v.toInt16.toInt32 else v
theorem write8 {S i : Nat} (hi : i < 40) {so v : Int32} {σ : St} (h : gI σ (67 + 2 * S) 1 = so) : S3_write (67 + 2 * S) (nI i) v σ = some ((), sI σ (68 + 2 * S) i (wrV so v)) := by
  unfold S3_write S3_write_44 wrV
  rw [if_neg (nI_pos (by omega)), if_neg (show ¬ (40 : Int32) ≤ nI i from nI_ge (b := 40) hi (by omega)), h]
  simp only [if_pos (inb_nI hi (show 40 < 2 ^ 31 by omega)), nI_clamp (show i < 2 ^ 31 by omega), show 67 + 2 * S + 1 = 68 + 2 * S by omega]
  by_cases q : so = 0
  · rw [if_pos q, if_pos q]
  · rw [if_neg q, if_neg q]
    by_cases q1 : so = 1
    · rw [if_pos q1, if_pos q1]
    · rw [if_neg q1, if_neg q1]
theorem byte_small : ∀ k, k < 9 → (nI k).toInt8.toInt32 = nI k := by decide +kernel
theorem same_film (s x pa pb : Int32) : Same (S8_film s x pa pb) (S9_film s x pa pb) := by
  intro n T t σ hI
  have hn := hI.n6
  by_cases hs : in01 s 0 3 = 0
  · refine same_rf hI (-2) ?_ ?_
    · unfold S8_film; rw [isSheet8, bnd_s, if_pos hs]
    · unfold S9_film; rw [in9, bnd_s, if_pos hs]
  · obtain ⟨S, hS, rfl⟩ := in03_t hs
    by_cases hp : pair01 n x = 0
    · refine same_rf hI (-5) ?_ ?_
      · unfold S8_film; rw [isSheet8, bnd_s, if_neg hs, isPair8 hI.n8, bnd_s, if_pos hp]
      · unfold S9_film; rw [in9, bnd_s, if_neg hs, areTwoMen9 hn hI.n9, bnd_s, if_pos hp]
    · obtain ⟨k, l, hk, hl, hkl, xk, xl⟩ := pair01_t hn hp
      by_cases hq : pls01 pa pb = 0
      · refine same_rf hI (-7) ?_ ?_
        · unfold S8_film; rw [isSheet8, bnd_s, if_neg hs, isPair8 hI.n8, bnd_s, if_neg hp, arePlans8, bnd_s, if_pos hq]
        · unfold S9_film
          rw [in9, bnd_s, if_neg hs, areTwoMen9 hn hI.n9, bnd_s, if_neg hp, isPlan9, bnd_s, isPlan9, bnd_s]
          rcases pls01_f hq with z | ⟨z1, z2⟩
          · rw [if_pos z]
          · rw [if_neg z1, if_pos z2]
      · obtain ⟨q1, q2⟩ := pls01_t hq
        obtain ⟨σ1, g1, A1, P1⟩ := pairMen8 hI hk hl
        obtain ⟨σ2, g2, A2, P2, c1, c2, c3⟩ := goMen8 (hI.bd hk).1 (hI.bd hl).1 P1 pa pb
        have A := A1.tr A2
        obtain ⟨N, hN1, hN9, hN⟩ := sec_b (txC σ t) (stM σ k) (stM σ l) pa pb
        rw [hN] at c2
        have hce : ∀ i, ∃ j : Nat, j < 9 ∧ cel (txC σ t) (stM σ k) (stM σ l) pa pb i = nI j := fun i => by
          obtain ⟨b1, b2⟩ := cel_b (txC σ t) (stM σ k) (stM σ l) pa pb i
          obtain ⟨j, e, hj⟩ := ex_nIc (c := 8) (by omega) (Int32.not_lt.mpr b1) (Int32.not_lt.mpr b2)
          exact ⟨j, by omega, e⟩
        obtain ⟨σ3, g3, r1, r2, r3, r4⟩ := row8 (S := S) (z := N) (by omega) 0 σ2
        have c2' : gI σ3 35 4 = nI N := (r4 35 4 (by omega) (by omega)).trans c2
        have step8 : ∀ (i f : Nat) (τ : St), i < N → ((∀ j, j < 40 → gI τ (68 + 2 * S) j = if j < i then cel (txC σ t) (stM σ k) (stM σ l) pa pb (j + 1) else 0) ∧ ∀ a b, a ≠ 68 + 2 * S → gI τ a b = gI σ3 a b) → ∃ τ', S8_film_84 (nI S) x pa pb (f + 1) (nI i) τ = S8_film_84 (nI S) x pa pb f (nI (i + 1)) τ' ∧ ((∀ j, j < 40 → gI τ' (68 + 2 * S) j = if j < i + 1 then cel (txC σ t) (stM σ k) (stM σ l) pa pb (j + 1) else 0) ∧ ∀ a b, a ≠ 68 + 2 * S → gI τ' a b = gI σ3 a b) := by
          intro i f τ hi ⟨l1, l2⟩
          obtain ⟨cj, hcj, ecj⟩ := hce (i + 1)
          have hrow : gI τ 36 (i + 1) = cel (txC σ t) (stM σ k) (stM σ l) pa pb (i + 1) := by
            rw [l2 36 _ (by omega), r4 36 _ (by omega) (by omega)]; exact c1 _ (by omega)
          refine ⟨sI τ (68 + 2 * S) i (cel (txC σ t) (stM σ k) (stM σ l) pa pb (i + 1)), ?_, fun j hj => ?_, fun a b h => ?_⟩
          · show B8_film_84 _ _ _ _ _ _ τ = _
            unfold B8_film_84
            rw [l2 35 4 (by omega), c2', if_neg (nI_ge hi (by omega)), sheetAt8 hS, bnd_s, nI_1, cellBehind8 (by omega), bnd_s, write8 (so := 0) (by omega) ((l2 _ _ (by omega)).trans r1), bnd_s, hrow, ecj]
            unfold wrV
            rw [if_pos rfl, byte_small cj hcj]
          · rw [gI_sI]
            by_cases q : j = i
            · rw [if_pos ⟨rfl, q⟩, if_pos (by omega), q]
            · rw [if_neg (fun y => q y.2), l1 j hj]
              by_cases q3 : j < i
              · rw [if_pos q3, if_pos (by omega)]
              · rw [if_neg q3, if_neg (by omega)]
          · rw [gI_sI, if_neg (fun y => h y.1)]; exact l2 a b h
        obtain ⟨f1, σ4, e4, l1, l2⟩ := loopR (fun f i τ => S8_film_84 (nI S) x pa pb f (nI i) τ) N (fun i τ => (∀ j, j < 40 → gI τ (68 + 2 * S) j = if j < i then cel (txC σ t) (stM σ k) (stM σ l) pa pb (j + 1) else 0) ∧ ∀ a b, a ≠ 68 + 2 * S → gI τ a b = gI σ3 a b) step8 N 0 4096 σ3 (by omega) (by omega) ⟨fun j hj => by rw [if_neg (by omega)]; exact r3 j hj, fun _ _ _ => rfl⟩
        have F4 : ∀ a b, ¬ scr a b → a ≠ 67 + 2 * S → a ≠ 68 + 2 * S → gI σ4 a b = gI σ a b := fun a b h1 h2 h3 => by rw [l2 a b h3, r4 a b h2 h3]; exact A a b h1
        -- the reference
        have hst : ∀ m, stM σ4 m = stM σ m := stM_fr (fun a b z => F4 a b (by unfold scr; omega) (by omega) (by omega))
        obtain ⟨σ5, g5, f5, d1, d2, d3, -⟩ := bout9w (σ := σ4) (m1 := k) (m2 := l) (t := t) (hI.bd hk).1 (hI.bd hl).1 (by omega) (by omega) hI.t6 ((F4 75 10 (by unfold scr; omega) (by omega) (by omega)).trans hI.l9) (TxOk_fr hI.t6 (fun a b z => F4 a b (by unfold scr; omega) (by omega) (by omega)) (hI.tx hI.tT)) (txC_fr t (fun a b z => F4 a b (by unfold scr; omega) (by omega) (by omega))) (fun j _ => by rw [hst]) (fun j _ => by rw [hst]) pa pb
        rw [hN] at d2
        have n9 : gI σ4 75 0 = nI n := (F4 75 0 (by unfold scr; omega) (by omega) (by omega)).trans hI.n9
        let σ6 : St := sI (sI σ5 84 S 0) 85 S (nI N)
        have s1 : gI σ6 84 S = 0 := by show gI (sI _ 85 S _) 84 S = _; rw [gI_sI, if_neg (by omega), gI_sI, if_pos ⟨rfl, rfl⟩]
        have s2 : gI σ6 85 S = nI N := by show gI (sI _ 85 S _) 85 S = _; rw [gI_sI, if_pos ⟨rfl, rfl⟩]
        have s3 : ∀ a b, ¬ (a = 84 ∧ b = S) → ¬ (a = 85 ∧ b = S) → gI σ6 a b = gI σ5 a b := fun a b h1 h2 => by show gI (sI _ 85 S _) a b = _; rw [gI_sI, if_neg h2, gI_sI, if_neg h1]
        have e36 : gI (sI σ5 84 S 0) 75 36 = nI N := by rw [gI_sI, if_neg (by omega)]; exact d2
        have u36 : gI σ6 75 36 = nI N := by rw [s3 _ _ (by omega) (by omega)]; exact d2
        have u93 : ∀ i, i ≤ 9 → gI σ6 93 i = cel (txC σ t) (stM σ k) (stM σ l) pa pb i := fun i hi => by rw [s3 _ _ (by omega) (by omega)]; exact d1 i hi
        have step9 : ∀ (i f : Nat) (τ : St), i < 40 → ((∀ j, j < i → gI τ 86 (40 * S + j) = if j < N then cel (txC σ t) (stM σ k) (stM σ l) pa pb (j + 1) else 0) ∧ ∀ a b, ¬ (a = 86 ∧ 40 * S ≤ b ∧ b < 40 * S + 40) → gI τ a b = gI σ6 a b) → ∃ τ', S9_film_76 (nI S) x pa pb (f + 1) (nI i) τ = S9_film_76 (nI S) x pa pb f (nI (i + 1)) τ' ∧ ((∀ j, j < i + 1 → gI τ' 86 (40 * S + j) = if j < N then cel (txC σ t) (stM σ k) (stM σ l) pa pb (j + 1) else 0) ∧ ∀ a b, ¬ (a = 86 ∧ 40 * S ≤ b ∧ b < 40 * S + 40) → gI τ' a b = gI σ6 a b) := by
          intro i f τ hi ⟨p1, p2⟩
          have e40 : (40 : Int32) * nI S + nI i = nI (40 * S + i) := by rw [show (40 : Int32) = nI 40 from rfl, nI_mul, nI_add]
          refine ⟨sI τ 86 (40 * S + i) (if i < N then cel (txC σ t) (stM σ k) (stM σ l) pa pb (i + 1) else 0), ?_, fun j hj => ?_, fun a b h => ?_⟩
          · show B9_film_76 _ _ _ _ _ _ τ = _
            unfold B9_film_76 S9_film_122
            rw [if_neg (show ¬ (40 : Int32) ≤ nI i from nI_ge (b := 40) hi (by omega)), p2 75 36 (by omega), u36, e40]
            simp only [if_pos (inb_nI (show 40 * S + i < 160 by omega) (show 160 < 2 ^ 31 by omega)), nI_clamp (show 40 * S + i < 2 ^ 31 by omega), nI_1]
            by_cases q : i < N
            · have ew : wi (nI (i + 1)) 0 9 = nI (i + 1) := by
                unfold wi jmax jmin
                have g1 : nI (i + 1) ≤ nI 9 := nI_le (by omega) (by omega)
                have g2 : ¬ nI (i + 1) < 0 := nI_pos (by omega)
                rw [show nI 9 = (9 : Int32) from rfl] at g1
                generalize nI (i + 1) = y at g1 g2 ⊢
                split <;> (split at * <;> grind)
              rw [if_neg (nI_ge q (by omega)), within9g _ (0 : Int32) 9 (by decide), bnd_s, ew, if_pos (inb_nI (by omega) (by omega)), nI_clamp (by omega), p2 93 _ (by omega), u93 _ (by omega), if_pos q]
            · rw [if_pos (nI_le (by omega) (by omega)), if_neg q]
          · rw [gI_sI]
            by_cases q : j = i
            · subst q; rw [if_pos ⟨rfl, rfl⟩]
            · rw [if_neg (by omega)]; exact p1 j (by omega)
          · rw [gI_sI, if_neg (by omega)]; exact p2 a b h
        obtain ⟨f2, σ7, e7, p1, p2⟩ := loopR (fun f i τ => S9_film_76 (nI S) x pa pb f (nI i) τ) 40 (fun i τ => (∀ j, j < i → gI τ 86 (40 * S + j) = if j < N then cel (txC σ t) (stM σ k) (stM σ l) pa pb (j + 1) else 0) ∧ ∀ a b, ¬ (a = 86 ∧ 40 * S ≤ b ∧ b < 40 * S + 40) → gI τ a b = gI σ6 a b) step9 40 0 4096 σ6 (by omega) (by omega) ⟨fun j hj => absurd hj (by omega), fun _ _ _ => rfl⟩
        have F7 : ∀ a b, ¬ scr a b → ¬ ((a = 84 ∧ b = S) ∨ (a = 85 ∧ b = S) ∨ (a = 86 ∧ 40 * S ≤ b ∧ b < 40 * S + 40)) → gI σ7 a b = gI σ4 a b := fun a b h1 h2 => by rw [p2 a b (by omega), s3 a b (by omega) (by omega)]; exact f5.1 a b (fun y => h1 (scN_scr a b y))
        refine ⟨nI N, σ4, σ7, ?_, ?_, n, T, t, inv_sheet hI hS (fun a b h1 h2 => ?_) ⟨⟨?_, ?_⟩, ⟨N, by omega, ?_, ?_⟩, fun j hj => ?_⟩⟩
        · unfold S8_film
          rw [isSheet8, bnd_s, if_neg hs, isPair8 hI.n8, bnd_s, if_neg hp, arePlans8, bnd_s, if_neg hq, theOne8 xk (by omega), bnd_s, theOther8 xl (by omega), bnd_s, theLaw8 hI.t6 hI.l8, bnd_s, g1, bnd_s, g2, bnd_s, sheetAt8 hS, bnd_s, c2, g3, bnd_s, show S8_film_84 (nI S) x pa pb 4096 (0 : Int32) σ3 = _ from e4]
          show B8_film_84 _ _ _ _ _ _ σ4 = _
          unfold B8_film_84
          rw [l2 35 4 (by omega), c2', if_pos (Int32.le_refl _)]
        · unfold S9_film
          rw [in9, bnd_s, if_neg hs, areTwoMen9 hn n9, bnd_s, if_neg hp, isPlan9, bnd_s, isPlan9, bnd_s, if_neg q1, if_neg q2, xk, xl, g5, bnd_s, if_pos (inb_nI hS (by omega)), if_pos (inb_nI hS (by omega)), nI_clamp (by omega), e36, show S9_film_76 (nI S) x pa pb 4096 (0 : Int32) (sI (sI σ5 84 S 0) 85 S (nI N)) = _ from e7]
          show B9_film_76 _ _ _ _ _ _ σ7 = _
          unfold B9_film_76
          rw [if_pos (show (40 : Int32) ≤ nI 40 by decide), p2 75 36 (by omega), u36]
        · rw [F7 a b h1 (by omega)]; exact F4 a b h1 (by omega) (by omega)
        · rw [F7 _ _ (by unfold scr; omega) (by omega), l2 _ _ (by omega), r1, p2 84 S (by omega), s1]
        · rw [p2 84 S (by omega), s1]; exact Or.inr (Or.inl rfl)
        · rw [F7 _ _ (by unfold scr; omega) (by omega), l2 _ _ (by omega), r2]
        · rw [p2 85 S (by omega), s2]
        · rw [F7 _ _ (by unfold scr; omega) (by omega), l1 j hj, p1 j hj]
theorem same_sheet (s so z : Int32) : Same (S8_sheet s so z) (S9_sheet s so z) := by
  intro n T t σ hI
  by_cases hs : in01 s 0 3 = 0
  · refine same_rf hI (-2) ?_ ?_
    · unfold S8_sheet; rw [isSheet8, bnd_s, if_pos hs]
    · unfold S9_sheet; rw [in9, bnd_s, if_pos hs]
  · obtain ⟨S, hS, rfl⟩ := in03_t hs
    by_cases ho : in01 so (-1) 2 = 0
    · refine same_rf hI (-2) ?_ ?_
      · unfold S8_sheet
        rw [isSheet8, bnd_s, if_neg hs]
        rcases in01_f ho with y | y
        · rw [if_pos y]
        · by_cases y0 : so < -1
          · rw [if_pos y0]
          · rw [if_neg y0, if_pos y]
      · unfold S9_sheet; rw [in9, bnd_s, if_neg hs, in9, bnd_s, if_pos ho]
    · obtain ⟨o1, o2⟩ := in01_t ho
      have e8 : S8_sheet (nI S) so z σ = if so = -1 then S8_sheet_32 (nI S) so z σ else if z ≤ 40 then S8_sheet_32 (nI S) so z σ else some (-2, σ) := by
        unfold S8_sheet; rw [isSheet8, bnd_s, if_neg hs, if_neg o1, if_neg o2]
      have e9 : ∀ τ, S9_sheet (nI S) so z τ = if so = -1 then S9_sheet_32 (nI S) so z τ else if z ≤ 40 then S9_sheet_32 (nI S) so z τ else some (-2, τ) := by
        intro τ
        unfold S9_sheet; rw [in9, bnd_s, if_neg hs, in9, bnd_s, if_neg ho]
      by_cases hbad : ¬ so = -1 ∧ ¬ z ≤ 40
      · refine same_rf hI (-2) ?_ ?_
        · rw [e8, if_neg hbad.1, if_neg hbad.2]
        · rw [e9, if_neg hbad.1, if_neg hbad.2]
      · have e8' : S8_sheet (nI S) so z σ = S8_sheet_32 (nI S) so z σ := by
          rw [e8]
          by_cases q : so = -1
          · rw [if_pos q]
          · rw [if_neg q]
            by_cases q2 : z ≤ 40
            · rw [if_pos q2]
            · exact absurd ⟨q, q2⟩ hbad
        have e9' : ∀ τ, S9_sheet (nI S) so z τ = S9_sheet_32 (nI S) so z τ := by
          intro τ
          rw [e9]
          by_cases q : so = -1
          · rw [if_pos q]
          · rw [if_neg q]
            by_cases q2 : z ≤ 40
            · rw [if_pos q2]
            · exact absurd ⟨q, q2⟩ hbad
        by_cases hneg : ¬ so = -1 ∧ ¬ 0 ≤ z
        · refine same_rf hI (-14) ?_ ?_
          · rw [e8']; unfold S8_sheet_32; rw [if_neg hneg.1, if_neg hneg.2]
          · rw [e9']; unfold S9_sheet_32; rw [if_neg hneg.1, if_neg hneg.2]
        · -- the row
          obtain ⟨Z, hZ40, hZ⟩ : ∃ Z : Nat, Z ≤ 40 ∧ (if so = -1 then (0 : Int32) else z) = nI Z := by
            by_cases q : so = -1
            · exact ⟨0, by omega, by rw [if_pos q]; rfl⟩
            · have h0 : 0 ≤ z := Decidable.byContradiction fun y => hneg ⟨q, y⟩
              have h4 : z ≤ 40 := Decidable.byContradiction fun y => hbad ⟨q, y⟩
              obtain ⟨Z, e, hZ⟩ := ex_nIc (a := z) (c := 40) (by omega) (Int32.not_lt.mpr h0) (Int32.not_lt.mpr h4)
              exact ⟨Z, hZ, by rw [if_neg q]; exact e⟩
          obtain ⟨σ1, g1, r1, r2, r3, r4⟩ := row8 (S := S) hZ40 so σ
          have g8 : S8_sheet (nI S) so z σ = some (1, σ1) := by
            have e44 : S8_sheet_44 (nI S) so z σ = some (1, σ1) := by
              unfold S8_sheet_44 S8_sheet_60
              rw [sheetAt8 hS, bnd_s]
              by_cases q : so = -1
              · rw [if_pos q] at hZ
                rw [if_pos q, hZ, g1, bnd_s]
              · rw [if_neg q] at hZ
                rw [if_neg q, hZ, g1, bnd_s]
            rw [e8']
            unfold S8_sheet_32
            by_cases q : so = -1
            · rw [if_pos q]; exact e44
            · rw [if_neg q, if_pos (Decidable.byContradiction fun y => hneg ⟨q, y⟩)]; exact e44
          let σ2 : St := sI (sI σ1 84 S so) 85 S (nI Z)
          have step9 : ∀ (i f : Nat) (τ : St), i < 40 → ((∀ j, j < i → gI τ 86 (40 * S + j) = 0) ∧ ∀ a b, ¬ (a = 86 ∧ 40 * S ≤ b ∧ b < 40 * S + 40) → gI τ a b = gI σ2 a b) → ∃ τ', S9_sheet_70 (nI S) so z (f + 1) (nI i) τ = S9_sheet_70 (nI S) so z f (nI (i + 1)) τ' ∧ ((∀ j, j < i + 1 → gI τ' 86 (40 * S + j) = 0) ∧ ∀ a b, ¬ (a = 86 ∧ 40 * S ≤ b ∧ b < 40 * S + 40) → gI τ' a b = gI σ2 a b) := by
            intro i f τ hi ⟨p1, p2⟩
            have e40 : (40 : Int32) * nI S + nI i = nI (40 * S + i) := by rw [show (40 : Int32) = nI 40 from rfl, nI_mul, nI_add]
            refine ⟨sI τ 86 (40 * S + i) 0, ?_, fun j hj => ?_, fun a b h => ?_⟩
            · show B9_sheet_70 _ _ _ _ _ τ = _
              unfold B9_sheet_70
              rw [if_neg (show ¬ (40 : Int32) ≤ nI i from nI_ge (b := 40) hi (by omega)), e40, if_pos (inb_nI (by omega) (by omega)), nI_clamp (by omega), nI_1]
            · rw [gI_sI]
              by_cases q : j = i
              · subst q; rw [if_pos ⟨rfl, rfl⟩]
              · rw [if_neg (by omega)]; exact p1 j (by omega)
            · rw [gI_sI, if_neg (by omega)]; exact p2 a b h
          obtain ⟨f2, σ3, e3, p1, p2⟩ := loopR (fun f i τ => S9_sheet_70 (nI S) so z f (nI i) τ) 40 (fun i τ => (∀ j, j < i → gI τ 86 (40 * S + j) = 0) ∧ ∀ a b, ¬ (a = 86 ∧ 40 * S ≤ b ∧ b < 40 * S + 40) → gI τ a b = gI σ2 a b) step9 40 0 4096 σ2 (by omega) (by omega) ⟨fun j hj => absurd hj (by omega), fun _ _ _ => rfl⟩
          have s3 : ∀ a b, ¬ (a = 84 ∧ b = S) → ¬ (a = 85 ∧ b = S) → gI σ2 a b = gI σ1 a b := fun a b h1 h2 => by show gI (sI _ 85 S _) a b = _; rw [gI_sI, if_neg h2, gI_sI, if_neg h1]
          have s1 : gI σ2 84 S = so := by show gI (sI _ 85 S _) 84 S = _; rw [gI_sI, if_neg (by omega), gI_sI, if_pos ⟨rfl, rfl⟩]
          have s2 : gI σ2 85 S = nI Z := by show gI (sI _ 85 S _) 85 S = _; rw [gI_sI, if_pos ⟨rfl, rfl⟩]
          have g9 : S9_sheet (nI S) so z σ1 = some (1, σ3) := by
            have e66 : S9_sheet_66 (nI S) so z (nI Z) (sI σ1 84 S so) = some (1, σ3) := by
              unfold S9_sheet_66
              rw [if_pos (inb_nI hS (by omega)), nI_clamp (by omega), show S9_sheet_70 (nI S) so z 4096 (0 : Int32) (sI (sI σ1 84 S so) 85 S (nI Z)) = _ from e3]
              show B9_sheet_70 _ _ _ _ _ σ3 = _
              unfold B9_sheet_70
              rw [if_pos (show (40 : Int32) ≤ nI 40 by decide)]
            have e44 : S9_sheet_44 (nI S) so z σ1 = some (1, σ3) := by
              unfold S9_sheet_44
              rw [if_pos (inb_nI hS (by omega)), nI_clamp (by omega)]
              by_cases q : so = -1
              · rw [if_pos q] at hZ
                rw [if_pos q, hZ]; exact e66
              · rw [if_neg q] at hZ
                rw [if_neg q, hZ]; rw [hZ] at e66; exact e66
            rw [e9']
            unfold S9_sheet_32
            by_cases q : so = -1
            · rw [if_pos q]; exact e44
            · rw [if_neg q, if_pos (Decidable.byContradiction fun y => hneg ⟨q, y⟩)]; exact e44
          have hso : so = -1 ∨ so = 0 ∨ so = 1 ∨ so = 2 := by grind
          refine ⟨1, σ1, σ3, g8, g9, n, T, t, inv_sheet hI hS (fun a b h1 h2 => ?_) ⟨⟨?_, ?_⟩, ⟨Z, hZ40, ?_, ?_⟩, fun j hj => ?_⟩⟩
          · rw [p2 a b (by omega), s3 a b (by omega) (by omega)]; exact r4 a b (by omega) (by omega)
          · rw [p2 _ _ (by omega), s3 _ _ (by omega) (by omega), r1, p2 84 S (by omega), s1]
          · rw [p2 84 S (by omega), s1]; exact hso
          · rw [p2 _ _ (by omega), s3 _ _ (by omega) (by omega), r2]
          · rw [p2 85 S (by omega), s2]
          · rw [p2 _ _ (by omega), s3 _ _ (by omega) (by omega), r3 j hj, p1 j hj]
