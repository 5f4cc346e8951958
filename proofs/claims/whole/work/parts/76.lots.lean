/-! chance, drawn, odds. -/
def tot (cs : Nat → List Int32) (s1 s2 : Nat → Int32) (N : Nat) : Nat → Nat
  | 0 => 0
  | p + 1 => tot cs s1 s2 N p + cnt cs s1 s2 N p (4 ^ N)
theorem tot_b (cs : Nat → List Int32) (s1 s2 : Nat → Int32) (N : Nat) : ∀ p, tot cs s1 s2 N p ≤ p * 4 ^ N := by
  intro p
  induction p with
  | zero => exact Nat.zero_le _
  | succ p ih =>
    show tot cs s1 s2 N p + cnt cs s1 s2 N p (4 ^ N) ≤ (p + 1) * 4 ^ N
    have := cnt_b cs s1 s2 N p (4 ^ N)
    rw [Nat.succ_mul]
    omega
theorem chance8 {cs : Nat → List Int32} {s1 s2 : Nat → Int32} {σ : St} (k1 : smS s1) (k2 : smS s2) (hP : PC cs s1 s2 σ) {N : Nat} (h1 : 1 ≤ N) (h2 : N < 3) (x part : Int32) : ∃ σ', S8_chance_58 x (nI N) part 4096 0 0 σ = (bnd (S8_inLowestTerms (nI (tot cs s1 s2 N (4 ^ N))) (nI (4 ^ N * 4 ^ N)) part σ') fun r τ => some (r, τ)) ∧ Ag σ σ' := by
  have h64 := pow4 (show N < 4 by omega)
  have step : ∀ (p f : Nat) (τ : St), p < 4 ^ N → (Ag σ τ ∧ PC cs s1 s2 τ) → ∃ τ', S8_chance_58 x (nI N) part (f + 1) (nI (tot cs s1 s2 N p)) (nI p) τ = S8_chance_58 x (nI N) part f (nI (tot cs s1 s2 N (p + 1))) (nI (p + 1)) τ' ∧ (Ag σ τ' ∧ PC cs s1 s2 τ') := by
    intro p f τ hp ⟨a1, P1⟩
    obtain ⟨τ', g1, a2, P2⟩ := wins8 k1 k2 P1 h1 (show N < 4 by omega) p
    refine ⟨τ', ?_, a1.tr a2, P2⟩
    show B8_chance_58 _ _ _ _ _ _ τ = _
    unfold B8_chance_58
    rw [short8 (by omega), bnd_s, if_neg (nI_ge hp (by omega)), g1, bnd_s, nI_1 p, nI_add]
    rfl
  obtain ⟨f', σ', e1, l1, -⟩ := loopR (fun f p τ => S8_chance_58 x (nI N) part f (nI (tot cs s1 s2 N p)) (nI p) τ) (4 ^ N) (fun _ τ => Ag σ τ ∧ PC cs s1 s2 τ) step (4 ^ N) 0 4096 σ (by omega) (by omega) ⟨Ag.rf, hP⟩
  refine ⟨σ', ?_, l1⟩
  rw [show S8_chance_58 x (nI N) part 4096 (0 : Int32) (0 : Int32) σ = _ from e1]
  show B8_chance_58 _ _ _ _ _ _ σ' = _
  unfold B8_chance_58
  rw [short8 (by omega), bnd_s, if_pos (Int32.le_refl _), short8 (by omega), bnd_s, short8 (by omega), bnd_s, nI_mul]
theorem sh4_eq : ∀ n, n < 3 → (1 : Int64) <<< ((4 * nI n).toInt64 &&& 63) = lN (4 ^ n * 4 ^ n) := by decide +kernel
theorem chance9 {cs : Nat → List Int32} {s1 s2 : Nat → Int32} {k l : Nat} {σ : St} (hk : k < 6) (hl : l < 6) (hkl : k ≠ l) (k1 : smS s1) (k2 : smS s2) (hP : PM cs s1 s2 k l σ) {N : Nat} (h1 : 1 ≤ N) (h2 : N < 3) (x part : Int32) : ∃ σ', S9_chance_48 x (nI N) part 4096 0 0 σ = (bnd (S9_lowest (lN (tot cs s1 s2 N (4 ^ N))) (lN (4 ^ N * 4 ^ N)) part σ') fun r τ => some (r, τ)) ∧ Ag σ σ' := by
  have h64 := pow4 (show N < 4 by omega)
  have step : ∀ (p f : Nat) (τ : St), p < 4 ^ N → (Ag σ τ ∧ PM cs s1 s2 k l τ) → ∃ τ', S9_chance_48 x (nI N) part (f + 1) (lN (tot cs s1 s2 N p)) (nI p) τ = S9_chance_48 x (nI N) part f (lN (tot cs s1 s2 N (p + 1))) (nI (p + 1)) τ' ∧ (Ag σ τ' ∧ PM cs s1 s2 k l τ') := by
    intro p f τ hp ⟨a1, P1⟩
    obtain ⟨τ', g1, a2, P2⟩ := wins9 hk hl hkl k1 k2 P1 h1 (show N < 4 by omega) hp
    refine ⟨τ', ?_, a1.tr a2, P2⟩
    have hb := cnt_b cs s1 s2 N p (4 ^ N)
    show B9_chance_48 _ _ _ _ _ _ τ = _
    unfold B9_chance_48
    rw [sp_eq N (by omega), if_neg (nI_ge hp (by omega)), g1, bnd_s, nI_1 p, nI_l (by omega), lN_add]
    rfl
  obtain ⟨f', σ', e1, l1, -⟩ := loopR (fun f p τ => S9_chance_48 x (nI N) part f (lN (tot cs s1 s2 N p)) (nI p) τ) (4 ^ N) (fun _ τ => Ag σ τ ∧ PM cs s1 s2 k l τ) step (4 ^ N) 0 4096 σ (by omega) (by omega) ⟨Ag.rf, hP⟩
  refine ⟨σ', ?_, l1⟩
  rw [show S9_chance_48 x (nI N) part 4096 (0 : Int64) (0 : Int32) σ = _ from e1]
  show B9_chance_48 _ _ _ _ _ _ σ' = _
  unfold B9_chance_48
  rw [sp_eq N (by omega), if_pos (Int32.le_refl _), sh4_eq N h2]
theorem same_chance (x nn part : Int32) : Same (S8_chance x nn part) (S9_chance x nn part) := by
  intro n T t σ hI
  have hn := hI.n6
  by_cases hp : pair01 n x = 0
  · refine same_rf hI (-4611686018427387904) ?_ ?_
    · unfold S8_chance; rw [isPair8 hI.n8, bnd_s, if_pos hp]
    · unfold S9_chance; rw [areTwoMen9 hn hI.n9, bnd_s, if_pos hp]
  · obtain ⟨k, l, hk, hl, hkl, xk, xl⟩ := pair01_t hn hp
    by_cases hN : in01 nn 1 2 = 0
    · refine same_rf hI (-4611686018427387904) ?_ ?_
      · unfold S8_chance; rw [isPair8 hI.n8, bnd_s, if_neg hp]
        rcases in01_f hN with z | z
        · rw [if_pos z]
        · by_cases z0 : nn < 1
          · rw [if_pos z0]
          · rw [if_neg z0, if_pos z]
      · unfold S9_chance; rw [areTwoMen9 hn hI.n9, bnd_s, if_neg hp, in9, bnd_s, if_pos hN]
    · obtain ⟨n1, n2⟩ := in01_t hN
      by_cases hw : in01 part 0 1 = 0
      · have hw' := in01_w.mp hw
        refine same_rf hI (-4611686018427387904) ?_ ?_
        · unfold S8_chance; rw [isPair8 hI.n8, bnd_s, if_neg hp, if_neg n1, if_neg n2, if_neg (fun z => hw' (Or.inl z)), if_neg (fun z => hw' (Or.inr z))]
        · unfold S9_chance; rw [areTwoMen9 hn hI.n9, bnd_s, if_neg hp, in9, bnd_s, if_neg hN, in9, bnd_s, if_pos hw]
      · have hw' : part = 0 ∨ part = 1 := Decidable.byContradiction fun z => hw (in01_w.mpr z)
        obtain ⟨N, rfl, hN3⟩ := ex_nIc (a := nn) (c := 2) (by omega) (by grind) n2
        have hN1 : 1 ≤ N := by
          rw [show (1 : Int32) = nI 1 from rfl, nI_lt_iff (by omega) (by omega)] at n1
          omega
        obtain ⟨σ1, g1, A1, P1⟩ := pairMen8 hI hk hl
        obtain ⟨σ2, g2, A2⟩ := chance8 (hI.bd hk).1 (hI.bd hl).1 P1 hN1 (show N < 3 by omega) x part
        have A := A1.tr A2
        have hI2 := hI.ag A
        obtain ⟨σ3, g3, A3, P3⟩ := beginsMen9 hI2 hk hl
        rw [txC_ag A, stM_ag A, stM_ag A] at P3
        obtain ⟨σ4, g4, A4⟩ := chance9 (show k < 6 by omega) (show l < 6 by omega) hkl (hI.bd hk).1 (hI.bd hl).1 P3 hN1 (show N < 3 by omega) x part
        have hB : 1 ≤ 4 ^ N * 4 ^ N ∧ 4 ^ N * 4 ^ N ≤ 256 := by
          match N, hN1, hN3 with
          | 1, _, _ => decide
          | 2, _, _ => decide
        have hA := tot_b (txC σ t) (stM σ k) (stM σ l) N (4 ^ N)
        have he : eu 63 (4 ^ N * 4 ^ N) (tot (txC σ t) (stM σ k) (stM σ l) N (4 ^ N)) = some (Nat.gcd (tot (txC σ t) (stM σ k) (stM σ l) N (4 ^ N)) (4 ^ N * 4 ^ N)) := by
          generalize tot (txC σ t) (stM σ k) (stM σ l) N (4 ^ N) = a at hA ⊢
          match N, hN1, hN3, hA with
          | 1, _, _, hA => exact eu_16 a (by omega)
          | 2, _, _, hA => exact eu_256 a (by omega)
        obtain ⟨v, v8, v9⟩ := lowest_89 hA hB.1 hB.2 he hw' σ2 σ4
        refine same_q hI v ?_ A ⟨σ4, ?_, A3.tr A4⟩
        · have e42 : S8_chance_31 x (nI N) part σ = some (v, σ2) := by
            unfold S8_chance_31
            rw [theOne8 xk (by omega), bnd_s, theOther8 xl (by omega), bnd_s, theLaw8 hI.t6 hI.l8, bnd_s, g1, bnd_s, g2, v8, bnd_s]
          unfold S8_chance
          rw [isPair8 hI.n8, bnd_s, if_neg hp, if_neg n1, if_neg n2, e42]
          rcases hw' with z | z
          · rw [if_pos z]
          · rw [if_neg (show ¬ part = 0 by rw [z]; decide), if_pos z]
        · unfold S9_chance
          rw [areTwoMen9 hn hI2.n9, bnd_s, if_neg hp, in9, bnd_s, if_neg hN, in9, bnd_s, if_neg hw, xk, xl, g3, bnd_s, g4, v9, bnd_s]
/-! plans by lots -/
def pA (s : Nat) : Int32 := (jlrem (jlrem (lN (s + 1) * 48271) 2147483647) 262144).toInt32
def pB (s : Nat) : Int32 := (jlrem (jlrem (jlrem (lN (s + 1) * 48271) 2147483647 * 48271) 2147483647) 262144).toInt32
theorem lots8 {s : Nat} (hs : s < 2 ^ 30) (σ : St) : S8_goThroughByLots (nI s) σ = bnd (S0_goThrough (pA s) (pB s) σ) fun _ τ => some ((), τ) := by
  unfold S8_goThroughByLots
  rw [nI_1, nI_l (by omega)]
  rfl
theorem lots9 {s : Nat} (hs : s < 2 ^ 30) (σ : St) : S9_boutBy (nI s) σ = bnd (S9_bouts (pA s) (pB s) σ) fun _ τ => some ((), τ) := by
  unfold S9_boutBy
  rw [nI_l (by omega), lN_1]
  rfl
theorem isSeed8 (v : Int32) (σ : St) : S8_isSeed v σ = some (in01 v 0 99999, σ) := by
  unfold S8_isSeed in01
  split
  · rfl
  · split <;> rfl
theorem same_drawn (sd a b w : Int32) : Same (S8_drawn sd a b w) (S9_drawn sd a b w) := by
  intro n T t σ hI
  have hn := hI.n6
  by_cases hp : two01 n a b = 0
  · refine same_rf hI (-5) ?_ ?_
    · unfold S8_drawn; rw [areTwo8 hI.n8, bnd_s, if_pos hp]
    · unfold S9_drawn; rw [areTwo9 hn hI.n9, bnd_s, if_pos hp]
  · obtain ⟨k, l, hk, hl, hkl, rfl, rfl⟩ := two01_t hn hp
    by_cases hs : in01 sd 0 99999 = 0
    · refine same_rf hI (-7) ?_ ?_
      · unfold S8_drawn; rw [areTwo8 hI.n8, bnd_s, if_neg hp, isSeed8, bnd_s, if_pos hs]
      · unfold S9_drawn; rw [areTwo9 hn hI.n9, bnd_s, if_neg hp, in9, bnd_s, if_pos hs]
    · obtain ⟨s1, s2⟩ := in01_t hs
      by_cases hw : in01 w 0 1 = 0
      · have hw' := in01_w.mp hw
        refine same_rf hI (-7) ?_ ?_
        · unfold S8_drawn; rw [areTwo8 hI.n8, bnd_s, if_neg hp, isSeed8, bnd_s, if_neg hs, if_neg (fun z => hw' (Or.inl z)), if_neg (fun z => hw' (Or.inr z))]
        · unfold S9_drawn; rw [areTwo9 hn hI.n9, bnd_s, if_neg hp, in9, bnd_s, if_neg hs, in9, bnd_s, if_pos hw]
      · have hw' : w = 0 ∨ w = 1 := Decidable.byContradiction fun z => hw (in01_w.mpr z)
        obtain ⟨s, rfl, hs9⟩ := ex_nIc (a := sd) (c := 99999) (by omega) s1 s2
        obtain ⟨σ1, g1, A1, P1⟩ := pairUp8 hI hk hl
        obtain ⟨σ2, g2, A2, P2, c1, c2, c3⟩ := goMen8 (hI.bd hk).1 (hI.bd hl).1 P1 (pA s) (pB s)
        have A := A1.tr A2
        have hI2 := hI.ag A
        obtain ⟨σ3, g3, A3, P3⟩ := beginsMen9 hI2 hk hl
        rw [txC_ag A, stM_ag A, stM_ag A] at P3
        obtain ⟨σ4, g4, A4, P4, d1, d2, d3, -⟩ := goMen9 (hI.bd hk).1 (hI.bd hl).1 P3 (pA s) (pB s)
        refine same_q hI (if w = 0 then winF (nI k) (nI l) (cel (txC σ t) (stM σ k) (stM σ l) (pA s) (pB s) 9) else sec (txC σ t) (stM σ k) (stM σ l) (pA s) (pB s)) ?_ A ⟨σ4, ?_, A3.tr A4⟩
        · have e33 : S8_drawn_33 (nI s) (nI k) (nI l) w σ = some (if w = 0 then winF (nI k) (nI l) (cel (txC σ t) (stM σ k) (stM σ l) (pA s) (pB s) 9) else sec (txC σ t) (stM σ k) (stM σ l) (pA s) (pB s), σ2) := by
            unfold S8_drawn_33
            rw [g1, bnd_s, lots8 (by omega), g2, bnd_s, bnd_s, winnerOf8 _ _ _ _ _ _ _ c3, bnd_s, c2]
            split <;> rfl
          unfold S8_drawn
          rw [areTwo8 hI.n8, bnd_s, if_neg hp, isSeed8, bnd_s, if_neg hs, e33]
          rcases hw' with z | z
          · rw [if_pos z]
          · rw [if_neg (show ¬ w = 0 by rw [z]; decide), if_pos z]
        · unfold S9_drawn
          rw [areTwo9 hn hI2.n9, bnd_s, if_neg hp, in9, bnd_s, if_neg hs, in9, bnd_s, if_neg hw, g3, bnd_s, lots9 (by omega), g4, bnd_s, bnd_s, d2, d3]
          split <;> rfl
def lct (cs : Nat → List Int32) (s1 s2 : Nat → Int32) (s : Nat) : Nat → Nat
  | 0 => 0
  | i + 1 => lct cs s1 s2 s i + (if cel cs s1 s2 (pA (s + i)) (pB (s + i)) 9 ≤ 4 then 0 else 1)
theorem lct_b (cs : Nat → List Int32) (s1 s2 : Nat → Int32) (s : Nat) : ∀ i, lct cs s1 s2 s i ≤ i := by
  intro i
  induction i with
  | zero => exact Nat.le_refl _
  | succ i ih =>
    show lct cs s1 s2 s i + _ ≤ i + 1
    split <;> omega
theorem odds8 {cs : Nat → List Int32} {s1 s2 : Nat → Int32} {σ : St} (k1 : smS s1) (k2 : smS s2) (hP : PC cs s1 s2 σ) {s m : Nat} (hs : s ≤ 99999) (hm : m ≤ 40) (a b part : Int32) : ∃ σ', S8_odds_68 (nI s) (nI m) a b part 4096 0 0 σ = (bnd (S8_inLowestTerms (nI (lct cs s1 s2 s m)) (nI m) part σ') fun r τ => some (r, τ)) ∧ Ag σ σ' := by
  have step : ∀ (i f : Nat) (τ : St), i < m → (Ag σ τ ∧ PC cs s1 s2 τ) → ∃ τ', S8_odds_68 (nI s) (nI m) a b part (f + 1) (nI (lct cs s1 s2 s i)) (nI i) τ = S8_odds_68 (nI s) (nI m) a b part f (nI (lct cs s1 s2 s (i + 1))) (nI (i + 1)) τ' ∧ (Ag σ τ' ∧ PC cs s1 s2 τ') := by
    intro i f τ hi ⟨a1, P1⟩
    obtain ⟨τ', g1, a2, P2, hB⟩ := goMen8 k1 k2 P1 (pA (s + i)) (pB (s + i))
    refine ⟨τ', ?_, a1.tr a2, P2⟩
    show B8_odds_68 _ _ _ _ _ _ _ _ τ = _
    unfold B8_odds_68 S8_odds_99
    rw [if_neg (nI_ge hi (by omega)), nI_add, lots8 (by omega), g1, bnd_s, bnd_s, nI_1 i]
    show _ = S8_odds_68 (nI s) (nI m) a b part f (nI (lct cs s1 s2 s i + (if cel cs s1 s2 (pA (s + i)) (pB (s + i)) 9 ≤ 4 then 0 else 1))) (nI (i + 1)) τ'
    by_cases z : cel cs s1 s2 (pA (s + i)) (pB (s + i)) 9 ≤ 4
    · rw [if_pos ((lead8 hB).1.mpr z), if_pos z, Int32.add_zero]; rfl
    · rw [if_neg (fun y => z ((lead8 hB).1.mp y)), if_neg z, nI_1]
  obtain ⟨f', σ', e1, l1, -⟩ := loopR (fun f i τ => S8_odds_68 (nI s) (nI m) a b part f (nI (lct cs s1 s2 s i)) (nI i) τ) m (fun _ τ => Ag σ τ ∧ PC cs s1 s2 τ) step m 0 4096 σ (by omega) (by omega) ⟨Ag.rf, hP⟩
  refine ⟨σ', ?_, l1⟩
  rw [show S8_odds_68 (nI s) (nI m) a b part 4096 (0 : Int32) (0 : Int32) σ = _ from e1]
  show B8_odds_68 _ _ _ _ _ _ _ _ σ' = _
  unfold B8_odds_68
  rw [if_pos (Int32.le_refl _)]
theorem odds9 {cs : Nat → List Int32} {s1 s2 : Nat → Int32} {k l : Nat} {σ : St} (hk : k < 6) (hl : l < 6) (hkl : k ≠ l) (k1 : smS s1) (k2 : smS s2) (hP : PM cs s1 s2 k l σ) {s m : Nat} (hs : s ≤ 99999) (hm : m ≤ 40) (b part : Int32) : ∃ σ', S9_odds_58 (nI s) (nI m) (nI k) b part 4096 0 0 σ = (bnd (S9_lowest (lN (lct cs s1 s2 s m)) (lN m) part σ') fun r τ => some (r, τ)) ∧ Ag σ σ' := by
  have step : ∀ (i f : Nat) (τ : St), i < m → (Ag σ τ ∧ PM cs s1 s2 k l τ) → ∃ τ', S9_odds_58 (nI s) (nI m) (nI k) b part (f + 1) (lN (lct cs s1 s2 s i)) (nI i) τ = S9_odds_58 (nI s) (nI m) (nI k) b part f (lN (lct cs s1 s2 s (i + 1))) (nI (i + 1)) τ' ∧ (Ag σ τ' ∧ PM cs s1 s2 k l τ') := by
    intro i f τ hi ⟨a1, P1⟩
    obtain ⟨τ', g1, a2, P2, hB⟩ := goMen9 k1 k2 P1 (pA (s + i)) (pB (s + i))
    refine ⟨τ', ?_, a1.tr a2, P2⟩
    show B9_odds_58 _ _ _ _ _ _ _ _ τ = _
    unfold B9_odds_58 S9_odds_87
    rw [if_neg (nI_ge hi (by omega)), nI_add, lots9 (by omega), g1, bnd_s, bnd_s, hB.2.2.1, nI_1 i]
    show _ = S9_odds_58 (nI s) (nI m) (nI k) b part f (lN (lct cs s1 s2 s i + (if cel cs s1 s2 (pA (s + i)) (pB (s + i)) 9 ≤ 4 then 0 else 1))) (nI (i + 1)) τ'
    by_cases z : cel cs s1 s2 (pA (s + i)) (pB (s + i)) 9 ≤ 4
    · rw [if_neg (fun y => ((winF_w hk hl hkl _).mp y) z), if_pos z, Int64.add_zero]; rfl
    · rw [if_pos ((winF_w hk hl hkl _).mpr z), if_neg z, lN_1]
  obtain ⟨f', σ', e1, l1, -⟩ := loopR (fun f i τ => S9_odds_58 (nI s) (nI m) (nI k) b part f (lN (lct cs s1 s2 s i)) (nI i) τ) m (fun _ τ => Ag σ τ ∧ PM cs s1 s2 k l τ) step m 0 4096 σ (by omega) (by omega) ⟨Ag.rf, hP⟩
  refine ⟨σ', ?_, l1⟩
  rw [show S9_odds_58 (nI s) (nI m) (nI k) b part 4096 (0 : Int64) (0 : Int32) σ = _ from e1]
  show B9_odds_58 _ _ _ _ _ _ _ _ σ' = _
  unfold B9_odds_58
  rw [if_pos (Int32.le_refl _), nI_l (by omega)]
theorem same_odds (sd m a b part : Int32) : Same (S8_odds sd m a b part) (S9_odds sd m a b part) := by
  intro n T t σ hI
  have hn := hI.n6
  have e8 : S8_odds sd m a b part σ = S8_odds_23 sd m a b part (if in01 sd 0 99999 = 0 then 0 else in01 m 1 40) σ := by
    unfold S8_odds S8_odds_22
    rw [isSeed8, bnd_s]
    by_cases q : in01 sd 0 99999 = 0
    · rw [if_pos q, if_pos q]
    · rw [if_neg q, if_neg q]
      unfold in01
      by_cases q1 : m < 1
      · rw [if_pos q1, if_pos q1]
      · rw [if_neg q1, if_neg q1]
        by_cases q2 : (40 : Int32) < m
        · rw [if_pos q2, if_pos q2]
        · rw [if_neg q2, if_neg q2]
  by_cases hs : in01 sd 0 99999 = 0
  · refine same_rf hI (-4611686018427387904) ?_ ?_
    · rw [e8, if_pos hs]; unfold S8_odds_23; rw [if_pos rfl]
    · unfold S9_odds; rw [in9, bnd_s, if_pos hs]
  · rw [if_neg hs] at e8
    obtain ⟨s1, s2⟩ := in01_t hs
    by_cases hm : in01 m 1 40 = 0
    · refine same_rf hI (-4611686018427387904) ?_ ?_
      · rw [e8]; unfold S8_odds_23; rw [if_pos hm]
      · unfold S9_odds; rw [in9, bnd_s, if_neg hs, in9, bnd_s, if_pos hm]
    · obtain ⟨m1, m2⟩ := in01_t hm
      by_cases hp : two01 n a b = 0
      · refine same_rf hI (-4611686018427387904) ?_ ?_
        · rw [e8]; unfold S8_odds_23; rw [if_neg hm, areTwo8 hI.n8, bnd_s, if_pos hp]
        · unfold S9_odds; rw [in9, bnd_s, if_neg hs, in9, bnd_s, if_neg hm, areTwo9 hn hI.n9, bnd_s, if_pos hp]
      · obtain ⟨k, l, hk, hl, hkl, rfl, rfl⟩ := two01_t hn hp
        by_cases hw : in01 part 0 1 = 0
        · have hw' := in01_w.mp hw
          refine same_rf hI (-4611686018427387904) ?_ ?_
          · rw [e8]; unfold S8_odds_23; rw [if_neg hm, areTwo8 hI.n8, bnd_s, if_neg hp, if_neg (fun z => hw' (Or.inl z)), if_neg (fun z => hw' (Or.inr z))]
          · unfold S9_odds; rw [in9, bnd_s, if_neg hs, in9, bnd_s, if_neg hm, areTwo9 hn hI.n9, bnd_s, if_neg hp, in9, bnd_s, if_pos hw]
        · have hw' : part = 0 ∨ part = 1 := Decidable.byContradiction fun z => hw (in01_w.mpr z)
          obtain ⟨s, rfl, hs9⟩ := ex_nIc (a := sd) (c := 99999) (by omega) s1 s2
          obtain ⟨M, rfl, hM⟩ := ex_nIc (a := m) (c := 40) (by omega) (by grind) m2
          have hM1 : 1 ≤ M := by
            rw [show (1 : Int32) = nI 1 from rfl, nI_lt_iff (by omega) (by omega)] at m1
            omega
          obtain ⟨σ1, g1, A1, P1⟩ := pairUp8 hI hk hl
          obtain ⟨σ2, g2, A2⟩ := odds8 (hI.bd hk).1 (hI.bd hl).1 P1 hs9 hM (nI k) (nI l) part
          have A := A1.tr A2
          have hI2 := hI.ag A
          obtain ⟨σ3, g3, A3, P3⟩ := beginsMen9 hI2 hk hl
          rw [txC_ag A, stM_ag A, stM_ag A] at P3
          obtain ⟨σ4, g4, A4⟩ := odds9 (show k < 6 by omega) (show l < 6 by omega) hkl (hI.bd hk).1 (hI.bd hl).1 P3 hs9 hM (nI l) part
          have hA := lct_b (txC σ t) (stM σ k) (stM σ l) s M
          obtain ⟨v, v8, v9⟩ := lowest_89 hA hM1 (by omega) (eu_8 M (by omega) _ (by omega) hA hM1) hw' σ2 σ4
          refine same_q hI v ?_ A ⟨σ4, ?_, A3.tr A4⟩
          · have e55 : S8_odds_55 (nI s) (nI M) (nI k) (nI l) part σ = some (v, σ2) := by
              unfold S8_odds_55
              rw [g1, bnd_s, g2, v8, bnd_s]
            rw [e8]
            unfold S8_odds_23
            rw [if_neg hm, areTwo8 hI.n8, bnd_s, if_neg hp, e55]
            rcases hw' with z | z
            · rw [if_pos z]
            · rw [if_neg (show ¬ part = 0 by rw [z]; decide), if_pos z]
          · unfold S9_odds
            rw [in9, bnd_s, if_neg hs, in9, bnd_s, if_neg hm, areTwo9 hn hI2.n9, bnd_s, if_neg hp, in9, bnd_s, if_neg hw, g3, bnd_s, g4, v9, bnd_s]
