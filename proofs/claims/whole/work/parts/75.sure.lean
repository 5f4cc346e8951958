/-! The surest plan; what all come to; plans by lots. -/
def cnt (cs : Nat → List Int32) (s1 s2 : Nat → Int32) (N p : Nat) : Nat → Nat
  | 0 => 0
  | q + 1 => cnt cs s1 s2 N p q + (if cel cs s1 s2 (WP N p) (WP N q) 9 ≤ 4 then 0 else 1)
theorem cnt_b (cs : Nat → List Int32) (s1 s2 : Nat → Int32) (N p : Nat) : ∀ q, cnt cs s1 s2 N p q ≤ q := by
  intro q
  induction q with
  | zero => exact Nat.le_refl _
  | succ q ih =>
    show cnt cs s1 s2 N p q + _ ≤ q + 1
    split <;> omega
theorem wins8 {cs : Nat → List Int32} {s1 s2 : Nat → Int32} {σ : St} (k1 : smS s1) (k2 : smS s2) (hP : PC cs s1 s2 σ) {N : Nat} (h1 : 1 ≤ N) (h2 : N < 4) (p : Nat) : ∃ σ', S8_winsAgainstAll (nI p) (nI N) σ = some (nI (cnt cs s1 s2 N p (4 ^ N)), σ') ∧ Ag σ σ' ∧ PC cs s1 s2 σ' := by
  have h64 := pow4 h2
  have step : ∀ (q f : Nat) (τ : St), q < 4 ^ N → (Ag σ τ ∧ PC cs s1 s2 τ) → ∃ τ', S8_winsAgainstAll_12 (nI p) (nI N) (f + 1) (WP N p) (nI (cnt cs s1 s2 N p q)) (nI q) τ = S8_winsAgainstAll_12 (nI p) (nI N) f (WP N p) (nI (cnt cs s1 s2 N p (q + 1))) (nI (q + 1)) τ' ∧ (Ag σ τ' ∧ PC cs s1 s2 τ') := by
    intro q f τ hq ⟨a1, P1⟩
    obtain ⟨τ', g1, a2, P2, hB⟩ := goMen8 k1 k2 P1 (WP N p) (WP N q)
    refine ⟨τ', ?_, a1.tr a2, P2⟩
    show B8_winsAgainstAll_12 _ _ _ _ _ _ τ = _
    unfold B8_winsAgainstAll_12 S8_winsAgainstAll_52
    rw [short8 h2, bnd_s, if_neg (nI_ge hq (by omega)), whole8 h1 h2, bnd_s, show wp8 (nI q) N 9 = WP N q from rfl, g1, bnd_s, nI_1 q]
    show _ = S8_winsAgainstAll_12 (nI p) (nI N) f (WP N p) (nI (cnt cs s1 s2 N p q + (if cel cs s1 s2 (WP N p) (WP N q) 9 ≤ 4 then 0 else 1))) (nI (q + 1)) τ'
    by_cases z : cel cs s1 s2 (WP N p) (WP N q) 9 ≤ 4
    · rw [if_pos ((lead8 hB).1.mpr z), if_pos z, Int32.add_zero]; rfl
    · rw [if_neg (fun y => z ((lead8 hB).1.mp y)), if_neg z, nI_1]
  obtain ⟨f', σ', e1, l1, l2⟩ := loopR (fun f q τ => S8_winsAgainstAll_12 (nI p) (nI N) f (WP N p) (nI (cnt cs s1 s2 N p q)) (nI q) τ) (4 ^ N) (fun _ τ => Ag σ τ ∧ PC cs s1 s2 τ) step (4 ^ N) 0 4096 σ (by omega) (by omega) ⟨Ag.rf, hP⟩
  refine ⟨σ', ?_, l1, l2⟩
  unfold S8_winsAgainstAll
  rw [whole8 h1 h2, bnd_s, show wp8 (nI p) N 9 = WP N p from rfl, show S8_winsAgainstAll_12 (nI p) (nI N) 4096 (WP N p) (0 : Int32) (0 : Int32) σ = _ from e1]
  show B8_winsAgainstAll_12 _ _ _ _ _ _ σ' = _
  unfold B8_winsAgainstAll_12
  rw [short8 h2, bnd_s, if_pos (Int32.le_refl _)]
theorem wins9 {cs : Nat → List Int32} {s1 s2 : Nat → Int32} {k l : Nat} {σ : St} (hk : k < 6) (hl : l < 6) (hkl : k ≠ l) (k1 : smS s1) (k2 : smS s2) (hP : PM cs s1 s2 k l σ) {N : Nat} (h1 : 1 ≤ N) (h2 : N < 4) {p : Nat} (hp : p < 4 ^ N) : ∃ σ', S9_winsOf (nI p) (nI N) σ = some (nI (cnt cs s1 s2 N p (4 ^ N)), σ') ∧ Ag σ σ' ∧ PM cs s1 s2 k l σ' := by
  have h64 := pow4 h2
  have step : ∀ (q f : Nat) (τ : St), q < 4 ^ N → (Ag σ τ ∧ PM cs s1 s2 k l τ) → ∃ τ', S9_winsOf_5 (nI p) (nI N) (f + 1) (nI (cnt cs s1 s2 N p q)) (nI q) τ = S9_winsOf_5 (nI p) (nI N) f (nI (cnt cs s1 s2 N p (q + 1))) (nI (q + 1)) τ' ∧ (Ag σ τ' ∧ PM cs s1 s2 k l τ') := by
    intro q f τ hq ⟨a1, P1⟩
    obtain ⟨τ', g1, a2, P2, hB⟩ := goMen9 k1 k2 P1 (WP N p) (WP N q)
    refine ⟨τ', ?_, a1.tr a2, P2⟩
    show B9_winsOf_5 _ _ _ _ _ τ = _
    unfold B9_winsOf_5 S9_winsOf_47
    rw [sp_eq N h2, if_neg (nI_ge hq (by omega)), whole9 h1 h2 hp, bnd_s, whole9 h1 h2 hq, bnd_s, g1, bnd_s, hB.2.2.1, hB.2.2.2.1, nI_1 q]
    show _ = S9_winsOf_5 (nI p) (nI N) f (nI (cnt cs s1 s2 N p q + (if cel cs s1 s2 (WP N p) (WP N q) 9 ≤ 4 then 0 else 1))) (nI (q + 1)) τ'
    by_cases z : cel cs s1 s2 (WP N p) (WP N q) 9 ≤ 4
    · rw [if_neg (fun y => ((winF_w hk hl hkl _).mp y) z), if_pos z, Int32.add_zero]; rfl
    · rw [if_pos ((winF_w hk hl hkl _).mpr z), if_neg z, nI_1]
  obtain ⟨f', σ', e1, l1, l2⟩ := loopR (fun f q τ => S9_winsOf_5 (nI p) (nI N) f (nI (cnt cs s1 s2 N p q)) (nI q) τ) (4 ^ N) (fun _ τ => Ag σ τ ∧ PM cs s1 s2 k l τ) step (4 ^ N) 0 4096 σ (by omega) (by omega) ⟨Ag.rf, hP⟩
  refine ⟨σ', ?_, l1, l2⟩
  unfold S9_winsOf
  rw [show S9_winsOf_5 (nI p) (nI N) 4096 (0 : Int32) (0 : Int32) σ = _ from e1]
  show B9_winsOf_5 _ _ _ _ _ σ' = _
  unfold B9_winsOf_5
  rw [sp_eq N h2, if_pos (Int32.le_refl _)]
/-- the surest so far, against how many -/
def sur (cs : Nat → List Int32) (s1 s2 : Nat → Int32) (N : Nat) : Nat → Int32 × Int32
  | 0 => (-1, -1)
  | p + 1 => if nI (cnt cs s1 s2 N p (4 ^ N)) ≤ (sur cs s1 s2 N p).2 then sur cs s1 s2 N p else (nI p, nI (cnt cs s1 s2 N p (4 ^ N)))
theorem sure8 {cs : Nat → List Int32} {s1 s2 : Nat → Int32} {σ : St} (k1 : smS s1) (k2 : smS s2) (hP : PC cs s1 s2 σ) {N : Nat} (h1 : 1 ≤ N) (h2 : N < 4) (x w : Int32) : ∃ σ', (bnd (S8_winsAgainstAll (0 : Int32) (nI N) σ) fun r119 σ118 => S8_sure_68 x (nI N) w 4096 (0 : Int32) r119 (1 : Int32) σ118) = some (if w = 0 then (sur cs s1 s2 N (4 ^ N)).1 else (sur cs s1 s2 N (4 ^ N)).2, σ') ∧ Ag σ σ' := by
  have h64 := pow4 h2
  have h4 : 1 ≤ 4 ^ N := Nat.pow_pos (by omega)
  obtain ⟨σ0, g0, a0, P0⟩ := wins8 k1 k2 hP h1 h2 0
  rw [show S8_winsAgainstAll (0 : Int32) (nI N) σ = _ from g0, bnd_s]
  have step : ∀ (p f : Nat) (τ : St), p < 4 ^ N → (Ag σ τ ∧ PC cs s1 s2 τ) → ∃ τ', S8_sure_68 x (nI N) w (f + 1) (sur cs s1 s2 N p).1 (sur cs s1 s2 N p).2 (nI p) τ = S8_sure_68 x (nI N) w f (sur cs s1 s2 N (p + 1)).1 (sur cs s1 s2 N (p + 1)).2 (nI (p + 1)) τ' ∧ (Ag σ τ' ∧ PC cs s1 s2 τ') := by
    intro p f τ hp ⟨a1, P1⟩
    obtain ⟨τ', g1, a2, P2⟩ := wins8 k1 k2 P1 h1 h2 p
    refine ⟨τ', ?_, a1.tr a2, P2⟩
    show B8_sure_68 _ _ _ _ _ _ _ τ = _
    unfold B8_sure_68 S8_sure_101
    rw [short8 h2, bnd_s, if_neg (nI_ge hp (by omega)), g1, bnd_s, ← nI_succ]
    show _ = S8_sure_68 x (nI N) w f (if nI (cnt cs s1 s2 N p (4 ^ N)) ≤ (sur cs s1 s2 N p).2 then sur cs s1 s2 N p else (nI p, nI (cnt cs s1 s2 N p (4 ^ N)))).1 (if nI (cnt cs s1 s2 N p (4 ^ N)) ≤ (sur cs s1 s2 N p).2 then sur cs s1 s2 N p else (nI p, nI (cnt cs s1 s2 N p (4 ^ N)))).2 (nI (p + 1)) τ'
    by_cases z : nI (cnt cs s1 s2 N p (4 ^ N)) ≤ (sur cs s1 s2 N p).2
    · rw [if_pos z, if_pos z]
    · rw [if_neg z, if_neg z]
  have e0 : sur cs s1 s2 N 1 = (nI 0, nI (cnt cs s1 s2 N 0 (4 ^ N))) := by
    have hb := cnt_b cs s1 s2 N 0 (4 ^ N)
    show (if nI (cnt cs s1 s2 N 0 (4 ^ N)) ≤ -1 then _ else _) = _
    rw [if_neg (fun z => absurd (nI_pos' (n := cnt cs s1 s2 N 0 (4 ^ N)) (by omega)) (by generalize nI (cnt cs s1 s2 N 0 (4 ^ N)) = y at z ⊢; grind))]
  obtain ⟨f', σ', e1, l1, -⟩ := loopR (fun f p τ => S8_sure_68 x (nI N) w f (sur cs s1 s2 N p).1 (sur cs s1 s2 N p).2 (nI p) τ) (4 ^ N) (fun _ τ => Ag σ τ ∧ PC cs s1 s2 τ) step (4 ^ N - 1) 1 4096 σ0 (by omega) (by omega) ⟨a0, P0⟩
  refine ⟨σ', ?_, l1⟩
  simp only [e0] at e1
  rw [show S8_sure_68 x (nI N) w 4096 (0 : Int32) (nI (cnt cs s1 s2 N 0 (4 ^ N))) (1 : Int32) σ0 = _ from e1]
  show B8_sure_68 _ _ _ _ _ _ _ σ' = _
  unfold B8_sure_68
  rw [short8 h2, bnd_s, if_pos (Int32.le_refl _)]
  split <;> rfl
theorem sure9 {cs : Nat → List Int32} {s1 s2 : Nat → Int32} {k l : Nat} {σ : St} (hk : k < 6) (hl : l < 6) (hkl : k ≠ l) (k1 : smS s1) (k2 : smS s2) (hP : PM cs s1 s2 k l σ) {N : Nat} (h1 : 1 ≤ N) (h2 : N < 4) (x w : Int32) : ∃ σ', S9_sure_53 x (nI N) w 4096 (-1) (-1) 0 σ = some (if w = 0 then (sur cs s1 s2 N (4 ^ N)).1 else (sur cs s1 s2 N (4 ^ N)).2, σ') ∧ Ag σ σ' := by
  have h64 := pow4 h2
  have step : ∀ (p f : Nat) (τ : St), p < 4 ^ N → (Ag σ τ ∧ PM cs s1 s2 k l τ) → ∃ τ', S9_sure_53 x (nI N) w (f + 1) (sur cs s1 s2 N p).1 (sur cs s1 s2 N p).2 (nI p) τ = S9_sure_53 x (nI N) w f (sur cs s1 s2 N (p + 1)).1 (sur cs s1 s2 N (p + 1)).2 (nI (p + 1)) τ' ∧ (Ag σ τ' ∧ PM cs s1 s2 k l τ') := by
    intro p f τ hp ⟨a1, P1⟩
    obtain ⟨τ', g1, a2, P2⟩ := wins9 hk hl hkl k1 k2 P1 h1 h2 hp
    refine ⟨τ', ?_, a1.tr a2, P2⟩
    show B9_sure_53 _ _ _ _ _ _ _ τ = _
    unfold B9_sure_53 S9_sure_86 S9_sure_102
    rw [sp_eq N h2, if_neg (nI_ge hp (by omega)), g1, bnd_s, ← nI_succ]
    show _ = S9_sure_53 x (nI N) w f (if nI (cnt cs s1 s2 N p (4 ^ N)) ≤ (sur cs s1 s2 N p).2 then sur cs s1 s2 N p else (nI p, nI (cnt cs s1 s2 N p (4 ^ N)))).1 (if nI (cnt cs s1 s2 N p (4 ^ N)) ≤ (sur cs s1 s2 N p).2 then sur cs s1 s2 N p else (nI p, nI (cnt cs s1 s2 N p (4 ^ N)))).2 (nI (p + 1)) τ'
    by_cases z : nI (cnt cs s1 s2 N p (4 ^ N)) ≤ (sur cs s1 s2 N p).2
    · simp only [if_pos z]
    · simp only [if_neg z]
  obtain ⟨f', σ', e1, l1, -⟩ := loopR (fun f p τ => S9_sure_53 x (nI N) w f (sur cs s1 s2 N p).1 (sur cs s1 s2 N p).2 (nI p) τ) (4 ^ N) (fun _ τ => Ag σ τ ∧ PM cs s1 s2 k l τ) step (4 ^ N) 0 4096 σ (by omega) (by omega) ⟨Ag.rf, hP⟩
  refine ⟨σ', ?_, l1⟩
  rw [show S9_sure_53 x (nI N) w 4096 (-1) (-1) (0 : Int32) σ = _ from e1]
  show B9_sure_53 _ _ _ _ _ _ _ σ' = _
  unfold B9_sure_53
  rw [sp_eq N h2, if_pos (Int32.le_refl _)]
  split <;> rfl
theorem same_sure (x nn w : Int32) : Same (S8_sure x nn w) (S9_sure x nn w) := by
  intro n T t σ hI
  have hn := hI.n6
  by_cases hp : pair01 n x = 0
  · refine same_rf hI (-5) ?_ ?_
    · unfold S8_sure; rw [isPair8 hI.n8, bnd_s, if_pos hp]
    · unfold S9_sure; rw [areTwoMen9 hn hI.n9, bnd_s, if_pos hp]
  · obtain ⟨k, l, hk, hl, hkl, xk, xl⟩ := pair01_t hn hp
    by_cases hN : in01 nn 1 2 = 0
    · refine same_rf hI (-7) ?_ ?_
      · unfold S8_sure; rw [isPair8 hI.n8, bnd_s, if_neg hp]
        rcases in01_f hN with z | z
        · rw [if_pos z]
        · by_cases z0 : nn < 1
          · rw [if_pos z0]
          · rw [if_neg z0, if_pos z]
      · unfold S9_sure; rw [areTwoMen9 hn hI.n9, bnd_s, if_neg hp, in9, bnd_s, if_pos hN]
    · obtain ⟨n1, n2⟩ := in01_t hN
      by_cases hw : in01 w 0 1 = 0
      · have hw' := in01_w.mp hw
        refine same_rf hI (-7) ?_ ?_
        · unfold S8_sure; rw [isPair8 hI.n8, bnd_s, if_neg hp, if_neg n1, if_neg n2, if_neg (fun z => hw' (Or.inl z)), if_neg (fun z => hw' (Or.inr z))]
        · unfold S9_sure; rw [areTwoMen9 hn hI.n9, bnd_s, if_neg hp, in9, bnd_s, if_neg hN, in9, bnd_s, if_pos hw]
      · have hw' : w = 0 ∨ w = 1 := Decidable.byContradiction fun z => hw (in01_w.mpr z)
        obtain ⟨N, rfl, hN3⟩ := ex_nIc (a := nn) (c := 2) (by omega) (by grind) n2
        have hN1 : 1 ≤ N := by
          rw [show (1 : Int32) = nI 1 from rfl, nI_lt_iff (by omega) (by omega)] at n1
          omega
        obtain ⟨σ1, g1, A1, P1⟩ := pairMen8 hI hk hl
        obtain ⟨σ2, g2, A2⟩ := sure8 (hI.bd hk).1 (hI.bd hl).1 P1 hN1 (show N < 4 by omega) x w
        have A := A1.tr A2
        have hI2 := hI.ag A
        obtain ⟨σ3, g3, A3, P3⟩ := beginsMen9 hI2 hk hl
        rw [txC_ag A, stM_ag A, stM_ag A] at P3
        obtain ⟨σ4, g4, A4⟩ := sure9 (show k < 6 by omega) (show l < 6 by omega) hkl (hI.bd hk).1 (hI.bd hl).1 P3 hN1 (show N < 4 by omega) x w
        refine same_q hI (if w = 0 then (sur (txC σ t) (stM σ k) (stM σ l) N (4 ^ N)).1 else (sur (txC σ t) (stM σ k) (stM σ l) N (4 ^ N)).2) ?_ A ⟨σ4, ?_, A3.tr A4⟩
        · have e42 : S8_sure_33 x (nI N) w σ = some (if w = 0 then (sur (txC σ t) (stM σ k) (stM σ l) N (4 ^ N)).1 else (sur (txC σ t) (stM σ k) (stM σ l) N (4 ^ N)).2, σ2) := by
            unfold S8_sure_33
            rw [theOne8 xk (by omega), bnd_s, theOther8 xl (by omega), bnd_s, theLaw8 hI.t6 hI.l8, bnd_s, g1, bnd_s, g2]
          unfold S8_sure
          rw [isPair8 hI.n8, bnd_s, if_neg hp, if_neg n1, if_neg n2, e42]
          rcases hw' with z | z
          · rw [if_pos z]
          · rw [if_neg (show ¬ w = 0 by rw [z]; decide), if_pos z]
        · unfold S9_sure
          rw [areTwoMen9 hn hI2.n9, bnd_s, if_neg hp, in9, bnd_s, if_neg hN, in9, bnd_s, if_neg hw, xk, xl, g3, bnd_s, g4]
/-! lowest terms -/
def eu : Nat → Nat → Nat → Option Nat
  | 0, c, r => if r = 0 then some c else none
  | f + 1, c, r => if r = 0 then some c else eu f r (c % r)
theorem eu_8 : ∀ b, b < 41 → ∀ a, a < 41 → a ≤ b → 1 ≤ b → eu 63 b a = some (Nat.gcd a b) := by decide +kernel
theorem eu_16 : ∀ a, a < 17 → eu 63 16 a = some (Nat.gcd a 16) := by decide +kernel
theorem eu_256 : ∀ a, a < 257 → eu 63 256 a = some (Nat.gcd a 256) := by decide +kernel
theorem lowest8 {A B : Nat} (hA : A ≤ 256) (hB : B ≤ 256) (part : Int32) (g : Nat) (hg0 : 0 < g) (hg : g ≤ 256) (σ : St) : ∀ (f i F c r : Nat), i + f < 64 → f < F → c ≤ 256 → r ≤ 256 → eu f c r = some g → S8_inLowestTerms_8 (nI A) (nI B) part F (nI c) (nI r) (nI i) σ = some (if part = 0 then lN (A / g) else lN (B / g), σ) := by
  have fin : S8_inLowestTerms_39 (nI A) (nI B) part (nI g) σ = some (if part = 0 then lN (A / g) else lN (B / g), σ) := by
    unfold S8_inLowestTerms_39
    rw [if_neg (nI_ne0 hg0 (by omega)), nI_div (by omega) (by omega), nI_div (by omega) (by omega), if_neg (nI_ne0 hg0 (by omega)), if_neg (nI_ne0 hg0 (by omega)), nI_l (Nat.lt_of_le_of_lt (Nat.div_le_self _ _) (by omega)), nI_l (Nat.lt_of_le_of_lt (Nat.div_le_self _ _) (by omega))]
    split <;> rfl
  intro f
  induction f with
  | zero =>
    intro i F c r hi hF hc hr he
    obtain ⟨F, rfl⟩ : ∃ z, F = z + 1 := ⟨F - 1, by omega⟩
    unfold eu at he
    by_cases q : r = 0
    · rw [if_pos q] at he
      have he := Option.some.inj he
      subst he
      show B8_inLowestTerms_8 _ _ _ _ _ _ _ σ = _
      unfold B8_inLowestTerms_8
      rw [if_neg (show ¬ (64 : Int32) ≤ nI i from nI_ge (b := 64) (by omega) (by omega)), q, if_pos (show nI 0 = (0 : Int32) from rfl)]
      exact fin
    · rw [if_neg q] at he; cases he
  | succ f ih =>
    intro i F c r hi hF hc hr he
    obtain ⟨F, rfl⟩ : ∃ z, F = z + 1 := ⟨F - 1, by omega⟩
    unfold eu at he
    show B8_inLowestTerms_8 _ _ _ _ _ _ _ σ = _
    unfold B8_inLowestTerms_8
    rw [if_neg (show ¬ (64 : Int32) ≤ nI i from nI_ge (b := 64) (by omega) (by omega))]
    by_cases q : r = 0
    · rw [if_pos q] at he
      have he := Option.some.inj he
      subst he
      rw [q, if_pos (show nI 0 = (0 : Int32) from rfl)]
      exact fin
    · rw [if_neg q] at he
      have hr0 : ¬ nI r = 0 := nI_ne0 (by omega) (by omega)
      rw [if_neg hr0, if_neg hr0, nI_rem (by omega) (by omega), ← nI_succ]
      have := Nat.mod_lt c (show 0 < r by omega)
      exact ih (i + 1) F r (c % r) (by omega) (by omega) hr (by omega) he
theorem lN_div {a b : Nat} (ha : a < 2 ^ 31) (hb : b < 2 ^ 31) : lN a / lN b = lN (a / b) := by
  apply Int64.toInt_inj.mp
  rw [Int64.toInt_div, lN_toInt ha, lN_toInt hb, lN_toInt (Nat.lt_of_le_of_lt (Nat.div_le_self _ _) ha)]
  rw [show ((a : Int).tdiv (b : Int)) = ((a / b : Nat) : Int) from (Int.ofNat_tdiv a b).symm ▸ rfl]
  have h1 : a / b < 2 ^ 31 := Nat.lt_of_le_of_lt (Nat.div_le_self _ _) ha
  have h2 : (0 : Int) ≤ ((a / b : Nat) : Int) := Int.natCast_nonneg _
  have h3 : ((a / b : Nat) : Int) < 2147483648 := Int.ofNat_lt.mpr (show a / b < 2147483648 from h1)
  generalize ((a / b : Nat) : Int) = w at h2 h3 ⊢
  rw [Int.bmod_eq_of_le (by omega) (by omega)]
theorem lN_rem {a b : Nat} (ha : a < 2 ^ 31) (hb : b < 2 ^ 31) : jlrem (lN a) (lN b) = lN (a % b) := by
  unfold jlrem
  rw [lN_div ha hb, lN_mul, lN_sub (Nat.div_mul_le_self a b)]
  congr 1
  have := Nat.div_add_mod a b
  have h2 : a / b * b = b * (a / b) := Nat.mul_comm _ _
  omega
theorem lN_0 {a : Nat} (h : a < 2 ^ 31) : lN a = 0 ↔ a = 0 := lN_eq (b := 0) h (by omega)
theorem lowest9 {A B : Nat} (hA : A ≤ 256) (hB : B ≤ 256) (part : Int32) (g : Nat) (hg0 : 0 < g) (hg : g ≤ 256) (σ : St) : ∀ (f F c r : Nat), f < F → c ≤ 256 → r ≤ 256 → eu f c r = some g → S9_lowest_16 (lN A) (lN B) part F (lN c) (lN r) σ = some (if part = 0 then lN (A / g) else lN (B / g), σ) := by
  intro f
  have fin : ∀ F, S9_lowest_16 (lN A) (lN B) part (F + 1) (lN g) (lN 0) σ = some (if part = 0 then lN (A / g) else lN (B / g), σ) := by
    intro F
    show B9_lowest_16 _ _ _ _ _ _ σ = _
    unfold B9_lowest_16
    have hg' : ¬ lN g = 0 := fun z => absurd ((lN_0 (by omega)).mp z) (by omega)
    rw [if_pos (show lg_cmp (lN 0) 0 = 0 from (lg_cmp_eq _ _).mpr rfl), if_neg hg', if_neg hg', lN_div (by omega) (by omega), lN_div (by omega) (by omega)]
    split <;> rfl
  induction f with
  | zero =>
    intro F c r hF hc hr he
    obtain ⟨F, rfl⟩ : ∃ z, F = z + 1 := ⟨F - 1, by omega⟩
    unfold eu at he
    by_cases q : r = 0
    · rw [if_pos q] at he
      have he := Option.some.inj he
      subst he; subst q
      exact fin F
    · rw [if_neg q] at he; cases he
  | succ f ih =>
    intro F c r hF hc hr he
    obtain ⟨F, rfl⟩ : ∃ z, F = z + 1 := ⟨F - 1, by omega⟩
    unfold eu at he
    by_cases q : r = 0
    · rw [if_pos q] at he
      have he := Option.some.inj he
      subst he; subst q
      exact fin F
    · rw [if_neg q] at he
      have hr0 : ¬ lN r = 0 := fun z => q ((lN_0 (by omega)).mp z)
      show B9_lowest_16 _ _ _ _ _ _ σ = _
      unfold B9_lowest_16
      rw [if_neg (fun z => hr0 ((lg_cmp_eq _ _).mp z)), if_neg hr0, lN_rem (by omega) (by omega)]
      have := Nat.mod_lt c (show 0 < r by omega)
      exact ih F r (c % r) (by omega) hr (by omega) he
/-- in lowest terms, on both sides -/
theorem lowest_89 {A B : Nat} (hAB : A ≤ B) (hB1 : 1 ≤ B) (hB : B ≤ 256) (he : eu 63 B A = some (Nat.gcd A B)) {part : Int32} (hp : part = 0 ∨ part = 1) (σ τ : St) : ∃ v, S8_inLowestTerms (nI A) (nI B) part σ = some (v, σ) ∧ S9_lowest (lN A) (lN B) part τ = some (v, τ) := by
  have hg0 : 0 < Nat.gcd A B := Nat.gcd_pos_of_pos_right A (by omega)
  have hg : Nat.gcd A B ≤ 256 := Nat.le_trans (Nat.le_of_dvd (by omega) (Nat.gcd_dvd_right A B)) hB
  have h8 := lowest8 (A := A) (B := B) (by omega) hB part (Nat.gcd A B) hg0 hg σ 63 0 4096 B A (by omega) (by omega) hB (by omega) he
  refine ⟨_, h8, ?_⟩
  unfold S9_lowest
  by_cases q : A = 0
  · subst q
    rw [if_pos (show lg_cmp (lN 0) 0 = 0 from (lg_cmp_eq _ _).mpr rfl), Nat.gcd_zero_left, Nat.zero_div, Nat.div_self (by omega)]
    rcases hp with rfl | rfl
    · rfl
    · rfl
  · have hA0 : ¬ lN A = 0 := fun z => q ((lN_0 (by omega)).mp z)
    rw [if_neg (fun z => hA0 ((lg_cmp_eq _ _).mp z))]
    by_cases q2 : A = B
    · subst q2
      refine lowest9 (by omega) hB part (Nat.gcd A A) hg0 hg τ 63 4096 A A (by omega) hB hB he
    · refine lowest9 (by omega) hB part (Nat.gcd A B) hg0 hg τ 64 4096 A B (by omega) (by omega) hB ?_
      show (if B = 0 then _ else eu 63 B (A % B)) = _
      rw [if_neg (by omega), Nat.mod_eq_of_lt (by omega)]
      exact he
