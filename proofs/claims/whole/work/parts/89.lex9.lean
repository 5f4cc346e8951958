/-! The reference's lexer. -/
theorem arr88_ok : ∀ k, k < 12 → ∀ c, c < 8 → arr88 (8 * k + c) = nI (wc k c) := by decide +kernel
theorem wc_pad : ∀ k, k < 12 → ∀ c, c < 8 → (wn k ≤ c ↔ wc k c = 32) := by decide +kernel
theorem in_le {c : Nat} (hc : c ≤ 255) : in01 (nI c) 97 122 = if isLe c = true then 1 else 0 := by
  unfold in01 isLe
  rw [show (97 : Int32) = nI 97 from rfl, show (122 : Int32) = nI 122 from rfl]
  by_cases q : c < 97
  · rw [if_pos (nI_lt q (by omega)), if_neg (by simp; omega)]
  · rw [if_neg (nI_nlt (by omega) (by omega))]
    by_cases q2 : 122 < c
    · rw [if_pos (nI_lt q2 (by omega)), if_neg (by simp; omega)]
    · rw [if_neg (nI_nlt (by omega) (by omega)), if_pos (by simp; omega)]
theorem in_dg {c : Nat} (hc : c ≤ 255) : in01 (nI c) 48 57 = if isDg c = true then 1 else 0 := by
  unfold in01 isDg
  rw [show (48 : Int32) = nI 48 from rfl, show (57 : Int32) = nI 57 from rfl]
  by_cases q : c < 48
  · rw [if_pos (nI_lt q (by omega)), if_neg (by simp; omega)]
  · rw [if_neg (nI_nlt (by omega) (by omega))]
    by_cases q2 : 57 < c
    · rw [if_pos (nI_lt q2 (by omega)), if_neg (by simp; omega)]
    · rw [if_neg (nI_nlt (by omega) (by omega)), if_pos (by simp; omega)]
section LEX
variable {b : Nat → Nat} {s : Nat}
/-- the bytes of a word, blanks behind it -/
def pad (b : Nat → Nat) (q e c : Nat) : Nat := if q + c < e then b (q + c) else 32
def lkB (b : Nat → Nat) (q e k : Nat) : Nat → Bool
  | 0 => decide (e - q ≤ 8)
  | c + 1 => lkB b q e k c && decide (wc k c = pad b q e c)
theorem lkB_t {q e k : Nat} : ∀ c, lkB b q e k c = true ↔ e - q ≤ 8 ∧ ∀ i, i < c → wc k i = pad b q e i := by
  intro c
  induction c with
  | zero => exact ⟨fun h => ⟨decide_eq_true_iff.mp h, fun i hi => absurd hi (by omega)⟩, fun h => decide_eq_true_iff.mpr h.1⟩
  | succ c ih =>
    show (lkB b q e k c && decide (wc k c = pad b q e c)) = true ↔ _
    rw [Bool.and_eq_true, ih, decide_eq_true_iff]
    constructor
    · rintro ⟨⟨h1, h2⟩, h3⟩
      refine ⟨h1, fun i hi => ?_⟩
      by_cases y : i = c
      · rw [y]; exact h3
      · exact h2 i (by omega)
    · rintro ⟨h1, h2⟩
      exact ⟨⟨h1, fun i hi => h2 i (by omega)⟩, h2 c (by omega)⟩
theorem lkB_mW {q e k : Nat} (hk : k < 12) (hq : q ≤ e) (hle : ∀ i, q ≤ i → i < e → isLe (b i) = true) : lkB b q e k 8 = true ↔ mW b q (e - q) k = true := by
  have hn := wn_b k hk
  have nb : ∀ i, q ≤ i → i < e → ¬ b i = 32 := fun i h1 h2 y => by
    have := hle i h1 h2
    rw [y] at this
    exact absurd this (by decide)
  rw [lkB_t, mW_t]
  constructor
  · rintro ⟨h1, h2⟩
    have hlen : wn k = e - q := by
      rcases Nat.lt_trichotomy (wn k) (e - q) with y | y | y
      · exfalso
        have h3 := h2 (wn k) (by omega)
        rw [(wc_pad k hk (wn k) (by omega)).mp (Nat.le_refl _)] at h3
        unfold pad at h3
        rw [if_pos (by omega)] at h3
        exact nb _ (by omega) (by omega) h3.symm
      · exact y
      · exfalso
        have h3 := h2 (e - q) (by omega)
        unfold pad at h3
        rw [if_neg (by omega)] at h3
        have := (wc_pad k hk (e - q) (by omega)).mpr h3
        omega
    refine ⟨hlen, fun i hi => ?_⟩
    have h3 := h2 i (by omega)
    unfold pad at h3
    rw [if_pos (by omega)] at h3
    exact h3.symm
  · rintro ⟨h1, h2⟩
    refine ⟨by omega, fun i hi => ?_⟩
    unfold pad
    by_cases y : q + i < e
    · rw [if_pos y, h2 i (by omega)]
    · rw [if_neg y]
      exact (wc_pad k hk i hi).mp (by omega)
theorem lkB_mono {q e k c : Nat} (h : ¬ lkB b q e k c = true) : ∀ d, ¬ lkB b q e k (c + d) = true := by
  intro d
  induction d with
  | zero => exact h
  | succ d ih =>
    intro y
    have y : (lkB b q e k (c + d) && decide (wc k (c + d) = pad b q e (c + d))) = true := y
    rw [Bool.and_eq_true] at y
    exact ih y.1
theorem wordIn9 (hs : s ≤ 160) (hb : ∀ k, k < s → b k ≤ 255) {q e : Nat} (hqe : q ≤ e) (he : e ≤ s) {σ : St} (hT : TR b s σ) {k : Nat} (hk : k < 12) (K2 : Int32 → St → Option (Int32 × St)) : ∀ (d c f : Nat), c + d = 8 → d < f → S9_wordFrom_26 (nI q) (nI e) K2 f (nI k) (if lkB b q e k c = true then 1 else 0) (nI c) σ = if lkB b q e k 8 = true then some (nI k, σ) else K2 (nI (k + 1)) σ := by
  intro d
  induction d with
  | zero =>
    intro c f hc hf
    obtain ⟨f, rfl⟩ : ∃ z, f = z + 1 := ⟨f - 1, by omega⟩
    have hc : c = 8 := hc
    subst hc
    show B9_wordFrom_26 _ _ _ _ _ _ _ σ = _
    unfold B9_wordFrom_26 S9_wordFrom_88
    rw [if_pos (show (8 : Int32) ≤ nI 8 by decide), nI_1]
    by_cases y : lkB b q e k 8 = true
    · rw [if_pos y, if_pos y, if_neg (by decide)]
    · rw [if_neg y, if_neg y, if_pos rfl]
  | succ d ih =>
    intro c f hc hf
    obtain ⟨f, rfl⟩ : ∃ z, f = z + 1 := ⟨f - 1, by omega⟩
    have ex : S9_wordFrom_26 (nI q) (nI e) K2 (f + 1) (nI k) (if lkB b q e k c = true then 1 else 0) (nI c) σ = B9_wordFrom_26 (nI q) (nI e) (S9_wordFrom_26 (nI q) (nI e) K2 f) K2 (nI k) (if lkB b q e k c = true then 1 else 0) (nI c) σ := rfl
    rw [ex]
    unfold B9_wordFrom_26 S9_wordFrom_88 S9_wordFrom_72 S9_wordFrom_80
    rw [if_neg (show ¬ (8 : Int32) ≤ nI c from nI_ge (b := 8) (by omega) (by omega))]
    by_cases y : lkB b q e k c = true
    · have e8 : (8 : Int32) * nI k + nI c = nI (8 * k + c) := by rw [show (8 : Int32) = nI 8 from rfl, nI_mul, nI_add]
      have hw := arr88_ok k hk c (by omega)
      have hwb := wc_b k hk c (by omega)
      have hnx : lkB b q e k (c + 1) = (lkB b q e k c && decide (wc k c = pad b q e c)) := rfl
      have cmp : ∀ (x : Nat), x ≤ 255 → x = pad b q e c → (if nI (wc k c) = nI x then S9_wordFrom_26 (nI q) (nI e) K2 f (nI k) 1 (nI c + 1) σ else S9_wordFrom_26 (nI q) (nI e) K2 f (nI k) 0 (nI c + 1) σ) = if lkB b q e k 8 = true then some (nI k, σ) else K2 (nI (k + 1)) σ := by
        intro x hx hxp
        rw [nI_1 c]
        have h := ih (c + 1) f (by omega) (by omega)
        rw [hnx, y, Bool.true_and] at h
        by_cases z : wc k c = x
        · rw [if_pos (by rw [z])]
          rw [if_pos (by rw [decide_eq_true_iff, z]; exact hxp)] at h
          exact h
        · rw [if_neg (fun w => z ((nI_inj (by omega) (by omega)).mp w))]
          rw [if_neg (by rw [decide_eq_true_iff, ← hxp]; exact z)] at h
          exact h
      rw [if_pos y, if_neg (by decide), e8, if_pos (inb_nI (by omega) (by omega)), nI_clamp (show 8 * k + c < 2 ^ 31 by omega), hT.2.2 _ (by omega), hw, nI_add]
      by_cases z : q + c < e
      · rw [if_neg (nI_ge z (by omega)), if_pos (inb_nI (by omega) (by omega)), nI_clamp (show q + c < 2 ^ 31 by omega), hT.2.1 _ (by omega)]
        exact cmp _ (hb _ (by omega)) (by unfold pad; rw [if_pos z])
      · rw [if_pos (nI_le (by omega) (by omega))]
        exact cmp 32 (by omega) (by unfold pad; rw [if_neg z])
    · have n8 := lkB_mono y (8 - c)
      rw [show c + (8 - c) = 8 by omega] at n8
      rw [if_neg y, if_pos rfl, if_pos rfl, if_neg n8, nI_1]
theorem wordFrom9 (hs : s ≤ 160) (hb : ∀ k, k < s → b k ≤ 255) {q e : Nat} (hq : q ≤ e) (he : e ≤ s) (hle : ∀ i, q ≤ i → i < e → isLe (b i) = true) {σ : St} (hT : TR b s σ) : S9_wordFrom (nI q) (nI e) σ = some (nI (wk b q (e - q)), σ) := by
  have main : ∀ (d k f : Nat), k + d = 12 → d < f → S9_wordFrom_2 (nI q) (nI e) f (nI k) σ = some (nI (wFrom b q (e - q) d k), σ) := by
    intro d
    induction d with
    | zero =>
      intro k f hk hf
      obtain ⟨f, rfl⟩ : ∃ z, f = z + 1 := ⟨f - 1, by omega⟩
      have hk : k = 12 := hk
      subst hk
      show B9_wordFrom_2 _ _ _ _ σ = _
      unfold B9_wordFrom_2
      rw [if_pos (show (12 : Int32) ≤ nI 12 by decide)]
      rfl
    | succ d ih =>
      intro k f hk hf
      obtain ⟨f, rfl⟩ : ∃ z, f = z + 1 := ⟨f - 1, by omega⟩
      have h0 := wordIn9 hs hb (q := q) hq he hT (show k < 12 by omega) (S9_wordFrom_2 (nI q) (nI e) f) 8 0 4096 rfl (by omega)
      have hm := lkB_mW (b := b) (show k < 12 by omega) hq hle
      show B9_wordFrom_2 _ _ _ _ σ = _
      unfold B9_wordFrom_2 S9_wordFrom_21
      rw [if_neg (show ¬ (12 : Int32) ≤ nI k from nI_ge (b := 12) (by omega) (by omega)), nI_sub hq]
      have e0 : (if (8 : Int32) < nI (e - q) then S9_wordFrom_26 (nI q) (nI e) (S9_wordFrom_2 (nI q) (nI e) f) 4096 (nI k) 0 0 σ else S9_wordFrom_26 (nI q) (nI e) (S9_wordFrom_2 (nI q) (nI e) f) 4096 (nI k) 1 0 σ) = S9_wordFrom_26 (nI q) (nI e) (S9_wordFrom_2 (nI q) (nI e) f) 4096 (nI k) (if lkB b q e k 0 = true then 1 else 0) (nI 0) σ := by
        have hz : lkB b q e k 0 = decide (e - q ≤ 8) := rfl
        by_cases y : e - q ≤ 8
        · rw [if_neg (show ¬ (8 : Int32) < nI (e - q) from nI_nlt (a := 8) y (by omega)), hz, if_pos (decide_eq_true_iff.mpr y)]; rfl
        · rw [if_pos (show (8 : Int32) < nI (e - q) from nI_lt (a := 8) (by omega) (by omega)), hz, if_neg (fun w => y (decide_eq_true_iff.mp w))]; rfl
      rw [e0, h0]
      show _ = some (nI (if mW b q (e - q) k = true then k else wFrom b q (e - q) d (k + 1)), σ)
      by_cases y : mW b q (e - q) k = true
      · rw [if_pos (hm.mpr y), if_pos y]
      · rw [if_neg (fun w => y (hm.mp w)), if_neg y]
        exact ih (k + 1) f (by omega) (by omega)
  exact main 12 0 4096 rfl (by omega)
/-- the reference has read token j -/
def rdT (b : Nat → Nat) (s j : Nat) (σ : St) : Prop := gI σ 75 18 = nI (pS b s (j + 1)) ∧ gI σ 75 19 = nI (pL b s j) ∧ gI σ 75 20 = rtk (tK b s j) ∧ (tK b s j = 1 ∨ tK b s j = 2 ∨ tK b s j = 3 → gI σ 75 21 = nI (tV b s j))
theorem tok9 : ∀ k, k < 13 → (k < 3 → rtk (kw k) = 3) ∧ (3 ≤ k → k < 9 → rtk (kw k) = 2) ∧ (k = 12 → rtk (kw k) = -1) ∧ (9 ≤ k → k < 12 → rtk (kw k) = 4 + nI k - 9) ∧ (kw k = 1 ∨ kw k = 2 ∨ kw k = 3 → nI (if k < 3 then k else k - 3) = if (3 : Int32) ≤ nI k then nI k - 3 else nI k) := by decide +kernel
theorem sign9 (c : Nat) (hc : c ≤ 255) (R : Type) (x y : R) : (if nI c = (40 : Int32) then x else if nI c = (41 : Int32) then x else if nI c = (59 : Int32) then x else if nI c = (43 : Int32) then x else if nI c = (45 : Int32) then x else if nI c = (42 : Int32) then x else if nI c = (60 : Int32) then x else if nI c = (61 : Int32) then x else y) = if isSg c = true then x else y := by
  have e : ∀ n : Nat, n < 256 → (nI c = nI n ↔ c = n) := fun n hn => nI_inj (by omega) (by omega)
  rw [show (40 : Int32) = nI 40 from rfl, show (41 : Int32) = nI 41 from rfl, show (59 : Int32) = nI 59 from rfl, show (43 : Int32) = nI 43 from rfl, show (45 : Int32) = nI 45 from rfl, show (42 : Int32) = nI 42 from rfl, show (60 : Int32) = nI 60 from rfl, show (61 : Int32) = nI 61 from rfl]
  simp only [e 40 (by omega), e 41 (by omega), e 59 (by omega), e 43 (by omega), e 45 (by omega), e 42 (by omega), e 60 (by omega), e 61 (by omega)]
  unfold isSg
  by_cases h1 : c = 40
  · simp [h1]
  by_cases h2 : c = 41
  · simp [h2]
  by_cases h3 : c = 59
  · simp [h3]
  by_cases h4 : c = 43
  · simp [h4]
  by_cases h5 : c = 45
  · simp [h5]
  by_cases h6 : c = 42
  · simp [h6]
  by_cases h7 : c = 60
  · simp [h7]
  by_cases h8 : c = 61
  · simp [h8]
  simp [h1, h2, h3, h4, h5, h6, h7, h8]
theorem isSg_b {c : Nat} (h : isSg c = true) : 40 ≤ c ∧ c ≤ 61 ∧ rtk c = nI c := by
  unfold isSg at h
  simp only [Bool.or_eq_true, beq_iff_eq] at h
  rcases h with (((((((h | h) | h) | h) | h) | h) | h) | h) <;> (rw [h]; decide)
theorem next9 (hs : s ≤ 160) (hb : ∀ k, k < s → b k ≤ 255) {j : Nat} {σ : St} (hT : TR b s σ) (h3 : gI σ 75 18 = nI (pS b s j)) : ∃ σ', S9_next σ = some ((), σ') ∧ rdT b s j σ' ∧ Fr lxR noR σ σ' := by
  have hp := pS_b b s j
  obtain ⟨e1, e2, e3, e4⟩ := endR_s isBl b hp
  have hN : pS b s (j + 1) = nx b s (pL b s j) := rfl
  unfold rdT
  rw [hN]
  unfold tK tV
  rw [show endR isBl b s (pS b s j) = pL b s j from rfl] at e1 e2 e3 e4
  generalize pS b s j = p at h3 hp e1 e2 e3 e4
  generalize pL b s j = q at e1 e2 e3 e4 ⊢
  -- blanks
  have step : ∀ (i f : Nat) (τ : St), i < q - p → (gI τ 75 18 = nI (p + i) ∧ Fr lxR noR σ τ) → ∃ τ', S9_next_0 (f + 1) τ = S9_next_0 f τ' ∧ (gI τ' 75 18 = nI (p + (i + 1)) ∧ Fr lxR noR σ τ') := by
    intro i f τ hi ⟨l1, l2⟩
    have hTτ := hT.fr (fun x y z => l2.1 x y (by unfold lxR; omega))
    refine ⟨sI τ 75 18 (nI (p + (i + 1))), ?_, by rw [gI_sI, if_pos ⟨rfl, rfl⟩], l2.sI _ (by unfold lxR; omega)⟩
    show B9_next_0 _ τ = _
    unfold B9_next_0 S9_next_39
    rw [l1, hTτ.1, if_neg (nI_ge (by omega) (by omega))]
    simp only [if_pos (inb_nI (show p + i < 160 by omega) (show 160 < 2 ^ 31 by omega)), nI_clamp (show p + i < 2 ^ 31 by omega), hTτ.2.1 _ (show p + i < s by omega), nI_1]
    have hbl := e3 (p + i) (by omega) (by omega)
    unfold isBl at hbl
    rw [Bool.or_eq_true, beq_iff_eq, beq_iff_eq] at hbl
    rcases hbl with y | y
    · rw [y, if_pos (show nI 32 = (32 : Int32) from rfl)]; rfl
    · rw [y, if_neg (show ¬ nI 10 = (32 : Int32) by decide), if_pos (show nI 10 = (10 : Int32) from rfl)]; rfl
  obtain ⟨f', σ1, g, l1, l2⟩ := loopR (fun f _ τ => S9_next_0 f τ) (q - p) (fun i τ => gI τ 75 18 = nI (p + i) ∧ Fr lxR noR σ τ) step (q - p) 0 4096 σ (by omega) (by omega) ⟨h3, Fr.rf⟩
  rw [show p + (q - p) = q by omega] at l1
  have hT1 := hT.fr (fun x y z => l2.1 x y (by unfold lxR; omega))
  have e52 : S9_next σ = S9_next_52 σ1 := by
    unfold S9_next
    rw [show S9_next_0 4096 σ = _ from g]
    show B9_next_0 _ σ1 = _
    unfold B9_next_0
    rw [l1, hT1.1]
    by_cases y : q < s
    · rw [if_neg (nI_ge y (by omega))]
      simp only [if_pos (inb_nI (show q < 160 by omega) (show 160 < 2 ^ 31 by omega)), nI_clamp (show q < 2 ^ 31 by omega), hT1.2.1 _ y]
      have hnb := e4 y
      unfold isBl at hnb
      rw [Bool.or_eq_true, beq_iff_eq, beq_iff_eq] at hnb
      have hbq := hb q y
      rw [if_neg (show ¬ nI (b q) = (32 : Int32) from fun z => hnb (Or.inl ((nI_inj (b := 32) (by omega) (by omega)).mp z))), if_neg (show ¬ nI (b q) = (10 : Int32) from fun z => hnb (Or.inr ((nI_inj (b := 10) (by omega) (by omega)).mp z)))]
    · rw [if_pos (nI_le (by omega) (by omega))]
  rw [e52]
  unfold S9_next_52
  rw [l1]
  have f2 : Fr lxR noR σ (sI (sI (sI σ1 75 19 (nI q)) 75 20 0) 75 21 0) := ((l2.sI _ (by unfold lxR; omega)).sI _ (by unfold lxR; omega)).sI _ (by unfold lxR; omega)
  have m18 : gI (sI (sI (sI σ1 75 19 (nI q)) 75 20 0) 75 21 0) 75 18 = nI q := by rw [gI_sI, if_neg (by omega), gI_sI, if_neg (by omega), gI_sI, if_neg (by omega)]; exact l1
  have m19 : gI (sI (sI (sI σ1 75 19 (nI q)) 75 20 0) 75 21 0) 75 19 = nI q := by rw [gI_sI, if_neg (by omega), gI_sI, if_neg (by omega), gI_sI, if_pos ⟨rfl, rfl⟩]
  have m20 : gI (sI (sI (sI σ1 75 19 (nI q)) 75 20 0) 75 21 0) 75 20 = 0 := by rw [gI_sI, if_neg (by omega), gI_sI, if_pos ⟨rfl, rfl⟩]
  have m21 : gI (sI (sI (sI σ1 75 19 (nI q)) 75 20 0) 75 21 0) 75 21 = 0 := by rw [gI_sI, if_pos ⟨rfl, rfl⟩]
  generalize sI (sI (sI σ1 75 19 (nI q)) 75 20 0) 75 21 0 = σ2 at f2 m18 m19 m20 m21 ⊢
  have hT2 := hT.fr (fun x y z => f2.1 x y (by unfold lxR; omega))
  rw [m18, hT2.1]
  by_cases q1 : q < s
  · have hbq := hb q q1
    have hne : ¬ nI q = nI s := fun y => absurd ((nI_inj (by omega) (by omega)).mp y) (by omega)
    rw [if_neg hne]
    simp only [if_pos (inb_nI (show q < 160 by omega) (show 160 < 2 ^ 31 by omega)), nI_clamp (show q < 2 ^ 31 by omega), hT2.2.1 _ q1, in9, bnd_s, in_le hbq, in_dg hbq]
    unfold nx kd vl
    rw [if_neg (show ¬ s ≤ q by omega), if_neg (show ¬ s ≤ q by omega)]
    by_cases q2 : isLe (b q) = true
    · -- a word
      rw [if_pos q2, if_neg (by decide)]
      obtain ⟨w1, w2, w3, w4⟩ := endR_s isLe b (Nat.le_of_lt q1)
      simp only [if_pos q2]
      generalize endR isLe b s q = e at w1 w2 w3 w4 ⊢
      have step2 : ∀ (i f : Nat) (τ : St), i < e - q → (gI τ 75 18 = nI (q + i) ∧ Fr (fun a k => a = 75 ∧ k = 18) noR σ2 τ) → ∃ τ', S9_next_103 (f + 1) τ = S9_next_103 f τ' ∧ (gI τ' 75 18 = nI (q + (i + 1)) ∧ Fr (fun a k => a = 75 ∧ k = 18) noR σ2 τ') := by
        intro i f τ hi ⟨l1, l2⟩
        have hTτ := hT2.fr (fun x y z => l2.1 x y (by omega))
        refine ⟨sI τ 75 18 (nI (q + (i + 1))), ?_, by rw [gI_sI, if_pos ⟨rfl, rfl⟩], l2.sI _ ⟨rfl, rfl⟩⟩
        show B9_next_103 _ τ = _
        unfold B9_next_103
        rw [l1, hTτ.1, if_neg (nI_ge (by omega) (by omega)), if_pos (inb_nI (by omega) (by omega)), nI_clamp (by omega), hTτ.2.1 _ (by omega), in9, bnd_s, in_le (hb _ (by omega)), if_pos (w3 (q + i) (by omega) (by omega)), if_neg (by decide), l1, nI_1]
        rfl
      obtain ⟨f3, σ3, g3, p1, p2⟩ := loopR (fun f _ τ => S9_next_103 f τ) (e - q) (fun i τ => gI τ 75 18 = nI (q + i) ∧ Fr (fun a k => a = 75 ∧ k = 18) noR σ2 τ) step2 (e - q) 0 4096 σ2 (by omega) (by omega) ⟨m18, Fr.rf⟩
      rw [show q + (e - q) = e by omega] at p1
      have hT3 := hT2.fr (fun x y z => p2.1 x y (by omega))
      have e146 : S9_next_103 4096 σ2 = S9_next_146 σ3 := by
        rw [show S9_next_103 4096 σ2 = _ from g3]
        show B9_next_103 _ σ3 = _
        unfold B9_next_103
        rw [p1, hT3.1]
        by_cases y : e < s
        · rw [if_neg (nI_ge y (by omega)), if_pos (inb_nI (by omega) (by omega)), nI_clamp (by omega), hT3.2.1 _ y, in9, bnd_s, in_le (hb _ y), if_neg (w4 y), if_pos rfl]
        · rw [if_pos (nI_le (by omega) (by omega))]
      have r19 : gI σ3 75 19 = nI q := (p2.1 75 19 (by omega)).trans m19
      have hwk : wk b q (e - q) < 13 := by
        rcases wk_s b q (e - q) with ⟨z, -⟩ | ⟨z, -⟩ <;> omega
      obtain ⟨t1, t2, t3, t4, t5⟩ := tok9 _ hwk
      rw [e146]
      unfold S9_next_146 S9_next_195 S9_next_211
      rw [r19, p1, wordFrom9 hs hb w1 w2 w3 hT3, bnd_s]
      generalize wk b q (e - q) = k at hwk t1 t2 t3 t4 t5 ⊢
      have fin : ∀ v w : Int32, v = rtk (kw k) → w = (if (3 : Int32) ≤ nI k then nI k - 3 else nI k) → ∃ σ', (some ((), sI (sI σ3 75 20 v) 75 21 w) : Option (Unit × St)) = some ((), σ') ∧ (gI σ' 75 18 = nI e ∧ gI σ' 75 19 = nI q ∧ gI σ' 75 20 = rtk (kw k) ∧ (kw k = 1 ∨ kw k = 2 ∨ kw k = 3 → gI σ' 75 21 = nI (if k < 3 then k else k - 3))) ∧ Fr lxR noR σ σ' := by
        intro v w hv hw
        refine ⟨_, rfl, ⟨by rw [gI_sI, if_neg (by omega), gI_sI, if_neg (by omega)]; exact p1, by rw [gI_sI, if_neg (by omega), gI_sI, if_neg (by omega)]; exact r19, by rw [gI_sI, if_neg (by omega), gI_sI, if_pos ⟨rfl, rfl⟩]; exact hv, fun y => ?_⟩, ((f2.tr (p2.mo (fun a k z => by unfold lxR; omega) (fun _ _ z => z))).sI _ (by unfold lxR; omega)).sI _ (by unfold lxR; omega)⟩
        rw [gI_sI, if_pos ⟨rfl, rfl⟩, hw]
        exact (t5 y).symm
      by_cases k3 : k < 3
      · have y3 : ¬ (3 : Int32) ≤ nI k := nI_ge (b := 3) k3 (by omega)
        rw [if_neg y3, if_neg y3]
        exact fin _ _ (t1 k3).symm (by rw [if_neg y3])
      · have y3 : (3 : Int32) ≤ nI k := nI_le (a := 3) (by omega) (by omega)
        rw [if_pos y3]
        by_cases k9 : k < 9
        · rw [if_neg (show ¬ (9 : Int32) ≤ nI k from nI_ge (b := 9) k9 (by omega)), if_pos y3]
          exact fin _ _ (t2 (by omega) k9).symm (by rw [if_pos y3])
        · rw [if_pos (show (9 : Int32) ≤ nI k from nI_le (a := 9) (by omega) (by omega))]
          by_cases k12 : k = 12
          · rw [if_pos (show nI k = (12 : Int32) by rw [k12]; rfl), if_pos y3]
            exact fin _ _ (t3 k12).symm (by rw [if_pos y3])
          · rw [if_neg (show ¬ nI k = (12 : Int32) from fun y => k12 ((nI_inj (b := 12) (by omega) (by omega)).mp y)), if_pos y3]
            exact fin _ _ (t4 (by omega) (by omega)).symm (by rw [if_pos y3])
    · rw [if_neg q2, if_pos rfl]
      by_cases q3 : isDg (b q) = true
      · -- a number
        rw [if_pos q3, if_neg (by decide)]
        obtain ⟨w1, w2, w3, w4⟩ := endR_s isDg b (Nat.le_of_lt q1)
        simp only [if_neg q2, if_pos q3]
        generalize endR isDg b s q = e at w1 w2 w3 w4 ⊢
        have dg : ∀ i, q ≤ i → i < e → 48 ≤ b i ∧ b i ≤ 57 := fun i h1 h2 => by
          have := w3 i h1 h2
          unfold isDg at this
          rw [Bool.and_eq_true, decide_eq_true_iff, decide_eq_true_iff] at this
          exact this
        let L : Nat → St → Prop := fun i τ => (gI τ 75 18 = nI (q + i) ∧ (i ≤ 4 → gI τ 75 21 = nI (numV b q i))) ∧ Fr (fun a k => a = 75 ∧ (k = 18 ∨ k = 21)) noR σ2 τ
        have step2 : ∀ (i f : Nat) (τ : St), i < e - q → L i τ → ∃ τ', S9_next_230 (f + 1) (nI i) τ = S9_next_230 f (nI (i + 1)) τ' ∧ L (i + 1) τ' := by
          intro i f τ hi ⟨⟨l1, l21⟩, l2⟩
          have hTτ := hT2.fr (fun x y z => l2.1 x y (by omega))
          have hdi := dg (q + i) (by omega) (by omega)
          have fin : ∀ v : Int32, (i + 1 ≤ 4 → v = nI (numV b q (i + 1))) → L (i + 1) (sI (sI τ 75 21 v) 75 18 (nI (q + (i + 1)))) := fun v hv => ⟨⟨by rw [gI_sI, if_pos ⟨rfl, rfl⟩], fun h => by rw [gI_sI, if_neg (by omega), gI_sI, if_pos ⟨rfl, rfl⟩]; exact hv h⟩, (l2.sI _ (by omega)).sI _ (by omega)⟩
          have w18 : ∀ v : Int32, gI (sI τ 75 21 v) 75 18 = nI (q + i) := fun v => by rw [gI_sI, if_neg (by omega)]; exact l1
          have ex : S9_next_230 (f + 1) (nI i) τ = B9_next_230 (S9_next_230 f) (nI i) τ := rfl
          rw [ex]
          unfold B9_next_230 S9_next_290
          rw [l1, hTτ.1, if_neg (nI_ge (by omega) (by omega))]
          simp only [if_pos (inb_nI (show q + i < 160 by omega) (show 160 < 2 ^ 31 by omega)), nI_clamp (show q + i < 2 ^ 31 by omega), hTτ.2.1 _ (show q + i < s by omega), in9, bnd_s, in_dg (hb _ (show q + i < s by omega))]
          rw [if_pos (w3 (q + i) (by omega) (by omega)), if_neg (by decide), l1]
          simp only [if_pos (inb_nI (show q + i < 160 by omega) (show 160 < 2 ^ 31 by omega)), nI_clamp (show q + i < 2 ^ 31 by omega), hTτ.2.1 _ (show q + i < s by omega), w18, nI_1]
          by_cases y : i < 4
          · have ev : (10 : Int32) * gI τ 75 21 + nI (b (q + i)) - 48 = nI (numV b q (i + 1)) := by
              rw [l21 (by omega), show (10 : Int32) = nI 10 from rfl, nI_mul, nI_add, show (48 : Int32) = nI 48 from rfl, nI_sub (by omega)]
              rfl
            rw [if_neg (show ¬ (4 : Int32) ≤ nI i from nI_ge (b := 4) y (by omega)), ev]
            exact ⟨_, rfl, fin _ (fun _ => rfl)⟩
          · rw [if_pos (show (4 : Int32) ≤ nI i from nI_le (a := 4) (by omega) (by omega))]
            exact ⟨_, rfl, fin _ (fun h => absurd h (by omega))⟩
        obtain ⟨f3, σ3, g3, ⟨p1, p21⟩, p2⟩ := loopR (fun f i τ => S9_next_230 f (nI i) τ) (e - q) L step2 (e - q) 0 4096 σ2 (by omega) (by omega) ⟨⟨m18, fun _ => m21⟩, Fr.rf⟩
        rw [show q + (e - q) = e by omega] at p1
        have hT3 := hT2.fr (fun x y z => p2.1 x y (by omega))
        have e309 : S9_next_230 4096 0 σ2 = S9_next_309 (nI (e - q)) σ3 := by
          rw [show S9_next_230 4096 (0 : Int32) σ2 = _ from g3]
          show B9_next_230 _ _ σ3 = _
          unfold B9_next_230
          rw [p1, hT3.1]
          by_cases y : e < s
          · rw [if_neg (nI_ge y (by omega))]
            simp only [if_pos (inb_nI (show e < 160 by omega) (show 160 < 2 ^ 31 by omega)), nI_clamp (show e < 2 ^ 31 by omega), hT3.2.1 _ y, in9, bnd_s, in_dg (hb _ y)]
            rw [if_neg (w4 y), if_pos rfl]
          · rw [if_pos (nI_le (by omega) (by omega))]
        have r19 : gI σ3 75 19 = nI q := (p2.1 75 19 (by omega)).trans m19
        rw [e309]
        unfold S9_next_309 S9_next_320
        have fr3 : Fr lxR noR σ σ3 := f2.tr (p2.mo (fun a k z => by unfold lxR; omega) (fun _ _ z => z))
        by_cases y : e - q ≤ 4
        · rw [if_pos (show nI (e - q) ≤ (4 : Int32) from nI_le (b := 4) y (by omega)), if_pos y]
          exact ⟨_, rfl, ⟨by rw [gI_sI, if_neg (by omega)]; exact p1, by rw [gI_sI, if_neg (by omega)]; exact r19, by rw [gI_sI, if_pos ⟨rfl, rfl⟩]; rfl, fun _ => by rw [gI_sI, if_neg (by omega)]; exact p21 y⟩, fr3.sI _ (by unfold lxR; omega)⟩
        · rw [if_neg (show ¬ nI (e - q) ≤ (4 : Int32) from nI_ge (a := 4) (by omega) (by omega)), if_neg y]
          exact ⟨_, rfl, ⟨by rw [gI_sI, if_neg (by omega)]; exact p1, by rw [gI_sI, if_neg (by omega)]; exact r19, by rw [gI_sI, if_pos ⟨rfl, rfl⟩]; rfl, fun z => absurd z (by omega)⟩, fr3.sI _ (by unfold lxR; omega)⟩
      · rw [if_neg q3, if_pos rfl]
        unfold S9_next_374 S9_next_379 S9_next_390
        simp only [if_neg q2, if_neg q3, if_true, if_neg (show ¬ (1 : Int32) = 0 by decide)]
        rw [sign9 (b q) hbq]
        have w18 : ∀ v : Int32, gI (sI σ2 75 20 v) 75 18 = nI q := fun v => by rw [gI_sI, if_neg (by omega)]; exact m18
        simp only [w18, nI_1]
        have fin : ∀ (v : Int32) (k V : Nat), v = rtk k → ¬ (k = 1 ∨ k = 2 ∨ k = 3) → ∃ σ', (some ((), sI (sI σ2 75 20 v) 75 18 (nI (q + 1))) : Option (Unit × St)) = some ((), σ') ∧ (gI σ' 75 18 = nI (q + 1) ∧ gI σ' 75 19 = nI q ∧ gI σ' 75 20 = rtk k ∧ (k = 1 ∨ k = 2 ∨ k = 3 → gI σ' 75 21 = nI V)) ∧ Fr lxR noR σ σ' := by
          intro v k V hv hk
          exact ⟨_, rfl, ⟨by rw [gI_sI, if_pos ⟨rfl, rfl⟩], by rw [gI_sI, if_neg (by omega), gI_sI, if_neg (by omega)]; exact m19, by rw [gI_sI, if_neg (by omega), gI_sI, if_pos ⟨rfl, rfl⟩]; exact hv, fun y => absurd y hk⟩, (f2.sI _ (by unfold lxR; omega)).sI _ (by unfold lxR; omega)⟩
        by_cases q4 : isSg (b q) = true
        · obtain ⟨s1, s2, s3⟩ := isSg_b q4
          simp only [if_pos q4]
          exact fin _ _ _ s3.symm (by omega)
        · simp only [if_neg q4]
          exact fin _ 7 _ rfl (by omega)
  · have hqs : q = s := by omega
    rw [if_pos (show nI q = nI s by rw [hqs])]
    unfold nx kd
    rw [if_pos (show s ≤ q by omega), if_pos (show s ≤ q by omega)]
    exact ⟨σ2, rfl, ⟨m18, m19, m20, fun y => absurd y (by omega)⟩, f2⟩
end LEX
