/-! Tokens over the tape: bytes b, s of them. -/
def isBl (c : Nat) : Bool := c == 32 || c == 10
def isLe (c : Nat) : Bool := decide (97 ≤ c) && decide (c ≤ 122)
def isDg (c : Nat) : Bool := decide (48 ≤ c) && decide (c ≤ 57)
def isSg (c : Nat) : Bool := c == 40 || c == 41 || c == 59 || c == 43 || c == 45 || c == 42 || c == 60 || c == 61
def runE (P : Nat → Bool) (b : Nat → Nat) : Nat → Nat → Nat
  | 0, p => p
  | d + 1, p => if P (b p) = true then runE P b d (p + 1) else p
def endR (P : Nat → Bool) (b : Nat → Nat) (s p : Nat) : Nat := runE P b (s - p) p
theorem runE_s (P : Nat → Bool) (b : Nat → Nat) : ∀ d p, p ≤ runE P b d p ∧ runE P b d p ≤ p + d ∧ (∀ i, p ≤ i → i < runE P b d p → P (b i) = true) ∧ (runE P b d p < p + d → ¬ P (b (runE P b d p)) = true) := by
  intro d
  induction d with
  | zero => intro p; exact ⟨Nat.le_refl _, Nat.le_refl _, fun i h1 h2 => absurd h2 (Nat.not_lt.mpr h1), fun h => absurd h (Nat.lt_irrefl _)⟩
  | succ d ih =>
    intro p
    unfold runE
    by_cases q : P (b p) = true
    · rw [if_pos q]
      obtain ⟨h1, h2, h3, h4⟩ := ih (p + 1)
      refine ⟨by omega, by omega, fun i hi1 hi2 => ?_, fun h => h4 (by omega)⟩
      by_cases y : i = p
      · rw [y]; exact q
      · exact h3 i (by omega) hi2
    · rw [if_neg q]
      exact ⟨Nat.le_refl _, by omega, fun i h1 h2 => absurd h2 (Nat.not_lt.mpr h1), fun _ => q⟩
theorem endR_s (P : Nat → Bool) (b : Nat → Nat) {s p : Nat} (h : p ≤ s) : p ≤ endR P b s p ∧ endR P b s p ≤ s ∧ (∀ i, p ≤ i → i < endR P b s p → P (b i) = true) ∧ (endR P b s p < s → ¬ P (b (endR P b s p)) = true) := by
  obtain ⟨h1, h2, h3, h4⟩ := runE_s P b (s - p) p
  exact ⟨h1, by unfold endR; omega, h3, fun h => h4 (by unfold endR at h; omega)⟩
/-- the words, as the reference numbers them -/
def WL : List (List Nat) := [[102, 111, 114, 99, 101], [115, 116, 97, 110, 100, 115], [97, 104, 101, 97, 100], [119, 101, 105, 103, 104, 116], [112, 97, 99, 101], [97, 99, 116], [104, 105, 115], [99, 101, 108, 108], [107, 110, 101, 101], [111, 114], [97, 110, 100], [110, 111, 116]]
def wl (k : Nat) : List Nat := WL.getD k []
def wc (k i : Nat) : Nat := (wl k).getD i 32
def wn (k : Nat) : Nat := (wl k).length
def pre (b : Nat → Nat) (p L k : Nat) : Nat → Bool
  | 0 => true
  | o + 1 => pre b p L k o && (decide (o < L) && decide (b (p + o) = wc k o))
def mW (b : Nat → Nat) (p L k : Nat) : Bool := pre b p L k (wn k) && decide (wn k = L)
theorem pre_t {b : Nat → Nat} {p L k : Nat} : ∀ o, pre b p L k o = true ↔ ∀ i, i < o → i < L ∧ b (p + i) = wc k i := by
  intro o
  induction o with
  | zero => exact ⟨fun _ i h => absurd h (by omega), fun _ => rfl⟩
  | succ o ih =>
    show (pre b p L k o && (decide (o < L) && decide (b (p + o) = wc k o))) = true ↔ _
    rw [Bool.and_eq_true, Bool.and_eq_true, decide_eq_true_iff, decide_eq_true_iff, ih]
    constructor
    · rintro ⟨h1, h2, h3⟩ i hi
      by_cases q : i = o
      · subst q; exact ⟨h2, h3⟩
      · exact h1 i (by omega)
    · intro h
      exact ⟨fun i hi => h i (by omega), (h o (by omega)).1, (h o (by omega)).2⟩
theorem mW_t {b : Nat → Nat} {p L k : Nat} : mW b p L k = true ↔ wn k = L ∧ ∀ i, i < L → b (p + i) = wc k i := by
  unfold mW
  rw [Bool.and_eq_true, decide_eq_true_iff, pre_t]
  constructor
  · rintro ⟨h1, rfl⟩; exact ⟨rfl, fun i hi => (h1 i hi).2⟩
  · rintro ⟨rfl, h⟩; exact ⟨fun i hi => ⟨hi, h i hi⟩, rfl⟩
theorem wl_ne : ∀ k1, k1 < 12 → ∀ k2, k2 < 12 → wn k1 = wn k2 → (∀ i, i < wn k1 → wc k1 i = wc k2 i) → k1 = k2 := by decide +kernel
theorem mW_uni {b : Nat → Nat} {p L k1 k2 : Nat} (h1 : k1 < 12) (h2 : k2 < 12) (m1 : mW b p L k1 = true) (m2 : mW b p L k2 = true) : k1 = k2 := by
  obtain ⟨a1, a2⟩ := mW_t.mp m1
  obtain ⟨b1, b2⟩ := mW_t.mp m2
  exact wl_ne k1 h1 k2 h2 (a1.trans b1.symm) (fun i hi => by rw [← a2 i (by omega), b2 i (by omega)])
/-- the first word from k on -/
def wFrom (b : Nat → Nat) (p L : Nat) : Nat → Nat → Nat
  | 0, _ => 12
  | d + 1, k => if mW b p L k = true then k else wFrom b p L d (k + 1)
def wk (b : Nat → Nat) (p L : Nat) : Nat := wFrom b p L 12 0
theorem wFrom_s (b : Nat → Nat) (p L : Nat) : ∀ d k, k + d = 12 → (wFrom b p L d k = 12 ∧ ∀ j, k ≤ j → j < 12 → ¬ mW b p L j = true) ∨ (k ≤ wFrom b p L d k ∧ wFrom b p L d k < 12 ∧ mW b p L (wFrom b p L d k) = true) := by
  intro d
  induction d with
  | zero => intro k hk; exact Or.inl ⟨rfl, fun j h1 h2 => absurd h2 (by omega)⟩
  | succ d ih =>
    intro k hk
    unfold wFrom
    by_cases q : mW b p L k = true
    · rw [if_pos q]; exact Or.inr ⟨Nat.le_refl _, by omega, q⟩
    · rw [if_neg q]
      rcases ih (k + 1) (by omega) with ⟨h1, h2⟩ | ⟨h1, h2, h3⟩
      · refine Or.inl ⟨h1, fun j hj1 hj2 => ?_⟩
        by_cases y : j = k
        · rw [y]; exact q
        · exact h2 j (by omega) hj2
      · exact Or.inr ⟨by omega, h2, h3⟩
theorem wk_s (b : Nat → Nat) (p L : Nat) : (wk b p L = 12 ∧ ∀ j, j < 12 → ¬ mW b p L j = true) ∨ (wk b p L < 12 ∧ mW b p L (wk b p L) = true) := by
  rcases wFrom_s b p L 12 0 rfl with ⟨h1, h2⟩ | ⟨h1, h2, h3⟩
  · exact Or.inl ⟨h1, fun j hj => h2 j (by omega) hj⟩
  · exact Or.inr ⟨h2, h3⟩
def numV (b : Nat → Nat) (p : Nat) : Nat → Nat
  | 0 => 0
  | i + 1 => 10 * numV b p i + b (p + i) - 48
/-- a token at its place: its end, kind, value -/
def nx (b : Nat → Nat) (s q : Nat) : Nat := if s ≤ q then q else if isLe (b q) = true then endR isLe b s q else if isDg (b q) = true then endR isDg b s q else q + 1
def kw (k : Nat) : Nat := if k < 3 then 3 else if k < 9 then 2 else if k = 12 then 7 else k - 5
def kd (b : Nat → Nat) (s q : Nat) : Nat := if s ≤ q then 0 else if isLe (b q) = true then kw (wk b q (endR isLe b s q - q)) else if isDg (b q) = true then (if endR isDg b s q - q ≤ 4 then 1 else 7) else if isSg (b q) = true then b q else 7
def vl (b : Nat → Nat) (s q : Nat) : Nat := if isLe (b q) = true then (if wk b q (endR isLe b s q - q) < 3 then wk b q (endR isLe b s q - q) else wk b q (endR isLe b s q - q) - 3) else numV b q (endR isDg b s q - q)
def pS (b : Nat → Nat) (s : Nat) : Nat → Nat
  | 0 => 0
  | j + 1 => nx b s (endR isBl b s (pS b s j))
def pL (b : Nat → Nat) (s j : Nat) : Nat := endR isBl b s (pS b s j)
def tK (b : Nat → Nat) (s j : Nat) : Nat := kd b s (pL b s j)
def tV (b : Nat → Nat) (s j : Nat) : Nat := vl b s (pL b s j)
theorem nx_b (b : Nat → Nat) {s q : Nat} (h : q ≤ s) : q ≤ nx b s q ∧ nx b s q ≤ s ∧ (q < s → q < nx b s q) := by
  unfold nx
  by_cases q1 : s ≤ q
  · rw [if_pos q1]; exact ⟨Nat.le_refl _, h, fun y => absurd y (by omega)⟩
  · rw [if_neg q1]
    have first : ∀ P : Nat → Bool, P (b q) = true → q < endR P b s q := by
      intro P hP
      obtain ⟨h1, h2, h3, h4⟩ := endR_s P b h
      rcases Nat.lt_or_ge q (endR P b s q) with y | y
      · exact y
      · exfalso
        have : endR P b s q = q := by omega
        rw [this] at h4
        exact h4 (by omega) hP
    by_cases q2 : isLe (b q) = true
    · rw [if_pos q2]
      obtain ⟨h1, h2, -, -⟩ := endR_s isLe b h
      exact ⟨h1, h2, fun _ => first isLe q2⟩
    · rw [if_neg q2]
      by_cases q3 : isDg (b q) = true
      · rw [if_pos q3]
        obtain ⟨h1, h2, -, -⟩ := endR_s isDg b h
        exact ⟨h1, h2, fun _ => first isDg q3⟩
      · rw [if_neg q3]; exact ⟨by omega, by omega, fun _ => by omega⟩
theorem pS_b (b : Nat → Nat) (s : Nat) : ∀ j, pS b s j ≤ s := by
  intro j
  induction j with
  | zero => exact Nat.zero_le _
  | succ j ih => exact (nx_b b (endR_s isBl b ih).2.1).2.1
theorem pL_b (b : Nat → Nat) (s j : Nat) : pS b s j ≤ pL b s j ∧ pL b s j ≤ s := ⟨(endR_s isBl b (pS_b b s j)).1, (endR_s isBl b (pS_b b s j)).2.1⟩
theorem kd_0 {b : Nat → Nat} {s q : Nat} (hb : ∀ k, k < s → b k ≤ 255) : kd b s q = 0 ↔ s ≤ q := by
  unfold kd
  by_cases q1 : s ≤ q
  · rw [if_pos q1]; exact ⟨fun _ => q1, fun _ => rfl⟩
  · rw [if_neg q1]
    refine ⟨fun h => ?_, fun h => absurd h q1⟩
    exfalso
    by_cases q2 : isLe (b q) = true
    · rw [if_pos q2] at h
      unfold kw at h
      split at h
      · omega
      · split at h
        · omega
        · split at h
          · omega
          · omega
    · rw [if_neg q2] at h
      by_cases q3 : isDg (b q) = true
      · rw [if_pos q3] at h
        split at h <;> omega
      · rw [if_neg q3] at h
        by_cases q4 : isSg (b q) = true
        · rw [if_pos q4] at h
          rw [h] at q4
          exact absurd q4 (by decide)
        · rw [if_neg q4] at h; omega
theorem tK_end {b : Nat → Nat} {s j : Nat} (hb : ∀ k, k < s → b k ≤ 255) (h : tK b s j = 0) : tK b s (j + 1) = 0 := by
  unfold tK at h ⊢
  rw [kd_0 hb] at h ⊢
  obtain ⟨h1, h2⟩ := pL_b b s j
  have e : pS b s (j + 1) = pL b s j := by
    show nx b s (pL b s j) = _
    unfold nx
    rw [if_pos h]
  have := (pL_b b s (j + 1)).1
  omega
theorem tK_lt {b : Nat → Nat} {s : Nat} (hb : ∀ k, k < s → b k ≤ 255) : ∀ j, ¬ tK b s j = 0 → j ≤ pS b s j ∧ j < s := by
  intro j
  induction j with
  | zero =>
    intro h
    unfold tK at h
    rw [kd_0 hb] at h
    exact ⟨Nat.zero_le _, by omega⟩
  | succ j ih =>
    intro h
    have hj : ¬ tK b s j = 0 := fun y => h (tK_end hb y)
    obtain ⟨i1, i2⟩ := ih hj
    have hj' := hj
    unfold tK at hj'
    rw [kd_0 hb] at hj'
    obtain ⟨l1, l2⟩ := pL_b b s j
    have n1 := (nx_b b l2).2.2 (by omega)
    have e : pS b s (j + 1) = nx b s (pL b s j) := rfl
    have h' := h
    unfold tK at h'
    rw [kd_0 hb] at h'
    have := (pL_b b s (j + 1)).1
    exact ⟨by omega, by omega⟩
/-- the class's token, the reference's -/
def ctk (k v : Nat) : Int32 := if k = 0 then -1 else if k = 7 then -2 else if k = 2 then nI (100 + v) else if k = 3 then nI (106 + v) else if k = 4 then 109 else if k = 5 then 110 else if k = 6 then 111 else nI k
def rtk (k : Nat) : Int32 := if k = 7 then -1 else nI k
def TC (b : Nat → Nat) (s : Nat) (σ : St) : Prop := gI σ 26 1 = nI s ∧ ∀ k, k < s → gI σ 27 k = nI (b k)
def TR (b : Nat → Nat) (s : Nat) (σ : St) : Prop := gI σ 75 6 = nI s ∧ (∀ k, k < s → gI σ 79 k = nI (b k)) ∧ ∀ k, k < 96 → gI σ 88 k = arr88 k
def lxC (a k : Nat) : Prop := a = 26 ∧ 2 ≤ k ∧ k ≤ 5
def lxR (a k : Nat) : Prop := a = 75 ∧ 18 ≤ k ∧ k ≤ 21
theorem TC.fr {b : Nat → Nat} {s : Nat} {σ σ' : St} (h : TC b s σ) (k : ∀ x y, (x = 26 ∧ y = 1) ∨ x = 27 → gI σ' x y = gI σ x y) : TC b s σ' := ⟨(k 26 1 (by omega)).trans h.1, fun j hj => (k 27 j (by omega)).trans (h.2 j hj)⟩
theorem TR.fr {b : Nat → Nat} {s : Nat} {σ σ' : St} (h : TR b s σ) (k : ∀ x y, (x = 75 ∧ y = 6) ∨ x = 79 ∨ x = 88 → gI σ' x y = gI σ x y) : TR b s σ' := ⟨(k 75 6 (by omega)).trans h.1, fun j hj => (k 79 j (by omega)).trans (h.2.1 j hj), fun j hj => (k 88 j (by omega)).trans (h.2.2 j hj)⟩
/-! The class's lexer. -/
theorem isBlank8 {c : Nat} (hc : c ≤ 255) (σ : St) : S1_isBlank (nI c) σ = some (if isBl c = true then 1 else 0, σ) := by
  unfold S1_isBlank S1_isBlank_12 isBl
  by_cases q : c = 32
  · subst q; rfl
  · rw [if_neg (show ¬ nI c = (32 : Int32) from fun y => q ((nI_inj (b := 32) (by omega) (by omega)).mp y))]
    by_cases q2 : c = 10
    · subst q2; rfl
    · rw [if_neg (show ¬ nI c = (10 : Int32) from fun y => q2 ((nI_inj (b := 10) (by omega) (by omega)).mp y)), if_neg (by simp [q, q2])]
theorem isLetter8 {c : Nat} (hc : c ≤ 255) (σ : St) : S1_isLetter (nI c) σ = some (if isLe c = true then 1 else 0, σ) := by
  unfold S1_isLetter isLe
  rw [show (97 : Int32) = nI 97 from rfl, show (122 : Int32) = nI 122 from rfl]
  by_cases q : c < 97
  · rw [if_pos (nI_lt q (by omega)), if_neg (by simp; omega)]
  · rw [if_neg (nI_nlt (by omega) (by omega))]
    by_cases q2 : 122 < c
    · rw [if_pos (nI_lt q2 (by omega)), if_neg (by simp; omega)]
    · rw [if_neg (nI_nlt (by omega) (by omega)), if_pos (by simp; omega)]
theorem isDigit8 {c : Nat} (hc : c ≤ 255) (σ : St) : S1_isDigit (nI c) σ = some (if isDg c = true then 1 else 0, σ) := by
  unfold S1_isDigit isDg
  rw [show (48 : Int32) = nI 48 from rfl, show (57 : Int32) = nI 57 from rfl]
  by_cases q : c < 48
  · rw [if_pos (nI_lt q (by omega)), if_neg (by simp; omega)]
  · rw [if_neg (nI_nlt (by omega) (by omega))]
    by_cases q2 : 57 < c
    · rw [if_pos (nI_lt q2 (by omega)), if_neg (by simp; omega)]
    · rw [if_neg (nI_nlt (by omega) (by omega)), if_pos (by simp; omega)]
theorem byteAt8 {i : Nat} (hi : i < 160) (σ : St) : S1_byteAt (nI i) σ = some (gI σ 27 i, σ) := by
  unfold S1_byteAt
  rw [if_neg (nI_pos (by omega)), if_neg (show ¬ (160 : Int32) ≤ nI i from nI_ge (b := 160) hi (by omega)), if_pos (inb_nI hi (by omega)), nI_clamp (by omega)]
theorem byteAt8z {i : Nat} (hi : i ≤ 160) (σ : St) : ∃ v, S1_byteAt (nI i) σ = some (v, σ) := by
  by_cases q : i < 160
  · exact ⟨_, byteAt8 q σ⟩
  · unfold S1_byteAt
    rw [if_neg (nI_pos (by omega)), if_pos (show (160 : Int32) ≤ nI i from nI_le (a := 160) (by omega) (by omega))]
    exact ⟨0, rfl⟩
theorem sign8 : ∀ c, c < 256 → (ixS 2 (((nI c).toUInt32 % 65536).toInt32) < 0 ↔ ¬ isSg c = true) := by decide +kernel
section LEX
variable {b : Nat → Nat} {s : Nat}
theorem skip8 (hs : s ≤ 160) (hb : ∀ k, k < s → b k ≤ 255) {p : Nat} (hp : p ≤ s) {σ : St} (hT : TC b s σ) (h3 : gI σ 26 3 = nI p) : ∃ σ', S1_step σ = S1_step_37 σ' ∧ gI σ' 26 3 = nI (endR isBl b s p) ∧ Fr lxC noR σ σ' := by
  obtain ⟨e1, e2, e3, e4⟩ := endR_s isBl b hp
  generalize endR isBl b s p = e at e1 e2 e3 e4 ⊢
  have step : ∀ (i f : Nat) (τ : St), i < e - p → (gI τ 26 3 = nI (p + i) ∧ Fr lxC noR σ τ) → ∃ τ', S1_step_5 (f + 1) (nI (p + i)) τ = S1_step_5 f (nI (p + (i + 1))) τ' ∧ (gI τ' 26 3 = nI (p + (i + 1)) ∧ Fr lxC noR σ τ') := by
    intro i f τ hi ⟨l1, l2⟩
    have hTτ := hT.fr (fun x y z => l2.1 x y (by unfold lxC; omega))
    refine ⟨sI τ 26 3 (nI (p + (i + 1))), ?_, by rw [gI_sI, if_pos ⟨rfl, rfl⟩], l2.sI _ (by unfold lxC; omega)⟩
    show B1_step_5 _ _ τ = _
    unfold B1_step_5
    rw [hTτ.1, if_neg (nI_ge (by omega) (by omega)), byteAt8 (by omega), bnd_s, hTτ.2 _ (by omega), isBlank8 (hb _ (by omega)), bnd_s, if_pos (e3 (p + i) (by omega) (by omega)), if_neg (by decide), nI_1]
    rfl
  obtain ⟨f', σ', g, l1, l2⟩ := loopR (fun f i τ => S1_step_5 f (nI (p + i)) τ) (e - p) (fun i τ => gI τ 26 3 = nI (p + i) ∧ Fr lxC noR σ τ) step (e - p) 0 4096 σ (by omega) (by omega) ⟨h3, Fr.rf⟩
  have hTτ := hT.fr (fun x y z => l2.1 x y (by unfold lxC; omega))
  have ee : p + (e - p) = e := by omega
  rw [ee] at l1
  refine ⟨σ', ?_, l1, l2⟩
  unfold S1_step
  rw [h3, show S1_step_5 4096 (nI p) σ = _ from g]
  show B1_step_5 _ _ σ' = _
  rw [ee]
  unfold B1_step_5
  rw [hTτ.1]
  by_cases q : e < s
  · rw [if_neg (nI_ge q (by omega)), byteAt8 (by omega), bnd_s, hTτ.2 _ q, isBlank8 (hb _ q), bnd_s, if_neg (e4 q), if_pos rfl]
  · rw [if_pos (nI_le (by omega) (by omega))]
theorem number8 (hs : s ≤ 160) (hb : ∀ k, k < s → b k ≤ 255) {q : Nat} (hq : q < s) (hd : isDg (b q) = true) {σ : St} (hT : TC b s σ) (h2 : gI σ 26 2 = nI q) (h3 : gI σ 26 3 = nI q) : ∃ σ', S1_stepOverNumber σ = some ((), σ') ∧ gI σ' 26 2 = nI q ∧ gI σ' 26 3 = nI (endR isDg b s q) ∧ gI σ' 26 4 = (if endR isDg b s q - q ≤ 4 then 1 else -2) ∧ gI σ' 26 5 = nI (numV b q (endR isDg b s q - q)) ∧ Fr lxC noR σ σ' := by
  obtain ⟨e1, e2, e3, e4⟩ := endR_s isDg b (Nat.le_of_lt hq)
  generalize endR isDg b s q = e at e1 e2 e3 e4 ⊢
  have dg : ∀ i, q ≤ i → i < e → 48 ≤ b i ∧ b i ≤ 57 := fun i h1 h2 => by
    have := e3 i h1 h2
    unfold isDg at this
    rw [Bool.and_eq_true, decide_eq_true_iff, decide_eq_true_iff] at this
    exact this
  let L : Nat → St → Prop := fun i τ => (gI τ 26 3 = nI (q + i) ∧ gI τ 26 5 = nI (numV b q i) ∧ gI τ 26 2 = nI q) ∧ Fr lxC noR σ τ
  have step : ∀ (i f : Nat) (τ : St), i < e - q → L i τ → ∃ τ', S1_stepOverNumber_10 (f + 1) (nI (q + i)) τ = S1_stepOverNumber_10 f (nI (q + (i + 1))) τ' ∧ L (i + 1) τ' := by
    intro i f τ hi ⟨⟨l1, l5, l2⟩, l4⟩
    have hTτ := hT.fr (fun x y z => l4.1 x y (by unfold lxC; omega))
    have hdi := dg (q + i) (by omega) (by omega)
    have ev : (10 : Int32) * nI (numV b q i) + nI (b (q + i)) - 48 = nI (numV b q (i + 1)) := by
      rw [show (10 : Int32) = nI 10 from rfl, nI_mul, nI_add, show (48 : Int32) = nI 48 from rfl, nI_sub (by omega)]
      rfl
    refine ⟨sI (sI τ 26 5 (nI (numV b q (i + 1)))) 26 3 (nI (q + (i + 1))), ?_, ⟨by rw [gI_sI, if_pos ⟨rfl, rfl⟩], by rw [gI_sI, if_neg (by omega), gI_sI, if_pos ⟨rfl, rfl⟩], by rw [gI_sI, if_neg (by omega), gI_sI, if_neg (by omega)]; exact l2⟩, (l4.sI _ (by unfold lxC; omega)).sI _ (by unfold lxC; omega)⟩
    show B1_stepOverNumber_10 _ _ τ = _
    unfold B1_stepOverNumber_10
    rw [hTτ.1, if_neg (nI_ge (by omega) (by omega)), byteAt8 (by omega), bnd_s, hTτ.2 _ (by omega), isDigit8 (hb _ (by omega)), bnd_s, if_pos (e3 (q + i) (by omega) (by omega)), if_neg (by decide), byteAt8 (by omega), bnd_s, hTτ.2 _ (by omega), l5, ev, nI_1]
    rfl
  have c5 : gI (sI σ 26 5 0) 26 2 = nI q := by rw [gI_sI, if_neg (by omega)]; exact h2
  obtain ⟨f', σ', g, ⟨l1, l5, l2⟩, l4⟩ := loopR (fun f i τ => S1_stepOverNumber_10 f (nI (q + i)) τ) (e - q) L step (e - q) 0 4096 (sI σ 26 5 0) (by omega) (by omega) ⟨⟨by rw [gI_sI, if_neg (by omega)]; exact h3, by rw [gI_sI, if_pos ⟨rfl, rfl⟩]; rfl, c5⟩, Fr.rf.sI _ (by unfold lxC; omega)⟩
  have hTτ := hT.fr (fun x y z => l4.1 x y (by unfold lxC; omega))
  have ee : q + (e - q) = e := by omega
  rw [ee] at l1
  have fin : S1_stepOverNumber_62 σ' = some ((), sI σ' 26 4 (if e - q ≤ 4 then 1 else -2)) := by
    unfold S1_stepOverNumber_62 S1_stepOverNumber_82
    rw [l1, l2, nI_sub e1, show (4 : Int32) = nI 4 from rfl]
    by_cases y : e - q ≤ 4
    · rw [if_neg (nI_nlt y (by omega)), if_pos y]
    · rw [if_pos (nI_lt (by omega) (by omega)), if_neg y]
  refine ⟨sI σ' 26 4 (if e - q ≤ 4 then 1 else -2), ?_, by rw [gI_sI, if_neg (by omega)]; exact l2, by rw [gI_sI, if_neg (by omega)]; exact l1, by rw [gI_sI, if_pos ⟨rfl, rfl⟩], by rw [gI_sI, if_neg (by omega)]; exact l5, l4.sI _ (by unfold lxC; omega)⟩
  unfold S1_stepOverNumber
  rw [c5, show S1_stepOverNumber_10 4096 (nI q) (sI σ 26 5 0) = _ from g]
  show B1_stepOverNumber_10 _ _ σ' = _
  rw [ee]
  unfold B1_stepOverNumber_10
  rw [hTτ.1]
  by_cases y : e < s
  · rw [if_neg (nI_ge y (by omega)), byteAt8 (by omega), bnd_s, hTτ.2 _ y, isDigit8 (hb _ y), bnd_s, if_neg (e4 y), if_pos rfl, fin]
  · rw [if_pos (nI_le (by omega) (by omega)), fin]
end LEX
