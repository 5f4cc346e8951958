/-! The class's words; a step to the next token. -/
def cwL : List Nat := [3, 4, 5, 6, 7, 8, 0, 1, 2, 9, 10, 11]
def cw (w : Nat) : Nat := cwL.getD w 12
def wOL : List Nat := [0, 0, 0, 0, 0, 0, 0, 1, 1, 1, 1, 1, 2, 2, 2, 2, 3, 3, 3, 3, 4, 4, 4, 4, 4, 5, 5, 5, 5, 5, 6, 6, 6, 6, 6, 6, 7, 7, 7, 7, 7, 7, 7, 8, 8, 8, 8, 8, 8, 9, 9, 9, 10, 10, 10, 10, 11, 11, 11, 11, 12]
def oOL : List Nat := [0, 1, 2, 3, 4, 5, 6, 0, 1, 2, 3, 4, 0, 1, 2, 3, 0, 1, 2, 3, 0, 1, 2, 3, 4, 0, 1, 2, 3, 4, 0, 1, 2, 3, 4, 5, 0, 1, 2, 3, 4, 5, 6, 0, 1, 2, 3, 4, 5, 0, 1, 2, 0, 1, 2, 3, 0, 1, 2, 3, 0]
def wO (j : Nat) : Nat := wOL.getD j 12
def oO (j : Nat) : Nat := oOL.getD j 0
/-- the text's letters: a blank behind each word -/
theorem txt1_ok : ∀ j, j < 60 → wO j < 12 ∧ (if oO j = wn (cw (wO j)) then chS 1 j = 32 ∧ wO (j + 1) = wO j + 1 ∧ oO (j + 1) = 0 else oO j < wn (cw (wO j)) ∧ ¬ chS 1 j = 32 ∧ chS 1 j = nI (wc (cw (wO j)) (oO j)) ∧ wO (j + 1) = wO j ∧ oO (j + 1) = oO j + 1) := by decide +kernel
theorem cw_lt : ∀ w, w < 12 → cw w < 12 := by decide +kernel
theorem wc_b : ∀ k, k < 12 → ∀ i, i < 8 → wc k i ≤ 255 := by decide +kernel
theorem wn_b : ∀ k, k < 12 → wn k < 8 := by decide +kernel
def preI (b : Nat → Nat) (p L j : Nat) : Int32 := if pre b p L (cw (wO j)) (oO j) = true then nI (oO j) else -1
def tkI (b : Nat → Nat) (p L : Nat) : Nat → Int32
  | 0 => -2
  | w + 1 => if mW b p L (cw w) = true then nI (100 + w) else tkI b p L w
/-- which of the class's words it is -/
theorem cw_inv : ∀ k, k < 12 → ∃ w, w < 12 ∧ cw w = k ∧ nI (100 + w) = ctk (kw k) (if k < 3 then k else k - 3) := by decide +kernel
theorem cw_inj : ∀ w, w < 12 → ∀ v, v < 12 → cw w = cw v → w = v := by decide +kernel
theorem tkI_0 (b : Nat → Nat) (p L : Nat) (h : ∀ k, k < 12 → ¬ mW b p L k = true) : ∀ w, w ≤ 12 → tkI b p L w = -2 := by
  intro w
  induction w with
  | zero => intro _; rfl
  | succ w ih =>
    intro hw
    unfold tkI
    rw [if_neg (h _ (cw_lt w (by omega)))]
    exact ih (by omega)
theorem tkI_1 {b : Nat → Nat} {p L v : Nat} (hv : v < 12) (h : mW b p L (cw v) = true) : ∀ w, w ≤ 12 → v < w → tkI b p L w = nI (100 + v) := by
  intro w
  induction w with
  | zero => intro _ hw; omega
  | succ w ih =>
    intro hw hvw
    unfold tkI
    by_cases q : w = v
    · rw [q, if_pos h]
    · rw [if_neg (fun y => q (cw_inj w (by omega) v hv (mW_uni (cw_lt w (by omega)) (cw_lt v hv) y h)))]
      exact ih (by omega) (by omega)
theorem tkI_12 (b : Nat → Nat) (p L : Nat) : tkI b p L 12 = ctk (kw (wk b p L)) (if wk b p L < 3 then wk b p L else wk b p L - 3) := by
  rcases wk_s b p L with ⟨h1, h2⟩ | ⟨h1, h2⟩
  · rw [tkI_0 b p L h2 12 (Nat.le_refl _), h1]; decide
  · obtain ⟨v, hv, e1, e2⟩ := cw_inv _ h1
    rw [← e2]
    exact tkI_1 hv (by rw [e1]; exact h2) 12 (Nat.le_refl _) hv
section LEX
variable {b : Nat → Nat} {s : Nat}
theorem words8 (hs : s ≤ 160) {q e : Nat} (hqe : q < e) (he : e ≤ s) {σ : St} (hT : TC b s σ) (hb : ∀ k, k < s → b k ≤ 255) (h2 : gI σ 26 2 = nI q) (h3 : gI σ 26 3 = nI e) : ∃ σ', S1_stepOverWord_37 σ = some ((), σ') ∧ gI σ' 26 4 = tkI b q (e - q) 12 ∧ Fr (fun a k => a = 26 ∧ k = 4) noR σ σ' := by
  have step : ∀ (j f : Nat) (τ : St), j < 60 → (gI τ 26 4 = tkI b q (e - q) (wO j) ∧ Fr (fun a k => a = 26 ∧ k = 4) noR σ τ) → ∃ τ', S1_stepOverWord_50 (f + 1) (nI (100 + wO j)) (preI b q (e - q) j) (nI j) τ = S1_stepOverWord_50 f (nI (100 + wO (j + 1))) (preI b q (e - q) (j + 1)) (nI (j + 1)) τ' ∧ (gI τ' 26 4 = tkI b q (e - q) (wO (j + 1)) ∧ Fr (fun a k => a = 26 ∧ k = 4) noR σ τ') := by
    intro j f τ hj ⟨l1, l2⟩
    have hTτ := hT.fr (fun x y z => l2.1 x y (by omega))
    have g2 : gI τ 26 2 = nI q := (l2.1 26 2 (by omega)).trans h2
    have g3 : gI τ 26 3 = nI e := (l2.1 26 3 (by omega)).trans h3
    obtain ⟨hw, hch⟩ := txt1_ok j hj
    have hwn := wn_b _ (cw_lt _ hw)
    have ex : S1_stepOverWord_50 (f + 1) (nI (100 + wO j)) (preI b q (e - q) j) (nI j) τ = B1_stepOverWord_50 (S1_stepOverWord_50 f) (nI (100 + wO j)) (preI b q (e - q) j) (nI j) τ := rfl
    rw [ex]
    unfold B1_stepOverWord_50 S1_stepOverWord_143 S1_stepOverWord_144 S1_stepOverWord_158 S1_stepOverWord_96 S1_stepOverWord_159
    rw [if_neg (show ¬ (60 : Int32) ≤ nI j from nI_ge (b := 60) hj (by omega)), if_pos (inb_nI hj (by omega)), g2, g3, nI_sub (by omega)]
    simp only [nI_clamp (show j < 2 ^ 31 by omega), nI_1, if_true, if_neg (show ¬ (1 : Int32) = 0 by decide)]
    by_cases qo : oO j = wn (cw (wO j))
    · rw [if_pos qo] at hch
      obtain ⟨c1, c2, c3⟩ := hch
      rw [if_pos c1]
      have hpre : preI b q (e - q) (j + 1) = 0 := by
        unfold preI
        rw [c3]
        rfl
      have hm : preI b q (e - q) j = nI (e - q) ↔ mW b q (e - q) (cw (wO j)) = true := by
        unfold preI mW
        rw [qo, Bool.and_eq_true, decide_eq_true_iff]
        by_cases y : pre b q (e - q) (cw (wO j)) (wn (cw (wO j))) = true
        · rw [if_pos y, nI_inj (by omega) (by omega)]
          exact ⟨fun h => ⟨y, h⟩, fun h => h.2⟩
        · rw [if_neg y]
          exact ⟨fun h => absurd (nI_pos' (n := e - q) (by omega)) (by rw [← h]; decide), fun h => absurd h.1 y⟩
      have e1 : nI (100 + wO (j + 1)) = nI (100 + wO j + 1) := by rw [c2]; rfl
      by_cases y : mW b q (e - q) (cw (wO j)) = true
      · rw [if_pos (hm.mpr y)]
        refine ⟨sI τ 26 4 (nI (100 + wO j)), by rw [hpre, e1], ?_, l2.sI _ ⟨rfl, rfl⟩⟩
        rw [gI_sI, if_pos ⟨rfl, rfl⟩, c2]
        show _ = if mW b q (e - q) (cw (wO j)) = true then nI (100 + wO j) else tkI b q (e - q) (wO j)
        rw [if_pos y]
      · rw [if_neg (fun h => y (hm.mp h))]
        refine ⟨sI τ 26 4 (gI τ 26 4), by rw [hpre, e1], ?_, l2.sI _ ⟨rfl, rfl⟩⟩
        rw [gI_sI, if_pos ⟨rfl, rfl⟩, c2, l1]
        show _ = if mW b q (e - q) (cw (wO j)) = true then nI (100 + wO j) else tkI b q (e - q) (wO j)
        rw [if_neg y]
    · rw [if_neg qo] at hch
      obtain ⟨c1, c2, c3, c4, c5⟩ := hch
      rw [if_neg c2]
      have hn : preI b q (e - q) (j + 1) = if pre b q (e - q) (cw (wO j)) (oO j) = true ∧ oO j < e - q ∧ b (q + oO j) = wc (cw (wO j)) (oO j) then nI (oO j + 1) else -1 := by
        unfold preI
        rw [c4, c5]
        show (if (pre b q (e - q) (cw (wO j)) (oO j) && (decide (oO j < e - q) && decide (b (q + oO j) = wc (cw (wO j)) (oO j)))) = true then _ else _) = _
        simp only [Bool.and_eq_true, decide_eq_true_iff]
      refine ⟨τ, ?_, by rw [c4]; exact l1, l2⟩
      rw [hn, c4]
      unfold preI
      by_cases y : pre b q (e - q) (cw (wO j)) (oO j) = true
      · rw [if_pos y, if_neg (nI_pos (by omega))]
        by_cases y2 : oO j < e - q
        · rw [if_neg (nI_ge y2 (by omega)), nI_add, byteAt8 (by omega), bnd_s, hTτ.2 _ (by omega), c3]
          have hbb := hb (q + oO j) (by omega)
          have hww := wc_b _ (cw_lt _ hw) (oO j) (by omega)
          by_cases y3 : b (q + oO j) = wc (cw (wO j)) (oO j)
          · rw [if_pos (show nI (b (q + oO j)) = nI (wc (cw (wO j)) (oO j)) by rw [y3]), if_pos ⟨y, y2, y3⟩, nI_1]
          · rw [if_neg (fun h => y3 ((nI_inj (by omega) (by omega)).mp h)), if_neg (fun h => y3 h.2.2)]
        · rw [if_pos (nI_le (by omega) (by omega)), if_neg (fun h => y2 h.2.1)]
      · rw [if_neg y, if_pos (by decide), if_neg (fun h => y h.1)]
  obtain ⟨f', σ', g, l1, l2⟩ := loopR (fun f j τ => S1_stepOverWord_50 f (nI (100 + wO j)) (preI b q (e - q) j) (nI j) τ) 60 (fun j τ => gI τ 26 4 = tkI b q (e - q) (wO j) ∧ Fr (fun a k => a = 26 ∧ k = 4) noR σ τ) step 60 0 4096 (sI σ 26 4 (-2)) (by omega) (by omega) ⟨by rw [gI_sI, if_pos ⟨rfl, rfl⟩]; rfl, Fr.rf.sI _ ⟨rfl, rfl⟩⟩
  refine ⟨σ', ?_, l1, l2⟩
  unfold S1_stepOverWord_37
  rw [show S1_stepOverWord_50 4096 (100 : Int32) (0 : Int32) (0 : Int32) (sI σ 26 4 (-2)) = _ from g]
  show B1_stepOverWord_50 _ _ _ _ σ' = _
  unfold B1_stepOverWord_50
  rw [if_pos (show (60 : Int32) ≤ nI 60 by decide)]
theorem word8 (hs : s ≤ 160) (hb : ∀ k, k < s → b k ≤ 255) {q : Nat} (hq : q < s) (hd : isLe (b q) = true) {σ : St} (hT : TC b s σ) (h2 : gI σ 26 2 = nI q) (h3 : gI σ 26 3 = nI q) : ∃ σ', S1_stepOverWord σ = some ((), σ') ∧ gI σ' 26 2 = nI q ∧ gI σ' 26 3 = nI (endR isLe b s q) ∧ gI σ' 26 4 = tkI b q (endR isLe b s q - q) 12 ∧ Fr lxC noR σ σ' := by
  have hlt : q < endR isLe b s q := by
    have h := (nx_b b (Nat.le_of_lt hq)).2.2 hq
    unfold nx at h
    rw [if_neg (by omega), if_pos hd] at h
    exact h
  obtain ⟨e1, e2, e3, e4⟩ := endR_s isLe b (Nat.le_of_lt hq)
  generalize endR isLe b s q = e at e1 e2 e3 e4 hlt ⊢
  have step : ∀ (i f : Nat) (τ : St), i < e - q → (gI τ 26 3 = nI (q + i) ∧ Fr (fun a k => a = 26 ∧ k = 3) noR σ τ) → ∃ τ', S1_stepOverWord_5 (f + 1) (nI (q + i)) τ = S1_stepOverWord_5 f (nI (q + (i + 1))) τ' ∧ (gI τ' 26 3 = nI (q + (i + 1)) ∧ Fr (fun a k => a = 26 ∧ k = 3) noR σ τ') := by
    intro i f τ hi ⟨l1, l2⟩
    have hTτ := hT.fr (fun x y z => l2.1 x y (by omega))
    refine ⟨sI τ 26 3 (nI (q + (i + 1))), ?_, by rw [gI_sI, if_pos ⟨rfl, rfl⟩], l2.sI _ ⟨rfl, rfl⟩⟩
    show B1_stepOverWord_5 _ _ τ = _
    unfold B1_stepOverWord_5
    rw [hTτ.1, if_neg (nI_ge (by omega) (by omega)), byteAt8 (by omega), bnd_s, hTτ.2 _ (by omega), isLetter8 (hb _ (by omega)), bnd_s, if_pos (e3 (q + i) (by omega) (by omega)), if_neg (by decide), nI_1]
    rfl
  obtain ⟨f', σ', g, l1, l2⟩ := loopR (fun f i τ => S1_stepOverWord_5 f (nI (q + i)) τ) (e - q) (fun i τ => gI τ 26 3 = nI (q + i) ∧ Fr (fun a k => a = 26 ∧ k = 3) noR σ τ) step (e - q) 0 4096 σ (by omega) (by omega) ⟨h3, Fr.rf⟩
  have hTτ := hT.fr (fun x y z => l2.1 x y (by omega))
  have ee : q + (e - q) = e := by omega
  rw [ee] at l1
  obtain ⟨σ2, w1, w2, w3⟩ := words8 hs hlt e2 hTτ hb ((l2.1 26 2 (by omega)).trans h2) l1
  refine ⟨σ2, ?_, (w3.1 26 2 (by omega)).trans ((l2.1 26 2 (by omega)).trans h2), (w3.1 26 3 (by omega)).trans l1, w2, (l2.mo (fun a k z => by unfold lxC; omega) (fun _ _ z => z)).tr (w3.mo (fun a k z => by unfold lxC; omega) (fun _ _ z => z))⟩
  unfold S1_stepOverWord
  rw [h2, show S1_stepOverWord_5 4096 (nI q) σ = _ from g]
  show B1_stepOverWord_5 _ _ σ' = _
  rw [ee]
  unfold B1_stepOverWord_5
  rw [hTτ.1]
  by_cases y : e < s
  · rw [if_neg (nI_ge y (by omega)), byteAt8 (by omega), bnd_s, hTτ.2 _ y, isLetter8 (hb _ y), bnd_s, if_neg (e4 y), if_pos rfl, w1]
  · rw [if_pos (nI_le (by omega) (by omega)), w1]
/-- the class stands before token j -/
def CL (b : Nat → Nat) (s j : Nat) (σ : St) : Prop := gI σ 26 2 = nI (pL b s j) ∧ gI σ 26 3 = nI (pS b s (j + 1)) ∧ gI σ 26 4 = ctk (tK b s j) (tV b s j) ∧ (tK b s j = 1 → gI σ 26 5 = nI (tV b s j))
theorem step8 (hs : s ≤ 160) (hb : ∀ k, k < s → b k ≤ 255) {j : Nat} {σ : St} (hT : TC b s σ) (h3 : gI σ 26 3 = nI (pS b s j)) : ∃ σ', S1_step σ = some ((), σ') ∧ CL b s j σ' ∧ Fr lxC noR σ σ' := by
  obtain ⟨σ1, g1, k3, f1⟩ := skip8 hs hb (pS_b b s j) hT h3
  obtain ⟨l1, l2⟩ := pL_b b s j
  rw [show endR isBl b s (pS b s j) = pL b s j from rfl] at k3
  have hN : pS b s (j + 1) = nx b s (pL b s j) := rfl
  unfold CL
  rw [hN]
  unfold tK tV
  generalize pL b s j = q at k3 l1 l2 ⊢
  rw [g1]
  unfold S1_step_37 S1_step_128
  rw [k3]
  have m3 : gI (sI σ1 26 2 (nI q)) 26 3 = nI q := by rw [gI_sI, if_neg (by omega)]; exact k3
  have m2 : gI (sI σ1 26 2 (nI q)) 26 2 = nI q := by rw [gI_sI, if_pos ⟨rfl, rfl⟩]
  have f2 : Fr lxC noR σ (sI σ1 26 2 (nI q)) := f1.sI _ (by unfold lxC; omega)
  generalize sI σ1 26 2 (nI q) = σ2 at m3 m2 f2 ⊢
  have hT2 := hT.fr (fun x y z => f2.1 x y (by unfold lxC; omega))
  obtain ⟨v, hv⟩ := byteAt8z (show q ≤ 160 by omega) σ2
  rw [m2, hv, bnd_s, m2, hT2.1]
  by_cases q1 : q < s
  · have hvb : v = nI (b q) := by
      have := byteAt8 (show q < 160 by omega) σ2
      rw [hv] at this
      have e := congrArg Prod.fst (Option.some.inj this)
      exact e.trans (hT2.2 q q1)
    subst hvb
    have hbq := hb q q1
    rw [if_pos (nI_lt q1 (by omega)), isLetter8 hbq, bnd_s, isDigit8 hbq, bnd_s]
    unfold nx kd vl
    rw [if_neg (show ¬ s ≤ q by omega), if_neg (show ¬ s ≤ q by omega)]
    by_cases q2 : isLe (b q) = true
    · rw [if_pos q2, if_neg (by decide)]
      obtain ⟨σ3, w1, w2, w3, w4, w5⟩ := word8 hs hb q1 q2 hT2 m2 m3
      rw [w1, bnd_s]
      refine ⟨σ3, rfl, ⟨w2, ?_, ?_, ?_⟩, f2.tr w5⟩
      · rw [if_pos q2]; exact w3
      · rw [if_pos q2, if_pos q2, w4]; exact tkI_12 _ _ _
      · rw [if_pos q2]
        intro y
        exfalso
        unfold kw at y
        have : wk b q (endR isLe b s q - q) ≤ 12 := by
          rcases wk_s b q (endR isLe b s q - q) with ⟨z, -⟩ | ⟨z, -⟩ <;> omega
        split at y
        · omega
        · split at y
          · omega
          · split at y <;> omega
    · rw [if_neg q2, if_pos rfl]
      by_cases q3 : isDg (b q) = true
      · rw [if_pos q3, if_neg (by decide)]
        obtain ⟨σ3, w1, w2, w3, w4, w5, w6⟩ := number8 hs hb q1 q3 hT2 m2 m3
        rw [w1, bnd_s]
        refine ⟨σ3, rfl, ⟨w2, ?_, ?_, ?_⟩, f2.tr w6⟩
        · rw [if_neg q2, if_pos q3]; exact w3
        · rw [if_neg q2, if_pos q3, w4]
          split <;> rfl
        · intro _; rw [if_neg q2]; exact w5
      · rw [if_neg q3, if_pos rfl]
        have e1 : nI q + 1 = nI (q + 1) := nI_1 q
        rw [m2, e1]
        have fin : ∀ v : Int32, v = ctk (if isSg (b q) = true then b q else 7) (numV b q (endR isDg b s q - q)) → ∃ σ', (some ((), sI (sI σ2 26 3 (nI (q + 1))) 26 4 v) : Option (Unit × St)) = some ((), σ') ∧ (gI σ' 26 2 = nI q ∧ gI σ' 26 3 = nI (if isLe (b q) = true then endR isLe b s q else if isDg (b q) = true then endR isDg b s q else q + 1) ∧ gI σ' 26 4 = ctk (if isLe (b q) = true then kw (wk b q (endR isLe b s q - q)) else if isDg (b q) = true then if endR isDg b s q - q ≤ 4 then 1 else 7 else if isSg (b q) = true then b q else 7) (if isLe (b q) = true then (if wk b q (endR isLe b s q - q) < 3 then wk b q (endR isLe b s q - q) else wk b q (endR isLe b s q - q) - 3) else numV b q (endR isDg b s q - q)) ∧ ((if isLe (b q) = true then kw (wk b q (endR isLe b s q - q)) else if isDg (b q) = true then if endR isDg b s q - q ≤ 4 then 1 else 7 else if isSg (b q) = true then b q else 7) = 1 → gI σ' 26 5 = nI (if isLe (b q) = true then (if wk b q (endR isLe b s q - q) < 3 then wk b q (endR isLe b s q - q) else wk b q (endR isLe b s q - q) - 3) else numV b q (endR isDg b s q - q)))) ∧ Fr lxC noR σ σ' := by
          intro v hv
          refine ⟨_, rfl, ⟨by rw [gI_sI, if_neg (by omega), gI_sI, if_neg (by omega)]; exact m2, ?_, ?_, ?_⟩, (f2.sI _ (by unfold lxC; omega)).sI _ (by unfold lxC; omega)⟩
          · rw [if_neg q2, if_neg q3, gI_sI, if_neg (by omega), gI_sI, if_pos ⟨rfl, rfl⟩]
          · rw [if_neg q2, if_neg q3, if_neg q2, gI_sI, if_pos ⟨rfl, rfl⟩]; exact hv
          · rw [if_neg q2, if_neg q3]
            intro y
            exfalso
            by_cases q4 : isSg (b q) = true
            · rw [if_pos q4] at y
              rw [y] at q4
              exact absurd q4 (by decide)
            · rw [if_neg q4] at y; omega
        by_cases q4 : isSg (b q) = true
        · rw [if_neg (fun y => (sign8 (b q) (by omega)).mp y q4)]
          refine fin _ ?_
          rw [if_pos q4]
          unfold isSg at q4
          simp only [Bool.or_eq_true, beq_iff_eq] at q4
          rcases q4 with (((((((h | h) | h) | h) | h) | h) | h) | h) <;> (rw [h]; rfl)
        · rw [if_pos ((sign8 (b q) (by omega)).mpr q4)]
          refine fin _ ?_
          rw [if_neg q4]
          rfl
  · rw [if_neg (nI_nlt (by omega) (by omega))]
    have hqs : q = s := by omega
    unfold nx kd
    rw [if_pos (show s ≤ q by omega), if_pos (show s ≤ q by omega)]
    refine ⟨_, rfl, ⟨by rw [gI_sI, if_neg (by omega)]; exact m2, by rw [gI_sI, if_neg (by omega)]; exact m3, by rw [gI_sI, if_pos ⟨rfl, rfl⟩]; rfl, fun y => absurd y (by omega)⟩, f2.sI _ (by unfold lxC; omega)⟩
end LEX
