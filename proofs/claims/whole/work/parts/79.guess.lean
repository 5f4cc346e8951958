/-! One who is like one, but for a number: knees, kinds, heavy. -/
def setS (s : Nat → Int32) (f : Nat) (v : Int32) (j : Nat) : Int32 := if j = f then v else s j
theorem like8 {o w : Nat} (hw : o ≠ w) (σ : St) : ∃ σ', S7_becomesLike o w σ = some ((), σ') ∧ (∀ j, j < 7 → gI σ' o j = gI σ w j) ∧ ∀ a b, a ≠ o → gI σ' a b = gI σ a b := by
  unfold S7_becomesLike S7_comes
  rw [bnd_s]
  refine ⟨_, rfl, fun j hj => ?_, fun a b h => ?_⟩
  · have hw' : ¬ w = o := fun z => hw z.symm
    match j, hj with
    | 0, _ => simp [gI_sI]
    | 1, _ => simp [gI_sI]
    | 2, _ => simp [gI_sI]
    | 3, _ => simp [gI_sI]
    | 4, _ => simp [gI_sI, hw']
    | 5, _ => simp [gI_sI, hw']
    | 6, _ => simp [gI_sI, hw']
    | j + 7, h => exact absurd h (by omega)
  · simp only [gI_sI, h, false_and, if_false]
/-- which number sort is -/
def fdW (f : Nat) : Int32 := if f = 0 then 5 else if f = 1 then 6 else if f = 2 then 0 else if f = 3 then 1 else 2
theorem becomes8 {f : Nat} (hf : f < 5) (o : Nat) (v : Int32) (σ : St) : S7_becomes o (fdW f) v σ = some ((), sI σ o f v) := by
  unfold S7_becomes S7_becomes_72
  match f, hf with
  | 0, _ => rfl
  | 1, _ => rfl
  | 2, _ => rfl
  | 3, _ => rfl
  | 4, _ => rfl
theorem setS_sm {s : Nat → Int32} {f : Nat} {v : Int32} (h : smS s) (h1 : f = 1 ∨ f = 4 → 0 ≤ v ∧ v ≤ 9) : smS (setS s f v) := by
  obtain ⟨a, b⟩ := h
  unfold smS setS
  refine ⟨?_, ?_⟩
  · by_cases q : 1 = f
    · rw [if_pos q]; exact h1 (Or.inl q.symm)
    · rw [if_neg q]; exact a
  · by_cases q : 4 = f
    · rw [if_pos q]; exact h1 (Or.inr q.symm)
    · rw [if_neg q]; exact b
theorem would8 {n T t : Nat} {σ : St} (hI : Inv n T t σ) {k l S z f : Nat} {x : Int32} (hk : k < n) (hl : l < n) (xk : x / 10 = nI k) (xl : jrem x 10 = nI l) (hS : S < 4) (hz : z ≤ 9) (z9 : gI σ 85 S = nI z) (hf : f < 5) {v : Int32} (hv : f = 1 ∨ f = 4 → 0 ≤ v ∧ v ≤ 9) (pa pb : Int32) : ∃ σ', S8_wouldBeSo (nI S) x pa pb (fdW f) v σ = some (if alB (shR σ S) (cel (txC σ t) (setS (stM σ k) f v) (stM σ l) pa pb) z = true then 1 else 0, σ') ∧ Ag σ σ' := by
  have hn := hI.n6
  obtain ⟨σ1, g1, a1, b1⟩ := like8 (o := 25) (w := 3 + k) (by omega) σ
  have A1 : Ag σ σ1 := fun a b h => b1 a b (fun y => h (by unfold scr; omega))
  have A2 : Ag σ (sI σ1 25 f v) := A1.sI v (by unfold scr; omega)
  have c2 : ∀ j, j < 5 → gI (sI σ1 25 f v) 25 j = setS (stM σ k) f v j := fun j hj => by
    rw [gI_sI]
    unfold setS
    by_cases q : j = f
    · rw [if_pos ⟨rfl, q⟩, if_pos q]
    · rw [if_neg (fun y => q y.2), if_neg q, a1 j (by omega)]; exact hI.men hk j (by omega)
  have e2 : S7_becomes 25 (fdW f) v σ1 = some ((), sI σ1 25 f v) := becomes8 hf 25 v σ1
  generalize sI σ1 25 f v = σ2 at A2 c2 e2
  have hI2 := hI.ag A2
  obtain ⟨σ3, g3, f3, P3⟩ := pair2w (w1 := 25) (w2 := 3 + l) (s2 := stM σ l) obW25 (obW1 l (by omega)) hI2.t6 (hI2.tx hI2.tT) (txC_ag A2 t) c2 (fun j hj => by rw [hI2.men hl j (by omega), stM_ag A2])
  have A3 : Ag σ σ3 := A2.tr (Ag.fr f3 scB_scr)
  obtain ⟨σ4, g4, A4', P4, hB⟩ := goMen8 (setS_sm (hI.bd hk).1 hv) (hI.bd hl).1 P3 pa pb
  have A4 : Ag σ σ4 := A3.tr A4'
  obtain ⟨r, g5, F5⟩ := foMen8 (hI.ag A4) hB hS hz ((A4 85 S (by unfold scr; omega)).trans z9)
  rw [shR_ag A4] at F5
  refine ⟨σ4, ?_, A4⟩
  unfold S8_wouldBeSo
  rw [theOne8 xk (by omega), bnd_s, g1, bnd_s, e2, bnd_s, theOther8 xl (by omega), bnd_s, theLaw8 hI2.t6 hI2.l8, bnd_s, g3, bnd_s, g4, bnd_s, sheetAt8 hS, bnd_s, g5, bnd_s]
  by_cases y : alB (shR σ S) (cel (txC σ t) (setS (stM σ k) f v) (stM σ l) pa pb) z = true
  · rw [if_neg (fun w => (F5.al hz).2.mp w y), if_pos y]
  · rw [if_pos ((F5.al hz).2.mpr y), if_neg y]
/-- the reference: with a man's row changed -/
theorem unlikeSet9 {n T t : Nat} {σ τ : St} (hI : Inv n T t σ) {k l S z f : Nat} (hk : k < n) (hl : l < n) (hkl : k ≠ l) (hS : S < 4) (hz : z ≤ 9) (z9 : gI σ 85 S = nI z) {v : Int32} (hv : f = 1 ∨ f = 4 → 0 ≤ v ∧ v ≤ 9) (hL : ∀ a b, ¬ scr a b → ¬ ((a = 76 ∨ a = 77) ∧ b = k) → ¬ (a = 78 ∧ 5 * k ≤ b ∧ b < 5 * k + 5) → gI τ a b = gI σ a b) (hs : ∀ j, j < 5 → stM τ k j = setS (stM σ k) f v j) (pa pb : Int32) : ∃ r τ', S9_unlike (nI S) (nI k) (nI l) pa pb τ = some (r, τ') ∧ (∀ a b, ¬ scr a b → gI τ' a b = gI τ a b) ∧ (r = -1 ↔ alB (shR σ S) (cel (txC σ t) (setS (stM σ k) f v) (stM σ l) pa pb) z = true) := by
  have hn := hI.n6
  have hl5 : ∀ j, j < 7 → stM τ l j = stM σ l j := stM_7 (hL _ _ (by unfold scr; omega) (by omega) (by omega)) (hL _ _ (by unfold scr; omega) (by omega) (by omega)) (fun y y1 y2 => hL _ _ (by unfold scr; omega) (by omega) (by omega))
  obtain ⟨r, τ1, g1, f1, F3⟩ := unlike9 (σ := τ) (m1 := k) (m2 := l) (t := t) (s := S) (z := z) (cs := txC σ t) (s1 := setS (stM σ k) f v) (s2 := stM σ l) (row := shR σ S) (setS_sm (hI.bd hk).1 hv) (hI.bd hl).1 (by omega) (by omega) hI.t6 ((hL 75 10 (by unfold scr; omega) (by omega) (by omega)).trans hI.l9) (TxOk_fr hI.t6 (fun a b h => hL a b (by unfold scr; omega) (by omega) (by omega)) (hI.tx hI.tT)) (txC_fr t (fun a b h => hL a b (by unfold scr; omega) (by omega) (by omega))) hs (fun j hj => hl5 j (by omega)) pa pb hS hz ((hL 85 S (by unfold scr; omega) (by omega) (by omega)).trans z9) (fun i _ => hL 86 _ (by unfold scr; omega) (by omega) (by omega))
  exact ⟨r, τ1, g1, fun a b h => f1.1 a b (fun y => h (scN_scr a b y)), (F3.al hz).1⟩
theorem same_kinds (s x pa pb so : Int32) : Same (S8_kinds s x pa pb so) (S9_kinds s x pa pb so) := by
  intro n T t σ hI
  have hn := hI.n6
  by_cases hf : tfV σ n s x pa pb = 0
  · obtain ⟨hc, hp, hq⟩ := tfV_ok hI hf
    obtain ⟨k, l, hk, hl, hkl, xk, xl⟩ := pair01_t hn hp
    obtain ⟨S, z, hS, rfl, hz, z9, z8, -⟩ := cfV_ok hI hc
    by_cases h5 : in01 so 0 2 = 0
    · refine same_rf hI (-7) ?_ ?_
      · unfold S8_kinds
        rw [toldFault8 hI, bnd_s, if_pos hf]
        rcases in01_f h5 with y | y
        · rw [if_pos y]
        · by_cases y0 : so < 0
          · rw [if_pos y0]
          · rw [if_neg y0, if_neg (Int32.not_le.mpr y)]
      · unfold S9_kinds; rw [toldWrong9 hn hI.n9, bnd_s, if_pos hf, in9, bnd_s, if_pos h5]
    · obtain ⟨y1, y2⟩ := in01_t h5
      obtain ⟨Q, rfl, hQ⟩ := ex_nIc (a := so) (c := 2) (by omega) y1 y2
      -- the number that is set, how many values
      obtain ⟨f, M, hfM, hM10⟩ : ∃ f M : Nat, ((Q = 0 ∧ f = 0 ∧ M = 6) ∨ (Q = 1 ∧ f = 1 ∧ M = 10) ∨ (Q = 2 ∧ f = 4 ∧ M = 10)) ∧ M ≤ 10 := by
        match Q, hQ with
        | 0, _ => exact ⟨0, 6, Or.inl ⟨rfl, rfl, rfl⟩, by omega⟩
        | 1, _ => exact ⟨1, 10, Or.inr (Or.inl ⟨rfl, rfl, rfl⟩), by omega⟩
        | 2, _ => exact ⟨4, 10, Or.inr (Or.inr ⟨rfl, rfl, rfl⟩), by omega⟩
      have hf5 : f < 5 := by omega
      let P : Nat → Bool := fun v => alB (shR σ S) (cel (txC σ t) (setS (stM σ k) f (nI v)) (stM σ l) pa pb) z
      let B : Nat → Int32 := bS P
      have hbd : ∀ v, v < M → (f = 1 ∨ f = 4 → 0 ≤ nI v ∧ nI v ≤ 9) := fun v hv _ => ⟨nI_pos' (by omega), nI_le (b := 9) (by omega) (by omega)⟩
      have hlim : ∀ (R : Type) (g : Int32 → R), (if fdW f = 5 then g 6 else g 10) = g (nI M) := by
        intro R g
        rcases hfM with ⟨-, rfl, rfl⟩ | ⟨-, rfl, rfl⟩ | ⟨-, rfl, rfl⟩
        · rw [if_pos (by decide)]; rfl
        · rw [if_neg (by decide)]; rfl
        · rw [if_neg (by decide)]; rfl
      have step8 : ∀ (v f' : Nat) (τ : St), v < M → Ag σ τ → ∃ τ', S8_kinds_62 (nI S) x pa pb (nI Q) (f' + 1) (fdW f) (B v) (nI v) τ = S8_kinds_62 (nI S) x pa pb (nI Q) f' (fdW f) (B (v + 1)) (nI (v + 1)) τ' ∧ Ag σ τ' := by
        intro v f' τ hv A
        have hIτ := hI.ag A
        obtain ⟨τ', g, A'⟩ := would8 hIτ hk hl xk xl hS hz ((A 85 S (by unfold scr; omega)).trans z9) hf5 (hbd v hv) pa pb
        rw [shR_ag A, txC_ag A, stM_ag A, stM_ag A] at g
        refine ⟨τ', ?_, A.tr A'⟩
        have e : S8_kinds_62 (nI S) x pa pb (nI Q) (f' + 1) (fdW f) (B v) (nI v) τ = S8_kinds_77 (nI S) x pa pb (nI Q) (S8_kinds_62 (nI S) x pa pb (nI Q) f') (fdW f) (B v) (nI v) (nI v) (nI M) τ := hlim _ (fun y => S8_kinds_77 (nI S) x pa pb (nI Q) (S8_kinds_62 (nI S) x pa pb (nI Q) f') (fdW f) (B v) (nI v) (nI v) y τ)
        rw [e]
        unfold S8_kinds_77 S8_kinds_106
        rw [if_neg (nI_ge hv (by omega)), g, bnd_s, nI_1]
        by_cases y : P v = true
        · rw [if_pos y, if_neg (by decide), show B (v + 1) = B v ||| (1 <<< (nI v &&& 31)) from bS_t y]
        · rw [if_neg y, if_pos rfl, show B (v + 1) = B v ||| 0 from bS_f y]
      obtain ⟨f1, σ1, e1, A1⟩ := loopR (fun f' v τ => S8_kinds_62 (nI S) x pa pb (nI Q) f' (fdW f) (B v) (nI v) τ) M (fun _ τ => Ag σ τ) step8 M 0 4096 σ (by omega) (by omega) Ag.rf
      have hI1 := hI.ag A1
      have i2 : (5 : Int32) * nI k + 2 = nI (5 * k + 2) := by rw [show (5 : Int32) = nI 5 from rfl, nI_mul, show (2 : Int32) = nI 2 from rfl, nI_add]
      have r0 : gI σ1 76 k = stM σ k 0 := A1 76 k (by unfold scr; omega)
      have r1 : gI σ1 77 k = stM σ k 1 := A1 77 k (by unfold scr; omega)
      have r4 : gI σ1 78 (5 * k + 2) = stM σ k 4 := A1 78 _ (by unfold scr; omega)
      let L : Nat → St → Prop := fun _ τ => ∀ a b, ¬ scr a b → ¬ ((a = 76 ∨ a = 77) ∧ b = k) → ¬ (a = 78 ∧ b = 5 * k + 2) → gI τ a b = gI σ a b
      have hlim9 : ∀ (R : Type) (g : Int32 → R), (if nI Q = 0 then g 6 else g 10) = g (nI M) := by
        intro R g
        rcases hfM with ⟨rfl, -, rfl⟩ | ⟨rfl, -, rfl⟩ | ⟨rfl, -, rfl⟩
        · rw [if_pos (by decide)]; rfl
        · rw [if_neg (by decide)]; rfl
        · rw [if_neg (by decide)]; rfl
      have step9 : ∀ (v f' : Nat) (τ : St), v < M → L v τ → ∃ τ', S9_kinds_75 (nI S) x pa pb (nI Q) (f' + 1) (stM σ k 0) (stM σ k 1) (stM σ k 4) (B v) (nI v) τ = S9_kinds_75 (nI S) x pa pb (nI Q) f' (stM σ k 0) (stM σ k 1) (stM σ k 4) (B (v + 1)) (nI (v + 1)) τ' ∧ L (v + 1) τ' := by
        intro v f' τ hv hL
        have e : S9_kinds_75 (nI S) x pa pb (nI Q) (f' + 1) (stM σ k 0) (stM σ k 1) (stM σ k 4) (B v) (nI v) τ = S9_kinds_89 (nI S) x pa pb (nI Q) (S9_kinds_75 (nI S) x pa pb (nI Q) f') (stM σ k 0) (stM σ k 1) (stM σ k 4) (B v) (nI v) (nI v) (nI M) τ := hlim9 _ (fun y => S9_kinds_89 (nI S) x pa pb (nI Q) (S9_kinds_75 (nI S) x pa pb (nI Q) f') (stM σ k 0) (stM σ k 1) (stM σ k 4) (B v) (nI v) (nI v) y τ)
        rw [e]
        -- the three writes
        have e3 : S9_kinds_89 (nI S) x pa pb (nI Q) (S9_kinds_75 (nI S) x pa pb (nI Q) f') (stM σ k 0) (stM σ k 1) (stM σ k 4) (B v) (nI v) (nI v) (nI M) τ = S9_kinds_154 (nI S) x pa pb (nI Q) (S9_kinds_75 (nI S) x pa pb (nI Q) f') (stM σ k 0) (stM σ k 1) (stM σ k 4) (B v) (nI v) (setS (stM σ k) f (nI v) 4) (sI (sI τ 76 k (setS (stM σ k) f (nI v) 0)) 77 k (setS (stM σ k) f (nI v) 1)) := by
          unfold S9_kinds_89 S9_kinds_110 S9_kinds_130
          rw [if_neg (nI_ge hv (by omega)), xk]
          simp only [if_pos (inb_nI (show k < 6 by omega) (show 6 < 2 ^ 31 by omega)), nI_clamp (show k < 2 ^ 31 by omega)]
          rcases hfM with ⟨rfl, rfl, -⟩ | ⟨rfl, rfl, -⟩ | ⟨rfl, rfl, -⟩
          · simp only [if_pos (show nI 0 = (0 : Int32) from rfl), if_neg (show ¬ nI 0 = (1 : Int32) by decide), if_neg (show ¬ nI 0 = (2 : Int32) by decide)]
            rfl
          · simp only [if_neg (show ¬ nI 1 = (0 : Int32) by decide), if_pos (show nI 1 = (1 : Int32) from rfl), if_neg (show ¬ nI 1 = (2 : Int32) by decide)]
            rfl
          · simp only [if_neg (show ¬ nI 2 = (0 : Int32) by decide), if_neg (show ¬ nI 2 = (1 : Int32) by decide), if_pos (show nI 2 = (2 : Int32) from rfl)]
            rfl
        rw [e3]
        unfold S9_kinds_154 S9_kinds_183
        rw [xk, xl, i2, if_pos (inb_nI (by omega) (by omega)), nI_clamp (by omega), nI_1]
        have K : ∀ a b, ¬ ((a = 76 ∨ a = 77) ∧ b = k) → ¬ (a = 78 ∧ b = 5 * k + 2) → gI (sI (sI (sI τ 76 k (setS (stM σ k) f (nI v) 0)) 77 k (setS (stM σ k) f (nI v) 1)) 78 (5 * k + 2) (setS (stM σ k) f (nI v) 4)) a b = gI τ a b := fun a b h1 h2 => by rw [gI_sI, if_neg (by omega), gI_sI, if_neg (by omega), gI_sI, if_neg (by omega)]
        have w0 : gI (sI (sI (sI τ 76 k (setS (stM σ k) f (nI v) 0)) 77 k (setS (stM σ k) f (nI v) 1)) 78 (5 * k + 2) (setS (stM σ k) f (nI v) 4)) 76 k = setS (stM σ k) f (nI v) 0 := by rw [gI_sI, if_neg (by omega), gI_sI, if_neg (by omega), gI_sI, if_pos ⟨rfl, rfl⟩]
        have w1 : gI (sI (sI (sI τ 76 k (setS (stM σ k) f (nI v) 0)) 77 k (setS (stM σ k) f (nI v) 1)) 78 (5 * k + 2) (setS (stM σ k) f (nI v) 4)) 77 k = setS (stM σ k) f (nI v) 1 := by rw [gI_sI, if_neg (by omega), gI_sI, if_pos ⟨rfl, rfl⟩]
        have w4 : gI (sI (sI (sI τ 76 k (setS (stM σ k) f (nI v) 0)) 77 k (setS (stM σ k) f (nI v) 1)) 78 (5 * k + 2) (setS (stM σ k) f (nI v) 4)) 78 (5 * k + 2) = setS (stM σ k) f (nI v) 4 := by rw [gI_sI, if_pos ⟨rfl, rfl⟩]
        generalize sI (sI (sI τ 76 k (setS (stM σ k) f (nI v) 0)) 77 k (setS (stM σ k) f (nI v) 1)) 78 (5 * k + 2) (setS (stM σ k) f (nI v) 4) = τ0 at K w0 w1 w4 ⊢
        have K0 : ∀ a b, ¬ scr a b → ¬ ((a = 76 ∨ a = 77) ∧ b = k) → ¬ (a = 78 ∧ b = 5 * k + 2) → gI τ0 a b = gI σ a b := fun a b h1 h2 h3 => (K a b h2 h3).trans (hL a b h1 h2 h3)
        have hs : ∀ j, j < 5 → stM τ0 k j = setS (stM σ k) f (nI v) j := by
          intro j hj
          unfold stM
          rw [w0, w1]
          match j, hj with
          | 0, _ => rfl
          | 1, _ => rfl
          | 2, _ =>
            have : ¬ 2 = f := by omega
            show gI τ0 78 (5 * k + 0) = _
            unfold setS
            rw [if_neg this, K0 _ _ (by unfold scr; omega) (by omega) (by omega)]; rfl
          | 3, _ =>
            have : ¬ 3 = f := by omega
            show gI τ0 78 (5 * k + 1) = _
            unfold setS
            rw [if_neg this, K0 _ _ (by unfold scr; omega) (by omega) (by omega)]; rfl
          | 4, _ => exact w4
        obtain ⟨r, τ1, g1, f1, hr⟩ := unlikeSet9 hI hk hl hkl hS hz z9 (hbd v hv) (fun a b h1 h2 h3 => K0 a b h1 h2 (by omega)) hs pa pb
        refine ⟨τ1, ?_, fun a b h1 h2 h3 => (f1 a b h1).trans (K0 a b h1 h2 h3)⟩
        rw [g1, bnd_s]
        by_cases y : P v = true
        · rw [if_pos (hr.mpr y), show B (v + 1) = B v ||| (1 <<< (nI v &&& 31)) from bS_t y]
        · rw [if_neg (fun w => y (hr.mp w)), show B (v + 1) = B v ||| 0 from bS_f y]
      obtain ⟨f2, σ2, e2, L2⟩ := loopR (fun f' v τ => S9_kinds_75 (nI S) x pa pb (nI Q) f' (stM σ k 0) (stM σ k 1) (stM σ k 4) (B v) (nI v) τ) M L step9 M 0 4096 σ1 (by omega) (by omega) (fun a b h _ _ => A1 a b h)
      refine ⟨B M, σ1, sI (sI (sI σ2 76 k (stM σ k 0)) 77 k (stM σ k 1)) 78 (5 * k + 2) (stM σ k 4), ?_, ?_, n, T, t, hI.ag (fun a b h => ?_)⟩
      · unfold S8_kinds S8_kinds_54
        rw [toldFault8 hI, bnd_s, if_pos hf, if_neg y1, if_pos (Int32.not_lt.mp y2)]
        have e54 : S8_kinds_62 (nI S) x pa pb (nI Q) 4096 (fdW f) 0 0 σ = some (B M, σ1) := by
          rw [show S8_kinds_62 (nI S) x pa pb (nI Q) 4096 (fdW f) 0 0 σ = _ from e1]
          have e : S8_kinds_62 (nI S) x pa pb (nI Q) (f1 + 1) (fdW f) (B M) (nI M) σ1 = S8_kinds_77 (nI S) x pa pb (nI Q) (S8_kinds_62 (nI S) x pa pb (nI Q) f1) (fdW f) (B M) (nI M) (nI M) (nI M) σ1 := hlim _ (fun y => S8_kinds_77 (nI S) x pa pb (nI Q) (S8_kinds_62 (nI S) x pa pb (nI Q) f1) (fdW f) (B M) (nI M) (nI M) y σ1)
          rw [e]
          unfold S8_kinds_77
          rw [if_pos (Int32.le_refl _)]
        rcases hfM with ⟨rfl, rfl, -⟩ | ⟨rfl, rfl, -⟩ | ⟨rfl, rfl, -⟩
        · rw [if_pos (show nI 0 = (0 : Int32) from rfl)]; exact e54
        · rw [if_neg (show ¬ nI 1 = (0 : Int32) by decide), if_pos (show nI 1 = (1 : Int32) from rfl)]; exact e54
        · rw [if_neg (show ¬ nI 2 = (0 : Int32) by decide), if_neg (show ¬ nI 2 = (1 : Int32) by decide)]; exact e54
      · unfold S9_kinds
        rw [toldWrong9 hn hI1.n9, bnd_s, tfV_ag A1, if_pos hf, in9, bnd_s, if_neg h5, xk, i2, if_pos (inb_nI (by omega) (by omega)), if_pos (inb_nI (by omega) (by omega)), if_pos (inb_nI (by omega) (by omega)), nI_clamp (show k < 2 ^ 31 by omega), nI_clamp (show 5 * k + 2 < 2 ^ 31 by omega), r0, r1, r4, show S9_kinds_75 (nI S) x pa pb (nI Q) 4096 (stM σ k 0) (stM σ k 1) (stM σ k 4) (0 : Int32) (0 : Int32) σ1 = _ from e2]
        have e : S9_kinds_75 (nI S) x pa pb (nI Q) (f2 + 1) (stM σ k 0) (stM σ k 1) (stM σ k 4) (B M) (nI M) σ2 = S9_kinds_89 (nI S) x pa pb (nI Q) (S9_kinds_75 (nI S) x pa pb (nI Q) f2) (stM σ k 0) (stM σ k 1) (stM σ k 4) (B M) (nI M) (nI M) (nI M) σ2 := hlim9 _ (fun y => S9_kinds_89 (nI S) x pa pb (nI Q) (S9_kinds_75 (nI S) x pa pb (nI Q) f2) (stM σ k 0) (stM σ k 1) (stM σ k 4) (B M) (nI M) (nI M) y σ2)
        rw [e]
        unfold S9_kinds_89
        rw [if_pos (Int32.le_refl _), xk, i2, if_pos (inb_nI (by omega) (by omega)), if_pos (inb_nI (by omega) (by omega)), if_pos (inb_nI (by omega) (by omega)), nI_clamp (show k < 2 ^ 31 by omega), nI_clamp (show 5 * k + 2 < 2 ^ 31 by omega)]
      · rw [gI_sI]
        by_cases q1 : a = 78 ∧ b = 5 * k + 2
        · rw [if_pos q1, q1.1, q1.2]; rfl
        · rw [if_neg q1, gI_sI]
          by_cases q2 : a = 77 ∧ b = k
          · rw [if_pos q2, q2.1, q2.2]; rfl
          · rw [if_neg q2, gI_sI]
            by_cases q3 : a = 76 ∧ b = k
            · rw [if_pos q3, q3.1, q3.2]; rfl
            · rw [if_neg q3]; exact L2 a b h (by omega) q1
  · refine same_rf hI (tfV σ n s x pa pb) ?_ ?_
    · unfold S8_kinds; rw [toldFault8 hI, bnd_s, if_neg hf]
    · unfold S9_kinds; rw [toldWrong9 hn hI.n9, bnd_s, if_neg hf]
