/-! A bout from its start, on the reference's side; both sides wrapped up. -/
theorem loopR {R : Type} (run : Nat → Nat → St → Option (R × St)) (n : Nat) (L : Nat → St → Prop) (step : ∀ (k f : Nat) (σ : St), k < n → L k σ → ∃ σ', run (f + 1) k σ = run f (k + 1) σ' ∧ L (k + 1) σ') : ∀ (d k f : Nat) (σ : St), k + d = n → d < f → L k σ → ∃ f' σ', run f k σ = run (f' + 1) n σ' ∧ L n σ' := by
  intro d
  induction d with
  | zero =>
    intro k f σ h1 h2 h3
    obtain ⟨f, rfl⟩ : ∃ z, f = z + 1 := ⟨f - 1, by omega⟩
    have h1 : k = n := h1
    subst h1
    exact ⟨f, σ, rfl, h3⟩
  | succ d ih =>
    intro k f σ h1 h2 h3
    obtain ⟨f, rfl⟩ : ∃ z, f = z + 1 := ⟨f - 1, by omega⟩
    obtain ⟨σ1, e1, l1⟩ := step k f σ (by omega) h3
    obtain ⟨f2, σ2, e2, l2⟩ := ih (k + 1) f σ1 (by omega) (by omega) l1
    exact ⟨f2, σ2, e1.trans e2, l2⟩
/-- with an end on the way -/
theorem loopI {R : Type} (run : Nat → Nat → St → Option (R × St)) (n : Nat) (L : Nat → St → Prop) (Q : R → St → Prop) (step : ∀ (k f : Nat) (σ : St), k < n → L k σ → (∃ σ', run (f + 1) k σ = run f (k + 1) σ' ∧ L (k + 1) σ') ∨ ∃ r σ', run (f + 1) k σ = some (r, σ') ∧ Q r σ') (fin : ∀ (f : Nat) (σ : St), L n σ → ∃ r σ', run (f + 1) n σ = some (r, σ') ∧ Q r σ') : ∀ (d k f : Nat) (σ : St), k + d = n → d < f → L k σ → ∃ r σ', run f k σ = some (r, σ') ∧ Q r σ' := by
  intro d
  induction d with
  | zero =>
    intro k f σ h1 h2 h3
    obtain ⟨f, rfl⟩ : ∃ z, f = z + 1 := ⟨f - 1, by omega⟩
    have h1 : k = n := h1
    subst h1
    exact fin f σ h3
  | succ d ih =>
    intro k f σ h1 h2 h3
    obtain ⟨f, rfl⟩ : ∃ z, f = z + 1 := ⟨f - 1, by omega⟩
    rcases step k f σ (by omega) h3 with ⟨σ1, e1, l1⟩ | h
    · obtain ⟨r, σ2, e2, l2⟩ := ih (k + 1) f σ1 (by omega) (by omega) l1
      exact ⟨r, σ2, e1.trans e2, l2⟩
    · exact h
def scN (a b : Nat) : Prop := (a = 90 ∨ a = 91 ∨ a = 92 ∨ a = 93) ∨ (a = 75 ∧ 29 ≤ b ∧ b ≤ 36)
theorem begins9 {σ : St} {t m1 m2 : Nat} (ht : t < 6) (h1 : m1 < 6) (h2 : m2 < 6) (hr : gI σ 75 10 = nI t) (hT : TxOk σ t) : ∃ σ', S9_begins (nI m1) (nI m2) σ = some ((), σ') ∧ Fr scN noR σ σ' ∧ PMi (strF (txC σ t) (stM σ m1)) (strF (txC σ t) (stM σ m2)) (standF (txC σ t) (stM σ m1)) (standF (txC σ t) (stM σ m2)) t m1 m2 σ' ∧ gI σ' 75 34 = stF (txC σ t) (stM σ m1) (stM σ m2) := by
  unfold S9_begins
  have K : ∀ τ, Fr scN noR σ τ → gI τ 75 10 = nI t ∧ TxOk τ t ∧ txC τ t = txC σ t ∧ ∀ m, stM τ m = stM σ m := fun τ f => ⟨(f.1 75 10 (by unfold scN; omega)).trans hr, TxOk_fr ht (fun a b z => f.1 a b (by unfold scN; omega)) hT, txC_fr t (fun a b z => f.1 a b (by unfold scN; omega)), stM_fr (fun a b z => f.1 a b (by unfold scN; omega))⟩
  have w : ∀ (τ : St) (k : Nat) (v : Int32), Fr scN noR σ τ → 29 ≤ k → k ≤ 36 → Fr scN noR σ (sI τ 75 k v) := fun τ k v f h3 h4 => f.sI v (by unfold scN; omega)
  have f0 := w _ 30 (nI m2) (w σ 29 (nI m1) Fr.rf (by omega) (by omega)) (by omega) (by omega)
  have a1 : gI (sI (sI σ 75 29 (nI m1)) 75 30 (nI m2)) 75 29 = nI m1 := by rw [gI_sI, if_neg (by omega), gI_sI, if_pos ⟨rfl, rfl⟩]
  have a2 : gI (sI (sI σ 75 29 (nI m1)) 75 30 (nI m2)) 75 30 = nI m2 := by rw [gI_sI, if_pos ⟨rfl, rfl⟩]
  generalize sI (sI σ 75 29 (nI m1)) 75 30 (nI m2) = σ0 at f0 a1 a2 ⊢
  have step : ∀ (k f : Nat) (τ : St), k < 288 → (Fr (fun a _ => a = 92) noR σ0 τ ∧ ∀ j, j < k → gI τ 92 j = -1) → ∃ τ', S9_begins_12 (nI m1) (nI m2) (f + 1) (nI k) τ = S9_begins_12 (nI m1) (nI m2) f (nI (k + 1)) τ' ∧ (Fr (fun a _ => a = 92) noR σ0 τ' ∧ ∀ j, j < k + 1 → gI τ' 92 j = -1) := by
    intro k f τ hk ⟨g1, g2⟩
    refine ⟨sI τ 92 k (-1), ?_, g1.sI _ rfl, fun j hj => ?_⟩
    · show B9_begins_12 _ _ _ _ τ = _
      unfold B9_begins_12
      rw [if_neg (show ¬ (288 : Int32) ≤ nI k from nI_ge (a := k) (b := 288) hk (by omega)), if_pos (inb_nI hk (by omega)), nI_clamp (by omega), ← nI_succ]
    · rw [gI_sI]
      by_cases q : j = k
      · rw [if_pos ⟨rfl, q⟩]
      · rw [if_neg (fun z => q z.2)]; exact g2 j (by omega)
  obtain ⟨f', σ1, e1, g1, g2⟩ := loopR (fun f k τ => S9_begins_12 (nI m1) (nI m2) f (nI k) τ) 288 (fun k τ => Fr (fun a _ => a = 92) noR σ0 τ ∧ ∀ j, j < k → gI τ 92 j = -1) step 288 0 4096 σ0 rfl (by omega) ⟨Fr.rf, fun j hj => absurd hj (by omega)⟩
  rw [show S9_begins_12 (nI m1) (nI m2) 4096 (0 : Int32) σ0 = _ from e1]
  have f1 : Fr scN noR σ σ1 := f0.tr (g1.mo (fun a b z => by unfold scN; omega) (fun _ _ z => z))
  have b1 : gI σ1 75 29 = nI m1 := (g1.1 _ _ (by omega)).trans a1
  have b2 : gI σ1 75 30 = nI m2 := (g1.1 _ _ (by omega)).trans a2
  show ∃ σ', B9_begins_12 _ _ _ _ σ1 = _ ∧ _
  unfold B9_begins_12
  rw [if_pos (show (288 : Int32) ≤ nI 288 by decide)]
  have sc : ∀ (τ τ' : St), Fr (fun a _ => a = 90 ∨ a = 91) noR τ τ' → Fr scN noR σ τ → Fr scN noR σ τ' := fun τ τ' g f => f.tr (g.mo (fun a b z => by unfold scN; omega) (fun _ _ z => z))
  obtain ⟨k1, k2, k3, k4⟩ := K σ1 f1
  obtain ⟨σ2, e2, g3⟩ := stands9 ht h1 k1 k2
  rw [e2, bnd_s, k3, k4]
  have f2 := sc _ _ g3 f1
  have f3 := w σ2 32 (standF (txC σ t) (stM σ m1)) f2 (by omega) (by omega)
  have c1 : gI (sI σ2 75 32 (standF (txC σ t) (stM σ m1))) 75 32 = standF (txC σ t) (stM σ m1) := by rw [gI_sI, if_pos ⟨rfl, rfl⟩]
  have c2 : ∀ a b, a ≠ 90 → a ≠ 91 → b ≠ 32 → gI (sI σ2 75 32 (standF (txC σ t) (stM σ m1))) a b = gI σ1 a b := fun a b z1 z2 z3 => by rw [gI_sI, if_neg (fun q => z3 q.2), g3.1 a b (by omega)]
  have c3 : ∀ a b, a ≠ 90 → a ≠ 91 → a ≠ 75 → gI (sI σ2 75 32 (standF (txC σ t) (stM σ m1))) a b = gI σ1 a b := fun a b z1 z2 z3 => by rw [gI_sI, if_neg (fun q => z3 q.1), g3.1 a b (by omega)]
  generalize sI σ2 75 32 (standF (txC σ t) (stM σ m1)) = σ3 at f3 c1 c2 c3 ⊢
  obtain ⟨k1, k2, k3, k4⟩ := K σ3 f3
  obtain ⟨σ4, e4, g5⟩ := stands9 ht h2 k1 k2
  rw [e4, bnd_s, k3, k4]
  have f4 := sc _ _ g5 f3
  have f5 := w σ4 33 (standF (txC σ t) (stM σ m2)) f4 (by omega) (by omega)
  have d1 : gI (sI σ4 75 33 (standF (txC σ t) (stM σ m2))) 75 33 = standF (txC σ t) (stM σ m2) := by rw [gI_sI, if_pos ⟨rfl, rfl⟩]
  have d2 : ∀ a b, a ≠ 90 → a ≠ 91 → b ≠ 33 → gI (sI σ4 75 33 (standF (txC σ t) (stM σ m2))) a b = gI σ3 a b := fun a b z1 z2 z3 => by rw [gI_sI, if_neg (fun q => z3 q.2), g5.1 a b (by omega)]
  have d3 : ∀ a b, a ≠ 90 → a ≠ 91 → a ≠ 75 → gI (sI σ4 75 33 (standF (txC σ t) (stM σ m2))) a b = gI σ3 a b := fun a b z1 z2 z3 => by rw [gI_sI, if_neg (fun q => z3 q.1), g5.1 a b (by omega)]
  generalize sI σ4 75 33 (standF (txC σ t) (stM σ m2)) = σ5 at f5 d1 d2 d3 ⊢
  obtain ⟨k1, k2, k3, k4⟩ := K σ5 f5
  obtain ⟨σ6, e6, g7⟩ := starts9 ht h1 k1 k2
  rw [e6, bnd_s, k3, k4]
  have f6 := sc _ _ g7 f5
  obtain ⟨k1, k2, k3, k4⟩ := K σ6 f6
  obtain ⟨σ7, e7, g8⟩ := starts9 ht h2 k1 k2
  rw [e7, bnd_s, k3, k4]
  have f7 := sc _ _ g8 f6
  rw [within9g _ (1 : Int32) 7 (by decide), bnd_s]
  have hst : wi ((4 : Int32) + startF (txC σ t) (stM σ m1) - startF (txC σ t) (stM σ m2)) 1 7 = stF (txC σ t) (stM σ m1) (stM σ m2) := by
    unfold stF
    rw [Int32.sub_eq_add_neg, Int32.sub_eq_add_neg, Int32.add_assoc]
  rw [hst]
  have f8 := w σ7 34 (stF (txC σ t) (stM σ m1) (stM σ m2)) f7 (by omega) (by omega)
  have h9 : ∀ a b, a ≠ 90 → a ≠ 91 → (a = 75 → b ≠ 34) → gI (sI σ7 75 34 (stF (txC σ t) (stM σ m1) (stM σ m2))) a b = gI σ5 a b := fun a b z1 z2 z3 => by rw [gI_sI, if_neg (fun q => z3 q.1 q.2), g8.1 a b (by omega), g7.1 a b (by omega)]
  refine ⟨_, rfl, f8, ?_, by rw [gI_sI, if_pos ⟨rfl, rfl⟩]⟩
  generalize sI σ7 75 34 (stF (txC σ t) (stM σ m1) (stM σ m2)) = σ8 at f8 h9
  obtain ⟨k1, k2, k3, k4⟩ := K σ8 f8
  have hA : ∀ j, j < 288 → gI σ8 92 j = -1 := fun j hj => by rw [h9 _ _ (by omega) (by omega) (by omega), d3 _ _ (by omega) (by omega) (by omega), c3 _ _ (by omega) (by omega) (by omega)]; exact g2 j hj
  refine ⟨⟨?_, ?_, k1⟩, ⟨h1, h2, ht, k2⟩, ⟨by rw [k3, k4], by rw [k3, k4]⟩, ⟨fun a h c ha hh hc => Or.inl (hA _ (by omega)), fun a h c ha hh hc => Or.inl (hA _ (by omega))⟩, ?_, ?_⟩
  · rw [h9 _ _ (by omega) (by omega) (by omega), d2 _ _ (by omega) (by omega) (by omega), c2 _ _ (by omega) (by omega) (by omega)]; exact b1
  · rw [h9 _ _ (by omega) (by omega) (by omega), d2 _ _ (by omega) (by omega) (by omega), c2 _ _ (by omega) (by omega) (by omega)]; exact b2
  · rw [h9 _ _ (by omega) (by omega) (by omega), d2 _ _ (by omega) (by omega) (by omega)]; exact c1
  · rw [h9 _ _ (by omega) (by omega) (by omega)]; exact d1
/-- a bout's cells, its seconds -/
def cel (cs : Nat → List Int32) (s1 s2 : Nat → Int32) (pa pb : Int32) (i : Nat) : Int32 := (btS (strF cs s1) (strF cs s2) (standF cs s1) (standF cs s2) (stF cs s1 s2) pa pb i).1
def sec (cs : Nat → List Int32) (s1 s2 : Nat → Int32) (pa pb : Int32) : Int32 := (btS (strF cs s1) (strF cs s2) (standF cs s1) (standF cs s2) (stF cs s1 s2) pa pb 9).2.2.2
def PC (cs : Nat → List Int32) (s1 s2 : Nat → Int32) (σ : St) : Prop := ∃ t w1 w2, PCi (strF cs s1) (strF cs s2) (standF cs s1) (standF cs s2) t w1 w2 σ ∧ gI σ 35 3 = stF cs s1 s2
def PM (cs : Nat → List Int32) (s1 s2 : Nat → Int32) (m1 m2 : Nat) (σ : St) : Prop := ∃ t, PMi (strF cs s1) (strF cs s2) (standF cs s1) (standF cs s2) t m1 m2 σ ∧ gI σ 75 34 = stF cs s1 s2
def smS (s : Nat → Int32) : Prop := (0 ≤ s 1 ∧ s 1 ≤ 9) ∧ 0 ≤ s 4 ∧ s 4 ≤ 9
theorem half_b {x : Int32} (h1 : 0 ≤ x) (h2 : x ≤ 1998) : 0 ≤ x / 2 ∧ x / 2 ≤ 1998 := by
  obtain ⟨k, rfl, hk⟩ := ex_nIc (a := x) (c := 1998) (by omega) (Int32.not_lt.mpr h1) (Int32.not_lt.mpr h2)
  rw [show (2 : Int32) = nI 2 from rfl, nI_div (by omega) (by omega)]
  exact ⟨nI_pos' (by omega), nI_le (a := k / 2) (b := 1998) (by omega) (by omega)⟩
theorem clampF0_b (v : Int32) : 0 ≤ clampF 0 v ∧ clampF 0 v ≤ 999 := by
  unfold clampF jmax jmin
  have e1 : leastF 0 = 0 := rfl
  have e2 : mostF 0 = 999 := rfl
  rw [e1, e2]
  constructor <;> (split <;> (split at * <;> grind))
theorem plainF_b {v : Int32} (h1 : 0 ≤ v) (h2 : v ≤ 999) (a h : Int32) : 0 ≤ plainF v a h ∧ plainF v a h ≤ 1998 := by
  unfold plainF
  split
  · split
    · constructor <;> grind
    · decide
  · constructor <;> grind
theorem smS_F {s : Nat → Int32} (h : smS s) (cs : Nat → List Int32) : smallF (strF cs s) := by
  intro a h' c
  obtain ⟨⟨m1, m2⟩, k1, k2⟩ := h
  unfold strF sayF
  obtain ⟨v1, v2⟩ := clampF0_b ((evC (envS s a h' c) (cs 0) []).headD 0)
  generalize clampF 0 ((evC (envS s a h' c) (cs 0) []).headD 0) = v at v1 v2
  have hf : 0 ≤ forceF (s 0) (s 1) v a h' ∧ forceF (s 0) (s 1) v a h' ≤ 2100 := by
    obtain ⟨p1, p2⟩ := plainF_b v1 v2 a h'
    obtain ⟨d1, d2⟩ := half_b p1 p2
    unfold forceF
    generalize plainF v a h' = p at p1 p2 d1 d2 ⊢
    generalize p / 2 = p2' at d1 d2 ⊢
    generalize s 1 = mo at m1 m2 ⊢
    repeat' split
    all_goals (constructor <;> grind)
  generalize forceF (s 0) (s 1) v a h' = fo at hf
  obtain ⟨f1, f2⟩ := hf
  generalize s 4 = kn at k1 k2
  unfold jmax
  split
  · constructor <;> grind
  · constructor <;> grind
theorem btS_s (F1 F2 : Int32 → Int32 → Int32 → Int32) (W E st pa pb : Int32) (h1 : 1 ≤ st) (h2 : st ≤ 7) : ∀ t, t ≤ 9 → ∃ k : Nat, k ≤ t ∧ (0 < t → 1 ≤ k) ∧ (btS F1 F2 W E st pa pb t).2.2.2 = nI k := by
  intro t
  induction t with
  | zero => intro _; exact ⟨0, by omega, fun z => absurd z (by omega), rfl⟩
  | succ t ih =>
    intro ht
    obtain ⟨k, hk, hk1, e⟩ := ih (by omega)
    by_cases hov : (btS F1 F2 W E st pa pb t).1 ≤ 0 ∨ 8 ≤ (btS F1 F2 W E st pa pb t).1
    · have eq : btS F1 F2 W E st pa pb (t + 1) = btS F1 F2 W E st pa pb t := by
        show (if _ then _ else _) = _
        rw [if_pos hov]
      rw [eq]
      refine ⟨k, by omega, fun _ => ?_, e⟩
      rcases Nat.eq_zero_or_pos t with q | q
      · subst q
        have hov : st ≤ 0 ∨ 8 ≤ st := hov
        exfalso
        rcases hov with q | q <;> grind
      · exact hk1 q
    · have eq : btS F1 F2 W E st pa pb (t + 1) = nextB F1 F2 W E (actF pa t) (actF pb t) t (btS F1 F2 W E st pa pb t) := by
        show (if _ then _ else _) = _
        rw [if_neg hov]
      rw [eq]
      refine ⟨t + 1, by omega, fun _ => by omega, ?_⟩
      unfold nextB
      repeat' split
      all_goals rfl
theorem sec_b (cs : Nat → List Int32) (s1 s2 : Nat → Int32) (pa pb : Int32) : ∃ k : Nat, 1 ≤ k ∧ k ≤ 9 ∧ sec cs s1 s2 pa pb = nI k := by
  obtain ⟨k, h1, h2, h3⟩ := btS_s (strF cs s1) (strF cs s2) (standF cs s1) (standF cs s2) (stF cs s1 s2) pa pb (stF_b cs s1 s2).1 (stF_b cs s1 s2).2 9 (Nat.le_refl _)
  exact ⟨k, h2 (by omega), h1, h3⟩
theorem cel_b (cs : Nat → List Int32) (s1 s2 : Nat → Int32) (pa pb : Int32) (i : Nat) : 0 ≤ cel cs s1 s2 pa pb i ∧ cel cs s1 s2 pa pb i ≤ 8 := btS_c (stF_b cs s1 s2).1 (stF_b cs s1 s2).2 i
/-- what a bout leaves at the class, at the reference -/
def B2 (cs : Nat → List Int32) (s1 s2 : Nat → Int32) (pa pb : Int32) (σ : St) : Prop := (∀ i, i ≤ 9 → gI σ 36 i = cel cs s1 s2 pa pb i) ∧ gI σ 35 4 = sec cs s1 s2 pa pb ∧ gI σ 35 5 = cel cs s1 s2 pa pb 9 - 4
def winF (x y c : Int32) : Int32 := if c ≤ 4 then (if 4 ≤ c then -1 else y) else x
def B9 (cs : Nat → List Int32) (s1 s2 : Nat → Int32) (m1 m2 : Nat) (pa pb : Int32) (σ : St) : Prop := (∀ i, i ≤ 9 → gI σ 93 i = cel cs s1 s2 pa pb i) ∧ gI σ 75 36 = sec cs s1 s2 pa pb ∧ gI σ 75 35 = winF (nI m1) (nI m2) (cel cs s1 s2 pa pb 9) ∧ gI σ 75 29 = nI m1 ∧ gI σ 75 30 = nI m2
theorem pair2w {σ : St} {w1 w2 t : Nat} {cs : Nat → List Int32} {s1 s2 : Nat → Int32} (h1 : Ob 75 7 w1) (h2 : Ob 75 7 w2) (ht : t < 6) (hT : TxOk σ t) (hc : txC σ t = cs) (e1 : ∀ k, k < 5 → gI σ w1 k = s1 k) (e2 : ∀ k, k < 5 → gI σ w2 k = s2 k) : ∃ σ', S0_pair w1 w2 (49 + 3 * t) σ = some ((), σ') ∧ Fr scB scBR σ σ' ∧ PC cs s1 s2 σ' := by
  obtain ⟨σ', h3, h4, h5, h6⟩ := pair2 h1 h2 ht hT
  subst hc
  rw [strF_cg e1, strF_cg e2, standF_cg e1, standF_cg e2] at h5
  refine ⟨σ', h3, h4, t, w1, w2, h5, ?_⟩
  rw [h6]
  unfold stF
  rw [startF_cg e1, startF_cg e2]
theorem go2w {σ : St} {cs : Nat → List Int32} {s1 s2 : Nat → Int32} (k1 : smS s1) (k2 : smS s2) (h : PC cs s1 s2 σ) (pa pb : Int32) : ∃ σ', S0_goThrough pa pb σ = some ((), σ') ∧ Fr scB noR σ σ' ∧ PC cs s1 s2 σ' ∧ B2 cs s1 s2 pa pb σ' := by
  obtain ⟨t, w1, w2, hP, h3⟩ := h
  obtain ⟨σ', e, f, hP', h3', c, s, l⟩ := go2 (pa := pa) (pb := pb) (smS_F k1 cs) (smS_F k2 cs) (stF_b cs s1 s2).1 (stF_b cs s1 s2).2 hP h3
  exact ⟨σ', e, f, ⟨t, w1, w2, hP', h3'⟩, c, s, l⟩
theorem begins9w {σ : St} {m1 m2 t : Nat} {cs : Nat → List Int32} {s1 s2 : Nat → Int32} (h1 : m1 < 6) (h2 : m2 < 6) (ht : t < 6) (hr : gI σ 75 10 = nI t) (hT : TxOk σ t) (hc : txC σ t = cs) (e1 : ∀ k, k < 5 → stM σ m1 k = s1 k) (e2 : ∀ k, k < 5 → stM σ m2 k = s2 k) : ∃ σ', S9_begins (nI m1) (nI m2) σ = some ((), σ') ∧ Fr scN noR σ σ' ∧ PM cs s1 s2 m1 m2 σ' := by
  obtain ⟨σ', h3, h4, h5, h6⟩ := begins9 ht h1 h2 hr hT
  subst hc
  rw [strF_cg e1, strF_cg e2, standF_cg e1, standF_cg e2] at h5
  refine ⟨σ', h3, h4, t, h5, ?_⟩
  rw [h6]
  unfold stF
  rw [startF_cg e1, startF_cg e2]
theorem go9w {σ : St} {cs : Nat → List Int32} {s1 s2 : Nat → Int32} {m1 m2 : Nat} (k1 : smS s1) (k2 : smS s2) (h : PM cs s1 s2 m1 m2 σ) (pa pb : Int32) : ∃ σ', S9_bouts pa pb σ = some ((), σ') ∧ Fr scN noR σ σ' ∧ PM cs s1 s2 m1 m2 σ' ∧ B9 cs s1 s2 m1 m2 pa pb σ' := by
  obtain ⟨t, hP, h3⟩ := h
  obtain ⟨b1, b2⟩ := stF_b cs s1 s2
  unfold S9_bouts
  rw [h3]
  have c0 : (0 : Int32).toNatClampNeg = 0 := rfl
  rw [c0]
  have f1 : Fr scM noR σ (sI (sI (sI σ 75 35 (-1)) 75 36 0) 93 0 (stF cs s1 s2)) := (((Fr.rf (T := scM) (U := noR) (σ := σ)).sI (-1) (by unfold scM; omega)).sI 0 (by unfold scM; omega)).sI _ (by unfold scM; omega)
  have a1 : gI (sI (sI (sI σ 75 35 (-1)) 75 36 0) 93 0 (stF cs s1 s2)) 93 0 = stF cs s1 s2 := by rw [gI_sI, if_pos ⟨rfl, rfl⟩]
  have a2 : gI (sI (sI (sI σ 75 35 (-1)) 75 36 0) 93 0 (stF cs s1 s2)) 75 36 = 0 := by rw [gI_sI, if_neg (by omega), gI_sI, if_pos ⟨rfl, rfl⟩]
  have a3 : ∀ b, gI (sI (sI (sI σ 75 35 (-1)) 75 36 0) 93 0 (stF cs s1 s2)) 92 b = gI σ 92 b := fun b => by rw [gI_sI, if_neg (by omega), gI_sI, if_neg (by omega), gI_sI, if_neg (by omega)]
  generalize sI (sI (sI σ 75 35 (-1)) 75 36 0) 93 0 (stF cs s1 s2) = σ1 at f1 a1 a2 a3 ⊢
  have hP1 := hP.keep f1.1 (hP.2.2.2.1.1.fr a3) (hP.2.2.2.1.2.fr a3)
  obtain ⟨σ2, e2, f2, hP2, g1, g2, g3⟩ := go9_loop (st := stF cs s1 s2) (pa := pa) (pb := pb) (smS_F k1 cs) (smS_F k2 cs) b1 b2 9 0 4096 σ1 0 0 0 rfl (by omega) hP1 (fun z => by
    exfalso
    have z : stF cs s1 s2 ≤ 0 ∨ 8 ≤ stF cs s1 s2 := z
    rcases z with q | q <;> grind) (fun _ => ⟨rfl, rfl, rfl, rfl⟩) (fun i hi => by have q : i = 0 := Nat.le_zero.mp hi; subst q; exact a1) a2
  have f12 : Fr scM noR σ σ2 := f1.tr f2
  refine ⟨σ2, e2, f12.mo (fun a b z => by unfold scM at z; unfold scN; omega) (fun _ _ z => z), ⟨t, hP2, (f12.1 75 34 (by unfold scM; omega)).trans h3⟩, g1, g2, ?_, hP2.1.1, hP2.1.2.1⟩
  rw [g3]
  unfold winM winF
  rw [hP2.1.1, hP2.1.2.1]
  rfl
theorem bout9w {σ : St} {m1 m2 t : Nat} {cs : Nat → List Int32} {s1 s2 : Nat → Int32} (k1 : smS s1) (k2 : smS s2) (h1 : m1 < 6) (h2 : m2 < 6) (ht : t < 6) (hr : gI σ 75 10 = nI t) (hT : TxOk σ t) (hc : txC σ t = cs) (e1 : ∀ k, k < 5 → stM σ m1 k = s1 k) (e2 : ∀ k, k < 5 → stM σ m2 k = s2 k) (pa pb : Int32) : ∃ σ', S9_bout0 (nI m1) (nI m2) pa pb σ = some ((), σ') ∧ Fr scN noR σ σ' ∧ B9 cs s1 s2 m1 m2 pa pb σ' := by
  obtain ⟨σ1, g1, f1, p1⟩ := begins9w h1 h2 ht hr hT hc e1 e2
  obtain ⟨σ2, g2, f2, -, p2⟩ := go9w k1 k2 p1 pa pb
  refine ⟨σ2, ?_, f1.tr f2, p2⟩
  unfold S9_bout0
  rw [g1, bnd_s, g2, bnd_s]
