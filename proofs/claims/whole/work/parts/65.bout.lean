/-! A bout in numbers; one's strength with what was kept of it, at the class. -/
theorem and3 (x : Int32) : ∃ k : Nat, k < 4 ∧ x &&& 3 = nI k := by
  refine ⟨(x.toBitVec &&& 3#32).toNat, ?_, ?_⟩
  · rw [BitVec.toNat_and]
    exact Nat.lt_of_le_of_lt Nat.and_le_right (by decide)
  · apply Int32.toBitVec_inj.mp
    rw [Int32.toBitVec_and]
    show x.toBitVec &&& 3#32 = BitVec.ofNat 32 _
    rw [BitVec.ofNat_toNat, BitVec.setWidth_eq]
def actF (p : Int32) (t : Nat) : Int32 := (p >>> ((2 * nI t) &&& 31)) &&& 3
theorem actF_n (p : Int32) (t : Nat) : ∃ k : Nat, k < 4 ∧ actF p t = nI k := and3 _
theorem TxOk_fr {σ σ' : St} {t : Nat} (ht : t < 6) (h : ∀ a b, (a = 80 ∨ a = 81 ∨ (49 ≤ a ∧ a ≤ 66)) → gI σ' a b = gI σ a b) (hT : TxOk σ t) : TxOk σ' t := by
  obtain ⟨b, b0, bm, b3, m1, m2, m3, m4⟩ := hT
  refine ⟨b, b0, bm, b3, fun p hp => ?_, fun p hp => ?_, fun k hk => ?_, fun p hp => ?_⟩
  · rw [h 81 _ (Or.inr (Or.inl rfl))]; exact m1 p hp
  · rw [h (51 + 3 * t) _ (Or.inr (Or.inr (by omega)))]; exact m2 p hp
  · rw [h (50 + 3 * t) _ (Or.inr (Or.inr (by omega))), h 80 _ (Or.inl rfl)]; exact m3 k hk
  · rw [cds_eq t (fun k => h 80 k (Or.inl rfl))]; exact m4 p hp
theorem txC_fr {σ σ' : St} (t : Nat) (h : ∀ a b, (a = 80 ∨ a = 81) → gI σ' a b = gI σ a b) : txC σ' t = txC σ t := by
  funext p
  unfold txC
  rw [h 81 _ (Or.inr rfl), h 81 _ (Or.inr rfl), cds_eq t (fun k => h 80 k (Or.inl rfl))]
theorem tx_ob : ∀ t, t < 6 → Ob 75 6 (49 + 3 * t) := by decide +kernel
/-- what is kept of one's strengths is right, or not known -/
def CaC (F : Int32 → Int32 → Int32 → Int32) (o : Nat) (σ : St) : Prop := ∀ a h c : Nat, a < 4 → h < 4 → c < 9 → gI σ (o + 1) ((a * 4 + h) * 9 + c) = -1 ∨ gI σ (o + 1) ((a * 4 + h) * 9 + c) = F (nI a) (nI h) (nI c)
theorem strength2 {σ : St} {o w t a h c : Nat} {F : Int32 → Int32 → Int32 → Int32} (ho : o = 37 ∨ o = 43) (ht : t < 6) (hT : TxOk σ t) (hw : gR σ o 2 = w) (hl : gR σ o 3 = 49 + 3 * t) (hW : Ob 75 7 w) (hF : strF (txC σ t) (gI σ w) = F) (hC : CaC F o σ) (ha : a < 4) (hh : h < 4) (hc : c < 9) :
    ∃ σ', S4_strength o (nI a) (nI h) (nI c) σ = some (F (nI a) (nI h) (nI c), σ') ∧ Fr (fun x _ => x = 34 ∨ x = o + 1) noR σ σ' ∧ CaC F o σ' := by
  have hw34 : w ≠ 34 := by rintro rfl; exact absurd hW.1 (by decide)
  have hwo : w ≠ o + 1 := by rcases ho with rfl | rfl <;> (rintro rfl; exact absurd hW.1 (by decide))
  have hOT : Ob 75 6 (49 + 3 * t) := tx_ob t ht
  have hix : (a * 4 + h) * 9 + c < 144 := by omega
  have e0 : nI a * (4 : Int32) = nI (a * 4) := nI_mul a 4
  have e1 : nI (a * 4) + nI h = nI (a * 4 + h) := nI_add _ _
  have e2 : nI (a * 4 + h) * (9 : Int32) = nI ((a * 4 + h) * 9) := nI_mul _ 9
  have e3 : nI ((a * 4 + h) * 9) + nI c = nI ((a * 4 + h) * 9 + c) := nI_add _ _
  unfold S4_strength S4_strength_91
  simp only [e0, e1, e2, e3, if_neg (show ¬ nI ((a * 4 + h) * 9 + c) < (0 : Int32) from nI_pos (by omega)), if_pos (show nI ((a * 4 + h) * 9 + c) < (144 : Int32) from nI_lt (a := (a * 4 + h) * 9 + c) (b := 144) hix (by omega)), if_pos (inb_nI hix (show 144 < 2 ^ 31 by omega)), nI_clamp (show (a * 4 + h) * 9 + c < 2 ^ 31 by omega)]
  by_cases hk : gI σ (o + 1) ((a * 4 + h) * 9 + c) = -1
  · rw [if_pos hk]
    simp only [hw, hl]
    rw [if_pos hOT, if_pos hW]
    obtain ⟨σ1, s1, f1⟩ := says2 (p := 0) (w := w) (act := nI a) (his := nI h) (cell := nI c) ht (by omega) hT hw34
    rw [show S2_says (49 + 3 * t) (0 : Int32) w (nI a) (nI h) (nI c) σ = _ from s1, bnd_s]
    have r1 : ∀ x y, gR σ1 x y = gR σ x y := fun x y => f1.2 x y (fun q => q)
    have g1 : ∀ y, gI σ1 w y = gI σ w y := fun y => f1.1 w y hw34
    rw [r1 o 2, hw, if_pos hW, forces2, bnd_s, r1 o 2, hw, if_pos hW]
    have hv : jmax 0 (forceF (gI σ1 w 0) (gI σ1 w 1) (sayF (txC σ t 0) 0 (envS (gI σ w) (nI a) (nI h) (nI c))) (nI a) (nI h) - gI σ1 w 4) = F (nI a) (nI h) (nI c) := by
      rw [g1, g1, g1, ← hF]; rfl
    rw [hv]
    refine ⟨sI σ1 (o + 1) ((a * 4 + h) * 9 + c) (F (nI a) (nI h) (nI c)), ?_, ?_, ?_⟩
    · rw [gI_sI, if_pos ⟨rfl, rfl⟩]
    · exact (f1.mo (fun x _ z => Or.inl z) (fun _ _ z => z)).sI _ (Or.inr rfl)
    · intro a' h' c' ha' hh' hc'
      rw [gI_sI]
      by_cases q : (a' * 4 + h') * 9 + c' = (a * 4 + h) * 9 + c
      · have q1 : a' = a := by omega
        have q2 : h' = h := by omega
        have q3 : c' = c := by omega
        subst q1; subst q2; subst q3
        rw [if_pos ⟨rfl, rfl⟩]
        exact Or.inr rfl
      · rw [if_neg (fun z => q z.2), f1.1 (o + 1) _ (by rcases ho with rfl | rfl <;> omega)]
        exact hC a' h' c' ha' hh' hc'
  · rw [if_neg hk]
    refine ⟨σ, ?_, Fr.rf, hC⟩
    rw [(hC a h c ha hh hc).resolve_left hk]
def stepI (d : Int32) : Int32 := if d = 0 then 0 else if 20 < d then 2 else if 0 < d then 1 else if d < -20 then -2 else -1
theorem steps2 (d : Int32) (h1 : -5000 ≤ d) (h2 : d ≤ 5000) (σ : St) : S0_stepsFor d σ = some (stepI d, σ) := by
  unfold S0_stepsFor S0_stepsFor_14 stepI jabs
  by_cases h0 : d = 0
  · subst h0; rfl
  · simp only [if_neg h0]
    split <;> (split <;> (congr 2; grind))
/-- second t of a bout: cell, how often west and east have stood, seconds -/
def nextB (F1 F2 : Int32 → Int32 → Int32 → Int32) (W E a h : Int32) (t : Nat) (x : Int32 × Int32 × Int32 × Int32) : Int32 × Int32 × Int32 × Int32 :=
  if 8 ≤ x.1 + stepI (F1 a h x.1 - F2 h a (8 - x.1)) then (if x.2.2.1 < E then (7, x.2.1, x.2.2.1 + 1, nI (t + 1)) else (8, x.2.1, x.2.2.1, nI (t + 1)))
  else if x.1 + stepI (F1 a h x.1 - F2 h a (8 - x.1)) ≤ 0 then (if x.2.1 < W then (1, x.2.1 + 1, x.2.2.1, nI (t + 1)) else (0, x.2.1, x.2.2.1, nI (t + 1)))
  else (x.1 + stepI (F1 a h x.1 - F2 h a (8 - x.1)), x.2.1, x.2.2.1, nI (t + 1))
def btS (F1 F2 : Int32 → Int32 → Int32 → Int32) (W E st pa pb : Int32) : Nat → Int32 × Int32 × Int32 × Int32
  | 0 => (st, 0, 0, 0)
  | t + 1 => if (btS F1 F2 W E st pa pb t).1 ≤ 0 ∨ 8 ≤ (btS F1 F2 W E st pa pb t).1 then btS F1 F2 W E st pa pb t else nextB F1 F2 W E (actF pa t) (actF pb t) t (btS F1 F2 W E st pa pb t)
/-- strengths are small -/
def smallF (F : Int32 → Int32 → Int32 → Int32) : Prop := ∀ a h c, 0 ≤ F a h c ∧ F a h c ≤ 2500
theorem stepI_b (d : Int32) : -2 ≤ stepI d ∧ stepI d ≤ 2 := by
  unfold stepI
  split
  · decide
  · split
    · decide
    · split
      · decide
      · split <;> decide
theorem nextB_c {F1 F2 : Int32 → Int32 → Int32 → Int32} {W E a h : Int32} {t : Nat} {x : Int32 × Int32 × Int32 × Int32} (h1 : 0 ≤ x.1) (h2 : x.1 ≤ 8) : 0 ≤ (nextB F1 F2 W E a h t x).1 ∧ (nextB F1 F2 W E a h t x).1 ≤ 8 := by
  have hb := stepI_b (F1 a h x.1 - F2 h a (8 - x.1))
  unfold nextB
  generalize stepI (F1 a h x.1 - F2 h a (8 - x.1)) = s at hb ⊢
  split
  · split
    · exact ⟨(by decide : (0 : Int32) ≤ 7), (by decide : (7 : Int32) ≤ 8)⟩
    · exact ⟨(by decide : (0 : Int32) ≤ 8), (by decide : (8 : Int32) ≤ 8)⟩
  · split
    · split
      · exact ⟨(by decide : (0 : Int32) ≤ 1), (by decide : (1 : Int32) ≤ 8)⟩
      · exact ⟨(by decide : (0 : Int32) ≤ 0), (by decide : (0 : Int32) ≤ 8)⟩
    · next n1 n2 => exact ⟨by show (0 : Int32) ≤ x.1 + s; grind, by show x.1 + s ≤ 8; grind⟩
theorem btS_c {F1 F2 : Int32 → Int32 → Int32 → Int32} {W E st pa pb : Int32} (h1 : 1 ≤ st) (h2 : st ≤ 7) : ∀ t, 0 ≤ (btS F1 F2 W E st pa pb t).1 ∧ (btS F1 F2 W E st pa pb t).1 ≤ 8 := by
  intro t
  induction t with
  | zero => exact ⟨by show 0 ≤ st; grind, by show st ≤ 8; grind⟩
  | succ t ih =>
    unfold btS
    split
    · exact ih
    · exact nextB_c ih.1 ih.2
