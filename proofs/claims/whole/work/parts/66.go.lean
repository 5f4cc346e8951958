/-! The class goes through a bout. -/
def scC (a b : Nat) : Prop := (a = 34 ∨ a = 36 ∨ a = 38 ∨ a = 44) ∨ (a = 35 ∧ (b = 4 ∨ b = 5)) ∨ ((a = 37 ∨ a = 43) ∧ b = 5)
def PCi (F1 F2 : Int32 → Int32 → Int32 → Int32) (W E : Int32) (t w1 w2 : Nat) (σ : St) : Prop :=
  (gR σ 37 2 = w1 ∧ gR σ 37 3 = 49 + 3 * t ∧ gR σ 43 2 = w2 ∧ gR σ 43 3 = 49 + 3 * t) ∧ (Ob 75 7 w1 ∧ Ob 75 7 w2 ∧ t < 6 ∧ TxOk σ t) ∧ (strF (txC σ t) (gI σ w1) = F1 ∧ strF (txC σ t) (gI σ w2) = F2) ∧ (CaC F1 37 σ ∧ CaC F2 43 σ) ∧ gI σ 37 4 = W ∧ gI σ 43 4 = E
theorem ob7_ne {w : Nat} (h : Ob 75 7 w) : w ≠ 34 ∧ w ≠ 35 ∧ w ≠ 36 ∧ w ≠ 37 ∧ w ≠ 38 ∧ w ≠ 43 ∧ w ≠ 44 := by
  refine ⟨?_, ?_, ?_, ?_, ?_, ?_, ?_⟩ <;> (rintro rfl; exact absurd h.1 (by decide))
theorem gI_w {σ σ' : St} {w : Nat} (h : Ob 75 7 w) (hf : ∀ a b, ¬ scC a b → gI σ' a b = gI σ a b) : gI σ' w = gI σ w := by
  obtain ⟨n1, n2, n3, n4, n5, n6, n7⟩ := ob7_ne h
  funext b
  apply hf
  unfold scC
  omega
theorem PCi.keep {F1 F2 : Int32 → Int32 → Int32 → Int32} {W E : Int32} {t w1 w2 : Nat} {σ σ' : St} (h : PCi F1 F2 W E t w1 w2 σ) (hf : ∀ a b, ¬ scC a b → gI σ' a b = gI σ a b) (hr : ∀ a b, gR σ' a b = gR σ a b) (c1 : CaC F1 37 σ') (c2 : CaC F2 43 σ') : PCi F1 F2 W E t w1 w2 σ' := by
  obtain ⟨⟨r1, r2, r3, r4⟩, ⟨o1, o2, ht, hT⟩, ⟨s1, s2⟩, -, hW, hE⟩ := h
  refine ⟨⟨by rw [hr]; exact r1, by rw [hr]; exact r2, by rw [hr]; exact r3, by rw [hr]; exact r4⟩, ⟨o1, o2, ht, TxOk_fr ht (fun a b z => hf a b (by unfold scC; omega)) hT⟩, ?_, ⟨c1, c2⟩, ?_, ?_⟩
  · rw [txC_fr t (fun a b z => hf a b (by unfold scC; omega)), gI_w o1 hf, gI_w o2 hf]
    exact ⟨s1, s2⟩
  · rw [hf 37 4 (by unfold scC; omega)]; exact hW
  · rw [hf 43 4 (by unfold scC; omega)]; exact hE
theorem CaC.fr {F : Int32 → Int32 → Int32 → Int32} {o : Nat} {σ σ' : St} (h : CaC F o σ) (hf : ∀ b, gI σ' (o + 1) b = gI σ (o + 1) b) : CaC F o σ' := fun a b c ha hb hc => by rw [hf]; exact h a b c ha hb hc
theorem stands2 (o : Nat) (σ : St) : S4_stands o σ = if gI σ o 5 < gI σ o 4 then some (1, sI σ o 5 (gI σ o 5 + 1)) else some (0, σ) := rfl
theorem go2_loop {F1 F2 : Int32 → Int32 → Int32 → Int32} {W E st pa pb : Int32} {t0 w1 w2 : Nat} (hF1 : smallF F1) (hF2 : smallF F2) (hs1 : 1 ≤ st) (hs2 : st ≤ 7) : ∀ (d t f : Nat) (σ : St), t + d = 9 → d < f → PCi F1 F2 W E t0 w1 w2 σ →
    gI σ 37 5 = (btS F1 F2 W E st pa pb t).2.1 → gI σ 43 5 = (btS F1 F2 W E st pa pb t).2.2.1 → (∀ i, i ≤ t → gI σ 36 i = (btS F1 F2 W E st pa pb i).1) → (0 < t → gI σ 35 4 = (btS F1 F2 W E st pa pb t).2.2.2) →
    ∃ σ', S0_goThrough_32 pa pb f (btS F1 F2 W E st pa pb t).1 (nI t) σ = some ((), σ') ∧ Fr scC noR σ σ' ∧ PCi F1 F2 W E t0 w1 w2 σ' ∧ (∀ i, i ≤ 9 → gI σ' 36 i = (btS F1 F2 W E st pa pb i).1) ∧ gI σ' 35 4 = (btS F1 F2 W E st pa pb 9).2.2.2 ∧ gI σ' 35 5 = (btS F1 F2 W E st pa pb 9).1 - 4 := by
  intro d
  induction d with
  | zero =>
    intro t f σ ht hf hP h5 h6 hc hs
    obtain ⟨f, rfl⟩ : ∃ z, f = z + 1 := ⟨f - 1, by omega⟩
    have ht : t = 9 := ht
    subst ht
    refine ⟨sI σ 35 5 ((btS F1 F2 W E st pa pb 9).1 - 4), ?_, Fr.rf.sI _ (by unfold scC; omega), ?_, ?_, ?_, ?_⟩
    · show B0_goThrough_32 _ _ _ _ _ σ = _
      unfold B0_goThrough_32
      rw [if_pos (show (9 : Int32) ≤ nI 9 by decide)]
    · refine hP.keep (fun a b z => ?_) (fun a b => rfl) (hP.2.2.2.1.1.fr fun b => ?_) (hP.2.2.2.1.2.fr fun b => ?_)
      · rw [gI_sI, if_neg (by unfold scC at z; omega)]
      · rw [gI_sI, if_neg (by omega)]
      · rw [gI_sI, if_neg (by omega)]
    · intro i hi
      rw [gI_sI, if_neg (by omega)]
      exact hc i hi
    · rw [gI_sI, if_neg (by omega)]
      exact hs (by omega)
    · rw [gI_sI, if_pos ⟨rfl, rfl⟩]
  | succ d ih =>
    intro t f σ ht hf hP h5 h6 hc hs
    obtain ⟨f, rfl⟩ : ∃ z, f = z + 1 := ⟨f - 1, by omega⟩
    have ht9 : t < 9 := by omega
    have hcb := btS_c (F1 := F1) (F2 := F2) (W := W) (E := E) (pa := pa) (pb := pb) hs1 hs2 t
    have e1 : nI t + (1 : Int32) = nI (t + 1) := nI_add t 1
    -- the end of a second: the cell is written down
    have fin : ∀ (σ2 : St), PCi F1 F2 W E t0 w1 w2 σ2 → Fr scC noR σ σ2 → gI σ2 37 5 = (btS F1 F2 W E st pa pb (t + 1)).2.1 → gI σ2 43 5 = (btS F1 F2 W E st pa pb (t + 1)).2.2.1 → (∀ i, i ≤ t → gI σ2 36 i = gI σ 36 i) → gI σ2 35 4 = (btS F1 F2 W E st pa pb (t + 1)).2.2.2 →
        ∃ σ', S0_goThrough_119 pa pb (S0_goThrough_32 pa pb f) (btS F1 F2 W E st pa pb (t + 1)).1 (nI t) σ2 = some ((), σ') ∧ Fr scC noR σ σ' ∧ PCi F1 F2 W E t0 w1 w2 σ' ∧ (∀ i, i ≤ 9 → gI σ' 36 i = (btS F1 F2 W E st pa pb i).1) ∧ gI σ' 35 4 = (btS F1 F2 W E st pa pb 9).2.2.2 ∧ gI σ' 35 5 = (btS F1 F2 W E st pa pb 9).1 - 4 := by
      intro σ2 hP2 f2 g5 g6 gc gs
      unfold S0_goThrough_119
      simp only [e1, if_pos (inb_nI (show t + 1 < 10 by omega) (show 10 < 2 ^ 31 by omega)), nI_clamp (show t + 1 < 2 ^ 31 by omega)]
      have f3 : Fr scC noR σ2 (sI σ2 36 (t + 1) (btS F1 F2 W E st pa pb (t + 1)).1) := Fr.rf.sI _ (by unfold scC; omega)
      obtain ⟨σ', k1, k2, k3⟩ := ih (t + 1) f (sI σ2 36 (t + 1) (btS F1 F2 W E st pa pb (t + 1)).1) (by omega) (by omega)
        (hP2.keep f3.1 (fun _ _ => rfl) (hP2.2.2.2.1.1.fr fun b => by rw [gI_sI, if_neg (by omega)]) (hP2.2.2.2.1.2.fr fun b => by rw [gI_sI, if_neg (by omega)]))
        (by rw [gI_sI, if_neg (by omega)]; exact g5) (by rw [gI_sI, if_neg (by omega)]; exact g6)
        (fun i hi => by
          by_cases q : i = t + 1
          · subst q; rw [gI_sI, if_pos ⟨rfl, rfl⟩]
          · rw [gI_sI, if_neg (by omega), gc i (by omega)]; exact hc i (by omega))
        (fun _ => by rw [gI_sI, if_neg (by omega)]; exact gs)
      exact ⟨σ', k1, (f2.tr f3).tr k2, k3⟩
    show ∃ σ', B0_goThrough_32 _ _ _ _ _ σ = _ ∧ _
    unfold B0_goThrough_32
    rw [if_neg (show ¬ (9 : Int32) ≤ nI t from nI_ge (a := t) (b := 9) ht9 (by omega))]
    by_cases hov : (btS F1 F2 W E st pa pb t).1 ≤ 0 ∨ 8 ≤ (btS F1 F2 W E st pa pb t).1
    · -- it is over
      have eq : btS F1 F2 W E st pa pb (t + 1) = btS F1 F2 W E st pa pb t := by
        show (if _ then _ else _) = _
        rw [if_pos hov]
      have t0 : 0 < t := by
        rcases Nat.eq_zero_or_pos t with q | q
        · subst q
          have hov : st ≤ 0 ∨ 8 ≤ st := hov
          exfalso
          rcases hov with q | q <;> grind
        · exact q
      have := fin σ hP Fr.rf (by rw [eq]; exact h5) (by rw [eq]; exact h6) (fun _ _ => rfl) (by rw [eq]; exact hs t0)
      rw [eq] at this
      by_cases h0 : (btS F1 F2 W E st pa pb t).1 ≤ 0
      · rw [if_pos h0]; exact this
      · rw [if_neg h0, if_pos (hov.resolve_left h0)]; exact this
    · have h0 : ¬ (btS F1 F2 W E st pa pb t).1 ≤ 0 := fun q => hov (Or.inl q)
      have h8 : ¬ 8 ≤ (btS F1 F2 W E st pa pb t).1 := fun q => hov (Or.inr q)
      rw [if_neg h0, if_neg h8]
      have eq : btS F1 F2 W E st pa pb (t + 1) = nextB F1 F2 W E (actF pa t) (actF pb t) t (btS F1 F2 W E st pa pb t) := by
        show (if _ then _ else _) = _
        rw [if_neg hov]
      rw [eq] at fin
      generalize hx : btS F1 F2 W E st pa pb t = x at *
      obtain ⟨c, hc1, hc2⟩ : ∃ c : Nat, x.1 = nI c ∧ 1 ≤ c ∧ c ≤ 7 := by
        obtain ⟨c, q1, q2⟩ := ex_nIc (a := x.1) (c := 7) (by omega) (by grind) (by have : nI 7 = 7 := rfl; rw [this]; grind)
        refine ⟨c, q1, ?_, q2⟩
        rcases Nat.eq_zero_or_pos c with q | q
        · subst q; exact absurd (by rw [q1]; decide) h0
        · exact q
      obtain ⟨a, ha, ea⟩ := actF_n pa t
      obtain ⟨h, hh, eh⟩ := actF_n pb t
      have ea' : S8_actIn pa (nI t) σ = some (nI a, σ) := by rw [← ea]; rfl
      have eh' : S8_actIn pb (nI t) σ = some (nI h, σ) := by rw [← eh]; rfl
      rw [ea', bnd_s, eh', bnd_s, hc1]
      have e8 : (8 : Int32) - nI c = nI (8 - c) := nI_sub (a := 8) (b := c) (by omega)
      rw [e8]
      obtain ⟨⟨r1, r2, r3, r4⟩, ⟨o1, o2, lt, lT⟩, ⟨s1, s2⟩, ⟨c1, c2⟩, hW, hE⟩ := id hP
      obtain ⟨σ1, m1, f1, c1'⟩ := strength2 (Or.inl rfl) lt lT r1 r2 o1 s1 c1 ha hh (show c < 9 by omega)
      rw [m1, bnd_s]
      have f1' : Fr scC noR σ σ1 := f1.mo (fun x _ z => by unfold scC; omega) (fun _ _ z => z)
      have hP1 : PCi F1 F2 W E t0 w1 w2 σ1 := hP.keep f1'.1 (fun a b => f1'.2 a b (fun z => z)) c1' (c2.fr fun b => f1.1 44 b (by omega))
      obtain ⟨⟨r1', r2', r3', r4'⟩, ⟨o1', o2', lt', lT'⟩, ⟨s1', s2'⟩, ⟨c1'', c2''⟩, hW', hE'⟩ := id hP1
      obtain ⟨σ2, m2, f2, c2'⟩ := strength2 (Or.inr rfl) lt' lT' r3' r4' o2' s2' c2'' hh ha (show 8 - c < 9 by omega)
      rw [m2, bnd_s]
      have f2' : Fr scC noR σ1 σ2 := f2.mo (fun x _ z => by unfold scC; omega) (fun _ _ z => z)
      have hP2 : PCi F1 F2 W E t0 w1 w2 σ2 := hP1.keep f2'.1 (fun a b => f2'.2 a b (fun z => z)) (c1''.fr fun b => f2.1 38 b (by omega)) c2'
      have b1 := hF1 (nI a) (nI h) (nI c)
      have b2 := hF2 (nI h) (nI a) (nI (8 - c))
      rw [steps2 _ (by grind) (by grind), bnd_s]
      have fr2 : Fr scC noR σ σ2 := f1'.tr f2'
      have k5 : ∀ b, gI σ2 37 b = gI σ 37 b := fun b => (f2.1 37 b (by omega)).trans (f1.1 37 b (by omega))
      have k6 : ∀ b, gI σ2 43 b = gI σ 43 b := fun b => (f2.1 43 b (by omega)).trans (f1.1 43 b (by omega))
      have kc : ∀ b, gI σ2 36 b = gI σ 36 b := fun b => (f2.1 36 b (by omega)).trans (f1.1 36 b (by omega))
      -- after cellAtLast
      have aft : ∀ (σ3 : St) (y : Int32 × Int32 × Int32 × Int32), y = nextB F1 F2 W E (actF pa t) (actF pb t) t x → Fr scC noR σ2 σ3 → PCi F1 F2 W E t0 w1 w2 σ3 → gI σ3 37 5 = y.2.1 → gI σ3 43 5 = y.2.2.1 → (∀ b, gI σ3 36 b = gI σ2 36 b) → nI (t + 1) = y.2.2.2 →
          ∃ σ', S0_goThrough_119 pa pb (S0_goThrough_32 pa pb f) y.1 (nI t) (sI σ3 35 4 (nI t + 1)) = some ((), σ') ∧ Fr scC noR σ σ' ∧ PCi F1 F2 W E t0 w1 w2 σ' ∧ (∀ i, i ≤ 9 → gI σ' 36 i = (btS F1 F2 W E st pa pb i).1) ∧ gI σ' 35 4 = (btS F1 F2 W E st pa pb 9).2.2.2 ∧ gI σ' 35 5 = (btS F1 F2 W E st pa pb 9).1 - 4 := by
        intro σ3 y hy f3 hP3 y5 y6 yc ys
        subst hy
        have f4 : Fr scC noR σ3 (sI σ3 35 4 (nI t + 1)) := Fr.rf.sI _ (by unfold scC; omega)
        exact fin _ (hP3.keep f4.1 (fun _ _ => rfl) (hP3.2.2.2.1.1.fr fun b => by rw [gI_sI, if_neg (by omega)]) (hP3.2.2.2.1.2.fr fun b => by rw [gI_sI, if_neg (by omega)])) ((fr2.tr f3).tr f4)
          (by rw [gI_sI, if_neg (by omega)]; exact y5) (by rw [gI_sI, if_neg (by omega)]; exact y6) (fun i _ => by rw [gI_sI, if_neg (by omega), yc, kc]) (by rw [gI_sI, if_pos ⟨rfl, rfl⟩, e1]; exact ys)
      have hn : nextB F1 F2 W E (actF pa t) (actF pb t) t x = nextB F1 F2 W E (nI a) (nI h) t x := by rw [ea, eh]
      rw [hn] at aft
      unfold nextB at aft
      rw [hc1, e8] at aft
      generalize nI c + stepI (F1 (nI a) (nI h) (nI c) - F2 (nI h) (nI a) (nI (8 - c))) = r at aft ⊢
      unfold S0_cellAtLast
      by_cases q8 : 8 ≤ r
      · rw [if_neg (Int32.not_lt.mpr q8), stands2, k6, k6, h6, hE]
        simp only [if_pos q8] at aft
        by_cases qs : x.2.2.1 < E
        · rw [if_pos qs, bnd_s, if_neg (by decide), bnd_s]
          simp only [if_pos qs] at aft
          have f3 : Fr scC noR σ2 (sI σ2 43 5 (x.2.2.1 + 1)) := Fr.rf.sI _ (by unfold scC; omega)
          exact aft _ _ rfl f3 (hP2.keep f3.1 (fun _ _ => rfl) (hP2.2.2.2.1.1.fr fun b => by rw [gI_sI, if_neg (by omega)]) (hP2.2.2.2.1.2.fr fun b => by rw [gI_sI, if_neg (by omega)])) (by rw [gI_sI, if_neg (by omega), k5, h5]) (by rw [gI_sI, if_pos ⟨rfl, rfl⟩]) (fun b => by rw [gI_sI, if_neg (by omega)]) rfl
        · rw [if_neg qs, bnd_s, if_pos rfl, bnd_s]
          simp only [if_neg qs] at aft
          exact aft _ _ rfl Fr.rf hP2 (by rw [k5, h5]) (by rw [k6, h6]) (fun _ => rfl) rfl
      · rw [if_pos (Int32.not_le.mp q8)]
        simp only [if_neg q8] at aft
        by_cases q0 : r ≤ 0
        · rw [if_neg (Int32.not_lt.mpr q0), stands2, k5, k5, h5, hW]
          simp only [if_pos q0] at aft
          by_cases qs : x.2.1 < W
          · rw [if_pos qs, bnd_s, if_neg (by decide), bnd_s]
            simp only [if_pos qs] at aft
            have f3 : Fr scC noR σ2 (sI σ2 37 5 (x.2.1 + 1)) := Fr.rf.sI _ (by unfold scC; omega)
            exact aft _ _ rfl f3 (hP2.keep f3.1 (fun _ _ => rfl) (hP2.2.2.2.1.1.fr fun b => by rw [gI_sI, if_neg (by omega)]) (hP2.2.2.2.1.2.fr fun b => by rw [gI_sI, if_neg (by omega)])) (by rw [gI_sI, if_pos ⟨rfl, rfl⟩]) (by rw [gI_sI, if_neg (by omega), k6, h6]) (fun b => by rw [gI_sI, if_neg (by omega)]) rfl
          · rw [if_neg qs, bnd_s, if_pos rfl, bnd_s]
            simp only [if_neg qs] at aft
            exact aft _ _ rfl Fr.rf hP2 (by rw [k5, h5]) (by rw [k6, h6]) (fun _ => rfl) rfl
        · rw [if_pos (Int32.not_le.mp q0), bnd_s]
          simp only [if_neg q0] at aft
          exact aft _ _ rfl Fr.rf hP2 (by rw [k5, h5]) (by rw [k6, h6]) (fun _ => rfl) rfl
