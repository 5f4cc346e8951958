/-! beats, whose, acts, laws. -/
theorem n_ne {a b : Nat} (ha : a < 6) (hb : b < 6) : nI a = nI b ↔ a = b := nI_inj (by omega) (by omega)
def beP (cs : Nat → List Int32) (S : Nat → Nat → Int32) (m : Nat) (pa pb : Int32) (o : Nat) : Bool := !decide (o = m) && !decide (cel cs (S m) (S o) pa pb 9 ≤ 4)
theorem same_beats (m pa pb : Int32) : Same (S8_beats m pa pb) (S9_beats m pa pb) := by
  intro n T t σ hI
  have hn := hI.n6
  by_cases hm : has01 n m = 0
  · refine same_rf hI (-5) ?_ ?_
    · unfold S8_beats; rw [has8 hI.n8, bnd_s, if_pos hm]
    · unfold S9_beats; rw [isMan9 hn hI.n9, bnd_s, if_pos hm]
  · obtain ⟨k, hk, rfl⟩ := has01_t hn hm
    by_cases hq : pls01 pa pb = 0
    · refine same_rf hI (-7) ?_ ?_
      · unfold S8_beats; rw [has8 hI.n8, bnd_s, if_neg hm, arePlans8, bnd_s, if_pos hq]
      · unfold S9_beats
        rw [isMan9 hn hI.n9, bnd_s, if_neg hm, isPlan9, bnd_s, isPlan9, bnd_s]
        rcases pls01_f hq with z | ⟨z1, z2⟩
        · rw [if_pos z]
        · rw [if_neg z1, if_pos z2]
    · obtain ⟨q1, q2⟩ := pls01_t hq
      let B : Nat → Int32 := bS (beP (txC σ t) (stM σ) k pa pb)
      have step8 : ∀ (o f : Nat) (τ : St), o < n → Ag σ τ → ∃ τ', S8_beats_31 (nI k) pa pb (f + 1) (B o) (nI o) τ = S8_beats_31 (nI k) pa pb f (B (o + 1)) (nI (o + 1)) τ' ∧ Ag σ τ' := by
        intro o f τ ho A
        have hIτ := hI.ag A
        have e : S8_beats_31 (nI k) pa pb (f + 1) (B o) (nI o) τ = B8_beats_31 (nI k) pa pb (S8_beats_31 (nI k) pa pb f) (B o) (nI o) τ := rfl
        rw [e]
        unfold B8_beats_31 S8_beats_85 S8_beats_88
        rw [hIτ.n8, if_neg (nI_ge ho (by omega)), nI_1]
        by_cases q : o = k
        · rw [if_pos ((n_ne (by omega) (by omega)).mpr q)]
          refine ⟨τ, ?_, A⟩
          rw [show B (o + 1) = B o from bS_s (by unfold beP; simp [q])]
        · rw [if_neg (fun z => q ((n_ne (by omega) (by omega)).mp z))]
          obtain ⟨τ1, g1, A1, P1⟩ := pairUp8 hIτ hk ho
          rw [txC_ag A, stM_ag A, stM_ag A] at P1
          obtain ⟨τ2, g2, A2, P2, hB⟩ := goMen8 (hI.bd hk).1 (hI.bd ho).1 P1 pa pb
          refine ⟨τ2, ?_, A.tr (A1.tr A2)⟩
          rw [g1, bnd_s, g2, bnd_s]
          by_cases z : cel (txC σ t) (stM σ k) (stM σ o) pa pb 9 ≤ 4
          · rw [if_pos ((lead8 hB).1.mpr z), show B (o + 1) = B o ||| 0 from bS_f (by unfold beP; simp [z])]
          · rw [if_neg (fun y => z ((lead8 hB).1.mp y)), show B (o + 1) = B o ||| (1 <<< (nI o &&& 31)) from bS_t (by unfold beP; simp [z, q])]
      obtain ⟨f1, σ1, e1, A1⟩ := loopR (fun f o τ => S8_beats_31 (nI k) pa pb f (B o) (nI o) τ) n (fun _ τ => Ag σ τ) step8 n 0 4096 σ (by omega) (by omega) Ag.rf
      have step9 : ∀ (o f : Nat) (τ : St), o < n → Ag σ τ → ∃ τ', S9_beats_34 (nI k) pa pb (f + 1) (B o) (nI o) τ = S9_beats_34 (nI k) pa pb f (B (o + 1)) (nI (o + 1)) τ' ∧ Ag σ τ' := by
        intro o f τ ho A
        have hIτ := hI.ag A
        have e : S9_beats_34 (nI k) pa pb (f + 1) (B o) (nI o) τ = B9_beats_34 (nI k) pa pb (S9_beats_34 (nI k) pa pb f) (B o) (nI o) τ := rfl
        rw [e]
        unfold B9_beats_34 S9_beats_76 S9_beats_79
        rw [hIτ.n9, if_neg (nI_ge ho (by omega)), nI_1]
        by_cases q : o = k
        · rw [if_pos ((n_ne (by omega) (by omega)).mpr q)]
          refine ⟨τ, ?_, A⟩
          rw [show B (o + 1) = B o from bS_s (by unfold beP; simp [q])]
        · rw [if_neg (fun z => q ((n_ne (by omega) (by omega)).mp z))]
          obtain ⟨τ1, g1, A1, hB⟩ := boutMen9 hIτ hk ho pa pb
          rw [txC_ag A, stM_ag A, stM_ag A] at hB
          refine ⟨τ1, ?_, A.tr A1⟩
          rw [g1, bnd_s, hB.2.2.1]
          have hw := winF_w (show k < 6 by omega) (show o < 6 by omega) (fun z => q z.symm) (cel (txC σ t) (stM σ k) (stM σ o) pa pb 9)
          by_cases z : cel (txC σ t) (stM σ k) (stM σ o) pa pb 9 ≤ 4
          · rw [if_neg (fun y => hw.mp y z), show B (o + 1) = B o ||| 0 from bS_f (by unfold beP; simp [z])]
          · rw [if_pos (hw.mpr z), show B (o + 1) = B o ||| (1 <<< (nI o &&& 31)) from bS_t (by unfold beP; simp [z, q])]
      obtain ⟨f2, σ2, e2, A2⟩ := loopR (fun f o τ => S9_beats_34 (nI k) pa pb f (B o) (nI o) τ) n (fun _ τ => Ag σ τ) step9 n 0 4096 σ1 (by omega) (by omega) A1
      have hI1 := hI.ag A1
      have hI2 := hI.ag A2
      refine ⟨B n, σ1, σ2, ?_, ?_, n, T, t, hI2⟩
      · unfold S8_beats
        rw [has8 hI.n8, bnd_s, if_neg hm, arePlans8, bnd_s, if_neg hq, show S8_beats_31 (nI k) pa pb 4096 (0 : Int32) (0 : Int32) σ = _ from e1]
        show B8_beats_31 _ _ _ _ _ _ σ1 = _
        unfold B8_beats_31
        rw [hI1.n8, if_pos (Int32.le_refl _)]
      · unfold S9_beats
        rw [isMan9 hn hI1.n9, bnd_s, if_neg hm, isPlan9, bnd_s, isPlan9, bnd_s, if_neg q1, if_neg q2, show S9_beats_34 (nI k) pa pb 4096 (0 : Int32) (0 : Int32) σ1 = _ from e2]
        show B9_beats_34 _ _ _ _ _ _ σ2 = _
        unfold B9_beats_34
        rw [hI2.n9, if_pos (Int32.le_refl _)]
def whP (row : Nat → Int32) (z : Nat) (cs : Nat → List Int32) (S : Nat → Nat → Int32) (m : Nat) (pa pb : Int32) (o : Nat) : Bool := !decide (o = m) && alB row (cel cs (S m) (S o) pa pb) z
theorem same_whose (s m pa pb : Int32) : Same (S8_whose s m pa pb) (S9_whose s m pa pb) := by
  intro n T t σ hI
  have hn := hI.n6
  by_cases hc : cfV σ s = 0
  · by_cases hm : has01 n m = 0
    · refine same_rf hI (-5) ?_ ?_
      · unfold S8_whose; rw [cellsFault8 hI, bnd_s, if_pos hc, has8 hI.n8, bnd_s, if_pos hm]
      · unfold S9_whose; rw [sheetWrong9, bnd_s, if_pos hc, isMan9 hn hI.n9, bnd_s, if_pos hm]
    · obtain ⟨k, hk, rfl⟩ := has01_t hn hm
      by_cases hq : pls01 pa pb = 0
      · refine same_rf hI (-7) ?_ ?_
        · unfold S8_whose; rw [cellsFault8 hI, bnd_s, if_pos hc, has8 hI.n8, bnd_s, if_neg hm, arePlans8, bnd_s, if_pos hq]
        · unfold S9_whose
          rw [sheetWrong9, bnd_s, if_pos hc, isMan9 hn hI.n9, bnd_s, if_neg hm, isPlan9, bnd_s, isPlan9, bnd_s]
          rcases pls01_f hq with z | ⟨z1, z2⟩
          · rw [if_pos z]
          · rw [if_neg z1, if_pos z2]
      · obtain ⟨q1, q2⟩ := pls01_t hq
        obtain ⟨S, z, hS, rfl, hz, z9, z8, -⟩ := cfV_ok hI hc
        let B : Nat → Int32 := bS (whP (shR σ S) z (txC σ t) (stM σ) k pa pb)
        have step8 : ∀ (o f : Nat) (τ : St), o < n → Ag σ τ → ∃ τ', S8_whose_47 (nI S) (nI k) pa pb (f + 1) (B o) (nI o) τ = S8_whose_47 (nI S) (nI k) pa pb f (B (o + 1)) (nI (o + 1)) τ' ∧ Ag σ τ' := by
          intro o f τ ho A
          have hIτ := hI.ag A
          have e : S8_whose_47 (nI S) (nI k) pa pb (f + 1) (B o) (nI o) τ = B8_whose_47 (nI S) (nI k) pa pb (S8_whose_47 (nI S) (nI k) pa pb f) (B o) (nI o) τ := rfl
          rw [e]
          unfold B8_whose_47 S8_whose_107 S8_whose_110
          rw [hIτ.n8, if_neg (nI_ge ho (by omega)), nI_1]
          by_cases q : o = k
          · rw [if_pos ((n_ne (by omega) (by omega)).mpr q)]
            refine ⟨τ, ?_, A⟩
            rw [show B (o + 1) = B o from bS_s (by unfold whP; simp [q])]
          · rw [if_neg (fun z => q ((n_ne (by omega) (by omega)).mp z))]
            obtain ⟨τ1, g1, A1, P1⟩ := pairUp8 hIτ hk ho
            rw [txC_ag A, stM_ag A, stM_ag A] at P1
            obtain ⟨τ2, g2, A2, P2, hB⟩ := goMen8 (hI.bd hk).1 (hI.bd ho).1 P1 pa pb
            have A12 := A.tr (A1.tr A2)
            obtain ⟨r, g3, F3⟩ := foMen8 (hI.ag A12) hB hS hz ((A12 85 S (by unfold scr; omega)).trans z9)
            rw [shR_ag A12] at F3
            refine ⟨τ2, ?_, A12⟩
            rw [g1, bnd_s, g2, bnd_s, sheetAt8 hS, bnd_s, g3, bnd_s]
            by_cases y : alB (shR σ S) (cel (txC σ t) (stM σ k) (stM σ o) pa pb) z = true
            · rw [if_neg (fun w => (F3.al hz).2.mp w y), show B (o + 1) = B o ||| (1 <<< (nI o &&& 31)) from bS_t (by unfold whP; simp [y, q])]
            · rw [if_pos ((F3.al hz).2.mpr y), show B (o + 1) = B o ||| 0 from bS_f (by unfold whP; simp [y])]
        obtain ⟨f1, σ1, e1, A1⟩ := loopR (fun f o τ => S8_whose_47 (nI S) (nI k) pa pb f (B o) (nI o) τ) n (fun _ τ => Ag σ τ) step8 n 0 4096 σ (by omega) (by omega) Ag.rf
        have step9 : ∀ (o f : Nat) (τ : St), o < n → Ag σ τ → ∃ τ', S9_whose_50 (nI S) (nI k) pa pb (f + 1) (B o) (nI o) τ = S9_whose_50 (nI S) (nI k) pa pb f (B (o + 1)) (nI (o + 1)) τ' ∧ Ag σ τ' := by
          intro o f τ ho A
          have hIτ := hI.ag A
          have e : S9_whose_50 (nI S) (nI k) pa pb (f + 1) (B o) (nI o) τ = B9_whose_50 (nI S) (nI k) pa pb (S9_whose_50 (nI S) (nI k) pa pb f) (B o) (nI o) τ := rfl
          rw [e]
          unfold B9_whose_50 S9_whose_89 S9_whose_90
          rw [hIτ.n9, if_neg (nI_ge ho (by omega)), nI_1]
          by_cases q : o = k
          · rw [if_pos ((n_ne (by omega) (by omega)).mpr q)]
            refine ⟨τ, ?_, A⟩
            rw [show B (o + 1) = B o ||| 0 from bS_f (by unfold whP; simp [q])]
          · rw [if_neg (fun z => q ((n_ne (by omega) (by omega)).mp z))]
            obtain ⟨r, τ1, g1, A1, F3⟩ := unlikeMen9 hIτ hk ho pa pb hS hz ((A 85 S (by unfold scr; omega)).trans z9)
            rw [txC_ag A, stM_ag A, stM_ag A, shR_ag A] at F3
            refine ⟨τ1, ?_, A.tr A1⟩
            rw [g1, bnd_s]
            by_cases y : alB (shR σ S) (cel (txC σ t) (stM σ k) (stM σ o) pa pb) z = true
            · rw [if_pos ((F3.al hz).1.mpr y), show B (o + 1) = B o ||| (1 <<< (nI o &&& 31)) from bS_t (by unfold whP; simp [y, q])]
            · rw [if_neg (fun w => y ((F3.al hz).1.mp w)), show B (o + 1) = B o ||| 0 from bS_f (by unfold whP; simp [y])]
        obtain ⟨f2, σ2, e2, A2⟩ := loopR (fun f o τ => S9_whose_50 (nI S) (nI k) pa pb f (B o) (nI o) τ) n (fun _ τ => Ag σ τ) step9 n 0 4096 σ1 (by omega) (by omega) A1
        have hI1 := hI.ag A1
        have hI2 := hI.ag A2
        refine ⟨B n, σ1, σ2, ?_, ?_, n, T, t, hI2⟩
        · unfold S8_whose
          rw [cellsFault8 hI, bnd_s, if_pos hc, has8 hI.n8, bnd_s, if_neg hm, arePlans8, bnd_s, if_neg hq, show S8_whose_47 (nI S) (nI k) pa pb 4096 (0 : Int32) (0 : Int32) σ = _ from e1]
          show B8_whose_47 _ _ _ _ _ _ _ σ1 = _
          unfold B8_whose_47
          rw [hI1.n8, if_pos (Int32.le_refl _)]
        · unfold S9_whose
          rw [sheetWrong9, bnd_s, cfV_ag A1, if_pos hc, isMan9 hn hI1.n9, bnd_s, if_neg hm, isPlan9, bnd_s, isPlan9, bnd_s, if_neg q1, if_neg q2, show S9_whose_50 (nI S) (nI k) pa pb 4096 (0 : Int32) (0 : Int32) σ1 = _ from e2]
          show B9_whose_50 _ _ _ _ _ _ _ σ2 = _
          unfold B9_whose_50
          rw [hI2.n9, if_pos (Int32.le_refl _)]
  · refine same_rf hI (cfV σ s) ?_ ?_
    · unfold S8_whose; rw [cellsFault8 hI, bnd_s, if_neg hc]
    · unfold S9_whose; rw [sheetWrong9, bnd_s, if_neg hc]
def acP (pa a5 : Int32) (v : Nat) : Int32 := (pa &&& ((3 <<< ((2 * a5) &&& 31)) ^^^ (-1))) ||| (nI v <<< ((2 * a5) &&& 31))
theorem same_acts (s x pa pb a5 : Int32) : Same (S8_acts s x pa pb a5) (S9_acts s x pa pb a5) := by
  intro n T t σ hI
  have hn := hI.n6
  by_cases hf : tfV σ n s x pa pb = 0
  · obtain ⟨hc, hp, hq⟩ := tfV_ok hI hf
    obtain ⟨k, l, hk, hl, hkl, xk, xl⟩ := pair01_t hn hp
    obtain ⟨S, z, hS, rfl, hz, z9, z8, -⟩ := cfV_ok hI hc
    by_cases h5 : in01 a5 0 8 = 0
    · refine same_rf hI (-7) ?_ ?_
      · unfold S8_acts
        rw [toldFault8 hI, bnd_s, if_pos hf]
        rcases in01_f h5 with y | y
        · rw [if_pos y]
        · by_cases y0 : a5 < 0
          · rw [if_pos y0]
          · rw [if_neg y0, if_neg (show ¬ a5 < 9 by grind)]
      · unfold S9_acts; rw [toldWrong9 hn hI.n9, bnd_s, if_pos hf, in9, bnd_s, if_pos h5]
    · obtain ⟨y1, y2⟩ := in01_t h5
      let B : Nat → Int32 := bS (fun v => alB (shR σ S) (cel (txC σ t) (stM σ k) (stM σ l) (acP pa a5 v) pb) z)
      obtain ⟨σ0, g0, A0, P0⟩ := pairMen8 hI hk hl
      have step8 : ∀ (v f : Nat) (τ : St), v < 4 → (Ag σ τ ∧ PC (txC σ t) (stM σ k) (stM σ l) τ) → ∃ τ', S8_acts_73 (nI S) x pa pb a5 (f + 1) (B v) (nI v) τ = S8_acts_73 (nI S) x pa pb a5 f (B (v + 1)) (nI (v + 1)) τ' ∧ (Ag σ τ' ∧ PC (txC σ t) (stM σ k) (stM σ l) τ') := by
        intro v f τ hv ⟨A, P1⟩
        have e : S8_acts_73 (nI S) x pa pb a5 (f + 1) (B v) (nI v) τ = B8_acts_73 (nI S) x pa pb a5 (S8_acts_73 (nI S) x pa pb a5 f) (B v) (nI v) τ := rfl
        rw [e]
        unfold B8_acts_73 S8_acts_123
        obtain ⟨τ2, g2, A2, P2, hB⟩ := goMen8 (hI.bd hk).1 (hI.bd hl).1 P1 (acP pa a5 v) pb
        have A12 := A.tr A2
        obtain ⟨r, g3, F3⟩ := foMen8 (hI.ag A12) hB hS hz ((A12 85 S (by unfold scr; omega)).trans z9)
        rw [shR_ag A12] at F3
        refine ⟨τ2, ?_, A12, P2⟩
        rw [if_neg (show ¬ (4 : Int32) ≤ nI v from nI_ge (b := 4) hv (by omega)), show S0_goThrough ((pa &&& ((3 <<< ((2 * a5) &&& 31)) ^^^ (-1))) ||| (nI v <<< ((2 * a5) &&& 31))) pb τ = _ from g2, bnd_s, sheetAt8 hS, bnd_s, g3, bnd_s, nI_1]
        by_cases y : alB (shR σ S) (cel (txC σ t) (stM σ k) (stM σ l) (acP pa a5 v) pb) z = true
        · rw [if_neg (fun w => (F3.al hz).2.mp w y), show B (v + 1) = B v ||| (1 <<< (nI v &&& 31)) from bS_t y]
        · rw [if_pos ((F3.al hz).2.mpr y), show B (v + 1) = B v ||| 0 from bS_f y]
      obtain ⟨f1, σ1, e1, A1, -⟩ := loopR (fun f v τ => S8_acts_73 (nI S) x pa pb a5 f (B v) (nI v) τ) 4 (fun _ τ => Ag σ τ ∧ PC (txC σ t) (stM σ k) (stM σ l) τ) step8 4 0 4096 σ0 (by omega) (by omega) ⟨A0, P0⟩
      have step9 : ∀ (v f : Nat) (τ : St), v < 4 → Ag σ τ → ∃ τ', S9_acts_39 (nI S) x pa pb a5 (f + 1) (B v) (nI v) τ = S9_acts_39 (nI S) x pa pb a5 f (B (v + 1)) (nI (v + 1)) τ' ∧ Ag σ τ' := by
        intro v f τ hv A
        have hIτ := hI.ag A
        have e : S9_acts_39 (nI S) x pa pb a5 (f + 1) (B v) (nI v) τ = B9_acts_39 (nI S) x pa pb a5 (S9_acts_39 (nI S) x pa pb a5 f) (B v) (nI v) τ := rfl
        rw [e]
        unfold B9_acts_39 S9_acts_96
        obtain ⟨r, τ1, g1, A1, F3⟩ := unlikeMen9 hIτ hk hl (acP pa a5 v) pb hS hz ((A 85 S (by unfold scr; omega)).trans z9)
        rw [txC_ag A, stM_ag A, stM_ag A, shR_ag A] at F3
        refine ⟨τ1, ?_, A.tr A1⟩
        rw [if_neg (show ¬ (4 : Int32) ≤ nI v from nI_ge (b := 4) hv (by omega)), xk, xl, show S9_unlike (nI S) (nI k) (nI l) ((pa &&& ((3 <<< ((2 * a5) &&& 31)) ^^^ (-1))) ||| (nI v <<< ((2 * a5) &&& 31))) pb τ = _ from g1, bnd_s, nI_1]
        by_cases y : alB (shR σ S) (cel (txC σ t) (stM σ k) (stM σ l) (acP pa a5 v) pb) z = true
        · rw [if_pos ((F3.al hz).1.mpr y), show B (v + 1) = B v ||| (1 <<< (nI v &&& 31)) from bS_t y]
        · rw [if_neg (fun w => y ((F3.al hz).1.mp w)), show B (v + 1) = B v ||| 0 from bS_f y]
      obtain ⟨f2, σ2, e2, A2⟩ := loopR (fun f v τ => S9_acts_39 (nI S) x pa pb a5 f (B v) (nI v) τ) 4 (fun _ τ => Ag σ τ) step9 4 0 4096 σ1 (by omega) (by omega) A1
      have hI1 := hI.ag A1
      have hI2 := hI.ag A2
      refine ⟨B 4, σ1, σ2, ?_, ?_, n, T, t, hI2⟩
      · unfold S8_acts
        rw [toldFault8 hI, bnd_s, if_pos hf, if_neg y1, if_pos (show a5 < 9 by grind), theOne8 xk (by omega), bnd_s, theOther8 xl (by omega), bnd_s, theLaw8 hI.t6 hI.l8, bnd_s, g0, bnd_s, show S8_acts_73 (nI S) x pa pb a5 4096 (0 : Int32) (0 : Int32) σ0 = _ from e1]
        show B8_acts_73 _ _ _ _ _ _ _ _ σ1 = _
        unfold B8_acts_73
        rw [if_pos (show (4 : Int32) ≤ nI 4 by decide)]
      · unfold S9_acts
        rw [toldWrong9 hn hI1.n9, bnd_s, tfV_ag A1, if_pos hf, in9, bnd_s, if_neg h5, show S9_acts_39 (nI S) x pa pb a5 4096 (0 : Int32) (0 : Int32) σ1 = _ from e2]
        show B9_acts_39 _ _ _ _ _ _ _ _ σ2 = _
        unfold B9_acts_39
        rw [if_pos (show (4 : Int32) ≤ nI 4 by decide)]
  · refine same_rf hI (tfV σ n s x pa pb) ?_ ?_
    · unfold S8_acts; rw [toldFault8 hI, bnd_s, if_neg hf]
    · unfold S9_acts; rw [toldWrong9 hn hI.n9, bnd_s, if_neg hf]
theorem same_laws (s x pa pb : Int32) : Same (S8_laws s x pa pb) (S9_laws s x pa pb) := by
  intro n T t σ hI
  have hn := hI.n6
  have hT := hI.T6
  by_cases hf : tfV σ n s x pa pb = 0
  · obtain ⟨hc, hp, hq⟩ := tfV_ok hI hf
    obtain ⟨k, l, hk, hl, hkl, xk, xl⟩ := pair01_t hn hp
    obtain ⟨S, z, hS, rfl, hz, z9, z8, -⟩ := cfV_ok hI hc
    let B : Nat → Int32 := bS (fun v => alB (shR σ S) (cel (txC σ v) (stM σ k) (stM σ l) pa pb) z)
    have step8 : ∀ (v f : Nat) (τ : St), v < T → Ag σ τ → ∃ τ', S8_laws_25 (nI S) x pa pb (f + 1) (B v) (nI v) τ = S8_laws_25 (nI S) x pa pb f (B (v + 1)) (nI (v + 1)) τ' ∧ Ag σ τ' := by
      intro v f τ hv A
      have hIτ := hI.ag A
      have e : S8_laws_25 (nI S) x pa pb (f + 1) (B v) (nI v) τ = B8_laws_25 (nI S) x pa pb (S8_laws_25 (nI S) x pa pb f) (B v) (nI v) τ := rfl
      rw [e]
      unfold B8_laws_25 S8_laws_92
      obtain ⟨τ1, g1, f1, P1⟩ := pair2w (obW1 k (by omega)) (obW1 l (by omega)) (show v < 6 by omega) (hIτ.tx hv) rfl (fun j hj => hIτ.men hk j (by omega)) (fun j hj => hIτ.men hl j (by omega))
      rw [txC_ag A, stM_ag A, stM_ag A] at P1
      have A1 : Ag τ τ1 := Ag.fr f1 scB_scr
      obtain ⟨τ2, g2, A2, P2, hB⟩ := goMen8 (hI.bd hk).1 (hI.bd hl).1 P1 pa pb
      have A12 := A.tr (A1.tr A2)
      obtain ⟨r, g3, F3⟩ := foMen8 (hI.ag A12) hB hS hz ((A12 85 S (by unfold scr; omega)).trans z9)
      rw [shR_ag A12] at F3
      refine ⟨τ2, ?_, A12⟩
      rw [hIτ.T8, if_neg (nI_ge hv (by omega)), theOne8 xk (by omega), bnd_s, theOther8 xl (by omega), bnd_s, textAt8 (by omega), bnd_s, g1, bnd_s, g2, bnd_s, sheetAt8 hS, bnd_s, g3, bnd_s, nI_1]
      by_cases y : alB (shR σ S) (cel (txC σ v) (stM σ k) (stM σ l) pa pb) z = true
      · rw [if_neg (fun w => (F3.al hz).2.mp w y), show B (v + 1) = B v ||| (1 <<< (nI v &&& 31)) from bS_t y]
      · rw [if_pos ((F3.al hz).2.mpr y), show B (v + 1) = B v ||| 0 from bS_f y]
    obtain ⟨f1, σ1, e1, A1⟩ := loopR (fun f v τ => S8_laws_25 (nI S) x pa pb f (B v) (nI v) τ) T (fun _ τ => Ag σ τ) step8 T 0 4096 σ (by omega) (by omega) Ag.rf
    let L : Nat → St → Prop := fun _ τ => ∀ a b, ¬ scr a b → ¬ (a = 75 ∧ b = 10) → gI τ a b = gI σ a b
    have step9 : ∀ (v f : Nat) (τ : St), v < T → L v τ → ∃ τ', S9_laws_31 (nI S) x pa pb (f + 1) (nI t) (B v) (nI v) τ = S9_laws_31 (nI S) x pa pb f (nI t) (B (v + 1)) (nI (v + 1)) τ' ∧ L (v + 1) τ' := by
      intro v f τ hv hL
      have e : S9_laws_31 (nI S) x pa pb (f + 1) (nI t) (B v) (nI v) τ = B9_laws_31 (nI S) x pa pb (S9_laws_31 (nI S) x pa pb f) (nI t) (B v) (nI v) τ := rfl
      rw [e]
      unfold B9_laws_31 S9_laws_76
      have K : ∀ a b, ¬ scr a b → ¬ (a = 75 ∧ b = 10) → gI (sI τ 75 10 (nI v)) a b = gI σ a b := fun a b h1 h2 => by rw [gI_sI, if_neg h2]; exact hL a b h1 h2
      have k10 : gI (sI τ 75 10 (nI v)) 75 10 = nI v := by rw [gI_sI, if_pos ⟨rfl, rfl⟩]
      have T9 : gI τ 75 9 = nI T := (hL 75 9 (by unfold scr; omega) (by omega)).trans hI.T9
      generalize sI τ 75 10 (nI v) = τ0 at K k10 ⊢
      have hst : ∀ m, stM τ0 m = stM σ m := stM_fr (fun a b h => K a b (by unfold scr; omega) (by omega))
      obtain ⟨r, τ1, g1, f1, F3⟩ := unlike9 (σ := τ0) (m1 := k) (m2 := l) (t := v) (s := S) (z := z) (cs := txC σ v) (s1 := stM σ k) (s2 := stM σ l) (row := shR σ S) (hI.bd hk).1 (hI.bd hl).1 (by omega) (by omega) (by omega) k10 (TxOk_fr (by omega) (fun a b h => K a b (by unfold scr; omega) (by omega)) (hI.tx hv)) (txC_fr v (fun a b h => K a b (by unfold scr; omega) (by omega))) (fun j _ => by rw [hst]) (fun j _ => by rw [hst]) pa pb hS hz ((K 85 S (by unfold scr; omega) (by omega)).trans z9) (fun i _ => K 86 _ (by unfold scr; omega) (by omega))
      refine ⟨τ1, ?_, fun a b h1 h2 => by rw [f1.1 a b (fun y => h1 (scN_scr a b y))]; exact K a b h1 h2⟩
      rw [T9, if_neg (nI_ge hv (by omega)), xk, xl, g1, bnd_s, nI_1]
      by_cases y : alB (shR σ S) (cel (txC σ v) (stM σ k) (stM σ l) pa pb) z = true
      · rw [if_pos ((F3.al hz).1.mpr y), show B (v + 1) = B v ||| (1 <<< (nI v &&& 31)) from bS_t y]
      · rw [if_neg (fun w => y ((F3.al hz).1.mp w)), show B (v + 1) = B v ||| 0 from bS_f y]
    obtain ⟨f2, σ2, e2, L2⟩ := loopR (fun f v τ => S9_laws_31 (nI S) x pa pb f (nI t) (B v) (nI v) τ) T L step9 T 0 4096 σ1 (by omega) (by omega) (fun a b h _ => A1 a b h)
    have hI1 := hI.ag A1
    have T9 : gI σ2 75 9 = nI T := (L2 75 9 (by unfold scr; omega) (by omega)).trans hI.T9
    refine ⟨B T, σ1, sI σ2 75 10 (nI t), ?_, ?_, n, T, t, hI.ag (fun a b h => ?_)⟩
    · unfold S8_laws
      rw [toldFault8 hI, bnd_s, if_pos hf, show S8_laws_25 (nI S) x pa pb 4096 (0 : Int32) (0 : Int32) σ = _ from e1]
      show B8_laws_25 _ _ _ _ _ _ _ σ1 = _
      unfold B8_laws_25
      rw [hI1.T8, if_pos (Int32.le_refl _)]
    · unfold S9_laws
      rw [toldWrong9 hn hI1.n9, bnd_s, tfV_ag A1, if_pos hf, hI1.l9, show S9_laws_31 (nI S) x pa pb 4096 (nI t) (0 : Int32) (0 : Int32) σ1 = _ from e2]
      show B9_laws_31 _ _ _ _ _ _ _ _ σ2 = _
      unfold B9_laws_31
      rw [T9, if_pos (Int32.le_refl _)]
    · rw [gI_sI]
      by_cases q : a = 75 ∧ b = 10
      · rw [if_pos q, q.1, q.2]; exact hI.l9.symm
      · rw [if_neg q]; exact L2 a b h q
  · refine same_rf hI (tfV σ n s x pa pb) ?_ ?_
    · unfold S8_laws; rw [toldFault8 hI, bnd_s, if_neg hf]
    · unfold S9_laws; rw [toldWrong9 hn hI.n9, bnd_s, if_neg hf]
