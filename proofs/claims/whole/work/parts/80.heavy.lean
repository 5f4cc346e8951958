/-! heavy, knees, film. -/
def hvF (P : Nat → Bool) : Nat → Nat × Int32
  | 0 => (0, -1)
  | v + 1 => if P v = true then ((hvF P v).1 + 1, if (hvF P v).1 = 0 then nI v else (hvF P v).2) else hvF P v
theorem hvF_b (P : Nat → Bool) : ∀ v, v ≤ 100 → (hvF P v).1 ≤ v ∧ ((hvF P v).2 = -1 ↔ (hvF P v).1 = 0) := by
  intro v
  induction v with
  | zero => intro _; exact ⟨Nat.le_refl _, ⟨fun _ => rfl, fun _ => rfl⟩⟩
  | succ v ih =>
    intro hv
    obtain ⟨h1, h2⟩ := ih (by omega)
    unfold hvF
    by_cases q : P v = true
    · rw [if_pos q]
      refine ⟨by show (hvF P v).1 + 1 ≤ v + 1; omega, ?_⟩
      show (if (hvF P v).1 = 0 then nI v else (hvF P v).2) = -1 ↔ (hvF P v).1 + 1 = 0
      refine ⟨fun h => ?_, fun h => absurd h (by omega)⟩
      by_cases q0 : (hvF P v).1 = 0
      · rw [if_pos q0] at h; exact absurd (nI_pos' (n := v) (by omega)) (by rw [h]; decide)
      · rw [if_neg q0] at h; exact absurd (h2.mp h) q0
    · rw [if_neg q]; exact ⟨by omega, h2⟩
theorem same_heavy (s x pa pb so : Int32) : Same (S8_heavy s x pa pb so) (S9_heavy s x pa pb so) := by
  intro n T t σ hI
  have hn := hI.n6
  by_cases hf : tfV σ n s x pa pb = 0
  · obtain ⟨hc, hp, hq⟩ := tfV_ok hI hf
    obtain ⟨k, l, hk, hl, hkl, xk, xl⟩ := pair01_t hn hp
    obtain ⟨S, z, hS, rfl, hz, z9, z8, -⟩ := cfV_ok hI hc
    by_cases h5 : so = 0 ∨ so = 1 ∨ so = 10 ∨ so = 11
    · obtain ⟨f, c, hfc⟩ : ∃ f c : Nat, (f = 2 ∨ f = 3) ∧ (c = 0 ∨ c = 1) ∧ so = nI (10 * (f - 2) + c) := by
        rcases h5 with rfl | rfl | rfl | rfl
        · exact ⟨2, 0, Or.inl rfl, Or.inl rfl, rfl⟩
        · exact ⟨2, 1, Or.inl rfl, Or.inr rfl, rfl⟩
        · exact ⟨3, 0, Or.inr rfl, Or.inl rfl, rfl⟩
        · exact ⟨3, 1, Or.inr rfl, Or.inr rfl, rfl⟩
      obtain ⟨hf23, hc01, hso⟩ := hfc
      have hj10 : jrem so 10 = nI c := by
        rw [hso, show (10 : Int32) = nI 10 from rfl, nI_rem (by omega) (by omega)]
        congr 1; omega
      have hd10 : so / 10 = nI (f - 2) := by
        rw [hso, show (10 : Int32) = nI 10 from rfl, nI_div (by omega) (by omega)]
        congr 1; omega
      have hin : ¬ in01 so 0 11 = 0 := by rcases h5 with rfl | rfl | rfl | rfl <;> decide
      let P : Nat → Bool := fun v => alB (shR σ S) (cel (txC σ t) (setS (stM σ k) f (nI v)) (stM σ l) pa pb) z
      have hbd : ∀ v : Int32, (f = 1 ∨ f = 4 → 0 ≤ v ∧ v ≤ 9) := fun v h => by omega
      have step8 : ∀ (v f' : Nat) (τ : St), v < 100 → Ag σ τ → ∃ τ', S8_heavy_70 (nI S) x pa pb so (f' + 1) (fdW f) (hvF P v).2 (nI (hvF P v).1) (nI v) τ = S8_heavy_70 (nI S) x pa pb so f' (fdW f) (hvF P (v + 1)).2 (nI (hvF P (v + 1)).1) (nI (v + 1)) τ' ∧ Ag σ τ' := by
        intro v f' τ hv A
        have hIτ := hI.ag A
        obtain ⟨τ', g, A'⟩ := would8 hIτ hk hl xk xl hS hz ((A 85 S (by unfold scr; omega)).trans z9) (show f < 5 by omega) (hbd (nI v)) pa pb
        rw [shR_ag A, txC_ag A, stM_ag A, stM_ag A] at g
        refine ⟨τ', ?_, A.tr A'⟩
        have e : S8_heavy_70 (nI S) x pa pb so (f' + 1) (fdW f) (hvF P v).2 (nI (hvF P v).1) (nI v) τ = B8_heavy_70 (nI S) x pa pb so (S8_heavy_70 (nI S) x pa pb so f') (fdW f) (hvF P v).2 (nI (hvF P v).1) (nI v) τ := rfl
        rw [e]
        obtain ⟨hb1, hb2⟩ := hvF_b P v (by omega)
        unfold B8_heavy_70 S8_heavy_105 S8_heavy_110
        rw [if_neg (show ¬ (99 : Int32) < nI v from nI_nlt (a := 99) (by omega) (by omega)), g, bnd_s, nI_1 v]
        by_cases y : P v = true
        · have eh : hvF P (v + 1) = ((hvF P v).1 + 1, if (hvF P v).1 = 0 then nI v else (hvF P v).2) := by
            show (if P v = true then _ else _) = _
            rw [if_pos y]
          rw [if_pos y, if_neg (by decide), eh, nI_1]
          by_cases q : (hvF P v).1 = 0
          · rw [if_pos (show nI (hvF P v).1 = 0 by rw [q]; rfl), if_pos q]
          · rw [if_neg (nI_ne0 (by omega) (by omega)), if_neg q]
        · have eh : hvF P (v + 1) = hvF P v := by
            show (if P v = true then _ else _) = _
            rw [if_neg y]
          rw [if_neg y, if_pos rfl, eh]
      obtain ⟨f1, σ1, e1, A1⟩ := loopR (fun f' v τ => S8_heavy_70 (nI S) x pa pb so f' (fdW f) (hvF P v).2 (nI (hvF P v).1) (nI v) τ) 100 (fun _ τ => Ag σ τ) step8 100 0 4096 σ (by omega) (by omega) Ag.rf
      have hI1 := hI.ag A1
      have ix : (5 : Int32) * nI k + so / 10 = nI (5 * k + (f - 2)) := by rw [hd10, show (5 : Int32) = nI 5 from rfl, nI_mul, nI_add]
      have rc : gI σ1 78 (5 * k + (f - 2)) = stM σ k f := by
        rw [A1 78 _ (by unfold scr; omega)]
        unfold stM
        rw [if_neg (by omega), if_neg (by omega)]
      let L : Nat → St → Prop := fun _ τ => ∀ a b, ¬ scr a b → ¬ (a = 78 ∧ b = 5 * k + (f - 2)) → gI τ a b = gI σ a b
      have step9 : ∀ (v f' : Nat) (τ : St), v < 100 → L v τ → ∃ τ', S9_heavy_74 (nI S) x pa pb so (f' + 1) (stM σ k f) (nI (hvF P v).1) (hvF P v).2 (nI v) τ = S9_heavy_74 (nI S) x pa pb so f' (stM σ k f) (nI (hvF P (v + 1)).1) (hvF P (v + 1)).2 (nI (v + 1)) τ' ∧ L (v + 1) τ' := by
        intro v f' τ hv hL
        have e : S9_heavy_74 (nI S) x pa pb so (f' + 1) (stM σ k f) (nI (hvF P v).1) (hvF P v).2 (nI v) τ = B9_heavy_74 (nI S) x pa pb so (S9_heavy_74 (nI S) x pa pb so f') (stM σ k f) (nI (hvF P v).1) (hvF P v).2 (nI v) τ := rfl
        rw [e]
        obtain ⟨hb1, hb2⟩ := hvF_b P v (by omega)
        unfold B9_heavy_74 S9_heavy_115 S9_heavy_129 S9_heavy_148 S9_heavy_150
        rw [if_neg (show ¬ (99 : Int32) < nI v from nI_nlt (a := 99) (by omega) (by omega)), xk, xl, ix, if_pos (inb_nI (by omega) (by omega)), nI_clamp (by omega), nI_1 v]
        have K : ∀ a b, ¬ (a = 78 ∧ b = 5 * k + (f - 2)) → gI (sI τ 78 (5 * k + (f - 2)) (nI v)) a b = gI τ a b := fun a b h => by rw [gI_sI, if_neg h]
        have kc : gI (sI τ 78 (5 * k + (f - 2)) (nI v)) 78 (5 * k + (f - 2)) = nI v := by rw [gI_sI, if_pos ⟨rfl, rfl⟩]
        generalize sI τ 78 (5 * k + (f - 2)) (nI v) = τ0 at K kc ⊢
        have K0 : ∀ a b, ¬ scr a b → ¬ (a = 78 ∧ b = 5 * k + (f - 2)) → gI τ0 a b = gI σ a b := fun a b h1 h2 => (K a b h2).trans (hL a b h1 h2)
        have hs : ∀ j, j < 5 → stM τ0 k j = setS (stM σ k) f (nI v) j := by
          intro j hj
          unfold setS stM
          rw [K0 76 k (by unfold scr; omega) (by omega), K0 77 k (by unfold scr; omega) (by omega)]
          by_cases q : j = f
          · rw [if_pos q, if_neg (by omega), if_neg (by omega), q]; exact kc
          · rw [if_neg q]
            by_cases q0 : j = 0
            · rw [if_pos q0, if_pos q0]
            · rw [if_neg q0, if_neg q0]
              by_cases q1 : j = 1
              · rw [if_pos q1, if_pos q1]
              · rw [if_neg q1, if_neg q1]; exact K0 _ _ (by unfold scr; omega) (by omega)
        obtain ⟨r, τ1, g1, f1, hr⟩ := unlikeSet9 hI hk hl hkl hS hz z9 (hbd (nI v)) (fun a b h1 h2 h3 => K0 a b h1 (by omega)) hs pa pb
        refine ⟨τ1, ?_, fun a b h1 h2 => (f1 a b h1).trans (K0 a b h1 h2)⟩
        rw [g1, bnd_s]
        by_cases y : P v = true
        · have eh : hvF P (v + 1) = ((hvF P v).1 + 1, if (hvF P v).1 = 0 then nI v else (hvF P v).2) := by
            show (if P v = true then _ else _) = _
            rw [if_pos y]
          rw [if_pos (hr.mpr y), eh]
          simp only [if_neg (show ¬ (1 : Int32) = 0 by decide), nI_1]
          by_cases q : (hvF P v).1 = 0
          · rw [if_pos (hb2.mpr q), if_pos q]
          · rw [if_neg (fun w => q (hb2.mp w)), if_neg q]
        · have eh : hvF P (v + 1) = hvF P v := by
            show (if P v = true then _ else _) = _
            rw [if_neg y]
          rw [if_neg (fun w => y (hr.mp w)), eh]
          simp only [if_true, Int32.add_zero]
      obtain ⟨f2, σ2, e2, L2⟩ := loopR (fun f' v τ => S9_heavy_74 (nI S) x pa pb so f' (stM σ k f) (nI (hvF P v).1) (hvF P v).2 (nI v) τ) 100 L step9 100 0 4096 σ1 (by omega) (by omega) (fun a b h _ => A1 a b h)
      refine ⟨if nI c = 0 then nI (hvF P 100).1 else (hvF P 100).2, σ1, sI σ2 78 (5 * k + (f - 2)) (stM σ k f), ?_, ?_, n, T, t, hI.ag (fun a b h => ?_)⟩
      · have e47 : S8_heavy_47 (nI S) x pa pb so σ = some (if nI c = 0 then nI (hvF P 100).1 else (hvF P 100).2, σ1) := by
          have e59 : S8_heavy_70 (nI S) x pa pb so 4096 (fdW f) (-1) 0 0 σ = some (if nI c = 0 then nI (hvF P 100).1 else (hvF P 100).2, σ1) := by
            rw [show S8_heavy_70 (nI S) x pa pb so 4096 (fdW f) (-1) 0 0 σ = _ from e1]
            show B8_heavy_70 _ _ _ _ _ _ _ _ _ _ σ1 = _
            unfold B8_heavy_70
            rw [if_pos (show (99 : Int32) < nI 100 by decide), hj10]
            split <;> rfl
          unfold S8_heavy_47 S8_heavy_59
          rcases hf23 with rfl | rfl
          · rw [if_neg (show ¬ (10 : Int32) ≤ so by rcases hc01 with rfl | rfl <;> (rw [hso]; decide))]; exact e59
          · rw [if_pos (show (10 : Int32) ≤ so by rcases hc01 with rfl | rfl <;> (rw [hso]; decide))]; exact e59
        unfold S8_heavy
        rw [toldFault8 hI, bnd_s, if_pos hf, e47]
        rcases h5 with rfl | rfl | rfl | rfl <;> rfl
      · unfold S9_heavy
        rw [toldWrong9 hn hI1.n9, bnd_s, tfV_ag A1, if_pos hf, in9, bnd_s, if_neg hin, hj10, if_pos (show nI c ≤ (1 : Int32) from nI_le (b := 1) (by omega) (by omega)), xk, ix, if_pos (inb_nI (by omega) (by omega)), nI_clamp (by omega), rc, show S9_heavy_74 (nI S) x pa pb so 4096 (stM σ k f) (0 : Int32) (-1) (0 : Int32) σ1 = _ from e2]
        show B9_heavy_74 _ _ _ _ _ _ _ _ _ _ σ2 = _
        unfold B9_heavy_74
        rw [if_pos (show (99 : Int32) < nI 100 by decide), xk, ix, if_pos (inb_nI (by omega) (by omega)), nI_clamp (by omega), hj10]
        split <;> rfl
      · rw [gI_sI]
        by_cases q : a = 78 ∧ b = 5 * k + (f - 2)
        · rw [if_pos q, q.1, q.2]
          unfold stM
          rw [if_neg (by omega), if_neg (by omega)]
        · rw [if_neg q]; exact L2 a b h q
    · have n0 : ¬ so = 0 := fun y => h5 (Or.inl y)
      have n1 : ¬ so = 1 := fun y => h5 (Or.inr (Or.inl y))
      have n10 : ¬ so = 10 := fun y => h5 (Or.inr (Or.inr (Or.inl y)))
      have n11 : ¬ so = 11 := fun y => h5 (Or.inr (Or.inr (Or.inr y)))
      refine same_rf hI (-7) ?_ ?_
      · unfold S8_heavy
        rw [toldFault8 hI, bnd_s, if_pos hf, if_neg n0, if_neg n1, if_neg n10, if_neg n11]
      · unfold S9_heavy
        rw [toldWrong9 hn hI.n9, bnd_s, if_pos hf, in9, bnd_s]
        by_cases q : in01 so 0 11 = 0
        · rw [if_pos q]
        · rw [if_neg q]
          obtain ⟨y1, y2⟩ := in01_t q
          obtain ⟨A, rfl, hA⟩ := ex_nIc (a := so) (c := 11) (by omega) y1 y2
          rw [if_neg ?_]
          rw [show (10 : Int32) = nI 10 from rfl, nI_rem (by omega) (by omega), show (1 : Int32) = nI 1 from rfl, nI_le_iff (by omega) (by omega)]
          intro w
          have : A = 0 ∨ A = 1 ∨ A = 10 ∨ A = 11 := by omega
          rcases this with rfl | rfl | rfl | rfl
          · exact n0 rfl
          · exact n1 rfl
          · exact n10 rfl
          · exact n11 rfl
  · refine same_rf hI (tfV σ n s x pa pb) ?_ ?_
    · unfold S8_heavy; rw [toldFault8 hI, bnd_s, if_neg hf]
    · unfold S9_heavy; rw [toldWrong9 hn hI.n9, bnd_s, if_neg hf]
theorem same_knees (x pa pb : Int32) : Same (S8_knees x pa pb) (S9_knees x pa pb) := by
  intro n T t σ hI
  have hn := hI.n6
  by_cases hp : pair01 n x = 0
  · refine same_rf hI (-5) ?_ ?_
    · unfold S8_knees; rw [isPair8 hI.n8, bnd_s, if_pos hp]
    · unfold S9_knees; rw [areTwoMen9 hn hI.n9, bnd_s, if_pos hp]
  · obtain ⟨k, l, hk, hl, hkl, xk, xl⟩ := pair01_t hn hp
    by_cases hq : pls01 pa pb = 0
    · refine same_rf hI (-7) ?_ ?_
      · unfold S8_knees; rw [isPair8 hI.n8, bnd_s, if_neg hp, arePlans8, bnd_s, if_pos hq]
      · unfold S9_knees
        rw [areTwoMen9 hn hI.n9, bnd_s, if_neg hp, isPlan9, bnd_s, isPlan9, bnd_s]
        rcases pls01_f hq with z | ⟨z1, z2⟩
        · rw [if_pos z]
        · rw [if_neg z1, if_pos z2]
    · obtain ⟨q1, q2⟩ := pls01_t hq
      let P : Nat → Prop := fun v => ¬ 4 ≤ cel (txC σ t) (setS (stM σ k) 4 (nI v)) (stM σ l) pa pb 9
      have hbd : ∀ v, v < 10 → (4 = 1 ∨ 4 = 4 → 0 ≤ nI v ∧ nI v ≤ 9) := fun v hv _ => ⟨nI_pos' (by omega), nI_le (b := 9) (by omega) (by omega)⟩
      obtain ⟨σ0, g0, a0, b0⟩ := like8 (o := 25) (w := 3 + k) (by omega) σ
      have A0 : Ag σ σ0 := fun a b h => b0 a b (fun y => h (by unfold scr; omega))
      -- the class
      have h8 := loopI (fun f v τ => S8_knees_37 x pa pb f (nI v) τ) 10 (fun v τ => Ag σ τ ∧ (∀ j, j < 5 → j ≠ 4 → gI τ 25 j = stM σ k j) ∧ ∀ j, j < v → ¬ P j) (fun r τ => Ag σ τ ∧ Fst P 10 r)
        (fun v f τ hv hL => by
          obtain ⟨A, c, hP⟩ := hL
          have e : S8_knees_37 x pa pb (f + 1) (nI v) τ = B8_knees_37 x pa pb (S8_knees_37 x pa pb f) (nI v) τ := rfl
          have A1 : Ag σ (sI τ 25 4 (nI v)) := A.sI _ (by unfold scr; omega)
          have c1 : ∀ j, j < 5 → gI (sI τ 25 4 (nI v)) 25 j = setS (stM σ k) 4 (nI v) j := fun j hj => by
            rw [gI_sI]
            unfold setS
            by_cases q : j = 4
            · rw [if_pos ⟨rfl, q⟩, if_pos q]
            · rw [if_neg (fun y => q y.2), if_neg q]; exact c j hj q
          rw [e]
          unfold B8_knees_37
          generalize sI τ 25 4 (nI v) = τ0 at A1 c1 ⊢
          have hI1 := hI.ag A1
          obtain ⟨τ1, g1, f1, P1⟩ := pair2w (w1 := 25) (w2 := 3 + l) (s2 := stM σ l) obW25 (obW1 l (by omega)) hI1.t6 (hI1.tx hI1.tT) (txC_ag A1 t) c1 (fun j hj => by rw [hI1.men hl j (by omega), stM_ag A1])
          obtain ⟨τ2, g2, f2, P2, hB⟩ := go2w (setS_sm (hI.bd hk).1 (hbd v hv)) (hI.bd hl).1 P1 pa pb
          have A2 : Ag σ τ2 := A1.tr ((Ag.fr f1 scB_scr).tr (Ag.fr f2 scB_scr))
          rw [if_neg (show ¬ (10 : Int32) ≤ nI v from nI_ge (b := 10) hv (by omega)), theOther8 xl (by omega), bnd_s, theLaw8 hI1.t6 hI1.l8, bnd_s, g1, bnd_s, g2, bnd_s, nI_1]
          by_cases y : 4 ≤ cel (txC σ t) (setS (stM σ k) 4 (nI v)) (stM σ l) pa pb 9
          · refine Or.inl ⟨τ2, by rw [if_pos ((lead8 hB).2.mpr y)], A2, fun j hj hj4 => ?_, fun j hj => ?_⟩
            · rw [f2.1 25 j (by unfold scB; omega), f1.1 25 j (by unfold scB; omega), c1 j hj]
              unfold setS
              rw [if_neg hj4]
            · by_cases qj : j = v
              · subst qj; exact fun w => w y
              · exact hP j (by omega)
          · exact Or.inr ⟨nI v, τ2, by rw [if_neg (fun w => y ((lead8 hB).2.mp w))], A2, Or.inr ⟨v, hv, rfl, y, hP⟩⟩)
        (fun f τ hL => by
          obtain ⟨A, -, hP⟩ := hL
          refine ⟨-1, τ, ?_, A, Or.inl ⟨rfl, hP⟩⟩
          show B8_knees_37 _ _ _ _ _ τ = _
          unfold B8_knees_37
          rw [if_pos (show (10 : Int32) ≤ nI 10 by decide)]) 10 0 4096 σ0 (by omega) (by omega) ⟨A0, fun j hj _ => (a0 j (by omega)).trans (hI.men hk j (by omega)), fun j hj => absurd hj (by omega)⟩
      obtain ⟨r, σ1, e1, A1, F1⟩ := h8
      have hI1 := hI.ag A1
      have i2 : (5 : Int32) * nI k + 2 = nI (5 * k + 2) := by rw [show (5 : Int32) = nI 5 from rfl, nI_mul, show (2 : Int32) = nI 2 from rfl, nI_add]
      have r4 : gI σ1 78 (5 * k + 2) = stM σ k 4 := A1 78 _ (by unfold scr; omega)
      -- back as it was
      have back : ∀ (τ : St) (v : Int32), (∀ a b, ¬ scr a b → ¬ (a = 78 ∧ b = 5 * k + 2) → gI τ a b = gI σ a b) → S9_knees_114 x pa pb (stM σ k 4) v τ = some (v, sI τ 78 (5 * k + 2) (stM σ k 4)) ∧ Ag σ (sI τ 78 (5 * k + 2) (stM σ k 4)) := by
        intro τ v hL
        refine ⟨?_, fun a b h => ?_⟩
        · unfold S9_knees_114
          rw [xk, i2, if_pos (inb_nI (by omega) (by omega)), nI_clamp (by omega)]
        · rw [gI_sI]
          by_cases q : a = 78 ∧ b = 5 * k + 2
          · rw [if_pos q, q.1, q.2]; rfl
          · rw [if_neg q]; exact hL a b h q
      have h9 := loopI (fun f v τ => S9_knees_53 x pa pb (f + 1) (stM σ k 4) (-1) (nI v) τ) 10 (fun v τ => (∀ a b, ¬ scr a b → ¬ (a = 78 ∧ b = 5 * k + 2) → gI τ a b = gI σ a b) ∧ ∀ j, j < v → ¬ P j) (fun r τ => Ag σ τ ∧ Fst P 10 r)
        (fun v f τ hv hL => by
          obtain ⟨hL, hP⟩ := hL
          have e : S9_knees_53 x pa pb (f + 1 + 1) (stM σ k 4) (-1) (nI v) τ = B9_knees_53 x pa pb (S9_knees_53 x pa pb (f + 1)) (stM σ k 4) (-1) (nI v) τ := rfl
          have K : ∀ a b, ¬ (a = 78 ∧ b = 5 * k + 2) → gI (sI τ 78 (5 * k + 2) (nI v)) a b = gI τ a b := fun a b h => by rw [gI_sI, if_neg h]
          have kc : gI (sI τ 78 (5 * k + 2) (nI v)) 78 (5 * k + 2) = nI v := by rw [gI_sI, if_pos ⟨rfl, rfl⟩]
          rw [e]
          unfold B9_knees_53 S9_knees_106
          rw [if_neg (show ¬ (9 : Int32) < nI v from nI_nlt (a := 9) (by omega) (by omega)), if_pos rfl, xk, xl, i2, if_pos (inb_nI (by omega) (by omega)), nI_clamp (by omega), nI_1]
          generalize sI τ 78 (5 * k + 2) (nI v) = τ0 at K kc ⊢
          have K0 : ∀ a b, ¬ scr a b → ¬ (a = 78 ∧ b = 5 * k + 2) → gI τ0 a b = gI σ a b := fun a b h1 h2 => (K a b h2).trans (hL a b h1 h2)
          have hs : ∀ j, j < 5 → stM τ0 k j = setS (stM σ k) 4 (nI v) j := by
            intro j hj
            unfold setS stM
            rw [K0 76 k (by unfold scr; omega) (by omega), K0 77 k (by unfold scr; omega) (by omega)]
            by_cases q : j = 4
            · rw [if_pos q, if_neg (by omega), if_neg (by omega), q]; exact kc
            · rw [if_neg q]
              by_cases q0 : j = 0
              · rw [if_pos q0, if_pos q0]
              · rw [if_neg q0, if_neg q0]
                by_cases q1 : j = 1
                · rw [if_pos q1, if_pos q1]
                · rw [if_neg q1, if_neg q1]; exact K0 _ _ (by unfold scr; omega) (by omega)
          have hl5 : ∀ j, j < 7 → stM τ0 l j = stM σ l j := stM_7 (K0 _ _ (by unfold scr; omega) (by omega)) (K0 _ _ (by unfold scr; omega) (by omega)) (fun y y1 y2 => K0 _ _ (by unfold scr; omega) (by omega))
          obtain ⟨τ1, g1, f1, hB⟩ := bout9w (σ := τ0) (m1 := k) (m2 := l) (t := t) (setS_sm (hI.bd hk).1 (hbd v hv)) (hI.bd hl).1 (by omega) (by omega) hI.t6 ((K0 75 10 (by unfold scr; omega) (by omega)).trans hI.l9) (TxOk_fr hI.t6 (fun a b h => K0 a b (by unfold scr; omega) (by omega)) (hI.tx hI.tT)) (txC_fr t (fun a b h => K0 a b (by unfold scr; omega) (by omega))) hs (fun j hj => hl5 j (by omega)) pa pb
          have L1 : ∀ a b, ¬ scr a b → ¬ (a = 78 ∧ b = 5 * k + 2) → gI τ1 a b = gI σ a b := fun a b h1 h2 => (f1.1 a b (fun y => h1 (scN_scr a b y))).trans (K0 a b h1 h2)
          have cb := cel_b (txC σ t) (setS (stM σ k) 4 (nI v)) (stM σ l) pa pb 9
          have hw := winF_e (show k < 6 by omega) (show l < 6 by omega) hkl _ cb.1 cb.2
          rw [g1, bnd_s, hB.2.2.1, hB.2.2.2.2]
          by_cases y : 4 ≤ cel (txC σ t) (setS (stM σ k) 4 (nI v)) (stM σ l) pa pb 9
          · refine Or.inl ⟨τ1, by rw [if_neg (fun w => hw.mp w y)], L1, fun j hj => ?_⟩
            by_cases qj : j = v
            · subst qj; exact fun w => w y
            · exact hP j (by omega)
          · obtain ⟨bk1, bk2⟩ := back τ1 (nI v) L1
            refine Or.inr ⟨nI v, _, ?_, bk2, Or.inr ⟨v, hv, rfl, y, hP⟩⟩
            rw [if_pos (hw.mpr y)]
            show B9_knees_53 _ _ _ _ _ _ _ τ1 = _
            unfold B9_knees_53
            have nv : ¬ nI v = -1 := fun w => absurd (nI_pos' (n := v) (by omega)) (by rw [w]; decide)
            rw [if_neg nv, bk1]
            split <;> rfl)
        (fun f τ hL => by
          obtain ⟨hL, hP⟩ := hL
          obtain ⟨bk1, bk2⟩ := back τ (-1) hL
          refine ⟨-1, _, ?_, bk2, Or.inl ⟨rfl, hP⟩⟩
          show B9_knees_53 _ _ _ _ _ _ _ τ = _
          unfold B9_knees_53
          rw [if_pos (show (9 : Int32) < nI 10 by decide), bk1]) 10 0 4095 σ1 (by omega) (by omega) ⟨fun a b h _ => A1 a b h, fun j hj => absurd hj (by omega)⟩
      obtain ⟨r', σ2, e2, A2, F2⟩ := h9
      have hrr := F1.uni F2
      subst hrr
      refine ⟨r, σ1, σ2, ?_, ?_, n, T, t, hI.ag A2⟩
      · unfold S8_knees
        rw [isPair8 hI.n8, bnd_s, if_neg hp, arePlans8, bnd_s, if_neg hq, theOne8 xk (by omega), bnd_s, g0, bnd_s]
        exact e1
      · unfold S9_knees
        rw [areTwoMen9 hn hI1.n9, bnd_s, if_neg hp, isPlan9, bnd_s, isPlan9, bnd_s, if_neg q1, if_neg q2, xk, i2, if_pos (inb_nI (by omega) (by omega)), nI_clamp (by omega), r4]
        exact e2
