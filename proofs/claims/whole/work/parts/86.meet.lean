/-! meet, run. -/
theorem plansBad {n T t : Nat} {σ : St} (hI : Inv n T t σ) (s : Int32) : (∃ v, ¬ v = 0 ∧ S8_plansFault s σ = some (v, σ) ∧ ∀ τ, Ag σ τ → S9_plansWrong s τ = some (v, τ)) ∨ ∃ S z : Nat, S < 4 ∧ s = nI S ∧ z ≤ 40 ∧ gI σ (67 + 2 * S) 2 = nI z ∧ gI σ 85 S = nI z ∧ ¬ gI σ 84 S = -1 ∧ z = n ∧ S8_plansFault s σ = some (0, σ) ∧ ∀ τ, gI τ 75 0 = nI n → gI τ 85 S = nI z → gI τ 84 S = gI σ 84 S → shR τ S = shR σ S → S9_plansWrong s τ = some (0, τ) := by
  have hn := hI.n6
  by_cases hs : in01 s 0 3 = 0
  · refine Or.inl ⟨-2, by decide, ?_, fun τ _ => ?_⟩
    · unfold S8_plansFault; rw [sheetFault8 hI, bnd_s]; unfold shV; rw [if_pos hs, if_neg (by decide)]
    · unfold S9_plansWrong; rw [in9, bnd_s, if_pos hs]
  obtain ⟨S, hS, rfl⟩ := in03_t hs
  obtain ⟨-, ⟨z, hz, z8, z9⟩, -⟩ := hI.sh hS
  by_cases ho : gI σ 84 S = -1
  · refine Or.inl ⟨-11, by decide, ?_, fun τ A => ?_⟩
    · unfold S8_plansFault; rw [sheetFault8 hI, bnd_s]; unfold shV; rw [if_neg hs, nI_clamp (by omega), if_pos ho, if_neg (by decide)]
    · have k84 : gI τ 84 S = -1 := (A 84 S (by unfold scr; omega)).trans ho
      unfold S9_plansWrong
      rw [in9, bnd_s, if_neg hs]
      simp only [if_pos (inb_nI hS (show 4 < 2 ^ 31 by omega)), nI_clamp (show S < 2 ^ 31 by omega), if_pos k84]
  have e8 := plans8 hI hS hz z8 ho
  by_cases hv : z = n ∧ allP (shR σ S) z = true
  · have v0 : plV n z (shR σ S) = 0 := by unfold plV; rw [if_pos hv]
    refine Or.inr ⟨S, z, hS, rfl, hz, z8, z9, ho, hv.1, by rw [e8, v0], fun τ h1 h2 h3 h4 => ?_⟩
    rw [plans9 hn h1 hS hz h2 (by rw [h3]; exact ho), h4, v0]
  · have v2 : plV n z (shR σ S) = -2 := by unfold plV; rw [if_neg hv]
    refine Or.inl ⟨-2, by decide, by rw [e8, v2], fun τ A => ?_⟩
    have hI' := hI.ag A
    rw [plans9 hn hI'.n9 hS hz ((A 85 S (by unfold scr; omega)).trans z9) (by rw [A 84 S (by unfold scr; omega)]; exact ho), shR_ag A, v2]
theorem same_meet (s m : Int32) : Same (S8_meet s m) (S9_meet s m) := by
  intro n T t σ hI
  have hn := hI.n6
  rcases plansBad hI s with ⟨v, hv, e8, e9⟩ | ⟨S, z, hS, rfl, hz, z8, z9, ho, hzn, e8, e9⟩
  · refine same_rf hI v ?_ ?_
    · unfold S8_meet; rw [e8, bnd_s, if_neg hv]
    · unfold S9_meet; rw [e9 σ Ag.rf, bnd_s, if_neg hv]
  have e9σ := e9 σ hI.n9 z9 rfl rfl
  by_cases hm : in01 m 1 9 = 0
  · refine same_rf hI (-7) ?_ ?_
    · unfold S8_meet
      rw [e8, bnd_s, if_pos rfl]
      rcases in01_f hm with y | y
      · rw [if_pos y]
      · by_cases y0 : m < 1
        · rw [if_pos y0]
        · rw [if_neg y0, if_neg (Int32.not_le.mpr y)]
    · unfold S9_meet; rw [e9σ, bnd_s, if_pos rfl, in9, bnd_s, if_pos hm]
  obtain ⟨m1, m2⟩ := in01_t hm
  by_cases hd : gI σ 75 4 + m ≤ 999
  · obtain ⟨D, rfl, hD⟩ := ex_nIc (a := m) (c := 9) (by omega) (by grind) m2
    obtain ⟨-, -, hrow⟩ := hI.sh hS
    have R0 : R8 1 n σ (stM σ) σ := ⟨fun m j hm hj => by rw [show 1 + 2 + m = 3 + m by omega]; exact hI.men hm j hj, fun m hm => hI.bd hm, fun _ _ _ _ => rfl⟩
    obtain ⟨τ, g1, R1⟩ := days8 (st := 1) (Or.inl rfl) hn hI.t6 hI.l8 (hI.tx hI.tT) hI.n8 hS hD (pl := shR σ S) (fun i hi => hrow i (by omega)) R0
    have F1 : ∀ a b, ¬ scB a b → ¬ (3 ≤ a ∧ a < 9) → gI τ a b = gI σ a b := fun a b h1 h2 => R1.2.2 a b h1 (by omega)
    have G1 : ∀ a b, ¬ (a = 1 ∧ b = 2) → gI (sI τ 1 2 (gI τ 1 2 + nI D)) a b = gI τ a b := fun a b h => by rw [gI_sI, if_neg h]
    have d1 : gI (sI τ 1 2 (gI τ 1 2 + nI D)) 1 2 = gI σ 75 4 + nI D := by rw [gI_sI, if_pos ⟨rfl, rfl⟩, F1 1 2 (by unfold scB; omega) (by omega), hI.d]
    have L1 : S5_leader 1 (sI τ 1 2 (gI τ 1 2 + nI D)) = some (ldI (dayF (txC σ t) (shR σ S) n (stM σ) D) n, sI τ 1 2 (gI τ 1 2 + nI D)) := led8 (Or.inl rfl) hn (by rw [G1 _ _ (by omega), F1 _ _ (by unfold scB; omega) (by omega)]; exact hI.n8) (fun m hm => by rw [G1 _ _ (by omega)]; exact R1.1 m 5 hm (by omega))
    generalize sI τ 1 2 (gI τ 1 2 + nI D) = σ1 at G1 d1 L1 g1
    have H1 : ∀ a b, ¬ scB a b → ¬ (3 ≤ a ∧ a < 9) → ¬ (a = 1 ∧ b = 2) → gI σ1 a b = gI σ a b := fun a b h1 h2 h3 => (G1 a b h3).trans (F1 a b h1 h2)
    have h8 : S8_meet (nI S) (nI D) σ = some (ldI (dayF (txC σ t) (shR σ S) n (stM σ) D) n, σ1) := by
      unfold S8_meet
      rw [e8, bnd_s, if_pos rfl, if_neg m1, if_pos (Int32.not_lt.mp m2), hI.d, if_pos hd, sheetAt8 hS, bnd_s, g1, bnd_s, L1, bnd_s]
    -- the reference
    have st1 : ∀ m, stM σ1 m = stM σ m := stM_fr (fun a b y => H1 a b (by unfold scB; omega) (by omega) (by omega))
    have sh1 : shR σ1 S = shR σ S := funext fun i => H1 86 _ (by unfold scB; omega) (by omega) (by omega)
    have R9' : R9 n σ1 (stM σ) σ1 := ⟨fun m j hm hj => by rw [st1], fun m hm => hI.bd hm, fun _ _ _ _ => rfl⟩
    obtain ⟨σ2, g2, R2⟩ := days9 (σ := σ1) (S := S) (D := D) hn hI.t6 ((H1 75 10 (by unfold scB; omega) (by omega) (by omega)).trans hI.l9) (TxOk_fr hI.t6 (fun a b y => H1 a b (by unfold scB; omega) (by omega) (by omega)) (hI.tx hI.tT)) (txC_fr t (fun a b y => H1 a b (by unfold scB; omega) (by omega) (by omega))) ((H1 75 0 (by unfold scB; omega) (by omega) (by omega)).trans hI.n9) hS hD (pl := shR σ S) (fun i _ => congrFun sh1 i) R9'
    have F2 := R2.2.2
    have d2 : gI σ2 75 4 = gI σ 75 4 := by rw [F2 _ _ (by unfold scN; omega) (by omega), H1 _ _ (by unfold scB; omega) (by omega) (by omega)]
    have G2 : ∀ a b, ¬ (a = 75 ∧ b = 4) → gI (sI σ2 75 4 (gI σ 75 4 + nI D)) a b = gI σ2 a b := fun a b h => by rw [gI_sI, if_neg h]
    have d3 : gI (sI σ2 75 4 (gI σ 75 4 + nI D)) 75 4 = gI σ 75 4 + nI D := by rw [gI_sI, if_pos ⟨rfl, rfl⟩]
    have n2 : gI σ2 75 0 = nI n := by rw [F2 _ _ (by unfold scN; omega) (by omega), H1 _ _ (by unfold scB; omega) (by omega) (by omega)]; exact hI.n9
    have L2 : S9_leads (sI σ2 75 4 (gI σ 75 4 + nI D)) = some (ldI (dayF (txC σ t) (shR σ S) n (stM σ) D) n, sI σ2 75 4 (gI σ 75 4 + nI D)) := led9 hn (by rw [G2 _ _ (by omega)]; exact n2) R2.2.1 (fun m hm => by rw [G2 _ _ (by omega)]; exact R2.1 m 5 hm (by omega))
    have h9 : S9_meet (nI S) (nI D) σ1 = some (ldI (dayF (txC σ t) (shR σ S) n (stM σ) D) n, sI σ2 75 4 (gI σ 75 4 + nI D)) := by
      unfold S9_meet
      rw [e9 σ1 ((H1 75 0 (by unfold scB; omega) (by omega) (by omega)).trans hI.n9) ((H1 85 S (by unfold scB; omega) (by omega) (by omega)).trans z9) (H1 84 S (by unfold scB; omega) (by omega) (by omega)) sh1, bnd_s, if_pos rfl, in9, bnd_s, if_neg hm, H1 75 4 (by unfold scB; omega) (by omega) (by omega), if_pos hd, g2, bnd_s, d2, L2, bnd_s]
    generalize sI σ2 75 4 (gI σ 75 4 + nI D) = σ3 at G2 d3 h9
    have K : ∀ a b, ¬ scB a b → ¬ scN a b → ¬ (3 ≤ a ∧ a < 9) → ¬ (a = 1 ∧ b = 2) → ¬ (a = 78 ∧ b < 30) → ¬ (a = 75 ∧ b = 4) → gI σ3 a b = gI σ a b := fun a b h1 h2 h3 h4 h5 h6 => by rw [G2 a b h6, F2 a b h2 h5]; exact H1 a b h1 h3 h4
    have Ks : ∀ a b, ¬ scr a b → ¬ (3 ≤ a ∧ a < 9) → ¬ (a = 1 ∧ b = 2) → ¬ (a = 78 ∧ b < 30) → ¬ (a = 75 ∧ b = 4) → gI σ3 a b = gI σ a b := fun a b h => K a b (fun y => h (scB_scr a b y)) (fun y => h (scN_scr a b y))
    refine ⟨_, σ1, σ3, h8, h9, n, T, t, ?_⟩
    obtain ⟨⟨hb0, ⟨a1, a2⟩, ⟨a3, a4⟩, ⟨a5, a6⟩, a7⟩, h2, h3, h4, h5, h6, h7⟩ := id hI
    have e3 : ∀ m j, m < n → j < 7 → stM σ3 m j = dayF (txC σ t) (shR σ S) n (stM σ) D m j := fun m j hm hj => by
      rw [stM_fr (fun a b y => G2 a b (by omega))]
      exact R2.1 m j hm hj
    refine ⟨⟨hb0, ⟨by rw [Ks _ _ (by unfold scr; omega) (by omega) (by omega) (by omega) (by omega)]; exact a1, by rw [Ks _ _ (by unfold scr; omega) (by omega) (by omega) (by omega) (by omega)]; exact a2⟩, ⟨by rw [Ks _ _ (by unfold scr; omega) (by omega) (by omega) (by omega) (by omega)]; exact a3, by rw [Ks _ _ (by unfold scr; omega) (by omega) (by omega) (by omega) (by omega)]; exact a4⟩, ⟨by rw [Ks _ _ (by unfold scr; omega) (by omega) (by omega) (by omega) (by omega)]; exact a5, by rw [Ks _ _ (by unfold scr; omega) (by omega) (by omega) (by omega) (by omega)]; exact a6⟩, ?_⟩, fun m hm => ⟨fun j hj => ?_, bdM_cg (fun j hj => (e3 m j hm hj).symm) (R2.2.1 m hm)⟩, fun j hj => TxOk_fr (by omega) (fun a b y => Ks a b (by unfold scr; omega) (by omega) (by omega) (by omega) (by omega)) (h3 j hj), h4.fr (fun a b y => Ks a b (by unfold scr; omega) (by omega) (by omega) (by omega) (by omega)), fun s hs => (h5 s hs).fr hs (fun a b y => Ks a b (by unfold scr; omega) (by omega) (by omega) (by omega) (by omega)), h6.fr (Nat.le_refl _) (Nat.le_refl _) hn (fun a b y => Ks a b (by unfold scr; omega) (by omega) (by omega) (by omega) (by omega)), fun j hj => ?_⟩
    · rw [G2 _ _ (by omega), F2 _ _ (by unfold scN; omega) (by omega), d1, d3]
    · rw [G2 _ _ (by omega), F2 _ _ (by unfold scN; omega) (by omega), G1 _ _ (by omega), e3 m j hm hj, show 3 + m = 1 + 2 + m by omega]
      exact R1.1 m j hm hj
    · rw [Ks 88 j (by unfold scr; omega) (by omega) (by omega) (by omega) (by omega)]; exact h7 j hj
  · refine same_rf hI (-4) ?_ ?_
    · unfold S8_meet
      rw [e8, bnd_s, if_pos rfl, if_neg m1, if_pos (Int32.not_lt.mp m2), hI.d, if_neg hd]
    · unfold S9_meet; rw [e9σ, bnd_s, if_pos rfl, in9, bnd_s, if_neg hm, if_neg hd]
theorem same_run (s m w : Int32) : Same (S8_run s m w) (S9_run s m w) := by
  intro n T t σ hI
  have hn := hI.n6
  rcases plansBad hI s with ⟨v, hv, e8, e9⟩ | ⟨S, z, hS, rfl, hz, z8, z9, ho, hzn, e8, e9⟩
  · refine same_rf hI v ?_ ?_
    · unfold S8_run; rw [e8, bnd_s, if_neg hv]
    · unfold S9_run; rw [e9 σ Ag.rf, bnd_s, if_neg hv]
  have e9σ := e9 σ hI.n9 z9 rfl rfl
  -- the one who is asked for
  have e8r : S8_run (nI S) m w σ = S8_run_40 (nI S) m w (if w < 10 then 0 else has01 n (w - 10)) σ := by
    unfold S8_run S8_run_39
    rw [e8, bnd_s, if_pos rfl]
    by_cases q : w < 10
    · rw [if_pos q, if_pos q]
    · rw [if_neg q, if_neg q, has8 hI.n8, bnd_s]
      rcases has01_or n (w - 10) with y | y
      · rw [y, if_pos rfl]
      · rw [y, if_neg (by decide)]
  have key : (if w < 10 then (0 : Int32) else has01 n (w - 10)) = in01 w 10 (9 + nI n) := by
    unfold in01
    by_cases q : w < 10
    · rw [if_pos q, if_pos q]
    · rw [if_neg q, if_neg q]
      unfold has01
      have h1 : nI n ≤ nI 6 := nI_le hn (by omega)
      have h2 : ¬ nI n < 0 := nI_pos (by omega)
      rw [show nI 6 = (6 : Int32) from rfl] at h1
      rw [if_neg (show ¬ w - 10 < 0 by grind)]
      have e : nI n ≤ w - 10 ↔ 9 + nI n < w := by
        generalize nI n = y at h1 h2 ⊢
        constructor <;> intro <;> grind
      by_cases q2 : 9 + nI n < w
      · rw [if_pos q2, if_pos (e.mpr q2)]
      · rw [if_neg q2, if_neg (fun y => q2 (e.mp y))]
  rw [key] at e8r
  have e9r : ∀ τ, gI τ 75 0 = nI n → gI τ 85 S = nI z → gI τ 84 S = gI σ 84 S → shR τ S = shR σ S → S9_run (nI S) m w τ = if in01 m 0 9 = 0 then some (-7, τ) else if w = 0 then S9_run_48 (nI S) m w τ else if in01 w 10 (9 + nI n) = 0 then some (-7, τ) else S9_run_48 (nI S) m w τ := by
    intro τ h1 h2 h3 h4
    unfold S9_run
    rw [e9 τ h1 h2 h3 h4, bnd_s, if_pos rfl, in9, bnd_s]
    by_cases q : in01 m 0 9 = 0
    · rw [if_pos q, if_pos q]
    · rw [if_neg q, if_neg q]
      by_cases q2 : w = 0
      · rw [if_pos q2, if_pos q2]
      · rw [if_neg q2, if_neg q2, in9, bnd_s, h1]
  by_cases hm : in01 m 0 9 = 0
  · refine same_rf hI (-7) ?_ ?_
    · rw [e8r]
      unfold S8_run_40
      rcases in01_f hm with y | y
      · rw [if_pos y]
      · by_cases y0 : m < 0
        · rw [if_pos y0]
        · rw [if_neg y0, if_pos y]
    · rw [e9r σ hI.n9 z9 rfl rfl, if_pos hm]
  obtain ⟨m1, m2⟩ := in01_t hm
  by_cases hw : w = 0 ∨ ¬ in01 w 10 (9 + nI n) = 0
  · obtain ⟨D, rfl, hD⟩ := ex_nIc (a := m) (c := 9) (by omega) m1 m2
    obtain ⟨-, -, hrow⟩ := hI.sh hS
    -- the class
    obtain ⟨σa, ga, a1, ⟨a2, a3, a4⟩, a5⟩ := stable8 (o := 9) (p := 1) ob9 ob1 (by omega) (by decide +kernel) σ
    have Aa : Ag σ σa := fun a b h => a5 a b (fun y => h (by unfold scr; omega))
    have hIa := hI.ag Aa
    obtain ⟨-, -, hrowa⟩ := hIa.sh hS
    have R0 : R8 9 n σa (stM σ) σa := ⟨fun m j hm hj => by rw [a1 m j (by omega) hj, show 1 + 2 + m = 3 + m by omega]; exact hI.men hm j hj, fun m hm => hI.bd hm, fun _ _ _ _ => rfl⟩
    obtain ⟨τ, g1, R1⟩ := days8 (st := 9) (Or.inr rfl) hn hIa.t6 hIa.l8 (hIa.tx hIa.tT) (a2.trans hI.n8) hS hD (pl := shR σ S) (fun i hi => by rw [hrowa i (by omega)]; exact congrFun (shR_ag Aa S) i) R0
    rw [txC_ag Aa t] at R1
    have F1 : ∀ a b, ¬ scB a b → ¬ (11 ≤ a ∧ a < 17) → gI τ a b = gI σa a b := fun a b h1 h2 => R1.2.2 a b h1 (by omega)
    have Aτ : Ag σ τ := Aa.tr (fun a b h => F1 a b (fun y => h (scB_scr a b y)) (fun y => h (by unfold scr; omega)))
    have G1 : ∀ a b, ¬ (a = 9 ∧ b = 2) → gI (sI τ 9 2 (gI τ 9 2 + nI D)) a b = gI τ a b := fun a b h => by rw [gI_sI, if_neg h]
    have A1 : Ag σ (sI τ 9 2 (gI τ 9 2 + nI D)) := Aτ.sI _ (by unfold scr; omega)
    have L1 : S5_leader 9 (sI τ 9 2 (gI τ 9 2 + nI D)) = some (ldI (dayF (txC σ t) (shR σ S) n (stM σ) D) n, sI τ 9 2 (gI τ 9 2 + nI D)) := led8 (Or.inr rfl) hn (by rw [G1 _ _ (by omega), F1 _ _ (by unfold scB; omega) (by omega)]; exact a2.trans hI.n8) (fun m hm => by rw [G1 _ _ (by omega)]; exact R1.1 m 5 hm (by omega))
    have W1 : ∀ m, m < n → gI (sI τ 9 2 (gI τ 9 2 + nI D)) (9 + 2 + m) 5 = dayF (txC σ t) (shR σ S) n (stM σ) D m 5 := fun m hm => by rw [G1 _ _ (by omega)]; exact R1.1 m 5 hm (by omega)
    generalize sI τ 9 2 (gI τ 9 2 + nI D) = σ1 at A1 L1 g1 W1
    have hI1 := hI.ag A1
    -- the reference: what is kept
    have step1 : ∀ (i f : Nat) (τ : St), i < 30 → ((∀ j, j < i → gI τ 94 j = gI σ1 78 j) ∧ ∀ a b, a ≠ 94 → gI τ a b = gI σ1 a b) → ∃ τ', S9_run_51 (nI S) (nI D) w (f + 1) (nI i) τ = S9_run_51 (nI S) (nI D) w f (nI (i + 1)) τ' ∧ ((∀ j, j < i + 1 → gI τ' 94 j = gI σ1 78 j) ∧ ∀ a b, a ≠ 94 → gI τ' a b = gI σ1 a b) := by
      intro i f τ hi ⟨l1, l2⟩
      refine ⟨sI τ 94 i (gI τ 78 i), ?_, fun j hj => ?_, fun a b h => ?_⟩
      · show B9_run_51 _ _ _ _ _ τ = _
        unfold B9_run_51
        rw [if_neg (show ¬ (30 : Int32) ≤ nI i from nI_ge (b := 30) hi (by omega)), if_pos (inb_nI hi (by omega)), if_pos (inb_nI hi (by omega)), nI_clamp (by omega), nI_1]
      · rw [gI_sI]
        by_cases q : j = i
        · subst q; rw [if_pos ⟨rfl, rfl⟩, l2 78 _ (by omega)]
        · rw [if_neg (by omega)]; exact l1 j (by omega)
      · rw [gI_sI, if_neg (fun y => h y.1)]; exact l2 a b h
    obtain ⟨f1, σ2, e2, l1, l2⟩ := loopR (fun f i τ => S9_run_51 (nI S) (nI D) w f (nI i) τ) 30 (fun i τ => (∀ j, j < i → gI τ 94 j = gI σ1 78 j) ∧ ∀ a b, a ≠ 94 → gI τ a b = gI σ1 a b) step1 30 0 4096 σ1 (by omega) (by omega) ⟨fun j hj => absurd hj (by omega), fun _ _ _ => rfl⟩
    have A2 : Ag σ σ2 := A1.tr (fun a b h => l2 a b (fun y => h (by unfold scr; omega)))
    have hI2 := hI.ag A2
    have R9' : R9 n σ2 (stM σ) σ2 := ⟨fun m j hm hj => by rw [stM_ag A2], fun m hm => hI.bd hm, fun _ _ _ _ => rfl⟩
    obtain ⟨σ3, g3, R3⟩ := days9 (σ := σ2) (S := S) (D := D) hn hI2.t6 hI2.l9 (hI2.tx hI2.tT) (txC_ag A2 t) hI2.n9 hS hD (pl := shR σ S) (fun i _ => congrFun (shR_ag A2 S) i) R9'
    have F3 := R3.2.2
    have n3 : gI σ3 75 0 = nI n := (F3 75 0 (by unfold scN; omega) (by omega)).trans hI2.n9
    have L3 : S9_leads σ3 = some (ldI (dayF (txC σ t) (shR σ S) n (stM σ) D) n, σ3) := led9 hn n3 R3.2.1 (fun m hm => R3.1 m 5 hm (by omega))
    have k94 : ∀ j, j < 30 → gI σ3 94 j = gI σ 78 j := fun j hj => by rw [F3 94 j (by unfold scN; omega) (by omega), l1 j hj]; exact A1 78 j (by unfold scr; omega)
    -- as it was
    have step2 : ∀ (v : Int32) (i f : Nat) (τ : St), i < 30 → ((∀ j, j < i → gI τ 78 j = gI σ 78 j) ∧ ∀ a b, ¬ (a = 78 ∧ b < 30) → gI τ a b = gI σ3 a b) → ∃ τ', S9_run_113 (nI S) (nI D) w (f + 1) v (nI i) τ = S9_run_113 (nI S) (nI D) w f v (nI (i + 1)) τ' ∧ ((∀ j, j < i + 1 → gI τ' 78 j = gI σ 78 j) ∧ ∀ a b, ¬ (a = 78 ∧ b < 30) → gI τ' a b = gI σ3 a b) := by
      intro v i f τ hi ⟨l1, l2⟩
      refine ⟨sI τ 78 i (gI τ 94 i), ?_, fun j hj => ?_, fun a b h => ?_⟩
      · show B9_run_113 _ _ _ _ _ _ τ = _
        unfold B9_run_113
        rw [if_neg (show ¬ (30 : Int32) ≤ nI i from nI_ge (b := 30) hi (by omega)), if_pos (inb_nI hi (by omega)), if_pos (inb_nI hi (by omega)), nI_clamp (by omega), nI_1]
      · rw [gI_sI]
        by_cases q : j = i
        · subst q; rw [if_pos ⟨rfl, rfl⟩, l2 94 _ (by omega)]; exact k94 _ hi
        · rw [if_neg (by omega)]; exact l1 j (by omega)
      · rw [gI_sI, if_neg (by omega)]; exact l2 a b h
    have rest : ∀ v, ∃ σ4, S9_run_108 (nI S) (nI D) w v σ3 = some (v, σ4) ∧ Ag σ σ4 := by
      intro v
      obtain ⟨f2, σ4, e4, p1, p2⟩ := loopR (fun f i τ => S9_run_113 (nI S) (nI D) w f v (nI i) τ) 30 (fun i τ => (∀ j, j < i → gI τ 78 j = gI σ 78 j) ∧ ∀ a b, ¬ (a = 78 ∧ b < 30) → gI τ a b = gI σ3 a b) (step2 v) 30 0 4096 σ3 (by omega) (by omega) ⟨fun j hj => absurd hj (by omega), fun _ _ _ => rfl⟩
      refine ⟨σ4, ?_, fun a b h => ?_⟩
      · unfold S9_run_108
        rw [show S9_run_113 (nI S) (nI D) w 4096 v (0 : Int32) σ3 = _ from e4]
        show B9_run_113 _ _ _ _ _ _ σ4 = _
        unfold B9_run_113
        rw [if_pos (show (30 : Int32) ≤ nI 30 by decide)]
      · by_cases q : a = 78 ∧ b < 30
        · rw [q.1]; exact p1 b q.2
        · rw [p2 a b q, F3 a b (fun y => h (scN_scr a b y)) q]; exact A2 a b h
    have u9 : ∀ v, (if w = 0 then ldI (dayF (txC σ t) (shR σ S) n (stM σ) D) n = v else ∃ k, k < n ∧ w - 10 = nI k ∧ dayF (txC σ t) (shR σ S) n (stM σ) D k 5 = v) → ∃ σ4, S9_run_48 (nI S) (nI D) w σ1 = some (v, σ4) ∧ Ag σ σ4 := by
      intro v hv
      obtain ⟨σ4, g4, A4⟩ := rest v
      refine ⟨σ4, ?_, A4⟩
      unfold S9_run_48
      rw [show S9_run_51 (nI S) (nI D) w 4096 (0 : Int32) σ1 = _ from e2]
      show B9_run_51 _ _ _ _ _ σ2 = _
      unfold B9_run_51
      rw [if_pos (show (30 : Int32) ≤ nI 30 by decide), g3, bnd_s]
      by_cases q : w = 0
      · rw [if_pos q] at hv ⊢
        rw [L3, bnd_s, hv]; exact g4
      · rw [if_neg q] at hv ⊢
        obtain ⟨k, hk, hwk, hkv⟩ := hv
        have e3 : (5 : Int32) * nI k + 3 = nI (5 * k + 3) := by rw [show (5 : Int32) = nI 5 from rfl, nI_mul, show (3 : Int32) = nI 3 from rfl, nI_add]
        rw [hwk, e3, if_pos (inb_nI (by omega) (by omega)), nI_clamp (by omega), show gI σ3 78 (5 * k + 3) = v from (R3.1 k 5 hk (by omega)).trans hkv]
        exact g4
    have sh1 := shR_ag A1 S
    have e9' := e9r σ1 hI1.n9 ((A1 85 S (by unfold scr; omega)).trans z9) (A1 84 S (by unfold scr; omega)) sh1
    rw [if_neg hm] at e9'
    by_cases q : w = 0
    · obtain ⟨σ4, g4, A4⟩ := u9 (ldI (dayF (txC σ t) (shR σ S) n (stM σ) D) n) (by rw [if_pos q])
      refine ⟨ldI (dayF (txC σ t) (shR σ S) n (stM σ) D) n, σ1, σ4, ?_, ?_, n, T, t, hI.ag A4⟩
      · rw [e8r]
        unfold S8_run_40 S8_run_64
        have e0 : in01 w 10 (9 + nI n) = 0 := by unfold in01; rw [q, if_pos (by decide)]
        rw [if_neg m1, if_neg m2, if_pos q, e0, ga, bnd_s, sheetAt8 hS, bnd_s, g1, bnd_s, if_pos rfl, L1, bnd_s]
      · rw [e9', if_pos q]; exact g4
    · have hin := hw.resolve_left q
      have hx : ¬ has01 n (w - 10) = 0 ∧ ¬ w < 10 := by
        rw [← key] at hin
        by_cases y : w < 10
        · rw [if_pos y] at hin; exact absurd rfl hin
        · rw [if_neg y] at hin; exact ⟨hin, y⟩
      obtain ⟨k, hk, hwk⟩ := has01_t hn hx.1
      obtain ⟨σ4, g4, A4⟩ := u9 (dayF (txC σ t) (shR σ S) n (stM σ) D k 5) (by rw [if_neg q]; exact ⟨k, hk, hwk, rfl⟩)
      refine ⟨dayF (txC σ t) (shR σ S) n (stM σ) D k 5, σ1, σ4, ?_, ?_, n, T, t, hI.ag A4⟩
      · rw [e8r]
        unfold S8_run_40 S8_run_64
        rw [if_neg m1, if_neg m2, if_neg q, if_neg hin, ga, bnd_s, sheetAt8 hS, bnd_s, g1, bnd_s, if_neg hin, hwk, at8 ob9 (by omega), bnd_s, W1 k hk]
      · rw [e9', if_neg q, if_neg hin]; exact g4
  · have w0 : ¬ w = 0 := fun y => hw (Or.inl y)
    have wi : in01 w 10 (9 + nI n) = 0 := Decidable.byContradiction fun y => hw (Or.inr y)
    refine same_rf hI (-7) ?_ ?_
    · rw [e8r]
      unfold S8_run_40
      rw [if_neg m1, if_neg m2, if_neg w0, if_pos wi]
    · rw [e9r σ hI.n9 z9 rfl rfl, if_neg hm, if_neg w0, if_pos wi]
