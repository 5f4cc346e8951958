/-! The call `text`. -/
theorem TxOk.far {σ σ' : St} {t : Nat} (h81 : ∀ p, p < 4 → gI σ' 81 (4 * t + p) = gI σ 81 (4 * t + p)) (h51 : ∀ k, gI σ' (51 + 3 * t) k = gI σ (51 + 3 * t) k) (h50 : ∀ k, gI σ' (50 + 3 * t) k = gI σ (50 + 3 * t) k) (h80 : ∀ k, k < 200 → gI σ' 80 (200 * t + k) = gI σ 80 (200 * t + k)) (hT : TxOk σ t) : TxOk σ' t := by
  obtain ⟨b, b0, bm, b3, m1, m2, m3, m4⟩ := hT
  have h0 : b 0 ≤ b 1 := bm 0 (by omega)
  have h1 : b 1 ≤ b 2 := bm 1 (by omega)
  have h2 : b 2 ≤ b 3 := bm 2 (by omega)
  refine ⟨b, b0, bm, b3, fun p hp => ?_, fun p hp => ?_, fun k hk => ?_, fun p hp => ?_⟩
  · rw [h81 p hp]; exact m1 p hp
  · rw [h51]; exact m2 p hp
  · rw [h50, h80 k (by omega)]; exact m3 k hk
  · have hpb : b p + (b (p + 1) - b p) ≤ 160 := by
      have : p = 0 ∨ p = 1 ∨ p = 2 := by omega
      rcases this with rfl | rfl | rfl
      · show b 0 + (b 1 - b 0) ≤ 160; omega
      · show b 1 + (b 2 - b 1) ≤ 160; omega
      · show b 2 + (b 3 - b 2) ≤ 160; omega
    rw [cds_fr t _ _ (fun k _ k2 => h80 k (by omega))]; exact m4 p hp
theorem inv_text {n T t T' : Nat} {σ σ2 : St} (hI : Inv n T t σ) (hT5 : T < 6) (k : ∀ a k, ¬ a = 26 → ¬ (49 + 3 * T ≤ a ∧ a ≤ 51 + 3 * T) → ¬ (a = 75 ∧ (k = 6 ∨ k = 9 ∨ 18 ≤ k)) → ¬ a = 89 → ¬ (a = 80 ∧ 200 * T ≤ k) → ¬ (a = 81 ∧ 4 * T ≤ k) → ¬ (a = 0 ∧ k = 9) → gI σ2 a k = gI σ a k) (h26 : gI σ2 26 1 = 0) (h756 : gI σ2 75 6 = 0) (hT : T ≤ T' ∧ T' ≤ 6) (hT' : ∀ j, T ≤ j → j < T' → TxOk σ2 j) (e8 : gI σ2 0 9 = nI T') (e9 : gI σ2 75 9 = nI T') : Inv n T' t σ2 := by
  have hT6 := hI.T6
  have hn6 := hI.n6
  have htT := hI.tT
  obtain ⟨h1, h2, h3, h4, h5, h6, h7⟩ := hI
  refine ⟨?_, h2.fr hn6 (fun a b z => k a b (by omega) (by omega) (by omega) (by omega) (by omega) (by omega) (by omega)), fun j hj => ?_, ?_, fun s hs => (h5 s hs).fr hs (fun a b z => k a b (by omega) (by omega) (by omega) (by omega) (by omega) (by omega) (by omega)), h6.fr (Nat.le_refl _) hT.1 hn6 (fun a b z => k a b (by omega) (by omega) (by omega) (by omega) (by omega) (by omega) (by omega)), fun j hj => ?_⟩
  · obtain ⟨⟨g1, g2, g3⟩, ⟨g4, g5⟩, -, ⟨g6, g7⟩, g8⟩ := h1
    have K : ∀ a b, (a = 1 ∧ 1 ≤ b ∧ b ≤ 3) ∨ (a = 75 ∧ (b = 0 ∨ b = 4 ∨ b = 10)) → gI σ2 a b = gI σ a b := fun a b z => k a b (by omega) (by omega) (by omega) (by omega) (by omega) (by omega) (by omega)
    refine ⟨⟨g1, hT.2, by omega⟩, ⟨(K 1 1 (by omega)).trans g4, (K 75 0 (by omega)).trans g5⟩, ⟨e8, e9⟩, ⟨(K 1 3 (by omega)).trans g6, (K 75 10 (by omega)).trans g7⟩, ?_⟩
    rw [K 1 2 (by omega), K 75 4 (by omega)]; exact g8
  · by_cases q : j < T
    · exact (h3 j q).far (fun p hp => k _ _ (by omega) (by omega) (by omega) (by omega) (by omega) (by omega) (by omega)) (fun i => k _ _ (by omega) (by omega) (by omega) (by omega) (by omega) (by omega) (by omega)) (fun i => k _ _ (by omega) (by omega) (by omega) (by omega) (by omega) (by omega) (by omega)) (fun i hi => k _ _ (by omega) (by omega) (by omega) (by omega) (by omega) (by omega) (by omega))
    · exact hT' j (by omega) hj
  · exact ⟨0, by omega, h26, h756, fun i hi => absurd hi (by omega)⟩
  · rw [k 88 j (by omega) (by omega) (by omega) (by omega) (by omega) (by omega) (by omega)]; exact h7 j hj
theorem TX.ok {t : Nat} {σ σ' : St} (h : TX t σ σ') (h51 : ∀ k, gI σ' (51 + 3 * t) k = gI σ (51 + 3 * t) k) (h50 : ∀ k, gI σ' (50 + 3 * t) k = gI σ (50 + 3 * t) k) : TxOk σ' t := by
  obtain ⟨b, b0, bm, b3, m1, m2, m3, m4⟩ := h
  refine ⟨b, b0, bm, b3, m1, fun p hp => ?_, fun k hk => ?_, m4⟩
  · rw [h51]; exact m2 p hp
  · rw [h50]; exact m3 k hk
theorem tape_n {σ : St} {s : Nat} (h : ∀ k, k < s → gI σ 27 k = gI σ 79 k ∧ 0 ≤ gI σ 79 k ∧ gI σ 79 k ≤ 255) : ∃ b : Nat → Nat, (∀ k, k < s → b k ≤ 255) ∧ ∀ k, k < s → gI σ 27 k = nI (b k) ∧ gI σ 79 k = nI (b k) := by
  have h' : ∀ k, ∃ m : Nat, k < s → m ≤ 255 ∧ gI σ 27 k = nI m ∧ gI σ 79 k = nI m := by
    intro k
    by_cases q : k < s
    · obtain ⟨h1, h2, h3⟩ := h k q
      obtain ⟨m, m1, m2⟩ := ex_nIc (a := gI σ 79 k) (c := 255) (by omega) (Int32.not_lt.mpr h2) (Int32.not_lt.mpr h3)
      exact ⟨m, fun _ => ⟨m2, h1.trans m1, m1⟩⟩
    · exact ⟨0, fun y => absurd y q⟩
  exact ⟨fun k => (h' k).choose, fun k hk => ((h' k).choose_spec hk).1, fun k hk => ((h' k).choose_spec hk).2⟩
theorem same_text : Same S8_text S9_text := by
  intro n T t σ hI
  have hT6 := hI.T6
  by_cases h6 : T = 6
  · refine same_rf hI (-4) ?_ ?_
    · unfold S8_text; rw [hI.T8, h6, if_neg (by decide)]
    · unfold S9_text; rw [hI.T9, h6, if_pos (show nI 6 = (6 : Int32) from rfl)]
  have ht : T < 6 := by omega
  obtain ⟨s, hs, t1, t2, t3⟩ := hI.tp
  obtain ⟨b, hb, tb⟩ := tape_n t3
  have h8 : TC b s σ := ⟨t1, fun k hk => (tb k hk).1⟩
  have H : ∀ τ : St, (∀ x y, (x = 75 ∧ (y = 6 ∨ y = 9)) ∨ x = 79 ∨ x = 88 → gI τ x y = gI σ x y) → TR b s τ ∧ gI τ 75 9 = nI T := fun τ h => ⟨⟨(h 75 6 (by omega)).trans t2, fun k hk => (h 79 k (by omega)).trans (tb k hk).2, fun k hk => (h 88 k (by omega)).trans (hI.wd k hk)⟩, (h 75 9 (by omega)).trans hI.T9⟩
  have e8 : S8_text σ = bnd (S1_readInto (49 + 3 * T) σ) fun r17 σ16 => if r17 < 0 then some (gI (sI (sI σ16 26 1 0) 0 9 (gI (sI σ16 26 1 0) 0 9 + 1)) 0 9 - 1, sI (sI σ16 26 1 0) 0 9 (gI (sI σ16 26 1 0) 0 9 + 1)) else some (-100 - r17, sI σ16 26 1 0) := by
    unfold S8_text
    rw [hI.T8, if_pos (show nI T < (6 : Int32) from nI_lt (b := 6) ht (by omega)), textAt8 ht, bnd_s]; rfl
  have e9 : ∀ τ, gI τ 75 9 = nI T → S9_text τ = S9_text_26 4096 1 0 (sI (sI τ 75 18 0) 75 26 0) := fun τ h => by
    unfold S9_text
    rw [h, if_neg (show ¬ nI T = (6 : Int32) from fun z => h6 ((nI_inj (b := 6) (by omega) (by omega)).mp z))]
  obtain ⟨r1, r2⟩ := H σ (fun _ _ _ => rfl)
  rcases core_ok hs hb ht h8 r1 r2 with ⟨q, σ8', -, a1, a2, a3, -⟩ | ⟨σ8', -, a1, a3, -⟩
  · -- a fault
    have f1 : ∀ x y, ¬ x = 26 → ¬ (49 + 3 * T ≤ x ∧ x ≤ 51 + 3 * T) → gI (sI σ8' 26 1 0) x y = gI σ x y := fun x y z1 z2 => by
      rw [gI_sI, if_neg (by omega)]; exact a3.1 x y (by unfold fT8; omega)
    obtain ⟨r1, r2⟩ := H (sI σ8' 26 1 0) (fun x y z => f1 x y (by omega) (by omega))
    have hq : ¬ nI q < 0 := nI_pos (by omega)
    have g8 : S8_text σ = some (-100 - nI q, sI σ8' 26 1 0) := by rw [e8, a1, bnd_s, if_neg hq]
    rcases core_ok hs hb ht h8 r1 r2 with ⟨q', σx, σ9', b1, b2, b3, b4, b5, b6⟩ | ⟨σx, σ9', b1, -⟩
    · have hqq : nI q = nI q' := congrArg Prod.fst (Option.some.inj (a1.symm.trans b1))
      refine ⟨-100 - nI q, _, σ9', g8, by rw [e9 _ r2, hqq]; exact b4, n, T, t, ?_⟩
      refine inv_text (T' := T) hI ht (fun x y z1 z2 z3 z4 z5 z6 z7 => ?_) ?_ b6 ⟨Nat.le_refl _, hT6⟩ (fun j j1 j2 => absurd j2 (by omega)) ?_ ?_
      · rw [b5.1 x y (by unfold fT9 fE; omega)]; exact f1 x y z1 z2
      · rw [b5.1 26 1 (by unfold fT9 fE; omega), gI_sI, if_pos ⟨rfl, rfl⟩]
      · rw [b5.1 0 9 (by unfold fT9 fE; omega), f1 0 9 (by omega) (by omega)]; exact hI.T8
      · rw [b5.1 75 9 (by unfold fT9 fE; omega)]; exact r2
    · have := congrArg Prod.fst (Option.some.inj (a1.symm.trans b1))
      have hm : nI q = -1 := this
      rw [hm] at hq
      exact absurd (by decide) hq
  · -- a text more
    have k9 : gI (sI σ8' 26 1 0) 0 9 = nI T := by
      rw [gI_sI, if_neg (by omega), a3.1 0 9 (by unfold fT8; omega)]; exact hI.T8
    have f1 : ∀ x y, ¬ x = 26 → ¬ (49 + 3 * T ≤ x ∧ x ≤ 51 + 3 * T) → ¬ (x = 0 ∧ y = 9) → gI (sI (sI σ8' 26 1 0) 0 9 (nI (T + 1))) x y = gI σ x y := fun x y z1 z2 z3 => by
      rw [gI_sI, if_neg (by omega), gI_sI, if_neg (by omega)]; exact a3.1 x y (by unfold fT8; omega)
    obtain ⟨r1, r2⟩ := H (sI (sI σ8' 26 1 0) 0 9 (nI (T + 1))) (fun x y z => f1 x y (by omega) (by omega) (by omega))
    have g8 : S8_text σ = some (nI T, sI (sI σ8' 26 1 0) 0 9 (nI (T + 1))) := by
      rw [e8, a1, bnd_s, if_pos (by decide), k9, nI_1, gI_sI, if_pos ⟨rfl, rfl⟩, nI_pred]
    rcases core_ok hs hb ht h8 r1 r2 with ⟨q, σx, σ9', b1, b2, -⟩ | ⟨σx, σ9', b1, b3, b4, b5, b6, b7, b8⟩
    · have := congrArg Prod.fst (Option.some.inj (a1.symm.trans b1))
      have hm : (-1 : Int32) = nI q := this
      have hq : ¬ nI q < 0 := nI_pos (by omega)
      rw [← hm] at hq
      exact absurd (by decide) hq
    · have hx : σx = σ8' := (congrArg Prod.snd (Option.some.inj (a1.symm.trans b1))).symm
      rw [hx] at b8
      have hT' : TxOk σ9' T := b8.ok (fun k => by rw [b5.1 _ _ (by unfold fS9 fT9 fE; omega), gI_sI, if_neg (by omega), gI_sI, if_neg (by omega)]) (fun k => by rw [b5.1 _ _ (by unfold fS9 fT9 fE; omega), gI_sI, if_neg (by omega), gI_sI, if_neg (by omega)])
      refine ⟨nI T, _, σ9', g8, by rw [e9 _ r2]; exact b4, n, T + 1, t, ?_⟩
      refine inv_text (T' := T + 1) hI ht (fun x y z1 z2 z3 z4 z5 z6 z7 => ?_) ?_ b6 ⟨by omega, by omega⟩ (fun j j1 j2 => by rw [show j = T by omega]; exact hT') ?_ b7
      · rw [b5.1 x y (by unfold fS9 fT9 fE; omega)]; exact f1 x y z1 z2 z7
      · rw [b5.1 26 1 (by unfold fS9 fT9 fE; omega), gI_sI, if_neg (by omega), gI_sI, if_pos ⟨rfl, rfl⟩]
      · rw [b5.1 0 9 (by unfold fS9 fT9 fE; omega), gI_sI, if_pos ⟨rfl, rfl⟩]
