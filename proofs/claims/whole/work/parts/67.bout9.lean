/-! The reference's bout. -/
def scM (a b : Nat) : Prop := (a = 90 ∨ a = 91 ∨ a = 92 ∨ a = 93) ∨ (a = 75 ∧ (b = 35 ∨ b = 36))
def CaM (F : Int32 → Int32 → Int32 → Int32) (z : Nat) (σ : St) : Prop := ∀ a h c : Nat, a < 4 → h < 4 → c < 9 → gI σ 92 (144 * z + 36 * a + 9 * h + c) = -1 ∨ gI σ 92 (144 * z + 36 * a + 9 * h + c) = F (nI a) (nI h) (nI c)
def PMi (F1 F2 : Int32 → Int32 → Int32 → Int32) (W E : Int32) (t m1 m2 : Nat) (σ : St) : Prop :=
  (gI σ 75 29 = nI m1 ∧ gI σ 75 30 = nI m2 ∧ gI σ 75 10 = nI t) ∧ (m1 < 6 ∧ m2 < 6 ∧ t < 6 ∧ TxOk σ t) ∧ (strF (txC σ t) (stM σ m1) = F1 ∧ strF (txC σ t) (stM σ m2) = F2) ∧ (CaM F1 0 σ ∧ CaM F2 1 σ) ∧ gI σ 75 32 = W ∧ gI σ 75 33 = E
theorem PMi.keep {F1 F2 : Int32 → Int32 → Int32 → Int32} {W E : Int32} {t m1 m2 : Nat} {σ σ' : St} (h : PMi F1 F2 W E t m1 m2 σ) (hf : ∀ a b, ¬ scM a b → gI σ' a b = gI σ a b) (c1 : CaM F1 0 σ') (c2 : CaM F2 1 σ') : PMi F1 F2 W E t m1 m2 σ' := by
  obtain ⟨⟨r1, r2, r3⟩, ⟨o1, o2, ht, hT⟩, ⟨s1, s2⟩, -, hW, hE⟩ := h
  have hst : ∀ m, stM σ' m = stM σ m := stM_fr (fun a b z => hf a b (by unfold scM; omega))
  refine ⟨⟨by rw [hf _ _ (by unfold scM; omega)]; exact r1, by rw [hf _ _ (by unfold scM; omega)]; exact r2, by rw [hf _ _ (by unfold scM; omega)]; exact r3⟩, ⟨o1, o2, ht, TxOk_fr ht (fun a b z => hf a b (by unfold scM; omega)) hT⟩, ?_, ⟨c1, c2⟩, ?_, ?_⟩
  · rw [txC_fr t (fun a b z => hf a b (by unfold scM; omega)), hst, hst]
    exact ⟨s1, s2⟩
  · rw [hf 75 32 (by unfold scM; omega)]; exact hW
  · rw [hf 75 33 (by unfold scM; omega)]; exact hE
theorem CaM.fr {F : Int32 → Int32 → Int32 → Int32} {z : Nat} {σ σ' : St} (h : CaM F z σ) (hf : ∀ b, gI σ' 92 b = gI σ 92 b) : CaM F z σ' := fun a b c ha hb hc => by rw [hf]; exact h a b c ha hb hc
theorem strength9 {σ : St} {z m t a h c : Nat} {F G : Int32 → Int32 → Int32 → Int32} (hz : z < 2) (ht : t < 6) (hm : m < 6) (hT : TxOk σ t) (hr : gI σ 75 10 = nI t) (hs : gI σ 75 (29 + z) = nI m) (hF : strF (txC σ t) (stM σ m) = F) (hC : CaM F z σ) (hG : CaM G (1 - z) σ) (ha : a < 4) (hh : h < 4) (hc : c < 9) :
    ∃ σ', S9_strengthOf (nI z) (nI a) (nI h) (nI c) σ = some (F (nI a) (nI h) (nI c), σ') ∧ Fr (fun x _ => x = 90 ∨ x = 91 ∨ x = 92) noR σ σ' ∧ CaM F z σ' ∧ CaM G (1 - z) σ' := by
  have hix : 144 * z + 36 * a + 9 * h + c < 288 := by omega
  have e0 : (144 : Int32) * nI z = nI (144 * z) := nI_mul 144 z
  have e1 : (36 : Int32) * nI a = nI (36 * a) := nI_mul 36 a
  have e2 : (9 : Int32) * nI h = nI (9 * h) := nI_mul 9 h
  have e3 : nI (144 * z) + nI (36 * a) = nI (144 * z + 36 * a) := nI_add _ _
  have e4 : nI (144 * z + 36 * a) + nI (9 * h) = nI (144 * z + 36 * a + 9 * h) := nI_add _ _
  have e5 : nI (144 * z + 36 * a + 9 * h) + nI c = nI (144 * z + 36 * a + 9 * h + c) := nI_add _ _
  have i5 : (5 : Int32) * nI m = nI (5 * m) := nI_mul 5 m
  have i2 : nI (5 * m) + (2 : Int32) = nI (5 * m + 2) := nI_add _ 2
  -- reckoned anew
  have new : ∃ σ', S9_strengthOf_46 (nI z) (nI a) (nI h) (nI c) (nI m) σ = some (F (nI a) (nI h) (nI c), σ') ∧ Fr (fun x _ => x = 90 ∨ x = 91 ∨ x = 92) noR σ σ' ∧ CaM F z σ' ∧ CaM G (1 - z) σ' := by
    obtain ⟨σ1, s1, f1⟩ := says9 (p := 0) (act := nI a) (his := nI h) (cell := nI c) ht (by omega) hm hr hT
    have g76 : gI σ1 76 m = gI σ 76 m := f1.1 _ _ (by omega)
    have g77 : gI σ1 77 m = gI σ 77 m := f1.1 _ _ (by omega)
    have g78 : gI σ1 78 (5 * m + 2) = gI σ 78 (5 * m + 2) := f1.1 _ _ (by omega)
    have hv : jmax 0 (forceF (gI σ 76 m) (gI σ 77 m) (sayF (txC σ t 0) 0 (envS (stM σ m) (nI a) (nI h) (nI c))) (nI a) (nI h) - gI σ 78 (5 * m + 2)) = F (nI a) (nI h) (nI c) := by rw [← hF]; rfl
    have wr : ∀ v, v = F (nI a) (nI h) (nI c) → ∃ σ', S9_strengthOf_98 (nI z) (nI a) (nI h) (nI c) v σ1 = some (F (nI a) (nI h) (nI c), σ') ∧ Fr (fun x _ => x = 90 ∨ x = 91 ∨ x = 92) noR σ σ' ∧ CaM F z σ' ∧ CaM G (1 - z) σ' := by
      intro v hv
      subst hv
      unfold S9_strengthOf_98 S9_strengthOf_99
      simp only [e0, e1, e2, e3, e4, e5, if_pos (inb_nI hix (show 288 < 2 ^ 31 by omega)), nI_clamp (show 144 * z + 36 * a + 9 * h + c < 2 ^ 31 by omega)]
      refine ⟨sI σ1 92 (144 * z + 36 * a + 9 * h + c) (F (nI a) (nI h) (nI c)), ?_, ?_, ?_, ?_⟩
      · rw [gI_sI, if_pos ⟨rfl, rfl⟩]
      · exact (f1.mo (fun x _ z => by omega) (fun _ _ z => z)).sI _ (Or.inr (Or.inr rfl))
      · intro a' h' c' ha' hh' hc'
        rw [gI_sI]
        by_cases q : 144 * z + 36 * a' + 9 * h' + c' = 144 * z + 36 * a + 9 * h + c
        · have q1 : a' = a := by omega
          have q2 : h' = h := by omega
          have q3 : c' = c := by omega
          subst q1; subst q2; subst q3
          rw [if_pos ⟨rfl, rfl⟩]
          exact Or.inr rfl
        · rw [if_neg (fun z => q z.2), f1.1 92 _ (by omega)]
          exact hC a' h' c' ha' hh' hc'
      · intro a' h' c' ha' hh' hc'
        rw [gI_sI, if_neg (by omega), f1.1 92 _ (by omega)]
        exact hG a' h' c' ha' hh' hc'
    unfold S9_strengthOf_46
    rw [show S9_asksOf (0 : Int32) (nI m) (nI a) (nI h) (nI c) σ = _ from s1, bnd_s, forces9 m hm, bnd_s, g76, g77]
    simp only [i5, i2, if_pos (inb_nI (show 5 * m + 2 < 30 by omega) (show 30 < 2 ^ 31 by omega)), nI_clamp (show 5 * m + 2 < 2 ^ 31 by omega), g78]
    unfold jmax at hv
    split
    · next q =>
      refine wr _ ?_
      rw [← hv]
      split
      · rfl
      · next q2 => grind
    · next q =>
      refine wr _ ?_
      rw [← hv]
      split
      · next q2 => grind
      · rfl
  unfold S9_strengthOf S9_strengthOf_99
  simp only [e0, e1, e2, e3, e4, e5, if_pos (inb_nI hix (show 288 < 2 ^ 31 by omega)), nI_clamp (show 144 * z + 36 * a + 9 * h + c < 2 ^ 31 by omega)]
  by_cases hk : gI σ 92 (144 * z + 36 * a + 9 * h + c) = -1
  · rw [if_pos hk]
    match z, hz, hs with
    | 0, _, hs =>
      rw [if_pos (show nI 0 = (0 : Int32) from rfl), show gI σ 75 29 = nI m from hs]
      exact new
    | 1, _, hs =>
      rw [if_neg (show ¬ nI 1 = (0 : Int32) by decide), show gI σ 75 30 = nI m from hs]
      exact new
  · rw [if_neg hk]
    refine ⟨σ, ?_, Fr.rf, hC, hG⟩
    rw [(hC a h c ha hh hc).resolve_left hk]
/-- who wins -/
def winM (σ : St) (c : Int32) : Int32 := if c ≤ 4 then (if 4 ≤ c then -1 else gI σ 75 30) else gI σ 75 29
theorem winM_fr {σ σ' : St} (h1 : gI σ' 75 29 = gI σ 75 29) (h2 : gI σ' 75 30 = gI σ 75 30) (c : Int32) : winM σ' c = winM σ c := by
  unfold winM
  rw [h1, h2]
theorem go9_loop {F1 F2 : Int32 → Int32 → Int32 → Int32} {W E st pa pb : Int32} {t0 m1 m2 : Nat} (hF1 : smallF F1) (hF2 : smallF F2) (hs1 : 1 ≤ st) (hs2 : st ≤ 7) : ∀ (d t f : Nat) (σ : St) (x4 x5 x6 : Int32), t + d = 9 → d < f → PMi F1 F2 W E t0 m1 m2 σ →
    (((btS F1 F2 W E st pa pb t).1 ≤ 0 ∨ 8 ≤ (btS F1 F2 W E st pa pb t).1) → x6 = 1 ∧ gI σ 75 35 = winM σ (btS F1 F2 W E st pa pb t).1) → (¬ ((btS F1 F2 W E st pa pb t).1 ≤ 0 ∨ 8 ≤ (btS F1 F2 W E st pa pb t).1) → x6 = 0 ∧ x4 = (btS F1 F2 W E st pa pb t).2.1 ∧ x5 = (btS F1 F2 W E st pa pb t).2.2.1 ∧ (btS F1 F2 W E st pa pb t).2.2.2 = nI t) →
    (∀ i, i ≤ t → gI σ 93 i = (btS F1 F2 W E st pa pb i).1) → gI σ 75 36 = (btS F1 F2 W E st pa pb t).2.2.2 →
    ∃ σ', S9_bouts_34 pa pb f (btS F1 F2 W E st pa pb t).1 x4 x5 x6 (nI t) σ = some ((), σ') ∧ Fr scM noR σ σ' ∧ PMi F1 F2 W E t0 m1 m2 σ' ∧ (∀ i, i ≤ 9 → gI σ' 93 i = (btS F1 F2 W E st pa pb i).1) ∧ gI σ' 75 36 = (btS F1 F2 W E st pa pb 9).2.2.2 ∧ gI σ' 75 35 = winM σ' (btS F1 F2 W E st pa pb 9).1 := by
  intro d
  induction d with
  | zero =>
    intro t f σ x4 x5 x6 ht hf hP ho hn hc hs
    obtain ⟨f, rfl⟩ : ∃ z, f = z + 1 := ⟨f - 1, by omega⟩
    have ht : t = 9 := ht
    subst ht
    show ∃ σ', B9_bouts_34 _ _ _ _ _ _ _ _ σ = _ ∧ _
    unfold B9_bouts_34 S9_bouts_303
    rw [if_pos (show (9 : Int32) ≤ nI 9 by decide)]
    by_cases hov : (btS F1 F2 W E st pa pb 9).1 ≤ 0 ∨ 8 ≤ (btS F1 F2 W E st pa pb 9).1
    · obtain ⟨q1, q2⟩ := ho hov
      rw [q1, if_neg (by decide)]
      exact ⟨σ, rfl, Fr.rf, hP, hc, hs, q2⟩
    · obtain ⟨q1, q2, q3, -⟩ := hn hov
      rw [q1, if_pos rfl]
      have fin : ∀ v, v = winM σ (btS F1 F2 W E st pa pb 9).1 → ∃ σ', (some ((), sI σ 75 35 v) : Option (Unit × St)) = some ((), σ') ∧ Fr scM noR σ σ' ∧ PMi F1 F2 W E t0 m1 m2 σ' ∧ (∀ i, i ≤ 9 → gI σ' 93 i = (btS F1 F2 W E st pa pb i).1) ∧ gI σ' 75 36 = (btS F1 F2 W E st pa pb 9).2.2.2 ∧ gI σ' 75 35 = winM σ' (btS F1 F2 W E st pa pb 9).1 := by
        intro v hv
        have f1 : Fr scM noR σ (sI σ 75 35 v) := Fr.rf.sI _ (Or.inr (by omega))
        refine ⟨_, rfl, f1, hP.keep f1.1 (hP.2.2.2.1.1.fr fun b => by rw [gI_sI, if_neg (by omega)]) (hP.2.2.2.1.2.fr fun b => by rw [gI_sI, if_neg (by omega)]), fun i hi => ?_, ?_, ?_⟩
        · rw [gI_sI, if_neg (by omega)]; exact hc i hi
        · rw [gI_sI, if_neg (by omega)]; exact hs
        · rw [gI_sI, if_pos ⟨rfl, rfl⟩, hv]
          exact (winM_fr (by rw [gI_sI, if_neg (by omega)]) (by rw [gI_sI, if_neg (by omega)]) _).symm
      unfold winM at fin
      by_cases k1 : (btS F1 F2 W E st pa pb 9).1 ≤ 4
      · rw [if_pos k1]
        by_cases k2 : 4 ≤ (btS F1 F2 W E st pa pb 9).1
        · rw [if_pos k2]; exact fin _ (by rw [if_pos k1, if_pos k2])
        · rw [if_neg k2]; exact fin _ (by rw [if_pos k1, if_neg k2])
      · rw [if_neg k1]; exact fin _ (by rw [if_neg k1])
  | succ d ih =>
    intro t f σ x4 x5 x6 ht hf hP ho hn hc hs
    obtain ⟨f, rfl⟩ : ∃ z, f = z + 1 := ⟨f - 1, by omega⟩
    have ht9 : t < 9 := by omega
    have hcb := btS_c (F1 := F1) (F2 := F2) (W := W) (E := E) (pa := pa) (pb := pb) hs1 hs2 t
    have e1 : nI t + (1 : Int32) = nI (t + 1) := nI_add t 1
    -- the end of a second
    have fin : ∀ (σ2 : St) (y4 y5 y6 : Int32), PMi F1 F2 W E t0 m1 m2 σ2 → Fr scM noR σ σ2 → (((btS F1 F2 W E st pa pb (t + 1)).1 ≤ 0 ∨ 8 ≤ (btS F1 F2 W E st pa pb (t + 1)).1) → y6 = 1 ∧ gI σ2 75 35 = winM σ2 (btS F1 F2 W E st pa pb (t + 1)).1) → (¬ ((btS F1 F2 W E st pa pb (t + 1)).1 ≤ 0 ∨ 8 ≤ (btS F1 F2 W E st pa pb (t + 1)).1) → y6 = 0 ∧ y4 = (btS F1 F2 W E st pa pb (t + 1)).2.1 ∧ y5 = (btS F1 F2 W E st pa pb (t + 1)).2.2.1 ∧ (btS F1 F2 W E st pa pb (t + 1)).2.2.2 = nI (t + 1)) → (∀ i, i ≤ t → gI σ2 93 i = gI σ 93 i) → gI σ2 75 36 = (btS F1 F2 W E st pa pb (t + 1)).2.2.2 →
        ∃ σ', S9_bouts_256 pa pb (S9_bouts_34 pa pb f) (btS F1 F2 W E st pa pb (t + 1)).1 y4 y5 y6 (nI t) σ2 = some ((), σ') ∧ Fr scM noR σ σ' ∧ PMi F1 F2 W E t0 m1 m2 σ' ∧ (∀ i, i ≤ 9 → gI σ' 93 i = (btS F1 F2 W E st pa pb i).1) ∧ gI σ' 75 36 = (btS F1 F2 W E st pa pb 9).2.2.2 ∧ gI σ' 75 35 = winM σ' (btS F1 F2 W E st pa pb 9).1 := by
      intro σ2 y4 y5 y6 hP2 f2 go gn gc gs
      unfold S9_bouts_256
      simp only [e1, if_pos (inb_nI (show t + 1 < 10 by omega) (show 10 < 2 ^ 31 by omega)), nI_clamp (show t + 1 < 2 ^ 31 by omega)]
      have f3 : Fr scM noR σ2 (sI σ2 93 (t + 1) (btS F1 F2 W E st pa pb (t + 1)).1) := Fr.rf.sI _ (Or.inl (by omega))
      have hw : ∀ c, winM (sI σ2 93 (t + 1) (btS F1 F2 W E st pa pb (t + 1)).1) c = winM σ2 c := winM_fr (by rw [gI_sI, if_neg (by omega)]) (by rw [gI_sI, if_neg (by omega)])
      obtain ⟨σ', k1, k2, k3⟩ := ih (t + 1) f (sI σ2 93 (t + 1) (btS F1 F2 W E st pa pb (t + 1)).1) y4 y5 y6 (by omega) (by omega)
        (hP2.keep f3.1 (hP2.2.2.2.1.1.fr fun b => by rw [gI_sI, if_neg (by omega)]) (hP2.2.2.2.1.2.fr fun b => by rw [gI_sI, if_neg (by omega)]))
        (fun z => ⟨(go z).1, by rw [gI_sI, if_neg (by omega), hw]; exact (go z).2⟩) gn
        (fun i hi => by
          by_cases q : i = t + 1
          · subst q; rw [gI_sI, if_pos ⟨rfl, rfl⟩]
          · rw [gI_sI, if_neg (by omega), gc i (by omega)]; exact hc i (by omega))
        (by rw [gI_sI, if_neg (by omega)]; exact gs)
      exact ⟨σ', k1, (f2.tr f3).tr k2, k3⟩
    show ∃ σ', B9_bouts_34 _ _ _ _ _ _ _ _ σ = _ ∧ _
    unfold B9_bouts_34
    rw [if_neg (show ¬ (9 : Int32) ≤ nI t from nI_ge (a := t) (b := 9) ht9 (by omega))]
    by_cases hov : (btS F1 F2 W E st pa pb t).1 ≤ 0 ∨ 8 ≤ (btS F1 F2 W E st pa pb t).1
    · have eq : btS F1 F2 W E st pa pb (t + 1) = btS F1 F2 W E st pa pb t := by
        show (if _ then _ else _) = _
        rw [if_pos hov]
      obtain ⟨q1, q2⟩ := ho hov
      have := fin σ x4 x5 x6 hP Fr.rf (fun _ => by rw [eq]; exact ⟨q1, q2⟩) (fun z => absurd hov (by rw [eq] at z; exact z)) (fun _ _ => rfl) (by rw [eq]; exact hs)
      rw [eq] at this
      rw [if_neg (show ¬ x6 = 0 by rw [q1]; decide)]
      exact this
    · obtain ⟨n6, n4, n5, nt⟩ := hn hov
      rw [if_pos n6]
      have h0 : ¬ (btS F1 F2 W E st pa pb t).1 ≤ 0 := fun q => hov (Or.inl q)
      have h8 : ¬ 8 ≤ (btS F1 F2 W E st pa pb t).1 := fun q => hov (Or.inr q)
      have eq : btS F1 F2 W E st pa pb (t + 1) = nextB F1 F2 W E (actF pa t) (actF pb t) t (btS F1 F2 W E st pa pb t) := by
        show (if _ then _ else _) = _
        rw [if_neg hov]
      rw [eq] at fin
      rw [nt] at hs
      generalize hx : btS F1 F2 W E st pa pb t = x at *
      obtain ⟨c, hc1, hc2⟩ : ∃ c : Nat, x.1 = nI c ∧ 1 ≤ c ∧ c ≤ 7 := by
        obtain ⟨c, q1, q2⟩ := ex_nIc (a := x.1) (c := 7) (by omega) (by grind) (by have : nI 7 = 7 := rfl; rw [this]; grind)
        refine ⟨c, q1, ?_, q2⟩
        rcases Nat.eq_zero_or_pos c with q | q
        · subst q; exact absurd (by rw [q1]; decide) h0
        · exact q
      obtain ⟨a, ha, ea⟩ := actF_n pa t
      obtain ⟨h, hh, eh⟩ := actF_n pb t
      rw [show (pa >>> ((2 : Int32) * nI t &&& 31)) &&& (3 : Int32) = nI a from ea, show (pb >>> ((2 : Int32) * nI t &&& 31)) &&& (3 : Int32) = nI h from eh, hc1]
      have e8 : (8 : Int32) - nI c = nI (8 - c) := nI_sub (a := 8) (b := c) (by omega)
      rw [e8]
      obtain ⟨⟨r1, r2, r3⟩, ⟨o1, o2, lt, lT⟩, ⟨s1, s2⟩, ⟨c1, c2⟩, hW, hE⟩ := id hP
      obtain ⟨σ1, u1, f1, c1', c2'⟩ := strength9 (z := 0) (G := F2) (by omega) lt o1 lT r3 r1 s1 c1 c2 ha hh (show c < 9 by omega)
      rw [show S9_strengthOf (0 : Int32) (nI a) (nI h) (nI c) σ = _ from u1, bnd_s]
      have f1' : Fr scM noR σ σ1 := f1.mo (fun x _ z => Or.inl (by omega)) (fun _ _ z => z)
      have hP1 : PMi F1 F2 W E t0 m1 m2 σ1 := hP.keep f1'.1 c1' c2'
      obtain ⟨⟨r1', r2', r3'⟩, ⟨o1', o2', lt', lT'⟩, ⟨s1', s2'⟩, ⟨c1'', c2''⟩, hW', hE'⟩ := id hP1
      obtain ⟨σ2, u2, f2, c2z, c1z⟩ := strength9 (z := 1) (G := F1) (by omega) lt' o2' lT' r3' r2' s2' c2'' c1'' hh ha (show 8 - c < 9 by omega)
      rw [show S9_strengthOf (1 : Int32) (nI h) (nI a) (nI (8 - c)) σ1 = _ from u2, bnd_s]
      have f2' : Fr scM noR σ1 σ2 := f2.mo (fun x _ z => Or.inl (by omega)) (fun _ _ z => z)
      have hP2 : PMi F1 F2 W E t0 m1 m2 σ2 := hP1.keep f2'.1 c1z c2z
      have b1 := hF1 (nI a) (nI h) (nI c)
      have b2 := hF2 (nI h) (nI a) (nI (8 - c))
      have fr2 : Fr scM noR σ σ2 := f1'.tr f2'
      have k5 : ∀ b, gI σ2 75 b = gI σ 75 b := fun b => (f2.1 75 b (by omega)).trans (f1.1 75 b (by omega))
      have kc : ∀ b, gI σ2 93 b = gI σ 93 b := fun b => (f2.1 93 b (by omega)).trans (f1.1 93 b (by omega))
      have hn : nextB F1 F2 W E (actF pa t) (actF pb t) t x = nextB F1 F2 W E (nI a) (nI h) t x := by rw [ea, eh]
      rw [hn] at fin
      -- the step, then its end
      have key : ∀ s, s = stepI (F1 (nI a) (nI h) (nI c) - F2 (nI h) (nI a) (nI (8 - c))) → ∃ σ', S9_bouts_135 pa pb (S9_bouts_34 pa pb f) x4 x5 x6 (nI t) (nI c) s σ2 = some ((), σ') ∧ Fr scM noR σ σ' ∧ PMi F1 F2 W E t0 m1 m2 σ' ∧ (∀ i, i ≤ 9 → gI σ' 93 i = (btS F1 F2 W E st pa pb i).1) ∧ gI σ' 75 36 = (btS F1 F2 W E st pa pb 9).2.2.2 ∧ gI σ' 75 35 = winM σ' (btS F1 F2 W E st pa pb 9).1 := by
        intro s hsd
        subst hsd
        unfold nextB at fin
        rw [hc1, e8] at fin
        unfold S9_bouts_135
        generalize nI c + stepI (F1 (nI a) (nI h) (nI c) - F2 (nI h) (nI a) (nI (8 - c))) = r at fin ⊢
        have es : gI σ2 75 36 + (1 : Int32) = nI (t + 1) := by rw [k5, hs, e1]
        rw [es]
        have f3 : Fr scM noR σ2 (sI σ2 75 36 (nI (t + 1))) := Fr.rf.sI _ (Or.inr (by omega))
        have hP3 : PMi F1 F2 W E t0 m1 m2 (sI σ2 75 36 (nI (t + 1))) := hP2.keep f3.1 (hP2.2.2.2.1.1.fr fun b => by rw [gI_sI, if_neg (by omega)]) (hP2.2.2.2.1.2.fr fun b => by rw [gI_sI, if_neg (by omega)])
        have k3 : ∀ b, gI (sI σ2 75 36 (nI (t + 1))) 93 b = gI σ 93 b := fun b => by rw [gI_sI, if_neg (by omega), kc]
        have k36 : gI (sI σ2 75 36 (nI (t + 1))) 75 36 = nI (t + 1) := by rw [gI_sI, if_pos ⟨rfl, rfl⟩]
        have fr3 := fr2.tr f3
        generalize sI σ2 75 36 (nI (t + 1)) = σ3 at *
        -- a winner is written down, then the end
        have win : ∀ (v : Int32), Fr scM noR σ (sI σ3 75 35 v) ∧ PMi F1 F2 W E t0 m1 m2 (sI σ3 75 35 v) ∧ (∀ i, i ≤ t → gI (sI σ3 75 35 v) 93 i = gI σ 93 i) ∧ gI (sI σ3 75 35 v) 75 36 = nI (t + 1) ∧ gI (sI σ3 75 35 v) 75 35 = v ∧ ∀ c, winM (sI σ3 75 35 v) c = winM σ3 c := by
          intro v
          have f4 : Fr scM noR σ3 (sI σ3 75 35 v) := Fr.rf.sI _ (Or.inr (by omega))
          refine ⟨fr3.tr f4, hP3.keep f4.1 (hP3.2.2.2.1.1.fr fun b => by rw [gI_sI, if_neg (by omega)]) (hP3.2.2.2.1.2.fr fun b => by rw [gI_sI, if_neg (by omega)]), fun i _ => ?_, ?_, ?_, fun c => ?_⟩
          · rw [gI_sI, if_neg (by omega), k3]
          · rw [gI_sI, if_neg (by omega), k36]
          · rw [gI_sI, if_pos ⟨rfl, rfl⟩]
          · exact winM_fr (by rw [gI_sI, if_neg (by omega)]) (by rw [gI_sI, if_neg (by omega)]) c
        by_cases q8 : 8 ≤ r
        · rw [if_neg (Int32.not_lt.mpr q8), hP3.2.2.2.2.2, n5]
          simp only [if_pos q8] at fin
          by_cases qs : x.2.2.1 < E
          · rw [if_pos qs]
            unfold S9_bouts_167 S9_bouts_181 S9_bouts_196
            simp only [if_true]
            simp only [if_pos qs] at fin
            obtain ⟨w1, w2, w3, w4, w5, w6⟩ := win (-1)
            exact fin _ _ _ _ w2 w1 (fun z => absurd z (show ¬ ((7 : Int32) ≤ 0 ∨ (8 : Int32) ≤ 7) by decide)) (fun _ => ⟨rfl, n4, rfl, trivial⟩) w3 w4
          · rw [if_neg qs]
            unfold S9_bouts_167 S9_bouts_181 S9_bouts_196
            simp only [if_neg (show ¬ (1 : Int32) = 0 by decide)]
            simp only [if_neg qs] at fin
            obtain ⟨w1, w2, w3, w4, w5, w6⟩ := win (gI σ3 75 29)
            exact fin _ _ _ _ w2 w1 (fun _ => ⟨rfl, by rw [w5, w6]; rfl⟩) (fun z => absurd (show ((8 : Int32) ≤ 0 ∨ (8 : Int32) ≤ 8) by decide) z) w3 w4
        · rw [if_pos (Int32.not_le.mp q8)]
          simp only [if_neg q8] at fin
          by_cases q0 : r ≤ 0
          · rw [if_neg (Int32.not_lt.mpr q0), hP3.2.2.2.2.1, n4]
            simp only [if_pos q0] at fin
            by_cases qs : x.2.1 < W
            · rw [if_pos qs]
              unfold S9_bouts_223 S9_bouts_235 S9_bouts_250
              simp only [if_true]
              simp only [if_pos qs] at fin
              obtain ⟨w1, w2, w3, w4, w5, w6⟩ := win (-1)
              exact fin _ _ _ _ w2 w1 (fun z => absurd z (show ¬ ((1 : Int32) ≤ 0 ∨ (8 : Int32) ≤ 1) by decide)) (fun _ => ⟨rfl, rfl, n5, trivial⟩) w3 w4
            · rw [if_neg qs]
              unfold S9_bouts_223 S9_bouts_235 S9_bouts_250
              simp only [if_neg (show ¬ (1 : Int32) = 0 by decide)]
              simp only [if_neg qs] at fin
              obtain ⟨w1, w2, w3, w4, w5, w6⟩ := win (gI σ3 75 30)
              exact fin _ _ _ _ w2 w1 (fun _ => ⟨rfl, by rw [w5, w6]; rfl⟩) (fun z => absurd (show ((0 : Int32) ≤ 0 ∨ (8 : Int32) ≤ 0) by decide) z) w3 w4
          · rw [if_pos (Int32.not_le.mp q0)]
            simp only [if_neg q0] at fin
            exact fin _ _ _ _ hP3 fr3 (fun z => absurd z (by rintro (z | z); exact q0 z; exact q8 z)) (fun _ => ⟨n6, n4, n5, trivial⟩) (fun i _ => k3 i) k36
      generalize hd' : F1 (nI a) (nI h) (nI c) - F2 (nI h) (nI a) (nI (8 - c)) = d' at key ⊢
      have bd : -5000 ≤ d' ∧ d' ≤ 5000 := by rw [← hd']; constructor <;> grind
      have q20 : stepI d' = if d' = 0 then 0 else if 20 < d' then 2 else if 0 < d' then 1 else if d' < -20 then -2 else -1 := rfl
      by_cases z1 : d' ≤ 20
      · rw [if_pos z1]
        by_cases z2 : d' ≤ 0
        · rw [if_pos z2]
          by_cases z3 : -20 ≤ d'
          · rw [if_pos z3]
            by_cases z4 : 0 ≤ d'
            · rw [if_pos z4]
              exact key 0 (by rw [q20, if_pos (by grind)])
            · rw [if_neg z4]
              exact key (-1) (by rw [q20, if_neg (by grind), if_neg (by grind), if_neg (by grind), if_neg (by grind)])
          · rw [if_neg z3]
            exact key (-2) (by rw [q20, if_neg (by grind), if_neg (by grind), if_neg (by grind), if_pos (by grind)])
        · rw [if_neg z2]
          exact key 1 (by rw [q20, if_neg (by grind), if_neg (by grind), if_pos (by grind)])
      · rw [if_neg z1]
        exact key 2 (by rw [q20, if_neg (by grind), if_pos (by grind)])
