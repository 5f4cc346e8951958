/-! Two are paired; a bout from its start, on both sides. -/
def stF (cs : Nat → List Int32) (s1 s2 : Nat → Int32) : Int32 := wi (4 + (startF cs s1 - startF cs s2)) 1 7
theorem wi_b (v : Int32) : 1 ≤ wi v 1 7 ∧ wi v 1 7 ≤ 7 := by
  unfold wi jmax jmin
  constructor <;> (split <;> (split at * <;> grind))
theorem stF_b (cs : Nat → List Int32) (s1 s2 : Nat → Int32) : 1 ≤ stF cs s1 s2 ∧ stF cs s1 s2 ≤ 7 := wi_b _
def scB (a b : Nat) : Prop := a = 34 ∨ a = 35 ∨ a = 36 ∨ a = 37 ∨ a = 38 ∨ a = 43 ∨ a = 44
def scBR (a b : Nat) : Prop := a = 37 ∨ a = 43
theorem enters2 {σ : St} {o w t : Nat} (ho : o = 37 ∨ o = 43) (hW : Ob 75 7 w) (ht : t < 6) (hT : TxOk σ t) : ∃ σ', S4_enters o w (49 + 3 * t) σ = some (startF (txC σ t) (gI σ w), σ') ∧ Fr (fun a b => a = 34 ∨ a = o + 1 ∨ (a = o ∧ b = 4)) (fun a _ => a = o) σ σ' ∧ gR σ' o 2 = w ∧ gR σ' o 3 = 49 + 3 * t ∧ gI σ' o 4 = standF (txC σ t) (gI σ w) ∧ ∀ k, k < 144 → gI σ' (o + 1) k = -1 := by
  obtain ⟨n1, n2, n3, n4, n5, n6, n7⟩ := ob7_ne hW
  have hOT := tx_ob t ht
  unfold S4_enters
  have f0 : Fr (fun a b => a = 34 ∨ a = o + 1 ∨ (a = o ∧ b = 4)) (fun a _ => a = o) σ (fillS (sR (sR σ o 2 w) o 3 (49 + 3 * t)) (o + 1) 144 (-1)) := (((Fr.rf (T := fun a b => a = 34 ∨ a = o + 1 ∨ (a = o ∧ b = 4)) (U := fun a _ => a = o) (σ := σ)).sR (o := o) (k := 2) w rfl).sR (o := o) (k := 3) (49 + 3 * t) rfl).fill (-1) (fun _ => Or.inr (Or.inl rfl))
  have a1 : gR (fillS (sR (sR σ o 2 w) o 3 (49 + 3 * t)) (o + 1) 144 (-1)) o 2 = w := by rw [gR_fill, gR_sR, if_neg (by omega), gR_sR, if_pos ⟨rfl, rfl⟩]
  have a2 : gR (fillS (sR (sR σ o 2 w) o 3 (49 + 3 * t)) (o + 1) 144 (-1)) o 3 = 49 + 3 * t := by rw [gR_fill, gR_sR, if_pos ⟨rfl, rfl⟩]
  have a3 : ∀ k, k < 144 → gI (fillS (sR (sR σ o 2 w) o 3 (49 + 3 * t)) (o + 1) 144 (-1)) (o + 1) k = -1 := fun k hk => by rw [gI_fill, if_pos ⟨rfl, hk⟩]
  generalize fillS (sR (sR σ o 2 w) o 3 (49 + 3 * t)) (o + 1) 144 (-1) = σ0 at f0 a1 a2 a3 ⊢
  rw [a1, a2, if_pos hW, if_pos hOT, if_pos hW]
  have hw0 : gI σ0 w = gI σ w := by funext b; exact f0.1 w b (by omega)
  have hT0 : TxOk σ0 t := TxOk_fr ht (fun a b z => f0.1 a b (by omega)) hT
  have hc0 : txC σ0 t = txC σ t := txC_fr t (fun a b z => f0.1 a b (by omega))
  obtain ⟨σ1, s1, f1⟩ := says2 (p := 1) (w := w) (act := 0) (his := 0) (cell := 0) ht (by omega) hT0 n1
  rw [show S2_says (49 + 3 * t) (1 : Int32) w 0 0 0 σ0 = _ from s1, bnd_s, standing2, bnd_s]
  have g1 : ∀ a b, a ≠ 34 → gI σ1 a b = gI σ0 a b := fun a b z => f1.1 a b z
  have r1 : ∀ a b, gR σ1 a b = gR σ0 a b := fun a b => f1.2 a b (fun z => z)
  have hv : wi (sayF (txC σ0 t 1) 1 (envS (gI σ0 w) 0 0 0) + (if gI σ1 w 0 = 2 ∨ gI σ1 w 0 = 4 then 1 else 0) + (if gI σ1 w 0 = 4 then gI σ1 w 1 else 0)) 0 9 = standF (txC σ t) (gI σ w) := by
    rw [g1 w 0 n1, g1 w 1 n1, hw0, hc0]; rfl
  rw [hv]
  generalize standF (txC σ t) (gI σ w) = vs
  have f2 : Fr (fun a b => a = 34 ∨ a = o + 1 ∨ (a = o ∧ b = 4)) (fun a _ => a = o) σ1 (sI σ1 o 4 vs) := Fr.rf.sI _ (Or.inr (Or.inr ⟨rfl, rfl⟩))
  have b1 : gR (sI σ1 o 4 vs) o 2 = w := by rw [gR_sI, r1, a1]
  have b2 : gR (sI σ1 o 4 vs) o 3 = 49 + 3 * t := by rw [gR_sI, r1, a2]
  have b3 : gI (sI σ1 o 4 vs) o 4 = vs := by rw [gI_sI, if_pos ⟨rfl, rfl⟩]
  have b4 : ∀ k, k < 144 → gI (sI σ1 o 4 vs) (o + 1) k = -1 := fun k hk => by rw [gI_sI, if_neg (by omega), g1 _ _ (by omega)]; exact a3 k hk
  have f12 : Fr (fun a b => a = 34 ∨ a = o + 1 ∨ (a = o ∧ b = 4)) (fun a _ => a = o) σ (sI σ1 o 4 vs) := (f0.tr (f1.mo (fun a _ z => Or.inl z) (fun a _ z => z.elim))).tr f2
  generalize sI σ1 o 4 vs = σ2 at b1 b2 b3 b4 f12 ⊢
  rw [b1, b2, if_pos hW, if_pos hOT, if_pos hW]
  have hw2 : gI σ2 w = gI σ w := by funext b; exact f12.1 w b (by omega)
  have hT2 : TxOk σ2 t := TxOk_fr ht (fun a b z => f12.1 a b (by omega)) hT
  have hc2 : txC σ2 t = txC σ t := txC_fr t (fun a b z => f12.1 a b (by omega))
  obtain ⟨σ3, s3, f3⟩ := says2 (p := 2) (w := w) (act := 0) (his := 0) (cell := 4) ht (by omega) hT2 n1
  rw [show S2_says (49 + 3 * t) (2 : Int32) w 0 0 4 σ2 = _ from s3, bnd_s, starts2, bnd_s]
  refine ⟨σ3, ?_, f12.tr (f3.mo (fun a _ z => Or.inl z) (fun a _ z => z.elim)), (f3.2 _ _ (fun z => z)).trans b1, (f3.2 _ _ (fun z => z)).trans b2, (f3.1 _ _ (by omega)).trans b3, fun k hk => (f3.1 _ _ (by omega)).trans (b4 k hk)⟩
  rw [f3.1 w 0 n1, hw2, hc2]
  rfl
theorem pair2 {σ : St} {w1 w2 t : Nat} (h1 : Ob 75 7 w1) (h2 : Ob 75 7 w2) (ht : t < 6) (hT : TxOk σ t) : ∃ σ', S0_pair w1 w2 (49 + 3 * t) σ = some ((), σ') ∧ Fr scB scBR σ σ' ∧ PCi (strF (txC σ t) (gI σ w1)) (strF (txC σ t) (gI σ w2)) (standF (txC σ t) (gI σ w1)) (standF (txC σ t) (gI σ w2)) t w1 w2 σ' ∧ gI σ' 35 3 = stF (txC σ t) (gI σ w1) (gI σ w2) := by
  obtain ⟨p1, p2, p3, p4, p5, p6, p7⟩ := ob7_ne h1
  obtain ⟨q1, q2, q3, q4, q5, q6, q7⟩ := ob7_ne h2
  unfold S0_pair
  obtain ⟨σ1, e1, f1, a1, a2, a3, a4⟩ := enters2 (o := 37) (Or.inl rfl) h1 ht hT
  rw [e1, bnd_s]
  have hT1 : TxOk σ1 t := TxOk_fr ht (fun a b z => f1.1 a b (by omega)) hT
  have hc1 : txC σ1 t = txC σ t := txC_fr t (fun a b z => f1.1 a b (by omega))
  obtain ⟨σ2, e2, f2, b1, b2, b3, b4⟩ := enters2 (o := 43) (Or.inr rfl) h2 ht hT1
  have hw2 : gI σ1 w2 = gI σ w2 := by funext b; exact f1.1 w2 b (by omega)
  rw [e2, bnd_s, within8, bnd_s, hc1, hw2]
  rw [hc1, hw2] at b3
  have f12 : Fr scB scBR σ σ2 := (f1.mo (fun a b z => by unfold scB; omega) (fun a b z => Or.inl z)).tr (f2.mo (fun a b z => by unfold scB; omega) (fun a b z => Or.inr z))
  have f3 : Fr scB scBR σ2 (sI σ2 35 3 (wi (4 + (startF (txC σ t) (gI σ w1) - startF (txC σ t) (gI σ w2))) 1 7)) := Fr.rf.sI _ (by unfold scB; omega)
  have f : Fr scB scBR σ (sI σ2 35 3 (wi (4 + (startF (txC σ t) (gI σ w1) - startF (txC σ t) (gI σ w2))) 1 7)) := f12.tr f3
  have kI : ∀ a b, a ≠ 35 → gI (sI σ2 35 3 (wi (4 + (startF (txC σ t) (gI σ w1) - startF (txC σ t) (gI σ w2))) 1 7)) a b = gI σ2 a b := fun a b z => by rw [gI_sI, if_neg (fun q => z q.1)]
  have k35 : gI (sI σ2 35 3 (wi (4 + (startF (txC σ t) (gI σ w1) - startF (txC σ t) (gI σ w2))) 1 7)) 35 3 = stF (txC σ t) (gI σ w1) (gI σ w2) := by rw [gI_sI, if_pos ⟨rfl, rfl⟩]; rfl
  have kR : ∀ a b, gR (sI σ2 35 3 (wi (4 + (startF (txC σ t) (gI σ w1) - startF (txC σ t) (gI σ w2))) 1 7)) a b = gR σ2 a b := fun a b => rfl
  generalize sI σ2 35 3 (wi (4 + (startF (txC σ t) (gI σ w1) - startF (txC σ t) (gI σ w2))) 1 7) = σ3 at f kI k35 kR
  have w1' : gI σ3 w1 = gI σ w1 := funext fun b => f.1 w1 b (by unfold scB; omega)
  have w2' : gI σ3 w2 = gI σ w2 := funext fun b => f.1 w2 b (by unfold scB; omega)
  have cs' : txC σ3 t = txC σ t := txC_fr t (fun a b z => f.1 a b (by unfold scB; omega))
  refine ⟨σ3, rfl, f, ⟨⟨?_, ?_, ?_, ?_⟩, ⟨h1, h2, ht, TxOk_fr ht (fun a b z => f.1 a b (by unfold scB; omega)) hT⟩, ⟨?_, ?_⟩, ⟨?_, ?_⟩, ?_, ?_⟩, k35⟩
  · rw [kR, f2.2 37 2 (by omega)]; exact a1
  · rw [kR, f2.2 37 3 (by omega)]; exact a2
  · rw [kR]; exact b1
  · rw [kR]; exact b2
  · rw [cs', w1']
  · rw [cs', w2']
  · intro a h c ha hh hc
    refine Or.inl ?_
    rw [kI _ _ (by omega), f2.1 _ _ (by omega)]
    exact a4 _ (by omega)
  · intro a h c ha hh hc
    refine Or.inl ?_
    rw [kI _ _ (by omega)]
    exact b4 _ (by omega)
  · rw [kI _ _ (by omega), f2.1 _ _ (by omega)]; exact a3
  · rw [kI _ _ (by omega)]; exact b3
/-- the class goes through a bout of two who are paired -/
theorem go2 {F1 F2 : Int32 → Int32 → Int32 → Int32} {W E st pa pb : Int32} {t0 w1 w2 : Nat} {σ : St} (hF1 : smallF F1) (hF2 : smallF F2) (hs1 : 1 ≤ st) (hs2 : st ≤ 7) (hP : PCi F1 F2 W E t0 w1 w2 σ) (h3 : gI σ 35 3 = st) :
    ∃ σ', S0_goThrough pa pb σ = some ((), σ') ∧ Fr scB noR σ σ' ∧ PCi F1 F2 W E t0 w1 w2 σ' ∧ gI σ' 35 3 = st ∧ (∀ i, i ≤ 9 → gI σ' 36 i = (btS F1 F2 W E st pa pb i).1) ∧ gI σ' 35 4 = (btS F1 F2 W E st pa pb 9).2.2.2 ∧ gI σ' 35 5 = (btS F1 F2 W E st pa pb 9).1 - 4 := by
  unfold S0_goThrough S4_begins
  rw [bnd_s, bnd_s]
  have k3 : gI (sI (sI σ 37 5 0) 43 5 0) 35 3 = st := by rw [gI_sI, if_neg (by omega), gI_sI, if_neg (by omega)]; exact h3
  rw [k3]
  have c0 : (0 : Int32).toNatClampNeg = 0 := rfl
  rw [c0]
  have f1 : Fr scC noR σ (sI (sI (sI σ 37 5 0) 43 5 0) 36 0 st) := (((Fr.rf (T := scC) (U := noR) (σ := σ)).sI 0 (by unfold scC; omega)).sI 0 (by unfold scC; omega)).sI st (by unfold scC; omega)
  have k4 : gI (sI (sI (sI σ 37 5 0) 43 5 0) 36 0 st) 37 5 = 0 := by rw [gI_sI, if_neg (by omega), gI_sI, if_neg (by omega), gI_sI, if_pos ⟨rfl, rfl⟩]
  have k5 : gI (sI (sI (sI σ 37 5 0) 43 5 0) 36 0 st) 43 5 = 0 := by rw [gI_sI, if_neg (by omega), gI_sI, if_pos ⟨rfl, rfl⟩]
  have k6 : gI (sI (sI (sI σ 37 5 0) 43 5 0) 36 0 st) 36 0 = st := by rw [gI_sI, if_pos ⟨rfl, rfl⟩]
  have k7 : ∀ a b, a = 38 ∨ a = 44 → gI (sI (sI (sI σ 37 5 0) 43 5 0) 36 0 st) a b = gI σ a b := fun a b z => by rw [gI_sI, if_neg (by omega), gI_sI, if_neg (by omega), gI_sI, if_neg (by omega)]
  have k8 : gI (sI (sI (sI σ 37 5 0) 43 5 0) 36 0 st) 35 3 = st := by rw [gI_sI, if_neg (by omega)]; exact k3
  have k9 : ∀ a b, gR (sI (sI (sI σ 37 5 0) 43 5 0) 36 0 st) a b = gR σ a b := fun _ _ => rfl
  generalize sI (sI (sI σ 37 5 0) 43 5 0) 36 0 st = σ1 at f1 k4 k5 k6 k7 k8 k9 ⊢
  have hP1 : PCi F1 F2 W E t0 w1 w2 σ1 := hP.keep f1.1 k9 (hP.2.2.2.1.1.fr fun b => k7 _ _ (Or.inl rfl)) (hP.2.2.2.1.2.fr fun b => k7 _ _ (Or.inr rfl))
  obtain ⟨σ2, e2, f2, hP2, c2, s2, l2⟩ := go2_loop (pa := pa) (pb := pb) hF1 hF2 hs1 hs2 9 0 4096 σ1 rfl (by omega) hP1 k4 k5 (fun i hi => by have q : i = 0 := Nat.le_zero.mp hi; subst q; exact k6) (fun z => absurd z (by omega))
  refine ⟨σ2, e2, (f1.tr f2).mo (fun a b z => by unfold scC at z; unfold scB; omega) (fun _ _ z => z), hP2, (f2.1 35 3 (by unfold scC; omega)).trans k8, c2, s2, l2⟩
