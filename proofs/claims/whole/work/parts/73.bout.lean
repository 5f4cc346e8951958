/-! A bout in thought; a bout truly. -/
theorem bout8_e {x pa pb w : Int32} {n : Nat} {σ : St} (h : gI σ 1 1 = nI n) (hp : ¬ pair01 n x = 0) : S8_bout x pa pb w σ = S8_bout_30 x pa pb w (in01 w 10 19) σ := by
  unfold S8_bout S8_bout_29 in01
  rw [isPair8 h, bnd_s, if_neg hp]
  by_cases q : w < 10
  · rw [if_pos q, if_pos q]
  · by_cases q2 : (19 : Int32) < w
    · rw [if_neg q, if_neg q, if_pos q2, if_pos q2]
    · rw [if_neg q, if_neg q, if_neg q2, if_neg q2]
theorem same_bout (x pa pb w : Int32) : Same (S8_bout x pa pb w) (S9_bout x pa pb w) := by
  intro n T t σ hI
  have hn := hI.n6
  by_cases hp : pair01 n x = 0
  · refine same_rf hI (-5) ?_ ?_
    · unfold S8_bout; rw [isPair8 hI.n8, bnd_s, if_pos hp]
    · unfold S9_bout; rw [areTwoMen9 hn hI.n9, bnd_s, if_pos hp]
  · obtain ⟨k, l, hk, hl, hkl, xk, xl⟩ := pair01_t hn hp
    by_cases hq : pls01 pa pb = 0
    · refine same_rf hI (-7) ?_ ?_
      · rw [bout8_e hI.n8 hp]; unfold S8_bout_30; rw [arePlans8, bnd_s, if_pos hq]
      · unfold S9_bout
        rw [areTwoMen9 hn hI.n9, bnd_s, if_neg hp, isPlan9, bnd_s, isPlan9, bnd_s]
        rcases pls01_f hq with z | ⟨z1, z2⟩
        · rw [if_pos z]
        · rw [if_neg z1, if_pos z2]
    · obtain ⟨q1, q2⟩ := pls01_t hq
      have e9 : ∀ τ, gI τ 75 0 = nI n → S9_bout x pa pb w τ = if in01 w 0 1 = 0 then (if in01 w 10 19 = 0 then some (-7, τ) else S9_bout_50 x pa pb w τ) else S9_bout_50 x pa pb w τ := by
        intro τ h9
        unfold S9_bout
        rw [areTwoMen9 hn h9, bnd_s, if_neg hp, isPlan9, bnd_s, isPlan9, bnd_s, if_neg q1, if_neg q2, in9, bnd_s, in9, bnd_s]
      have e8 : S8_bout x pa pb w σ = if w = 0 then S8_bout_59 x pa pb w (in01 w 10 19) σ else if w = 1 then S8_bout_59 x pa pb w (in01 w 10 19) σ else if in01 w 10 19 = 0 then some (-7, σ) else S8_bout_59 x pa pb w (in01 w 10 19) σ := by
        rw [bout8_e hI.n8 hp]; unfold S8_bout_30; rw [arePlans8, bnd_s, if_neg hq]
      -- the class's bout
      obtain ⟨σ1, g1, A1, P1⟩ := pairMen8 hI hk hl
      obtain ⟨σ2, g2, A2, P2, c1, c2, c3⟩ := goMen8 (hI.bd hk).1 (hI.bd hl).1 P1 pa pb
      have A := A1.tr A2
      have hI2 := hI.ag A
      have e59 : ∀ s0, S8_bout_59 x pa pb w s0 σ = if s0 = 0 then (if w = 0 then some (winF (nI k) (nI l) (cel (txC σ t) (stM σ k) (stM σ l) pa pb 9), σ2) else some (sec (txC σ t) (stM σ k) (stM σ l) pa pb, σ2)) else bnd (S0_cellBehind (w - 10) σ2) fun r τ => some (r, τ) := by
        intro s0
        unfold S8_bout_59
        rw [theOne8 xk (by omega), bnd_s, theOther8 xl (by omega), bnd_s, theLaw8 hI.t6 hI.l8, bnd_s, g1, bnd_s, g2, bnd_s, xk, xl, winnerOf8 (nI k) (nI l) _ _ _ _ _ c3, bnd_s, c2]
      obtain ⟨σ3, g3, A3, d1, d2, d3, -⟩ := boutMen9 hI2 hk hl pa pb
      have hcs := txC_ag A t
      have hsk := stM_ag A k
      have hsl := stM_ag A l
      rw [hcs, hsk, hsl] at d1 d2 d3
      have e50 : S9_bout_50 x pa pb w σ2 = if w = 0 then some (winF (nI k) (nI l) (cel (txC σ t) (stM σ k) (stM σ l) pa pb 9), σ3) else if w = 1 then some (sec (txC σ t) (stM σ k) (stM σ l) pa pb, σ3) else if inb (w - 10) 10 then some (gI σ3 93 (w - 10).toNatClampNeg, σ3) else none := by
        unfold S9_bout_50
        rw [xk, xl, g3, bnd_s, d3, d2]
      by_cases w0 : w = 0
      · refine same_q hI (winF (nI k) (nI l) (cel (txC σ t) (stM σ k) (stM σ l) pa pb 9)) ?_ A ⟨σ3, ?_, A3⟩
        · rw [e8, if_pos w0, e59, w0, if_pos (show in01 0 10 19 = 0 by decide), if_pos rfl]
        · rw [e9 _ hI2.n9, e50, if_neg (show ¬ in01 w 0 1 = 0 by rw [w0]; decide), if_pos w0]
      · by_cases w1 : w = 1
        · refine same_q hI (sec (txC σ t) (stM σ k) (stM σ l) pa pb) ?_ A ⟨σ3, ?_, A3⟩
          · rw [e8, if_neg w0, if_pos w1, e59, if_pos (show in01 w 10 19 = 0 by rw [w1]; decide), if_neg w0]
          · rw [e9 _ hI2.n9, e50, if_neg (show ¬ in01 w 0 1 = 0 by rw [w1]; decide), if_neg w0, if_pos w1]
        · have hno : in01 w 0 1 = 0 := by
            unfold in01
            by_cases z : w < 0
            · rw [if_pos z]
            · rw [if_neg z, if_pos (by grind)]
          by_cases wc : in01 w 10 19 = 0
          · refine same_rf hI (-7) ?_ ?_
            · rw [e8, if_neg w0, if_neg w1, if_pos wc]
            · rw [e9 _ hI.n9, if_pos hno, if_pos wc]
          · obtain ⟨z1, z2⟩ := in01_t wc
            obtain ⟨W, rfl, hW⟩ := ex_nIc (a := w) (c := 19) (by omega) (by grind) z2
            have hW10 : 10 ≤ W := by
              rw [show (10 : Int32) = nI 10 from rfl, nI_lt_iff (by omega) (by omega)] at z1
              omega
            have e10 : nI W - 10 = nI (W - 10) := nI_sub (b := 10) hW10
            refine same_q hI (cel (txC σ t) (stM σ k) (stM σ l) pa pb (W - 10)) ?_ A ⟨σ3, ?_, A3⟩
            · rw [e8, if_neg w0, if_neg w1, if_neg wc, e59, if_neg wc, e10, cellBehind8 (by omega), bnd_s, c1 _ (by omega)]
            · rw [e9 _ hI2.n9, if_pos hno, if_neg wc, e50, if_neg w0, if_neg w1, e10, if_pos (inb_nI (by omega) (by omega)), nI_clamp (by omega), d1 _ (by omega)]
/-! truly -/
def winU (s : Nat → Int32) (k : Nat) : Int32 := if k = 5 then jmin 999 (s 5 + 1) else s k
def losU (s : Nat → Int32) (c : Int32) (k : Nat) : Int32 := if k = 6 then jmin 999 (s 6 + 1) else if k = 4 then (if 5 ≤ c then s 4 else jmin 9 (s 4 + 1)) else s k
def fg1 (cs : Nat → List Int32) (s1 s2 : Nat → Int32) (pa pb : Int32) : Nat → Int32 := if cel cs s1 s2 pa pb 9 = 4 then s1 else if cel cs s1 s2 pa pb 9 ≤ 4 then losU s1 (sec cs s1 s2 pa pb) else winU s1
def fg2 (cs : Nat → List Int32) (s1 s2 : Nat → Int32) (pa pb : Int32) : Nat → Int32 := if cel cs s1 s2 pa pb 9 = 4 then s2 else if cel cs s1 s2 pa pb 9 ≤ 4 then winU s2 else losU s2 (sec cs s1 s2 pa pb)
theorem jmin_b {M x : Int32} (h0 : 0 ≤ x) (h1 : x ≤ M) (hM : 0 ≤ M) (hM2 : M ≤ 2000) : 0 ≤ jmin M (x + 1) ∧ jmin M (x + 1) ≤ M := by
  unfold jmin
  split
  · constructor <;> grind
  · constructor <;> grind
theorem winU_b {s : Nat → Int32} (h : bdM s) : bdM (winU s) := by
  obtain ⟨⟨h1, h2⟩, h3, h4⟩ := h
  refine ⟨⟨h1, h2⟩, ?_, h4⟩
  exact jmin_b h3.1 h3.2 (by decide) (by decide)
theorem losU_b {s : Nat → Int32} (h : bdM s) (c : Int32) : bdM (losU s c) := by
  obtain ⟨⟨h1, h2⟩, h3, h4⟩ := h
  refine ⟨⟨h1, ?_⟩, h3, jmin_b h4.1 h4.2 (by decide) (by decide)⟩
  show 0 ≤ (if 5 ≤ c then s 4 else jmin 9 (s 4 + 1)) ∧ (if 5 ≤ c then s 4 else jmin 9 (s 4 + 1)) ≤ 9
  split
  · exact h2
  · exact jmin_b h2.1 h2.2 (by decide) (by decide)
theorem fg1_b {cs : Nat → List Int32} {s1 s2 : Nat → Int32} (h : bdM s1) (pa pb : Int32) : bdM (fg1 cs s1 s2 pa pb) := by
  unfold fg1
  split
  · exact h
  · split
    · exact losU_b h _
    · exact winU_b h
theorem fg2_b {cs : Nat → List Int32} {s1 s2 : Nat → Int32} (h : bdM s2) (pa pb : Int32) : bdM (fg2 cs s1 s2 pa pb) := by
  unfold fg2
  split
  · exact h
  · split
    · exact winU_b h
    · exact losU_b h _
theorem clash66 {a b w l : Nat} {c d : Int32} {σ : St} {sw sl : Nat → Int32} (hwl : w ≠ l) (hw : Ob 75 7 w) (hl : Ob 75 7 l) (h1 : ∀ k, k < 7 → gI σ w k = sw k) (h2 : ∀ k, k < 7 → gI σ l k = sl k) : ∃ σ', S8_clash_66 a b c d w l σ = some ((), σ') ∧ (∀ k, k < 7 → gI σ' w k = winU sw k) ∧ (∀ k, k < 7 → gI σ' l k = losU sl (gI σ 35 4) k) ∧ ∀ x y, x ≠ w → x ≠ l → gI σ' x y = gI σ x y := by
  have w35 : 35 ≠ w := by rintro rfl; exact absurd hw.1 (by decide)
  have l35 : 35 ≠ l := by rintro rfl; exact absurd hl.1 (by decide)
  have e5 : gI σ w 5 = sw 5 := h1 5 (by omega)
  unfold S8_clash_66
  rw [e5]
  have g1 : ∀ x y, gI (sI σ w 5 (jmin 999 (sw 5 + 1))) x y = if x = w ∧ y = 5 then jmin 999 (sw 5 + 1) else gI σ x y := fun x y => gI_sI _ _ _ _ _ _
  generalize sI σ w 5 (jmin 999 (sw 5 + 1)) = σ1 at g1 ⊢
  have e6 : gI σ1 l 6 = sl 6 := by rw [g1, if_neg (by omega)]; exact h2 6 (by omega)
  rw [e6]
  have g2 : ∀ x y, gI (sI σ1 l 6 (jmin 999 (sl 6 + 1))) x y = if x = l ∧ y = 6 then jmin 999 (sl 6 + 1) else gI σ1 x y := fun x y => gI_sI _ _ _ _ _ _
  generalize sI σ1 l 6 (jmin 999 (sl 6 + 1)) = σ2 at g2 ⊢
  have e35 : gI σ2 35 4 = gI σ 35 4 := by rw [g2, if_neg (by omega), g1, if_neg (by omega)]
  have e4 : gI σ2 l 4 = sl 4 := by rw [g2, if_neg (by omega), g1, if_neg (by omega)]; exact h2 4 (by omega)
  rw [e35, e4]
  by_cases q : 5 ≤ gI σ 35 4
  · rw [if_pos q]
    refine ⟨σ2, rfl, fun k hk => ?_, fun k hk => ?_, fun x y z1 z2 => ?_⟩
    · rw [g2, if_neg (by omega), g1]
      unfold winU
      by_cases z : k = 5
      · rw [if_pos ⟨rfl, z⟩, if_pos z]
      · rw [if_neg (fun y => z y.2), if_neg z]; exact h1 k hk
    · rw [g2]
      unfold losU
      by_cases z : k = 6
      · rw [if_pos ⟨rfl, z⟩, if_pos z]
      · rw [if_neg (fun y => z y.2), if_neg z, g1, if_neg (by omega)]
        by_cases z4 : k = 4
        · rw [if_pos z4, if_pos q, z4]; exact h2 4 (by omega)
        · rw [if_neg z4]; exact h2 k hk
    · rw [g2, if_neg (by omega), g1, if_neg (by omega)]
  · rw [if_neg q]
    have g3 : ∀ x y, gI (sI σ2 l 4 (jmin 9 (sl 4 + 1))) x y = if x = l ∧ y = 4 then jmin 9 (sl 4 + 1) else gI σ2 x y := fun x y => gI_sI _ _ _ _ _ _
    refine ⟨_, rfl, fun k hk => ?_, fun k hk => ?_, fun x y z1 z2 => ?_⟩
    · rw [g3, if_neg (by omega), g2, if_neg (by omega), g1]
      unfold winU
      by_cases z : k = 5
      · rw [if_pos ⟨rfl, z⟩, if_pos z]
      · rw [if_neg (fun y => z y.2), if_neg z]; exact h1 k hk
    · rw [g3]
      unfold losU
      by_cases z4 : k = 4
      · rw [if_pos ⟨rfl, z4⟩, if_neg (by omega), if_pos z4, if_neg q]
      · rw [if_neg (fun y => z4 y.2), g2]
        by_cases z : k = 6
        · rw [if_pos ⟨rfl, z⟩, if_pos z]
        · rw [if_neg (fun y => z y.2), if_neg z, if_neg z4, g1, if_neg (by omega)]; exact h2 k hk
    · rw [g3, if_neg (by omega), g2, if_neg (by omega), g1, if_neg (by omega)]
theorem clash8 {σ : St} {t w1 w2 : Nat} {cs : Nat → List Int32} {s1 s2 : Nat → Int32} (hw : w1 ≠ w2) (o1 : Ob 75 7 w1) (o2 : Ob 75 7 w2) (ht : t < 6) (hr : gI σ 1 3 = nI t) (hT : TxOk σ t) (hc : txC σ t = cs) (h1 : ∀ k, k < 7 → gI σ w1 k = s1 k) (h2 : ∀ k, k < 7 → gI σ w2 k = s2 k) (b1 : bdM s1) (b2 : bdM s2) (pa pb : Int32) : ∃ σ', S8_clash w1 w2 pa pb σ = some ((), σ') ∧ (∀ k, k < 7 → gI σ' w1 k = fg1 cs s1 s2 pa pb k) ∧ (∀ k, k < 7 → gI σ' w2 k = fg2 cs s1 s2 pa pb k) ∧ (∀ x y, ¬ scB x y → x ≠ w1 → x ≠ w2 → gI σ' x y = gI σ x y) ∧ gI σ' 35 5 = cel cs s1 s2 pa pb 9 - 4 := by
  obtain ⟨p1, p2, p3, p4, p5, p6, p7⟩ := ob7_ne o1
  obtain ⟨q1, q2, q3, q4, q5, q6, q7⟩ := ob7_ne o2
  obtain ⟨σ1, e1, f1, P1⟩ := pair2w o1 o2 ht hT hc (fun k hk => h1 k (by omega)) (fun k hk => h2 k (by omega))
  obtain ⟨σ2, e2, f2, -, -, c2, c3⟩ := go2w b1.1 b2.1 P1 pa pb
  have F : ∀ x y, ¬ scB x y → gI σ2 x y = gI σ x y := fun x y z => (f2.1 x y z).trans (f1.1 x y z)
  have h1' : ∀ k, k < 7 → gI σ2 w1 k = s1 k := fun k hk => by rw [F _ _ (by unfold scB; omega)]; exact h1 k hk
  have h2' : ∀ k, k < 7 → gI σ2 w2 k = s2 k := fun k hk => by rw [F _ _ (by unfold scB; omega)]; exact h2 k hk
  have cb := cel_b cs s1 s2 pa pb 9
  unfold S8_clash S8_clash_49
  rw [theLaw8 ht hr, bnd_s, e1, bnd_s, e2, bnd_s, c3]
  unfold fg1 fg2
  generalize hcc : cel cs s1 s2 pa pb 9 = c at c3 cb ⊢
  obtain ⟨cb1, cb2⟩ := cb
  have z1 : c - 4 = 0 ↔ c = 4 := by constructor <;> intro <;> grind
  have z2 : c - 4 ≤ 0 ↔ c ≤ 4 := by constructor <;> intro <;> grind
  by_cases k1 : c = 4
  · rw [if_pos (z1.mpr k1), if_pos k1, if_pos k1]
    exact ⟨σ2, rfl, h1', h2', fun x y z _ _ => F x y z, c3⟩
  · rw [if_neg (fun z => k1 (z1.mp z)), if_neg k1, if_neg k1]
    by_cases k2 : c ≤ 4
    · rw [if_pos (z2.mpr k2), if_pos (z2.mpr k2), if_pos k2, if_pos k2]
      obtain ⟨σ3, e3, u1, u2, u3⟩ := clash66 (a := w1) (b := w2) (c := pa) (d := pb) (fun z => hw z.symm) o2 o1 h2' h1'
      rw [c2] at u2
      exact ⟨σ3, e3, u2, u1, fun x y z y1 y2 => by rw [u3 x y y2 y1]; exact F x y z, by rw [u3 35 5 (by omega) (by omega)]; exact c3⟩
    · rw [if_neg (fun z => k2 (z2.mp z)), if_neg (fun z => k2 (z2.mp z)), if_neg k2, if_neg k2]
      obtain ⟨σ3, e3, u1, u2, u3⟩ := clash66 (a := w1) (b := w2) (c := pa) (d := pb) hw o1 o2 h1' h2'
      rw [c2] at u2
      exact ⟨σ3, e3, u1, u2, fun x y z y1 y2 => by rw [u3 x y y1 y2]; exact F x y z, by rw [u3 35 5 (by omega) (by omega)]; exact c3⟩
theorem within_inc {M x : Int32} (h0 : 0 ≤ x) (h1 : x ≤ M) (hM : 0 ≤ M) (hM2 : M ≤ 2000) : wi (x + 1) 0 M = jmin M (x + 1) := by
  unfold wi
  have h := jmin_b h0 h1 hM hM2
  generalize jmin M (x + 1) = y at h
  obtain ⟨ha, hb⟩ := h
  unfold jmax
  split
  · rfl
  · grind
theorem within_id {M x : Int32} (h0 : 0 ≤ x) (h1 : x ≤ M) (hM : 0 ≤ M) (hM2 : M ≤ 2000) : wi (x + 0) 0 M = x := by
  unfold wi jmax jmin
  split <;> (split at * <;> grind)
theorem fights34 {a b c d : Int32} {w l : Nat} {σ : St} {sw sl : Nat → Int32} (hwl : w ≠ l) (hw : w < 6) (hl : l < 6) (h1 : ∀ k, k < 7 → stM σ w k = sw k) (h2 : ∀ k, k < 7 → stM σ l k = sl k) (b1 : bdM sw) (b2 : bdM sl) : ∃ σ', S9_fights_34 a b c d (nI w) (nI l) σ = some ((), σ') ∧ (∀ k, k < 7 → stM σ' w k = winU sw k) ∧ (∀ k, k < 7 → stM σ' l k = losU sl (gI σ 75 36) k) ∧ ∀ x y, ¬ (x = 78 ∧ ((5 * w ≤ y ∧ y < 5 * w + 5) ∨ (5 * l ≤ y ∧ y < 5 * l + 5))) → gI σ' x y = gI σ x y := by
  have i3 : (5 : Int32) * nI w + 3 = nI (5 * w + 3) := by rw [show (5 : Int32) = nI 5 from rfl, nI_mul, show (3 : Int32) = nI 3 from rfl, nI_add]
  have i4 : (5 : Int32) * nI l + 4 = nI (5 * l + 4) := by rw [show (5 : Int32) = nI 5 from rfl, nI_mul, show (4 : Int32) = nI 4 from rfl, nI_add]
  have i2 : (5 : Int32) * nI l + 2 = nI (5 * l + 2) := by rw [show (5 : Int32) = nI 5 from rfl, nI_mul, show (2 : Int32) = nI 2 from rfl, nI_add]
  have r5 : gI σ 78 (5 * w + 3) = sw 5 := h1 5 (by omega)
  have r6 : gI σ 78 (5 * l + 4) = sl 6 := h2 6 (by omega)
  have r4 : gI σ 78 (5 * l + 2) = sl 4 := h2 4 (by omega)
  unfold S9_fights_34
  simp only [i3, i4, i2, if_pos (inb_nI (show 5 * w + 3 < 30 by omega) (show 30 < 2 ^ 31 by omega)), if_pos (inb_nI (show 5 * l + 4 < 30 by omega) (show 30 < 2 ^ 31 by omega)), if_pos (inb_nI (show 5 * l + 2 < 30 by omega) (show 30 < 2 ^ 31 by omega)), nI_clamp (show 5 * w + 3 < 2 ^ 31 by omega), nI_clamp (show 5 * l + 4 < 2 ^ 31 by omega), nI_clamp (show 5 * l + 2 < 2 ^ 31 by omega)]
  rw [within9g _ (0 : Int32) 999 (by decide), bnd_s, r5, within_inc b1.2.1.1 b1.2.1.2 (by decide) (by decide)]
  have g1 : ∀ x y, gI (sI σ 78 (5 * w + 3) (jmin 999 (sw 5 + 1))) x y = if x = 78 ∧ y = 5 * w + 3 then jmin 999 (sw 5 + 1) else gI σ x y := fun x y => gI_sI _ _ _ _ _ _
  generalize sI σ 78 (5 * w + 3) (jmin 999 (sw 5 + 1)) = σ1 at g1 ⊢
  have q6 : gI σ1 78 (5 * l + 4) = sl 6 := by rw [g1, if_neg (by omega)]; exact r6
  rw [within9g _ (0 : Int32) 999 (by decide), bnd_s, q6, within_inc b2.2.2.1 b2.2.2.2 (by decide) (by decide)]
  have g2 : ∀ x y, gI (sI σ1 78 (5 * l + 4) (jmin 999 (sl 6 + 1))) x y = if x = 78 ∧ y = 5 * l + 4 then jmin 999 (sl 6 + 1) else gI σ1 x y := fun x y => gI_sI _ _ _ _ _ _
  generalize sI σ1 78 (5 * l + 4) (jmin 999 (sl 6 + 1)) = σ2 at g2 ⊢
  have e36 : gI σ2 75 36 = gI σ 75 36 := by rw [g2, if_neg (by omega), g1, if_neg (by omega)]
  have e4 : gI σ2 78 (5 * l + 2) = sl 4 := by rw [g2, if_neg (by omega), g1, if_neg (by omega)]; exact r4
  rw [e36, e4]
  have fin : ∀ v, (v = if 5 ≤ gI σ 75 36 then sl 4 else jmin 9 (sl 4 + 1)) → ∃ σ', (some ((), sI σ2 78 (5 * l + 2) v) : Option (Unit × St)) = some ((), σ') ∧ (∀ k, k < 7 → stM σ' w k = winU sw k) ∧ (∀ k, k < 7 → stM σ' l k = losU sl (gI σ 75 36) k) ∧ ∀ x y, ¬ (x = 78 ∧ ((5 * w ≤ y ∧ y < 5 * w + 5) ∨ (5 * l ≤ y ∧ y < 5 * l + 5))) → gI σ' x y = gI σ x y := by
    intro v hv
    have g3 : ∀ x y, gI (sI σ2 78 (5 * l + 2) v) x y = if x = 78 ∧ y = 5 * l + 2 then v else gI σ2 x y := fun x y => gI_sI _ _ _ _ _ _
    refine ⟨_, rfl, fun k hk => ?_, fun k hk => ?_, fun x y z => ?_⟩
    · have h := h1 k hk
      unfold stM at h ⊢
      unfold winU
      simp only [g3, g2, g1]
      match k, hk, h with
      | 0, _, h => simp only [show ¬ ((76 : Nat) = 78) by omega, false_and, if_false, if_true, show ¬ ((0 : Nat) = 5) by omega]; exact h
      | 1, _, h => simp only [show ¬ ((77 : Nat) = 78) by omega, false_and, if_false, if_true, show ¬ ((1 : Nat) = 5) by omega, show ¬ ((1 : Nat) = 0) by omega]; exact h
      | 2, _, h => rw [if_neg (by omega), if_neg (by omega), if_neg (by omega), if_neg (by omega), if_neg (by omega), if_neg (by omega)]; exact h
      | 3, _, h => rw [if_neg (by omega), if_neg (by omega), if_neg (by omega), if_neg (by omega), if_neg (by omega), if_neg (by omega)]; exact h
      | 4, _, h => rw [if_neg (by omega), if_neg (by omega), if_neg (by omega), if_neg (by omega), if_neg (by omega), if_neg (by omega)]; exact h
      | 5, _, h => rw [if_neg (by omega), if_neg (by omega), if_neg (by omega), if_neg (by omega), if_pos ⟨by trivial, by omega⟩, if_pos rfl]
      | 6, _, h => rw [if_neg (by omega), if_neg (by omega), if_neg (by omega), if_neg (by omega), if_neg (by omega), if_neg (by omega)]; exact h
      | k + 7, hk, _ => exact absurd hk (by omega)
    · have h := h2 k hk
      unfold stM at h ⊢
      unfold losU
      simp only [g3, g2, g1]
      match k, hk, h with
      | 0, _, h => simp only [show ¬ ((76 : Nat) = 78) by omega, false_and, if_false, if_true, show ¬ ((0 : Nat) = 6) by omega, show ¬ ((0 : Nat) = 4) by omega]; exact h
      | 1, _, h => simp only [show ¬ ((77 : Nat) = 78) by omega, false_and, if_false, if_true, show ¬ ((1 : Nat) = 6) by omega, show ¬ ((1 : Nat) = 4) by omega, show ¬ ((1 : Nat) = 0) by omega]; exact h
      | 2, _, h => rw [if_neg (by omega), if_neg (by omega), if_neg (by omega), if_neg (by omega), if_neg (by omega), if_neg (by omega), if_neg (by omega)]; exact h
      | 3, _, h => rw [if_neg (by omega), if_neg (by omega), if_neg (by omega), if_neg (by omega), if_neg (by omega), if_neg (by omega), if_neg (by omega)]; exact h
      | 4, _, h => rw [if_neg (by omega), if_neg (by omega), if_pos ⟨by trivial, by omega⟩, if_neg (by omega), if_pos rfl]; exact hv
      | 5, _, h => rw [if_neg (by omega), if_neg (by omega), if_neg (by omega), if_neg (by omega), if_neg (by omega), if_neg (by omega), if_neg (by omega)]; exact h
      | 6, _, h => rw [if_neg (by omega), if_neg (by omega), if_neg (by omega), if_pos ⟨by trivial, by omega⟩, if_pos rfl]
      | k + 7, hk, _ => exact absurd hk (by omega)
    · rw [g3, if_neg (by omega), g2, if_neg (by omega), g1, if_neg (by omega)]
  unfold S9_fights_132
  by_cases q : 5 ≤ gI σ 75 36
  · rw [if_pos q, within9g _ (0 : Int32) 9 (by decide), bnd_s, within_id b2.1.2.1 b2.1.2.2 (by decide) (by decide), if_pos (inb_nI (by omega) (by omega)), nI_clamp (by omega)]
    exact fin _ (by rw [if_pos q])
  · rw [if_neg q, within9g _ (0 : Int32) 9 (by decide), bnd_s, within_inc b2.1.2.1 b2.1.2.2 (by decide) (by decide), if_pos (inb_nI (by omega) (by omega)), nI_clamp (by omega)]
    exact fin _ (by rw [if_neg q])
theorem fights9 {σ : St} {t m1 m2 : Nat} {cs : Nat → List Int32} {s1 s2 : Nat → Int32} (hm : m1 ≠ m2) (o1 : m1 < 6) (o2 : m2 < 6) (ht : t < 6) (hr : gI σ 75 10 = nI t) (hT : TxOk σ t) (hc : txC σ t = cs) (h1 : ∀ k, k < 7 → stM σ m1 k = s1 k) (h2 : ∀ k, k < 7 → stM σ m2 k = s2 k) (b1 : bdM s1) (b2 : bdM s2) (pa pb : Int32) : ∃ σ', S9_fights (nI m1) (nI m2) pa pb σ = some ((), σ') ∧ (∀ k, k < 7 → stM σ' m1 k = fg1 cs s1 s2 pa pb k) ∧ (∀ k, k < 7 → stM σ' m2 k = fg2 cs s1 s2 pa pb k) ∧ (∀ x y, ¬ scN x y → ¬ (x = 78 ∧ ((5 * m1 ≤ y ∧ y < 5 * m1 + 5) ∨ (5 * m2 ≤ y ∧ y < 5 * m2 + 5))) → gI σ' x y = gI σ x y) ∧ gI σ' 75 35 = winF (nI m1) (nI m2) (cel cs s1 s2 pa pb 9) := by
  obtain ⟨σ1, e1, f1, c1, c2, c3, -⟩ := bout9w b1.1 b2.1 o1 o2 ht hr hT hc (fun k hk => h1 k (by omega)) (fun k hk => h2 k (by omega)) pa pb
  have F := f1.1
  have hst : ∀ m, stM σ1 m = stM σ m := stM_fr (fun a b z => F a b (by unfold scN; omega))
  have h1' : ∀ k, k < 7 → stM σ1 m1 k = s1 k := fun k hk => by rw [hst]; exact h1 k hk
  have h2' : ∀ k, k < 7 → stM σ1 m2 k = s2 k := fun k hk => by rw [hst]; exact h2 k hk
  have cb := cel_b cs s1 s2 pa pb 9
  unfold S9_fights
  rw [e1, bnd_s, c3]
  unfold fg1 fg2 winF
  unfold winF at c3
  generalize hcc : cel cs s1 s2 pa pb 9 = c at c3 cb ⊢
  obtain ⟨cb1, cb2⟩ := cb
  by_cases k1 : c = 4
  · rw [if_pos (show c ≤ 4 by grind), if_pos (show 4 ≤ c by grind)] at c3
    rw [if_pos (show c ≤ 4 by grind), if_pos (show 4 ≤ c by grind), if_pos rfl, if_pos k1, if_pos k1]
    exact ⟨σ1, rfl, h1', h2', fun x y z _ => F x y z, c3⟩
  · by_cases k2 : c ≤ 4
    · have k4 : ¬ 4 ≤ c := by grind
      rw [if_pos k2, if_neg k4] at c3
      rw [if_pos k2, if_neg k4, if_neg (show ¬ nI m2 = -1 from fun z => absurd (nI_pos' (n := m2) (by omega)) (by rw [z]; decide)), if_neg (show ¬ nI m2 = nI m1 from fun z => hm ((nI_inj (by omega) (by omega)).mp z).symm), if_neg k1, if_neg k1, if_pos k2, if_pos k2]
      obtain ⟨σ3, e3, u1, u2, u3⟩ := fights34 (a := nI m1) (b := nI m2) (c := pa) (d := pb) (fun z => hm z.symm) o2 o1 h2' h1' b2 b1
      rw [c2] at u2
      exact ⟨σ3, e3, u2, u1, fun x y z y1 => by rw [u3 x y (by omega)]; exact F x y z, by rw [u3 75 35 (by omega)]; exact c3⟩
    · rw [if_neg k2] at c3
      rw [if_neg k2, if_neg (show ¬ nI m1 = -1 from fun z => absurd (nI_pos' (n := m1) (by omega)) (by rw [z]; decide)), if_pos rfl, if_neg k1, if_neg k1, if_neg k2, if_neg k2]
      obtain ⟨σ3, e3, u1, u2, u3⟩ := fights34 (a := nI m1) (b := nI m2) (c := pa) (d := pb) hm o1 o2 h1' h2' b1 b2
      rw [c2] at u2
      exact ⟨σ3, e3, u1, u2, fun x y z y1 => by rw [u3 x y (by omega)]; exact F x y z, by rw [u3 75 35 (by omega)]; exact c3⟩
/-- what holds goes on to hold, when two have changed alike on both sides -/
theorem inv_two {n T t : Nat} {σ σ2 : St} (hI : Inv n T t σ) {m1 m2 : Nat} (hm1 : m1 < n) (hm2 : m2 < n) (k1 : ∀ x y, ¬ scr x y → ¬ (x = 3 + m1 ∨ x = 3 + m2 ∨ (x = 78 ∧ ((5 * m1 ≤ y ∧ y < 5 * m1 + 5) ∨ (5 * m2 ≤ y ∧ y < 5 * m2 + 5)))) → gI σ2 x y = gI σ x y) (h8 : ∀ k, k < 7 → gI σ2 (3 + m1) k = stM σ2 m1 k) (hb : bdM (stM σ2 m1)) (h8' : ∀ k, k < 7 → gI σ2 (3 + m2) k = stM σ2 m2 k) (hb' : bdM (stM σ2 m2)) : Inv n T t σ2 := by
  obtain ⟨h1, h2, h3, h4, h5, h6, h7⟩ := hI
  have hb0 := h1.1
  refine ⟨h1.fr (fun a b z => k1 a b (by unfold scr; omega) (by omega)), fun m' hm' => ?_, fun j hj => TxOk_fr (by omega) (fun a b z => k1 a b (by unfold scr; omega) (by omega)) (h3 j hj), h4.fr (fun a b z => k1 a b (by unfold scr; omega) (by omega)), fun s hs => (h5 s hs).fr hs (fun a b z => k1 a b (by unfold scr; omega) (by omega)), h6.fr (Nat.le_refl _) (Nat.le_refl _) hb0.1 (fun a b z => k1 a b (by unfold scr; omega) (by omega)), fun j hj => ?_⟩
  · by_cases q : m' = m1
    · subst q; exact ⟨h8, hb⟩
    · by_cases q' : m' = m2
      · subst q'; exact ⟨h8', hb'⟩
      · have e : ∀ k, k < 7 → stM σ2 m' k = stM σ m' k := stM_7 (k1 _ _ (by unfold scr; omega) (by omega)) (k1 _ _ (by unfold scr; omega) (by omega)) (fun y y1 y2 => k1 _ _ (by unfold scr; omega) (by omega))
        refine ⟨fun k hk => ?_, bdM_cg (fun k hk => (e k hk).symm) (h2 m' hm').2⟩
        rw [e k hk, k1 (3 + m') k (by unfold scr; omega) (by omega)]
        exact (h2 m' hm').1 k hk
  · rw [k1 88 j (by unfold scr; omega) (by omega)]; exact h7 j hj
theorem same_fight (a b pa pb : Int32) : Same (S8_fight a b pa pb) (S9_fight a b pa pb) := by
  intro n T t σ hI
  have hn := hI.n6
  by_cases hp : two01 n a b = 0
  · refine same_rf hI (-5) ?_ ?_
    · unfold S8_fight; rw [areTwo8 hI.n8, bnd_s, if_pos hp]
    · unfold S9_fight; rw [areTwo9 hn hI.n9, bnd_s, if_pos hp]
  · obtain ⟨k, l, hk, hl, hkl, rfl, rfl⟩ := two01_t hn hp
    by_cases hq : pls01 pa pb = 0
    · refine same_rf hI (-7) ?_ ?_
      · unfold S8_fight; rw [areTwo8 hI.n8, bnd_s, if_neg hp, arePlans8, bnd_s, if_pos hq]
      · unfold S9_fight
        rw [areTwo9 hn hI.n9, bnd_s, if_neg hp, isPlan9, bnd_s, isPlan9, bnd_s]
        rcases pls01_f hq with z | ⟨z1, z2⟩
        · rw [if_pos z]
        · rw [if_neg z1, if_pos z2]
    · obtain ⟨q1, q2⟩ := pls01_t hq
      obtain ⟨σ1, e1, a1, a2, a3, a4⟩ := clash8 (σ := σ) (show 3 + k ≠ 3 + l by omega) (obW1 k (by omega)) (obW1 l (by omega)) hI.t6 hI.l8 (hI.tx hI.tT) rfl (hI.men hk) (hI.men hl) (hI.bd hk) (hI.bd hl) pa pb
      have F1 : ∀ x y, ¬ scB x y → x ≠ 3 + k → x ≠ 3 + l → gI σ1 x y = gI σ x y := a3
      have s1 : ∀ m, stM σ1 m = stM σ m := stM_fr (fun x y z => F1 x y (by unfold scB; omega) (by omega) (by omega))
      have c1 : txC σ1 t = txC σ t := txC_fr t (fun x y z => F1 x y (by unfold scB; omega) (by omega) (by omega))
      have T1 : TxOk σ1 t := TxOk_fr hI.t6 (fun x y z => F1 x y (by unfold scB; omega) (by omega) (by omega)) (hI.tx hI.tT)
      obtain ⟨σ2, e2, b1, b2, b3, b4⟩ := fights9 (σ := σ1) hkl (show k < 6 by omega) (show l < 6 by omega) hI.t6 ((F1 75 10 (by unfold scB; omega) (by omega) (by omega)).trans hI.l9) T1 c1 (fun j _ => by rw [s1]) (fun j _ => by rw [s1]) (hI.bd hk) (hI.bd hl) pa pb
      have n9 : gI σ1 75 0 = nI n := (F1 75 0 (by unfold scB; omega) (by omega) (by omega)).trans hI.n9
      refine ⟨winF (nI k) (nI l) (cel (txC σ t) (stM σ k) (stM σ l) pa pb 9), σ1, σ2, ?_, ?_, n, T, t, ?_⟩
      · unfold S8_fight
        rw [areTwo8 hI.n8, bnd_s, if_neg hp, arePlans8, bnd_s, if_neg hq, man8 (by omega), bnd_s, man8 (by omega), bnd_s, e1, bnd_s, winnerOf8 _ _ _ _ _ _ _ a4, bnd_s]
      · unfold S9_fight
        rw [areTwo9 hn n9, bnd_s, if_neg hp, isPlan9, bnd_s, isPlan9, bnd_s, if_neg q1, if_neg q2, e2, bnd_s, b4]
      · refine inv_two hI hk hl (fun x y z z2 => ?_) (fun j hj => ?_) (bdM_cg (fun j hj => (b1 j hj).symm) (fg1_b (hI.bd hk) pa pb)) (fun j hj => ?_) (bdM_cg (fun j hj => (b2 j hj).symm) (fg2_b (hI.bd hl) pa pb))
        · rw [b3 x y (fun q => z (scN_scr x y q)) (by omega)]
          exact F1 x y (fun q => z (scB_scr x y q)) (by omega) (by omega)
        · rw [b1 j hj, b3 _ _ (by unfold scN; omega) (by omega)]; exact a1 j hj
        · rw [b2 j hj, b3 _ _ (by unfold scN; omega) (by omega)]; exact a2 j hj
