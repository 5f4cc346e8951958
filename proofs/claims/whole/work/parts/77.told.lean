/-! The first for which something is so; sets; told bouts. -/
def Fst (P : Nat → Prop) (n : Nat) (r : Int32) : Prop := (r = -1 ∧ ∀ j, j < n → ¬ P j) ∨ ∃ k, k < n ∧ r = nI k ∧ P k ∧ ∀ j, j < k → ¬ P j
theorem Fst.uni {P : Nat → Prop} {n : Nat} {r r' : Int32} (h : Fst P n r) (h' : Fst P n r') : r = r' := by
  rcases h with ⟨rfl, h⟩ | ⟨k, hk, rfl, hp, h⟩
  · rcases h' with ⟨rfl, -⟩ | ⟨k', hk', -, hp', -⟩
    · rfl
    · exact absurd hp' (h k' hk')
  · rcases h' with ⟨-, h'⟩ | ⟨k', hk', rfl, hp', h'⟩
    · exact absurd hp (h' k hk)
    · rcases Nat.lt_trichotomy k k' with q | q | q
      · exact absurd hp (h' k q)
      · rw [q]
      · exact absurd hp' (h k' q)
def alB (row cl : Nat → Int32) : Nat → Bool
  | 0 => true
  | i + 1 => alB row cl i && decide (row i = cl (i + 1))
theorem alB_t (row cl : Nat → Int32) : ∀ z, alB row cl z = true ↔ ∀ i, i < z → ¬ row i ≠ cl (i + 1) := by
  intro z
  induction z with
  | zero => exact ⟨fun _ i hi => absurd hi (by omega), fun _ => rfl⟩
  | succ z ih =>
    show (alB row cl z && decide (row z = cl (z + 1))) = true ↔ _
    rw [Bool.and_eq_true, ih, decide_eq_true_iff]
    constructor
    · rintro ⟨h1, h2⟩ i hi
      by_cases q : i = z
      · subst q; exact fun z => z h2
      · exact h1 i (by omega)
    · intro h
      exact ⟨fun i hi => h i (by omega), Decidable.byContradiction fun y => h z (by omega) y⟩
theorem Fst.al {row cl : Nat → Int32} {z : Nat} {r : Int32} (hz : z ≤ 9) (h : Fst (fun i => row i ≠ cl (i + 1)) z r) : (r = -1 ↔ alB row cl z = true) ∧ (0 ≤ r ↔ ¬ alB row cl z = true) := by
  have e := alB_t row cl z
  rcases h with ⟨rfl, h⟩ | ⟨k, hk, rfl, hp, -⟩
  · have t := e.mpr h
    exact ⟨⟨fun _ => t, fun _ => rfl⟩, ⟨fun y => absurd y (by decide), fun y => absurd t y⟩⟩
  · have nt : ¬ alB row cl z = true := fun y => e.mp y k hk hp
    exact ⟨⟨fun y => absurd (nI_pos' (n := k) (by omega)) (by rw [y]; decide), fun y => absurd y nt⟩, ⟨fun _ => nt, fun _ => nI_pos' (by omega)⟩⟩
/-- a set as bits -/
def bS (P : Nat → Bool) : Nat → Int32
  | 0 => 0
  | v + 1 => bS P v ||| (if P v = true then 1 <<< (nI v &&& 31) else 0)
theorem bS_t {P : Nat → Bool} {v : Nat} (h : P v = true) : bS P (v + 1) = bS P v ||| (1 <<< (nI v &&& 31)) := by
  show bS P v ||| (if P v = true then _ else _) = _
  rw [if_pos h]
theorem bS_f {P : Nat → Bool} {v : Nat} (h : ¬ P v = true) : bS P (v + 1) = bS P v ||| 0 := by
  show bS P v ||| (if P v = true then _ else _) = _
  rw [if_neg h]
theorem bS_s {P : Nat → Bool} {v : Nat} (h : ¬ P v = true) : bS P (v + 1) = bS P v := by
  rw [bS_f h, Int32.or_zero]
theorem bS_cg {P Q : Nat → Bool} : ∀ n, (∀ v, v < n → P v = Q v) → bS P n = bS Q n := by
  intro n
  induction n with
  | zero => intro _; rfl
  | succ n ih =>
    intro h
    show bS P n ||| _ = bS Q n ||| _
    rw [ih (fun v hv => h v (by omega)), h n (by omega)]
/-- the first second that is otherwise, at the class -/
theorem ob3 : ∀ s, s < 4 → Ob 75 3 (67 + 2 * s) := by decide +kernel
theorem shAt8 {s i : Nat} (hs : s < 4) (hi : i < 40) (σ : St) : S3_at (67 + 2 * s) (nI i) σ = some (gI σ (68 + 2 * s) i, σ) := by
  unfold S3_at
  rw [if_neg (nI_pos (by omega)), if_neg (show ¬ (40 : Int32) ≤ nI i from nI_ge (b := 40) hi (by omega)), if_pos (inb_nI hi (by omega)), nI_clamp (by omega), show 67 + 2 * s + 1 = 68 + 2 * s by omega]
theorem fo8 {cs : Nat → List Int32} {s1 s2 : Nat → Int32} {pa pb : Int32} {σ : St} {s z : Nat} {row : Nat → Int32} (hB : B2 cs s1 s2 pa pb σ) (hs : s < 4) (hz : z ≤ 9) (h2 : gI σ (67 + 2 * s) 2 = nI z) (hr : ∀ i, i < 40 → gI σ (68 + 2 * s) i = row i) : ∃ r, S0_firstOtherwise (67 + 2 * s) σ = some (r, σ) ∧ Fst (fun i => row i ≠ cel cs s1 s2 pa pb (i + 1)) z r := by
  have hres := loopI (fun f i τ => S0_firstOtherwise_2 (67 + 2 * s) f (nI i) τ) z (fun i τ => τ = σ ∧ ∀ j, j < i → ¬ row j ≠ cel cs s1 s2 pa pb (j + 1)) (fun r τ => τ = σ ∧ Fst (fun i => row i ≠ cel cs s1 s2 pa pb (i + 1)) z r)
    (fun i f τ hi hL => by
      obtain ⟨rfl, hL⟩ := hL
      have e : S0_firstOtherwise_2 (67 + 2 * s) (f + 1) (nI i) τ = if row i = cel cs s1 s2 pa pb (i + 1) then S0_firstOtherwise_2 (67 + 2 * s) f (nI (i + 1)) τ else some (nI i, τ) := by
        show B0_firstOtherwise_2 _ _ _ τ = _
        unfold B0_firstOtherwise_2
        rw [h2, if_neg (nI_ge hi (by omega)), shAt8 hs (by omega), bnd_s, nI_1, cellBehind8 (by omega), bnd_s, hr i (by omega), hB.1 (i + 1) (by omega)]
      by_cases q : row i = cel cs s1 s2 pa pb (i + 1)
      · exact Or.inl ⟨τ, by rw [e, if_pos q], rfl, fun j hj => by
          by_cases qj : j = i
          · subst qj; exact fun y => y q
          · exact hL j (by omega)⟩
      · exact Or.inr ⟨nI i, τ, by rw [e, if_neg q], rfl, Or.inr ⟨i, hi, rfl, q, hL⟩⟩)
    (fun f τ hL => by
      obtain ⟨rfl, hL⟩ := hL
      refine ⟨-1, τ, ?_, rfl, Or.inl ⟨rfl, hL⟩⟩
      show B0_firstOtherwise_2 _ _ _ τ = _
      unfold B0_firstOtherwise_2
      rw [h2, if_pos (Int32.le_refl _)]) z 0 4096 σ (by omega) (by omega) ⟨rfl, fun j hj => absurd hj (by omega)⟩
  obtain ⟨r, σ', h3, rfl, h4⟩ := hres
  exact ⟨r, h3, h4⟩
theorem un9 {cs : Nat → List Int32} {s1 s2 : Nat → Int32} {pa pb a b c d : Int32} {k l : Nat} {σ : St} {s z : Nat} {row : Nat → Int32} (hB : B9 cs s1 s2 k l pa pb σ) (hs : s < 4) (hz : z ≤ 9) (h2 : gI σ 85 s = nI z) (hr : ∀ i, i < 40 → gI σ 86 (40 * s + i) = row i) : ∃ r, S9_unlike_13 (nI s) a b c d 4096 0 σ = some (r, σ) ∧ Fst (fun i => row i ≠ cel cs s1 s2 pa pb (i + 1)) z r := by
  have hres := loopI (fun f i τ => S9_unlike_13 (nI s) a b c d f (nI i) τ) z (fun i τ => τ = σ ∧ ∀ j, j < i → ¬ row j ≠ cel cs s1 s2 pa pb (j + 1)) (fun r τ => τ = σ ∧ Fst (fun i => row i ≠ cel cs s1 s2 pa pb (i + 1)) z r)
    (fun i f τ hi hL => by
      obtain ⟨rfl, hL⟩ := hL
      have e : S9_unlike_13 (nI s) a b c d (f + 1) (nI i) τ = if row i = cel cs s1 s2 pa pb (i + 1) then S9_unlike_13 (nI s) a b c d f (nI (i + 1)) τ else some (nI i, τ) := by
        show B9_unlike_13 _ _ _ _ _ _ _ τ = _
        unfold B9_unlike_13
        have e40 : (40 : Int32) * nI s + nI i = nI (40 * s + i) := by rw [show (40 : Int32) = nI 40 from rfl, nI_mul, nI_add]
        have ew : wi (nI (i + 1)) 0 9 = nI (i + 1) := by
          unfold wi jmax jmin
          have g1 : nI (i + 1) ≤ nI 9 := nI_le (by omega) (by omega)
          have g2 : ¬ nI (i + 1) < 0 := nI_pos (by omega)
          rw [show nI 9 = (9 : Int32) from rfl] at g1
          generalize nI (i + 1) = y at g1 g2 ⊢
          split <;> (split at * <;> grind)
        rw [if_pos (inb_nI hs (by omega)), nI_clamp (show s < 2 ^ 31 by omega), h2, if_neg (nI_ge hi (by omega)), e40, if_pos (inb_nI (by omega) (by omega)), nI_clamp (show 40 * s + i < 2 ^ 31 by omega), nI_1, within9g _ (0 : Int32) 9 (by decide), bnd_s, ew, if_pos (inb_nI (by omega) (by omega)), nI_clamp (by omega), hr i (by omega), hB.1 (i + 1) (by omega)]
      by_cases q : row i = cel cs s1 s2 pa pb (i + 1)
      · exact Or.inl ⟨τ, by rw [e, if_pos q], rfl, fun j hj => by
          by_cases qj : j = i
          · subst qj; exact fun y => y q
          · exact hL j (by omega)⟩
      · exact Or.inr ⟨nI i, τ, by rw [e, if_neg q], rfl, Or.inr ⟨i, hi, rfl, q, hL⟩⟩)
    (fun f τ hL => by
      obtain ⟨rfl, hL⟩ := hL
      refine ⟨-1, τ, ?_, rfl, Or.inl ⟨rfl, hL⟩⟩
      show B9_unlike_13 _ _ _ _ _ _ _ τ = _
      unfold B9_unlike_13
      rw [if_pos (inb_nI hs (by omega)), nI_clamp (show s < 2 ^ 31 by omega), h2, if_pos (Int32.le_refl _)]) z 0 4096 σ (by omega) (by omega) ⟨rfl, fun j hj => absurd hj (by omega)⟩
  obtain ⟨r, σ', h3, rfl, h4⟩ := hres
  exact ⟨r, h3, h4⟩
theorem unlike9 {σ : St} {m1 m2 t s z : Nat} {cs : Nat → List Int32} {s1 s2 : Nat → Int32} {row : Nat → Int32} (k1 : smS s1) (k2 : smS s2) (h1 : m1 < 6) (h2 : m2 < 6) (ht : t < 6) (hr : gI σ 75 10 = nI t) (hT : TxOk σ t) (hc : txC σ t = cs) (e1 : ∀ k, k < 5 → stM σ m1 k = s1 k) (e2 : ∀ k, k < 5 → stM σ m2 k = s2 k) (pa pb : Int32) (hs : s < 4) (hz : z ≤ 9) (hsz : gI σ 85 s = nI z) (hrow : ∀ i, i < 40 → gI σ 86 (40 * s + i) = row i) : ∃ r σ', S9_unlike (nI s) (nI m1) (nI m2) pa pb σ = some (r, σ') ∧ Fr scN noR σ σ' ∧ Fst (fun i => row i ≠ cel cs s1 s2 pa pb (i + 1)) z r := by
  obtain ⟨σ', g, f, hB⟩ := bout9w k1 k2 h1 h2 ht hr hT hc e1 e2 pa pb
  obtain ⟨r, g2, hF⟩ := un9 (a := nI m1) (b := nI m2) (c := pa) (d := pb) hB hs hz ((f.1 85 s (by unfold scN; omega)).trans hsz) (fun i hi => (f.1 86 _ (by unfold scN; omega)).trans (hrow i hi))
  refine ⟨r, σ', ?_, f, hF⟩
  unfold S9_unlike
  rw [g, bnd_s, g2]
/-! the looks ahead of told bouts -/
def shV (σ : St) (s : Int32) : Int32 := if in01 s 0 3 = 0 then -2 else if gI σ 84 s.toNatClampNeg = -1 then -11 else 0
def cfV (σ : St) (s : Int32) : Int32 := if shV σ s = 0 then (if gI σ 85 s.toNatClampNeg ≤ 9 then 0 else -2) else shV σ s
def tfV (σ : St) (n : Nat) (s x pa pb : Int32) : Int32 := if cfV σ s = 0 then (if pair01 n x = 0 then -5 else if pls01 pa pb = 0 then -7 else 0) else cfV σ s
theorem sheetFault8 {n T t : Nat} {σ : St} (hI : Inv n T t σ) (s : Int32) : S8_sheetFault s σ = some (shV σ s, σ) := by
  unfold S8_sheetFault shV
  rw [isSheet8, bnd_s]
  by_cases q : in01 s 0 3 = 0
  · rw [if_pos q, if_pos q]
  · rw [if_neg q, if_neg q]
    obtain ⟨k, hk, rfl⟩ := in03_t q
    rw [sheetAt8 hk, bnd_s, (hI.sh hk).1.1, nI_clamp (by omega)]
    split <;> rfl
theorem cellsFault8 {n T t : Nat} {σ : St} (hI : Inv n T t σ) (s : Int32) : S8_cellsFault s σ = some (cfV σ s, σ) := by
  unfold S8_cellsFault cfV
  rw [sheetFault8 hI, bnd_s]
  by_cases q : shV σ s = 0
  · rw [if_pos q, if_pos q]
    by_cases q2 : in01 s 0 3 = 0
    · unfold shV at q; rw [if_pos q2] at q; exact absurd q (by decide)
    · obtain ⟨k, hk, rfl⟩ := in03_t q2
      obtain ⟨-, ⟨z, hz, h1, h2⟩, -⟩ := hI.sh hk
      rw [sheetAt8 hk, bnd_s, nI_clamp (by omega), h1, h2]
      split <;> rfl
  · rw [if_neg q, if_neg q]
theorem shV_wrong {σ : St} (s : Int32) : (bnd (S9_in s (0 : Int32) (3 : Int32) σ) fun r10 σ9 => if r10 = 0 then (some ((-2 : Int32), σ9)) else (if inb s 4 then (if (gI σ9 84 (s).toNatClampNeg) = (-1 : Int32) then (some ((-11 : Int32), σ9)) else some (0, σ9)) else none)) = some (shV σ s, σ) := by
  unfold shV
  rw [in9, bnd_s]
  by_cases q : in01 s 0 3 = 0
  · rw [if_pos q, if_pos q]
  · rw [if_neg q, if_neg q]
    obtain ⟨k, hk, rfl⟩ := in03_t q
    rw [if_pos (inb_nI hk (by omega))]
    split <;> rfl
theorem sheetWrong9 {σ : St} (s : Int32) : S9_sheetWrong s σ = some (cfV σ s, σ) := by
  unfold S9_sheetWrong cfV shV
  rw [in9, bnd_s]
  by_cases q : in01 s 0 3 = 0
  · rw [if_pos q, if_pos q, if_neg (by decide)]
  · rw [if_neg q, if_neg q]
    obtain ⟨k, hk, rfl⟩ := in03_t q
    rw [if_pos (inb_nI hk (by omega)), if_pos (inb_nI hk (by omega))]
    by_cases q2 : gI σ 84 (nI k).toNatClampNeg = -1
    · rw [if_pos q2, if_pos q2, if_neg (by decide)]
    · rw [if_neg q2, if_neg q2, if_pos rfl]
      split <;> rfl
theorem toldFault8 {n T t : Nat} {σ : St} (hI : Inv n T t σ) (s x pa pb : Int32) : S8_toldFault s x pa pb σ = some (tfV σ n s x pa pb, σ) := by
  unfold S8_toldFault tfV
  rw [cellsFault8 hI, bnd_s, isPair8 hI.n8, bnd_s, arePlans8, bnd_s]
  split
  · split
    · rfl
    · split <;> rfl
  · rfl
theorem toldWrong9 {n : Nat} {σ : St} (hn : n ≤ 6) (h9 : gI σ 75 0 = nI n) (s x pa pb : Int32) : S9_toldWrong s x pa pb σ = some (tfV σ n s x pa pb, σ) := by
  unfold S9_toldWrong tfV pls01
  rw [sheetWrong9, bnd_s, areTwoMen9 hn h9, bnd_s, isPlan9, bnd_s, isPlan9, bnd_s]
  by_cases q : cfV σ s = 0
  · rw [if_pos q, if_pos q]
    by_cases q1 : pair01 n x = 0
    · rw [if_pos q1, if_pos q1]
    · rw [if_neg q1, if_neg q1]
      by_cases q2 : pl01 pa = 0
      · rw [if_pos q2, if_pos q2, if_pos rfl]
      · rw [if_neg q2, if_neg q2]
        by_cases q3 : pl01 pb = 0
        · rw [if_pos q3, if_pos q3, if_pos rfl]
        · rw [if_neg q3, if_neg q3, if_neg (by decide)]
  · rw [if_neg q, if_neg q]
theorem cfV_ag {σ τ : St} (A : Ag σ τ) (s : Int32) : cfV τ s = cfV σ s := by
  unfold cfV shV
  rw [A 84 _ (by unfold scr; omega), A 85 _ (by unfold scr; omega)]
theorem tfV_ag {σ τ : St} (A : Ag σ τ) (n : Nat) (s x pa pb : Int32) : tfV τ n s x pa pb = tfV σ n s x pa pb := by
  unfold tfV
  rw [cfV_ag A]
theorem cfV_ok {n T t : Nat} {σ : St} (hI : Inv n T t σ) {s : Int32} (h : cfV σ s = 0) : ∃ k z : Nat, k < 4 ∧ s = nI k ∧ z ≤ 9 ∧ gI σ 85 k = nI z ∧ gI σ (67 + 2 * k) 2 = nI z ∧ ¬ gI σ 84 k = -1 := by
  unfold cfV at h
  by_cases q : shV σ s = 0
  · rw [if_pos q] at h
    unfold shV at q
    by_cases q1 : in01 s 0 3 = 0
    · rw [if_pos q1] at q; exact absurd q (by decide)
    · rw [if_neg q1] at q
      obtain ⟨k, hk, rfl⟩ := in03_t q1
      rw [nI_clamp (by omega)] at q h
      by_cases q2 : gI σ 84 k = -1
      · rw [if_pos q2] at q; exact absurd q (by decide)
      · obtain ⟨-, ⟨z, hz, h1, h2⟩, -⟩ := hI.sh hk
        rw [h2] at h
        by_cases q3 : nI z ≤ (9 : Int32)
        · rw [show (9 : Int32) = nI 9 from rfl, nI_le_iff (by omega) (by omega)] at q3
          exact ⟨k, z, hk, rfl, q3, h2, h1, q2⟩
        · rw [if_neg q3] at h; exact absurd h (by decide)
  · rw [if_neg q] at h; exact absurd h q
theorem tfV_ok {n T t : Nat} {σ : St} (hI : Inv n T t σ) {s x pa pb : Int32} (h : tfV σ n s x pa pb = 0) : cfV σ s = 0 ∧ ¬ pair01 n x = 0 ∧ ¬ pls01 pa pb = 0 := by
  unfold tfV at h
  by_cases q : cfV σ s = 0
  · rw [if_pos q] at h
    by_cases q1 : pair01 n x = 0
    · rw [if_pos q1] at h; exact absurd h (by decide)
    · rw [if_neg q1] at h
      by_cases q2 : pls01 pa pb = 0
      · rw [if_pos q2] at h; exact absurd h (by decide)
      · exact ⟨q, q1, q2⟩
  · rw [if_neg q] at h; exact absurd h q
/-- a sheet's numbers -/
def shR (σ : St) (s i : Nat) : Int32 := gI σ 86 (40 * s + i)
theorem shR_ag {σ τ : St} (A : Ag σ τ) (s : Nat) : shR τ s = shR σ s := by
  funext i
  exact A 86 _ (by unfold scr; omega)
theorem unlikeMen9 {n T t : Nat} {σ : St} (hI : Inv n T t σ) {k l s z : Nat} (hk : k < n) (hl : l < n) (pa pb : Int32) (hs : s < 4) (hz : z ≤ 9) (h2 : gI σ 85 s = nI z) : ∃ r σ', S9_unlike (nI s) (nI k) (nI l) pa pb σ = some (r, σ') ∧ Ag σ σ' ∧ Fst (fun i => shR σ s i ≠ cel (txC σ t) (stM σ k) (stM σ l) pa pb (i + 1)) z r := by
  have h6 := hI.n6
  obtain ⟨r, σ', g, f, hF⟩ := unlike9 (row := shR σ s) (hI.bd hk).1 (hI.bd hl).1 (show k < 6 by omega) (show l < 6 by omega) hI.t6 hI.l9 (hI.tx hI.tT) rfl (fun _ _ => rfl) (fun _ _ => rfl) pa pb hs hz h2 (fun _ _ => rfl)
  exact ⟨r, σ', g, Ag.fr f scN_scr, hF⟩
theorem foMen8 {n T t : Nat} {σ : St} (hI : Inv n T t σ) {cs : Nat → List Int32} {s1 s2 : Nat → Int32} {pa pb : Int32} {s z : Nat} (hB : B2 cs s1 s2 pa pb σ) (hs : s < 4) (hz : z ≤ 9) (h2 : gI σ 85 s = nI z) : ∃ r, S0_firstOtherwise (67 + 2 * s) σ = some (r, σ) ∧ Fst (fun i => shR σ s i ≠ cel cs s1 s2 pa pb (i + 1)) z r := by
  obtain ⟨-, ⟨z', hz', h3, h4⟩, h5⟩ := hI.sh hs
  have e : z' = z := by
    rw [h4, nI_inj (by omega) (by omega)] at h2
    exact h2
  subst e
  exact fo8 hB hs hz h3 h5
theorem same_judge (s x pa pb : Int32) : Same (S8_judge s x pa pb) (S9_judge s x pa pb) := by
  intro n T t σ hI
  have hn := hI.n6
  by_cases hf : tfV σ n s x pa pb = 0
  · obtain ⟨hc, hp, hq⟩ := tfV_ok hI hf
    obtain ⟨k, l, hk, hl, hkl, xk, xl⟩ := pair01_t hn hp
    obtain ⟨S, z, hS, rfl, hz, z9, z8, -⟩ := cfV_ok hI hc
    obtain ⟨σ1, g1, A1, P1⟩ := pairMen8 hI hk hl
    obtain ⟨σ2, g2, A2, P2, hB⟩ := goMen8 (hI.bd hk).1 (hI.bd hl).1 P1 pa pb
    have A := A1.tr A2
    have hI2 := hI.ag A
    have z9' : gI σ2 85 S = nI z := (A 85 S (by unfold scr; omega)).trans z9
    obtain ⟨r, g3, F3⟩ := foMen8 hI2 hB hS hz z9'
    obtain ⟨r', σ4, g4, A4, F4⟩ := unlikeMen9 hI2 hk hl pa pb hS hz z9'
    rw [txC_ag A, stM_ag A, stM_ag A] at F4
    have hrr := F3.uni F4
    subst hrr
    refine same_q hI r ?_ A ⟨σ4, ?_, A4⟩
    · unfold S8_judge
      rw [toldFault8 hI, bnd_s, if_pos hf, theOne8 xk (by omega), bnd_s, theOther8 xl (by omega), bnd_s, theLaw8 hI.t6 hI.l8, bnd_s, g1, bnd_s, g2, bnd_s, sheetAt8 hS, bnd_s, g3, bnd_s]
    · unfold S9_judge
      rw [toldWrong9 hn hI2.n9, bnd_s, tfV_ag A, if_pos hf, xk, xl, g4, bnd_s]
  · refine same_rf hI (tfV σ n s x pa pb) ?_ ?_
    · unfold S8_judge; rw [toldFault8 hI, bnd_s, if_neg hf]
    · unfold S9_judge; rw [toldWrong9 hn hI.n9, bnd_s, if_neg hf]
