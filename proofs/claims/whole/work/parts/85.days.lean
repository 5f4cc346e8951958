/-! Days in which all meet all; who leads then. -/
abbrev Fo : Type := Nat → Nat → Int32
def prS (cs : Nat → List Int32) (pl : Nat → Int32) (M : Fo) (a b : Nat) : Fo := fun m => if m = a then fg1 cs (M a) (M b) (pl a) (pl b) else if m = b then fg2 cs (M a) (M b) (pl a) (pl b) else M m
def inF (cs : Nat → List Int32) (pl : Nat → Int32) (a : Nat) (M : Fo) : Nat → Fo
  | 0 => M
  | i + 1 => prS cs pl (inF cs pl a M i) a (a + 1 + i)
def outF (cs : Nat → List Int32) (pl : Nat → Int32) (n : Nat) (M : Fo) : Nat → Fo
  | 0 => M
  | a + 1 => inF cs pl a (outF cs pl n M a) (n - (a + 1))
def dayF (cs : Nat → List Int32) (pl : Nat → Int32) (n : Nat) (M : Fo) : Nat → Fo
  | 0 => M
  | d + 1 => outF cs pl n (dayF cs pl n M d) n
def BdN (n : Nat) (M : Fo) : Prop := ∀ m, m < n → bdM (M m)
theorem prS_b {n : Nat} {cs : Nat → List Int32} {pl : Nat → Int32} {M : Fo} (h : BdN n M) {a b : Nat} (ha : a < n) (hb : b < n) : BdN n (prS cs pl M a b) := by
  intro m hm
  unfold prS
  by_cases q : m = a
  · rw [if_pos q]; exact fg1_b (h a ha) _ _
  · rw [if_neg q]
    by_cases q2 : m = b
    · rw [if_pos q2]; exact fg2_b (h b hb) _ _
    · rw [if_neg q2]; exact h m hm
/-- a stable of the class -/
def R8 (st n : Nat) (σ : St) (M : Fo) (τ : St) : Prop := (∀ m j, m < n → j < 7 → gI τ (st + 2 + m) j = M m j) ∧ BdN n M ∧ ∀ a b, ¬ scB a b → ¬ (st + 2 ≤ a ∧ a < st + 8) → gI τ a b = gI σ a b
def R9 (n : Nat) (σ : St) (M : Fo) (τ : St) : Prop := (∀ m j, m < n → j < 7 → stM τ m j = M m j) ∧ BdN n M ∧ ∀ a b, ¬ scN a b → ¬ (a = 78 ∧ b < 30) → gI τ a b = gI σ a b
theorem R8.step {st n t a b : Nat} {σ τ : St} {M : Fo} (hst : st = 1 ∨ st = 9) (hn : n ≤ 6) (ha : a < n) (hb : b < n) (hab : a ≠ b) (ht : t < 6) (hr : gI σ 1 3 = nI t) (hT : TxOk σ t) {pl : Nat → Int32} (h : R8 st n σ M τ) : ∃ τ', S8_clash (st + 2 + a) (st + 2 + b) (pl a) (pl b) τ = some ((), τ') ∧ R8 st n σ (prS (txC σ t) pl M a b) τ' := by
  obtain ⟨h1, h2, h3⟩ := h
  have hw : ∀ k, k < 6 → Ob 75 7 (st + 2 + k) := by
    intro k hk
    rcases hst with rfl | rfl
    · rw [show 1 + 2 + k = 3 + k by omega]; exact obW1 k hk
    · rw [show 9 + 2 + k = 11 + k by omega]; exact obW9 k hk
  have F : ∀ x y, (x = 1 ∧ y = 3) ∨ x = 80 ∨ x = 81 ∨ (49 ≤ x ∧ x ≤ 66) → gI τ x y = gI σ x y := fun x y z => h3 x y (by unfold scB; omega) (by rcases hst with rfl | rfl <;> omega)
  obtain ⟨τ', g, c1, c2, c3, -⟩ := clash8 (σ := τ) (w1 := st + 2 + a) (w2 := st + 2 + b) (s1 := M a) (s2 := M b) (by omega) (hw a (by omega)) (hw b (by omega)) ht ((F 1 3 (by omega)).trans hr) (TxOk_fr ht (fun x y z => F x y (by omega)) hT) (txC_fr t (fun x y z => F x y (by omega))) (fun k hk => h1 a k ha hk) (fun k hk => h1 b k hb hk) (h2 a ha) (h2 b hb) (pl a) (pl b)
  refine ⟨τ', g, fun m j hm hj => ?_, prS_b h2 ha hb, fun x y z1 z2 => ?_⟩
  · unfold prS
    by_cases q : m = a
    · rw [if_pos q, q]; exact c1 j hj
    · rw [if_neg q]
      by_cases q2 : m = b
      · rw [if_pos q2, q2]; exact c2 j hj
      · rw [if_neg q2, c3 _ _ (by unfold scB; rcases hst with rfl | rfl <;> omega) (by omega) (by omega)]; exact h1 m j hm hj
  · rw [c3 x y z1 (by omega) (by omega)]; exact h3 x y z1 z2
theorem R9.step {n t a b : Nat} {σ τ : St} {M : Fo} (hn : n ≤ 6) (ha : a < n) (hb : b < n) (hab : a ≠ b) (ht : t < 6) (hr : gI σ 75 10 = nI t) (hT : TxOk σ t) {cs : Nat → List Int32} (hc : txC σ t = cs) {pl : Nat → Int32} (h : R9 n σ M τ) : ∃ τ', S9_fights (nI a) (nI b) (pl a) (pl b) τ = some ((), τ') ∧ R9 n σ (prS cs pl M a b) τ' := by
  obtain ⟨h1, h2, h3⟩ := h
  subst hc
  obtain ⟨τ', g, c1, c2, c3, -⟩ := fights9 (σ := τ) (m1 := a) (m2 := b) (s1 := M a) (s2 := M b) hab (by omega) (by omega) ht ((h3 75 10 (by unfold scN; omega) (by omega)).trans hr) (TxOk_fr ht (fun x y z => h3 x y (by unfold scN; omega) (by omega)) hT) (txC_fr t (fun x y z => h3 x y (by unfold scN; omega) (by omega))) (fun k hk => h1 a k ha hk) (fun k hk => h1 b k hb hk) (h2 a ha) (h2 b hb) (pl a) (pl b)
  refine ⟨τ', g, fun m j hm hj => ?_, prS_b h2 ha hb, fun x y z1 z2 => ?_⟩
  · unfold prS
    by_cases q : m = a
    · rw [if_pos q, q]; exact c1 j hj
    · rw [if_neg q]
      by_cases q2 : m = b
      · rw [if_pos q2, q2]; exact c2 j hj
      · rw [if_neg q2, stM_7 (σ := τ) (σ' := τ') (m := m) (c3 _ _ (by unfold scN; omega) (by omega)) (c3 _ _ (by unfold scN; omega) (by omega)) (fun y y1 y2 => c3 _ _ (by unfold scN; omega) (by omega)) j hj]
        exact h1 m j hm hj
  · rw [c3 x y z1 (by omega)]; exact h3 x y z1 z2
theorem stOb {st : Nat} (hst : st = 1 ∨ st = 9) : Ob 75 5 st := by
  rcases hst with rfl | rfl
  · exact ob1
  · exact ob9
theorem days8 {st n t S D : Nat} {σ : St} {M : Fo} (hst : st = 1 ∨ st = 9) (hn : n ≤ 6) (ht : t < 6) (hr : gI σ 1 3 = nI t) (hT : TxOk σ t) (hsz : gI σ st 1 = nI n) (hS : S < 4) (hD : D ≤ 9) {pl : Nat → Int32} (hpl : ∀ i, i < 6 → gI σ (68 + 2 * S) i = pl i) (h : R8 st n σ M σ) : ∃ τ', S8_passDays st (67 + 2 * S) (nI D) σ = some ((), sI τ' st 2 (gI τ' st 2 + nI D)) ∧ R8 st n σ (dayF (txC σ t) pl n M D) τ' := by
  have hrow : ∀ (M : Fo) (τ : St), R8 st n σ M τ → gI τ st 1 = nI n ∧ ∀ i, i < 6 → gI τ (68 + 2 * S) i = pl i := fun M τ hR => ⟨(hR.2.2 _ _ (by unfold scB; rcases hst with rfl | rfl <;> omega) (by omega)).trans hsz, fun i hi => (hR.2.2 _ _ (by unfold scB; omega) (by rcases hst with rfl | rfl <;> omega)).trans (hpl i hi)⟩
  -- all the others of one
  have inner : ∀ (k3 : Int32 → St → Option (Unit × St)) (k12 : Int32 → Int32 → St → Option (Unit × St)) (x4 : Int32) (a : Nat) (N : Fo) (τ : St), a < n → R8 st n σ N τ → ∃ τ', S8_passDays_27 st (67 + 2 * S) (nI D) k3 k12 4096 x4 (nI a) (nI (a + 1)) τ = k12 x4 (nI (a + 1)) τ' ∧ R8 st n σ (inF (txC σ t) pl a N (n - (a + 1))) τ' := by
    intro k3 k12 x4 a N τ ha hR
    have step : ∀ (i f : Nat) (τ : St), i < n - (a + 1) → R8 st n σ (inF (txC σ t) pl a N i) τ → ∃ τ', S8_passDays_27 st (67 + 2 * S) (nI D) k3 k12 (f + 1) x4 (nI a) (nI (a + 1 + i)) τ = S8_passDays_27 st (67 + 2 * S) (nI D) k3 k12 f x4 (nI a) (nI (a + 1 + (i + 1))) τ' ∧ R8 st n σ (inF (txC σ t) pl a N (i + 1)) τ' := by
      intro i f τ hi hR
      obtain ⟨w1, w2⟩ := hrow _ _ hR
      obtain ⟨τ', g, hR'⟩ := R8.step hst hn ha (show a + 1 + i < n by omega) (by omega) ht hr hT (pl := pl) hR
      refine ⟨τ', ?_, hR'⟩
      show B8_passDays_27 _ _ _ _ _ _ _ _ _ τ = _
      unfold B8_passDays_27
      rw [w1, if_neg (nI_ge (by omega) (by omega)), at8 (stOb hst) (by omega), bnd_s, at8 (stOb hst) (by omega), bnd_s, shAt8 hS (by omega), bnd_s, shAt8 hS (by omega), bnd_s, w2 a (by omega), w2 (a + 1 + i) (by omega), g, bnd_s, nI_1]
      rfl
    obtain ⟨f', τ', e, hR'⟩ := loopR (fun f i τ => S8_passDays_27 st (67 + 2 * S) (nI D) k3 k12 f x4 (nI a) (nI (a + 1 + i)) τ) (n - (a + 1)) (fun i τ => R8 st n σ (inF (txC σ t) pl a N i) τ) step (n - (a + 1)) 0 4096 τ (by omega) (by omega) hR
    refine ⟨τ', ?_, hR'⟩
    rw [show S8_passDays_27 st (67 + 2 * S) (nI D) k3 k12 4096 x4 (nI a) (nI (a + 1)) τ = _ from e]
    show B8_passDays_27 _ _ _ _ _ _ _ _ _ τ' = _
    unfold B8_passDays_27
    rw [(hrow _ _ hR').1, if_pos (nI_le (by omega) (by omega)), nI_1]
  -- a day
  have outer : ∀ (k3 : Int32 → St → Option (Unit × St)) (x4 : Int32) (N : Fo) (τ : St), R8 st n σ N τ → ∃ τ', S8_passDays_12 st (67 + 2 * S) (nI D) k3 4096 x4 0 τ = k3 (x4 + 1) τ' ∧ R8 st n σ (outF (txC σ t) pl n N n) τ' := by
    intro k3 x4 N τ hR
    have step : ∀ (a f : Nat) (τ : St), a < n → R8 st n σ (outF (txC σ t) pl n N a) τ → ∃ τ', S8_passDays_12 st (67 + 2 * S) (nI D) k3 (f + 1) x4 (nI a) τ = S8_passDays_12 st (67 + 2 * S) (nI D) k3 f x4 (nI (a + 1)) τ' ∧ R8 st n σ (outF (txC σ t) pl n N (a + 1)) τ' := by
      intro a f τ ha hR
      obtain ⟨τ', g, hR'⟩ := inner k3 (S8_passDays_12 st (67 + 2 * S) (nI D) k3 f) x4 a _ τ ha hR
      refine ⟨τ', ?_, hR'⟩
      show B8_passDays_12 _ _ _ _ _ _ _ τ = _
      unfold B8_passDays_12
      rw [(hrow _ _ hR).1, if_neg (nI_ge ha (by omega)), nI_1, g]
    obtain ⟨f', τ', e, hR'⟩ := loopR (fun f a τ => S8_passDays_12 st (67 + 2 * S) (nI D) k3 f x4 (nI a) τ) n (fun a τ => R8 st n σ (outF (txC σ t) pl n N a) τ) step n 0 4096 τ (by omega) (by omega) hR
    refine ⟨τ', ?_, hR'⟩
    rw [show S8_passDays_12 st (67 + 2 * S) (nI D) k3 4096 x4 (0 : Int32) τ = _ from e]
    show B8_passDays_12 _ _ _ _ _ _ _ τ' = _
    unfold B8_passDays_12
    rw [(hrow _ _ hR').1, if_pos (Int32.le_refl _)]
  have step : ∀ (d f : Nat) (τ : St), d < D → R8 st n σ (dayF (txC σ t) pl n M d) τ → ∃ τ', S8_passDays_3 st (67 + 2 * S) (nI D) (f + 1) (nI d) τ = S8_passDays_3 st (67 + 2 * S) (nI D) f (nI (d + 1)) τ' ∧ R8 st n σ (dayF (txC σ t) pl n M (d + 1)) τ' := by
    intro d f τ hd hR
    obtain ⟨τ', g, hR'⟩ := outer (S8_passDays_3 st (67 + 2 * S) (nI D) f) (nI d) _ τ hR
    refine ⟨τ', ?_, hR'⟩
    show B8_passDays_3 _ _ _ _ _ τ = _
    unfold B8_passDays_3
    rw [if_neg (nI_ge hd (by omega)), g, nI_1]
  obtain ⟨f', τ', e, hR'⟩ := loopR (fun f d τ => S8_passDays_3 st (67 + 2 * S) (nI D) f (nI d) τ) D (fun d τ => R8 st n σ (dayF (txC σ t) pl n M d) τ) step D 0 4096 σ (by omega) (by omega) h
  refine ⟨τ', ?_, hR'⟩
  unfold S8_passDays
  rw [show S8_passDays_3 st (67 + 2 * S) (nI D) 4096 (0 : Int32) σ = _ from e]
  show B8_passDays_3 _ _ _ _ _ τ' = _
  unfold B8_passDays_3
  rw [if_pos (Int32.le_refl _)]
theorem days9 {n t S D : Nat} {σ : St} {M : Fo} (hn : n ≤ 6) (ht : t < 6) (hr : gI σ 75 10 = nI t) (hT : TxOk σ t) {cs : Nat → List Int32} (hc : txC σ t = cs) (hsz : gI σ 75 0 = nI n) (hS : S < 4) (hD : D ≤ 9) {pl : Nat → Int32} (hpl : ∀ i, i < 6 → gI σ 86 (40 * S + i) = pl i) (h : R9 n σ M σ) : ∃ τ', S9_daysOf (nI S) (nI D) σ = some ((), τ') ∧ R9 n σ (dayF cs pl n M D) τ' := by
  have hrow : ∀ (M : Fo) (τ : St), R9 n σ M τ → gI τ 75 0 = nI n ∧ ∀ i, i < 6 → gI τ 86 (40 * S + i) = pl i := fun M τ hR => ⟨(hR.2.2 _ _ (by unfold scN; omega) (by omega)).trans hsz, fun i hi => (hR.2.2 _ _ (by unfold scN; omega) (by omega)).trans (hpl i hi)⟩
  have e40 : ∀ i, (40 : Int32) * nI S + nI i = nI (40 * S + i) := fun i => by rw [show (40 : Int32) = nI 40 from rfl, nI_mul, nI_add]
  have inner : ∀ (k2 : Int32 → St → Option (Unit × St)) (k10 : Int32 → Int32 → St → Option (Unit × St)) (x3 : Int32) (a : Nat) (N : Fo) (τ : St), a < n → R9 n σ N τ → ∃ τ', S9_daysOf_25 (nI S) (nI D) k2 k10 4096 x3 (nI a) (nI (a + 1)) τ = k10 x3 (nI (a + 1)) τ' ∧ R9 n σ (inF cs pl a N (n - (a + 1))) τ' := by
    intro k2 k10 x3 a N τ ha hR
    have step : ∀ (i f : Nat) (τ : St), i < n - (a + 1) → R9 n σ (inF cs pl a N i) τ → ∃ τ', S9_daysOf_25 (nI S) (nI D) k2 k10 (f + 1) x3 (nI a) (nI (a + 1 + i)) τ = S9_daysOf_25 (nI S) (nI D) k2 k10 f x3 (nI a) (nI (a + 1 + (i + 1))) τ' ∧ R9 n σ (inF cs pl a N (i + 1)) τ' := by
      intro i f τ hi hR
      obtain ⟨w1, w2⟩ := hrow _ _ hR
      obtain ⟨τ', g, hR'⟩ := R9.step hn ha (show a + 1 + i < n by omega) (by omega) ht hr hT hc (pl := pl) hR
      refine ⟨τ', ?_, hR'⟩
      show B9_daysOf_25 _ _ _ _ _ _ _ _ τ = _
      unfold B9_daysOf_25
      rw [w1, if_neg (nI_ge (by omega) (by omega)), e40, e40, if_pos (inb_nI (by omega) (by omega)), if_pos (inb_nI (by omega) (by omega)), nI_clamp (by omega), nI_clamp (by omega), w2 a (by omega), w2 (a + 1 + i) (by omega), g, bnd_s, nI_1]
      rfl
    obtain ⟨f', τ', e, hR'⟩ := loopR (fun f i τ => S9_daysOf_25 (nI S) (nI D) k2 k10 f x3 (nI a) (nI (a + 1 + i)) τ) (n - (a + 1)) (fun i τ => R9 n σ (inF cs pl a N i) τ) step (n - (a + 1)) 0 4096 τ (by omega) (by omega) hR
    refine ⟨τ', ?_, hR'⟩
    rw [show S9_daysOf_25 (nI S) (nI D) k2 k10 4096 x3 (nI a) (nI (a + 1)) τ = _ from e]
    show B9_daysOf_25 _ _ _ _ _ _ _ _ τ' = _
    unfold B9_daysOf_25
    rw [(hrow _ _ hR').1, if_pos (nI_le (by omega) (by omega)), nI_1]
  have outer : ∀ (k2 : Int32 → St → Option (Unit × St)) (x3 : Int32) (N : Fo) (τ : St), R9 n σ N τ → ∃ τ', S9_daysOf_10 (nI S) (nI D) k2 4096 x3 0 τ = k2 (x3 + 1) τ' ∧ R9 n σ (outF cs pl n N n) τ' := by
    intro k2 x3 N τ hR
    have step : ∀ (a f : Nat) (τ : St), a < n → R9 n σ (outF cs pl n N a) τ → ∃ τ', S9_daysOf_10 (nI S) (nI D) k2 (f + 1) x3 (nI a) τ = S9_daysOf_10 (nI S) (nI D) k2 f x3 (nI (a + 1)) τ' ∧ R9 n σ (outF cs pl n N (a + 1)) τ' := by
      intro a f τ ha hR
      obtain ⟨τ', g, hR'⟩ := inner k2 (S9_daysOf_10 (nI S) (nI D) k2 f) x3 a _ τ ha hR
      refine ⟨τ', ?_, hR'⟩
      show B9_daysOf_10 _ _ _ _ _ _ τ = _
      unfold B9_daysOf_10
      rw [(hrow _ _ hR).1, if_neg (nI_ge ha (by omega)), nI_1, g]
    obtain ⟨f', τ', e, hR'⟩ := loopR (fun f a τ => S9_daysOf_10 (nI S) (nI D) k2 f x3 (nI a) τ) n (fun a τ => R9 n σ (outF cs pl n N a) τ) step n 0 4096 τ (by omega) (by omega) hR
    refine ⟨τ', ?_, hR'⟩
    rw [show S9_daysOf_10 (nI S) (nI D) k2 4096 x3 (0 : Int32) τ = _ from e]
    show B9_daysOf_10 _ _ _ _ _ _ τ' = _
    unfold B9_daysOf_10
    rw [(hrow _ _ hR').1, if_pos (Int32.le_refl _)]
  have step : ∀ (d f : Nat) (τ : St), d < D → R9 n σ (dayF cs pl n M d) τ → ∃ τ', S9_daysOf_2 (nI S) (nI D) (f + 1) (nI d) τ = S9_daysOf_2 (nI S) (nI D) f (nI (d + 1)) τ' ∧ R9 n σ (dayF cs pl n M (d + 1)) τ' := by
    intro d f τ hd hR
    obtain ⟨τ', g, hR'⟩ := outer (S9_daysOf_2 (nI S) (nI D) f) (nI d) _ τ hR
    refine ⟨τ', ?_, hR'⟩
    show B9_daysOf_2 _ _ _ _ τ = _
    unfold B9_daysOf_2
    rw [if_neg (nI_ge hd (by omega)), g, nI_1]
  obtain ⟨f', τ', e, hR'⟩ := loopR (fun f d τ => S9_daysOf_2 (nI S) (nI D) f (nI d) τ) D (fun d τ => R9 n σ (dayF cs pl n M d) τ) step D 0 4096 σ (by omega) (by omega) h
  refine ⟨τ', ?_, hR'⟩
  unfold S9_daysOf
  rw [show S9_daysOf_2 (nI S) (nI D) 4096 (0 : Int32) σ = _ from e]
  show B9_daysOf_2 _ _ _ _ τ' = _
  unfold B9_daysOf_2
  rw [if_pos (Int32.le_refl _)]
/-! who leads -/
def ldN (M : Fo) : Nat → Nat
  | 0 => 0
  | i + 1 => if i = 0 then 0 else if M i 5 ≤ M (ldN M i) 5 then ldN M i else i
def ldI (M : Fo) (n : Nat) : Int32 := if n = 0 then -1 else nI (ldN M n)
theorem ldN_b (M : Fo) : ∀ i, 0 < i → ldN M i < i := by
  intro i
  induction i with
  | zero => intro h; omega
  | succ i ih =>
    intro _
    unfold ldN
    by_cases q : i = 0
    · rw [if_pos q]; omega
    · rw [if_neg q]
      have := ih (by omega)
      split <;> omega
theorem led8 {st n : Nat} {σ : St} {M : Fo} (hst : st = 1 ∨ st = 9) (hn : n ≤ 6) (hsz : gI σ st 1 = nI n) (hM : ∀ m, m < n → gI σ (st + 2 + m) 5 = M m 5) : S5_leader st σ = some (ldI M n, σ) := by
  have step : ∀ (i f : Nat) (τ : St), i < n → τ = σ → ∃ τ', S5_leader_4 st (f + 1) (ldI M i) (nI i) τ = S5_leader_4 st f (ldI M (i + 1)) (nI (i + 1)) τ' ∧ τ' = σ := by
    intro i f τ hi hτ
    subst hτ
    refine ⟨τ, ?_, rfl⟩
    show B5_leader_4 _ _ _ _ τ = _
    unfold B5_leader_4 S5_leader_35 S5_leader_40
    rw [hsz, if_neg (nI_ge hi (by omega)), nI_1]
    by_cases q : i = 0
    · subst q
      rw [show ldI M 0 = -1 from rfl, if_pos (by decide)]
      rfl
    · have hb := ldN_b M i (by omega)
      have e1 : ldI M i = nI (ldN M i) := by unfold ldI; rw [if_neg q]
      have e2 : ldI M (i + 1) = nI (if M i 5 ≤ M (ldN M i) 5 then ldN M i else i) := by
        unfold ldI
        rw [if_neg (by omega)]
        show nI (if i = 0 then 0 else _) = _
        rw [if_neg q]
      rw [e1, e2, if_neg (nI_pos (by omega)), at8 (stOb hst) (by omega), bnd_s, at8 (stOb hst) (by omega), bnd_s, hM i hi, hM _ (by omega)]
      by_cases q2 : M i 5 ≤ M (ldN M i) 5
      · rw [if_pos q2, if_pos q2]
      · rw [if_neg q2, if_neg q2]
  obtain ⟨f', σ', e, hs⟩ := loopR (fun f i τ => S5_leader_4 st f (ldI M i) (nI i) τ) n (fun _ τ => τ = σ) step n 0 4096 σ (by omega) (by omega) rfl
  subst hs
  unfold S5_leader
  rw [show S5_leader_4 st 4096 (-1) (0 : Int32) σ' = _ from e]
  show B5_leader_4 _ _ _ _ σ' = _
  unfold B5_leader_4
  rw [hsz, if_pos (Int32.le_refl _)]
theorem led9 {n : Nat} {σ : St} {M : Fo} (hn : n ≤ 6) (hsz : gI σ 75 0 = nI n) (hb : BdN n M) (hM : ∀ m, m < n → gI σ 78 (5 * m + 3) = M m 5) : S9_leads σ = some (ldI M n, σ) := by
  let X : Nat → Int32 := fun i => if i = 0 then -1 else M (ldN M i) 5
  have step : ∀ (i f : Nat) (τ : St), i < n → τ = σ → ∃ τ', S9_leads_6 (f + 1) (ldI M i) (X i) (nI i) τ = S9_leads_6 f (ldI M (i + 1)) (X (i + 1)) (nI (i + 1)) τ' ∧ τ' = σ := by
    intro i f τ hi hτ
    subst hτ
    refine ⟨τ, ?_, rfl⟩
    have e3 : (5 : Int32) * nI i + 3 = nI (5 * i + 3) := by rw [show (5 : Int32) = nI 5 from rfl, nI_mul, show (3 : Int32) = nI 3 from rfl, nI_add]
    show B9_leads_6 _ _ _ _ τ = _
    unfold B9_leads_6 S9_leads_33 S9_leads_62
    rw [hsz, if_neg (nI_ge hi (by omega)), e3]
    simp only [if_pos (inb_nI (show 5 * i + 3 < 30 by omega) (show 30 < 2 ^ 31 by omega)), nI_clamp (show 5 * i + 3 < 2 ^ 31 by omega), hM i hi, nI_1]
    by_cases q : i = 0
    · subst q
      have h0 := (hb 0 hi).2.1.1
      have hx : ¬ M 0 5 ≤ X 0 := by
        show ¬ M 0 5 ≤ -1
        generalize M 0 5 = y at h0 ⊢
        grind
      rw [if_neg hx, if_neg hx]
      rfl
    · have hl := ldN_b M i (by omega)
      have e1 : ldI M i = nI (ldN M i) := by unfold ldI; rw [if_neg q]
      have ex : X i = M (ldN M i) 5 := by show (if i = 0 then _ else _) = _; rw [if_neg q]
      have e2 : ldI M (i + 1) = nI (if M i 5 ≤ M (ldN M i) 5 then ldN M i else i) := by
        unfold ldI
        rw [if_neg (by omega)]
        show nI (if i = 0 then 0 else _) = _
        rw [if_neg q]
      have ex2 : X (i + 1) = M (if M i 5 ≤ M (ldN M i) 5 then ldN M i else i) 5 := by
        show (if i + 1 = 0 then _ else M (ldN M (i + 1)) 5) = _
        rw [if_neg (by omega)]
        show M (if i = 0 then 0 else _) 5 = _
        rw [if_neg q]
      rw [e1, ex, e2, ex2]
      by_cases q2 : M i 5 ≤ M (ldN M i) 5
      · rw [if_pos q2, if_pos q2, if_pos q2]
      · rw [if_neg q2, if_neg q2, if_neg q2]
  obtain ⟨f', σ', e, hs⟩ := loopR (fun f i τ => S9_leads_6 f (ldI M i) (X i) (nI i) τ) n (fun _ τ => τ = σ) step n 0 4096 σ (by omega) (by omega) rfl
  subst hs
  unfold S9_leads
  rw [show S9_leads_6 4096 (-1) (-1) (0 : Int32) σ' = _ from e]
  show B9_leads_6 _ _ _ _ σ' = _
  unfold B9_leads_6
  rw [hsz, if_pos (Int32.le_refl _)]
/-! the sheet that tells the plans -/
def allP (row : Nat → Int32) : Nat → Bool
  | 0 => true
  | i + 1 => allP row i && !decide (pl01 (row i) = 0)
theorem allP_mono {row : Nat → Int32} {k : Nat} (h : ¬ allP row k = true) : ∀ d, ¬ allP row (k + d) = true := by
  intro d
  induction d with
  | zero => exact h
  | succ d ih =>
    intro z
    have z : (allP row (k + d) && !decide (pl01 (row (k + d)) = 0)) = true := z
    rw [Bool.and_eq_true] at z
    exact ih z.1
def plV (n z : Nat) (row : Nat → Int32) : Int32 := if z = n ∧ allP row z = true then 0 else -2
theorem plans8 {n T t S z : Nat} {σ : St} (hI : Inv n T t σ) (hS : S < 4) (hz : z ≤ 40) (z8 : gI σ (67 + 2 * S) 2 = nI z) (ho : ¬ gI σ 84 S = -1) : S8_plansFault (nI S) σ = some (plV n z (shR σ S), σ) := by
  have hn := hI.n6
  obtain ⟨-, -, hrow⟩ := hI.sh hS
  have hsv : shV σ (nI S) = 0 := by
    unfold shV
    rw [if_neg (show ¬ in01 (nI S) 0 3 = 0 by rw [in01_1 (nI_pos (by omega)) (show ¬ (3 : Int32) < nI S from nI_nlt (a := 3) (by omega) (by omega))]; decide), nI_clamp (by omega), if_neg ho]
  unfold S8_plansFault
  rw [sheetFault8 hI, bnd_s, hsv, if_pos rfl, sheetAt8 hS, bnd_s, z8, hI.n8]
  by_cases q : z = n
  · rw [if_pos (show nI z = nI n by rw [q])]
    have hres := loopI (fun f k τ => S8_plansFault_38 (nI S) f (67 + 2 * S) (nI k) τ) z (fun k τ => τ = σ ∧ allP (shR σ S) k = true) (fun r τ => τ = σ ∧ r = plV n z (shR σ S))
      (fun k f τ hk hL => by
        obtain ⟨rfl, hL⟩ := hL
        have e : S8_plansFault_38 (nI S) (f + 1) (67 + 2 * S) (nI k) τ = if pl01 (shR τ S k) = 0 then some (-2, τ) else S8_plansFault_38 (nI S) f (67 + 2 * S) (nI (k + 1)) τ := by
          show B8_plansFault_38 _ _ _ _ τ = _
          unfold B8_plansFault_38
          rw [z8, if_neg (nI_ge hk (by omega)), shAt8 hS (by omega), bnd_s, isPlan8, bnd_s, hrow k (by omega), nI_1]
          rfl
        by_cases y : pl01 (shR τ S k) = 0
        · refine Or.inr ⟨-2, τ, by rw [e, if_pos y], rfl, ?_⟩
          have nk : ¬ allP (shR τ S) (k + 1) = true := fun w => by
            have w : (allP (shR τ S) k && !decide (pl01 (shR τ S k) = 0)) = true := w
            rw [Bool.and_eq_true, Bool.not_eq_true', decide_eq_false_iff_not] at w
            exact w.2 y
          have nz := allP_mono nk (z - (k + 1))
          rw [show k + 1 + (z - (k + 1)) = z by omega] at nz
          unfold plV
          rw [if_neg (fun w => nz w.2)]
        · refine Or.inl ⟨τ, by rw [e, if_neg y], rfl, ?_⟩
          show (allP (shR τ S) k && !decide (pl01 (shR τ S k) = 0)) = true
          rw [Bool.and_eq_true, Bool.not_eq_true', decide_eq_false_iff_not]
          exact ⟨hL, y⟩)
      (fun f τ hL => by
        obtain ⟨rfl, hL⟩ := hL
        refine ⟨0, τ, ?_, rfl, ?_⟩
        · show B8_plansFault_38 _ _ _ _ τ = _
          unfold B8_plansFault_38
          rw [z8, if_pos (Int32.le_refl _)]
        · unfold plV; rw [if_pos ⟨q, hL⟩]) z 0 4096 σ (by omega) (by omega) ⟨rfl, rfl⟩
    obtain ⟨r, σ', e, rfl, rfl⟩ := hres
    exact e
  · rw [if_neg (fun y => q ((nI_inj (by omega) (by omega)).mp y))]
    unfold plV
    rw [if_neg (fun w => q w.1)]
theorem plans9 {n S z : Nat} {σ : St} (hn : n ≤ 6) (h9 : gI σ 75 0 = nI n) (hS : S < 4) (hz : z ≤ 40) (z9 : gI σ 85 S = nI z) (ho : ¬ gI σ 84 S = -1) : S9_plansWrong (nI S) σ = some (plV n z (shR σ S), σ) := by
  have hin : ¬ in01 (nI S) 0 3 = 0 := by rw [in01_1 (nI_pos (by omega)) (show ¬ (3 : Int32) < nI S from nI_nlt (a := 3) (by omega) (by omega))]; decide
  have main : ∀ g : Bool, S9_plansWrong_46 (nI S) 4096 (if g = true then 1 else 0) 0 σ = some (if g = true ∧ allP (shR σ S) z = true then 0 else -2, σ) := by
    intro g
    have step : ∀ (k f : Nat) (τ : St), k < z → τ = σ → ∃ τ', S9_plansWrong_46 (nI S) (f + 1) (if (g && allP (shR σ S) k) = true then 1 else 0) (nI k) τ = S9_plansWrong_46 (nI S) f (if (g && allP (shR σ S) (k + 1)) = true then 1 else 0) (nI (k + 1)) τ' ∧ τ' = σ := by
      intro k f τ hk hτ
      subst hτ
      refine ⟨τ, ?_, rfl⟩
      have e40 : (40 : Int32) * nI S + nI k = nI (40 * S + k) := by rw [show (40 : Int32) = nI 40 from rfl, nI_mul, nI_add]
      show B9_plansWrong_46 _ _ _ _ τ = _
      unfold B9_plansWrong_46
      rw [if_pos (inb_nI hS (by omega)), nI_clamp (by omega), z9, if_neg (nI_ge hk (by omega)), e40, if_pos (inb_nI (by omega) (by omega)), nI_clamp (by omega), isPlan9, bnd_s, nI_1]
      show S9_plansWrong_46 (nI S) f ((if (g && allP (shR τ S) k) = true then 1 else 0) &&& pl01 (shR τ S k)) (nI (k + 1)) τ = S9_plansWrong_46 (nI S) f (if (g && (allP (shR τ S) k && !decide (pl01 (shR τ S k) = 0))) = true then 1 else 0) (nI (k + 1)) τ
      congr 1
      rcases in01_or (shR τ S k) 0 262143 with y | y
      · have y : pl01 (shR τ S k) = 0 := y
        rw [y]
        cases g <;> cases allP (shR τ S) k <;> rfl
      · have y : pl01 (shR τ S k) = 1 := y
        rw [y]
        cases g <;> cases allP (shR τ S) k <;> rfl
    obtain ⟨f', σ', e, hs⟩ := loopR (fun f k τ => S9_plansWrong_46 (nI S) f (if (g && allP (shR σ S) k) = true then 1 else 0) (nI k) τ) z (fun _ τ => τ = σ) step z 0 4096 σ (by omega) (by omega) rfl
    subst hs
    have e' : S9_plansWrong_46 (nI S) 4096 (if g = true then 1 else 0) 0 σ' = S9_plansWrong_46 (nI S) (f' + 1) (if (g && allP (shR σ' S) z) = true then 1 else 0) (nI z) σ' := by
      rw [← e]
      show _ = S9_plansWrong_46 (nI S) 4096 (if (g && true) = true then 1 else 0) (nI 0) σ'
      rw [Bool.and_true]
      rfl
    rw [e']
    show B9_plansWrong_46 _ _ _ _ σ' = _
    unfold B9_plansWrong_46
    rw [if_pos (inb_nI hS (by omega)), nI_clamp (by omega), z9, if_pos (Int32.le_refl _)]
    cases g <;> cases allP (shR σ' S) z <;> rfl
  unfold S9_plansWrong S9_plansWrong_43
  rw [in9, bnd_s, if_neg hin]
  simp only [if_pos (inb_nI hS (show 4 < 2 ^ 31 by omega)), nI_clamp (show S < 2 ^ 31 by omega), if_neg ho, z9, h9]
  unfold plV
  by_cases q : z = n
  · rw [if_pos (show nI z = nI n by rw [q])]
    refine (main true).trans ?_
    congr 2
    by_cases w : allP (shR σ S) z = true
    · rw [if_pos ⟨rfl, w⟩, if_pos ⟨q, w⟩]
    · rw [if_neg (fun y => w y.2), if_neg (fun y => w y.2)]
  · rw [if_neg (fun y => q ((nI_inj (by omega) (by omega)).mp y))]
    refine (main false).trans ?_
    rw [if_neg (fun y => absurd y.1 (by decide)), if_neg (fun y => q y.1)]
