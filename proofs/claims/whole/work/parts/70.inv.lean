/-! What holds of both memories between two calls. -/
def scr (a b : Nat) : Prop := (9 ≤ a ∧ a ≤ 16) ∨ a = 25 ∨ (a = 26 ∧ b ≠ 1) ∨ (34 ≤ a ∧ a ≤ 48) ∨ (a = 75 ∧ 18 ≤ b) ∨ 89 ≤ a
def Ag (σ σ' : St) : Prop := ∀ a b, ¬ scr a b → gI σ' a b = gI σ a b
theorem Ag.rf {σ : St} : Ag σ σ := fun _ _ _ => rfl
theorem Ag.tr {σ σ' σ'' : St} (h : Ag σ σ') (k : Ag σ' σ'') : Ag σ σ'' := fun a b z => (k a b z).trans (h a b z)
theorem Ag.fr {T U : Nat → Nat → Prop} {σ σ' : St} (h : Fr T U σ σ') (k : ∀ a b, T a b → scr a b) : Ag σ σ' := fun a b z => h.1 a b (fun q => z (k a b q))
theorem Ag.sI {σ σ' : St} (h : Ag σ σ') {o k : Nat} (v : Int32) (hs : scr o k) : Ag σ (sI σ' o k v) := fun a b z => by
  rw [gI_sI, if_neg (fun q => z (by rw [q.1, q.2]; exact hs))]
  exact h a b z
theorem scB_scr : ∀ a b, scB a b → scr a b := fun a b z => by unfold scB at z; unfold scr; omega
theorem scN_scr : ∀ a b, scN a b → scr a b := fun a b z => by unfold scN at z; unfold scr; omega
def bdM (s : Nat → Int32) : Prop := smS s ∧ (0 ≤ s 5 ∧ s 5 ≤ 999) ∧ 0 ≤ s 6 ∧ s 6 ≤ 999
def MenOk (σ : St) (n : Nat) : Prop := ∀ m, m < n → (∀ k, k < 7 → gI σ (3 + m) k = stM σ m k) ∧ bdM (stM σ m)
def TpOk (σ : St) : Prop := ∃ s : Nat, s ≤ 160 ∧ gI σ 26 1 = nI s ∧ gI σ 75 6 = nI s ∧ ∀ k, k < s → gI σ 27 k = gI σ 79 k ∧ 0 ≤ gI σ 79 k ∧ gI σ 79 k ≤ 255
def ShOk (σ : St) (s : Nat) : Prop := (gI σ (67 + 2 * s) 1 = gI σ 84 s ∧ (gI σ 84 s = -1 ∨ gI σ 84 s = 0 ∨ gI σ 84 s = 1 ∨ gI σ 84 s = 2)) ∧ (∃ z : Nat, z ≤ 40 ∧ gI σ (67 + 2 * s) 2 = nI z ∧ gI σ 85 s = nI z) ∧ ∀ k, k < 40 → gI σ (68 + 2 * s) k = gI σ 86 (40 * s + k)
def kpM (σ : St) (m k : Nat) : Int32 := if k = 0 then gI σ 76 m else if k = 1 then gI σ 77 m else gI σ 82 (5 * m + (k - 2))
def KpOk (σ : St) (n T : Nat) : Prop := gI σ 0 10 = gI σ 75 11 ∧ (gI σ 75 11 = 0 ∨ ¬ gI σ 75 11 = 0 ∧ ∃ kn kt : Nat, kn ≤ n ∧ kt < T ∧ (gI σ 17 1 = nI kn ∧ gI σ 83 0 = nI kn) ∧ gI σ 17 2 = gI σ 83 1 ∧ (gI σ 17 3 = nI kt ∧ gI σ 83 2 = nI kt) ∧ ∀ m, m < kn → (∀ k, k < 7 → gI σ (19 + m) k = kpM σ m k) ∧ bdM (kpM σ m))
def WdOk (σ : St) : Prop := ∀ k, k < 96 → gI σ 88 k = arr88 k
def NmOk (σ : St) (n T t : Nat) : Prop := (n ≤ 6 ∧ T ≤ 6 ∧ t < T) ∧ (gI σ 1 1 = nI n ∧ gI σ 75 0 = nI n) ∧ (gI σ 0 9 = nI T ∧ gI σ 75 9 = nI T) ∧ (gI σ 1 3 = nI t ∧ gI σ 75 10 = nI t) ∧ gI σ 1 2 = gI σ 75 4
def Inv (n T t : Nat) (σ : St) : Prop := NmOk σ n T t ∧ MenOk σ n ∧ (∀ j, j < T → TxOk σ j) ∧ TpOk σ ∧ (∀ s, s < 4 → ShOk σ s) ∧ KpOk σ n T ∧ WdOk σ
theorem NmOk.fr {σ σ' : St} {n T t : Nat} (h : NmOk σ n T t) (k : ∀ a b, (a = 0 ∧ b = 9) ∨ (a = 1 ∧ 1 ≤ b ∧ b ≤ 3) ∨ (a = 75 ∧ (b = 0 ∨ b = 4 ∨ b = 9 ∨ b = 10)) → gI σ' a b = gI σ a b) : NmOk σ' n T t := by
  obtain ⟨h0, ⟨h1, h2⟩, ⟨h3, h4⟩, ⟨h5, h6⟩, h7⟩ := h
  refine ⟨h0, ⟨by rw [k 1 1 (by omega)]; exact h1, by rw [k 75 0 (by omega)]; exact h2⟩, ⟨by rw [k 0 9 (by omega)]; exact h3, by rw [k 75 9 (by omega)]; exact h4⟩, ⟨by rw [k 1 3 (by omega)]; exact h5, by rw [k 75 10 (by omega)]; exact h6⟩, ?_⟩
  rw [k 1 2 (by omega), k 75 4 (by omega)]; exact h7
theorem MenOk.fr {σ σ' : St} {n : Nat} (hn : n ≤ 6) (h : MenOk σ n) (k : ∀ a b, (3 ≤ a ∧ a ≤ 8) ∨ a = 76 ∨ a = 77 ∨ a = 78 → gI σ' a b = gI σ a b) : MenOk σ' n := by
  intro m hm
  obtain ⟨h1, h2⟩ := h m hm
  have e : stM σ' m = stM σ m := stM_fr (fun a b z => k a b (by omega)) m
  rw [e]
  exact ⟨fun j hj => by rw [k _ _ (by omega)]; exact h1 j hj, h2⟩
theorem TpOk.fr {σ σ' : St} (h : TpOk σ) (k : ∀ a b, (a = 26 ∧ b = 1) ∨ a = 27 ∨ a = 79 ∨ (a = 75 ∧ b = 6) → gI σ' a b = gI σ a b) : TpOk σ' := by
  obtain ⟨s, h1, h2, h3, h4⟩ := h
  refine ⟨s, h1, by rw [k _ _ (by omega)]; exact h2, by rw [k _ _ (by omega)]; exact h3, fun j hj => ?_⟩
  rw [k 27 _ (by omega), k 79 _ (by omega)]
  exact h4 j hj
theorem ShOk.fr {σ σ' : St} {s : Nat} (hs : s < 4) (h : ShOk σ s) (k : ∀ a b, a = 67 + 2 * s ∨ a = 68 + 2 * s ∨ (a = 84 ∧ b = s) ∨ (a = 85 ∧ b = s) ∨ (a = 86 ∧ 40 * s ≤ b ∧ b < 40 * s + 40) → gI σ' a b = gI σ a b) : ShOk σ' s := by
  obtain ⟨⟨h1, h2⟩, ⟨z, h3, h4, h5⟩, h6⟩ := h
  refine ⟨⟨?_, ?_⟩, ⟨z, h3, ?_, ?_⟩, fun j hj => ?_⟩
  · rw [k _ _ (by omega), k 84 _ (by omega)]; exact h1
  · rw [k 84 _ (by omega)]; exact h2
  · rw [k _ _ (by omega)]; exact h4
  · rw [k 85 _ (by omega)]; exact h5
  · rw [k _ _ (by omega), k 86 _ (by omega)]; exact h6 j hj
theorem kpM_fr {σ σ' : St} (h : ∀ a b, a = 76 ∨ a = 77 ∨ a = 82 → gI σ' a b = gI σ a b) (m : Nat) : kpM σ' m = kpM σ m := by
  funext k
  unfold kpM
  rw [h 76 m (Or.inl rfl), h 77 m (Or.inr (Or.inl rfl)), h 82 _ (Or.inr (Or.inr rfl))]
theorem KpOk.fr {σ σ' : St} {n T n' T' : Nat} (hn : n ≤ n') (hT : T ≤ T') (hn6 : n ≤ 6) (h : KpOk σ n T) (k : ∀ a b, (a = 0 ∧ b = 10) ∨ (17 ≤ a ∧ a ≤ 24) ∨ (a = 75 ∧ b = 11) ∨ ((a = 76 ∨ a = 77) ∧ b < n) ∨ a = 82 ∨ a = 83 → gI σ' a b = gI σ a b) : KpOk σ' n' T' := by
  obtain ⟨h1, h2⟩ := h
  unfold KpOk
  rw [k 0 10 (by omega), k 75 11 (by omega)]
  refine ⟨h1, h2.imp id (fun h => ?_)⟩
  obtain ⟨h0, kn, kt, h3, h4, ⟨h5, h6⟩, h7, ⟨h8, h9⟩, h10⟩ := h
  refine ⟨h0, kn, kt, by omega, by omega, ⟨by rw [k _ _ (by omega)]; exact h5, by rw [k _ _ (by omega)]; exact h6⟩, by rw [k _ _ (by omega), k 83 _ (by omega)]; exact h7, ⟨by rw [k _ _ (by omega)]; exact h8, by rw [k _ _ (by omega)]; exact h9⟩, fun m hm => ?_⟩
  have e : kpM σ' m = kpM σ m := by
    funext j
    unfold kpM
    rw [k 76 m (by omega), k 77 m (by omega), k 82 _ (by omega)]
  rw [e]
  exact ⟨fun j hj => by rw [k _ _ (by omega)]; exact (h10 m hm).1 j hj, (h10 m hm).2⟩
theorem Inv.ag {n T t : Nat} {σ σ' : St} (h : Inv n T t σ) (k : Ag σ σ') : Inv n T t σ' := by
  obtain ⟨h1, h2, h3, h4, h5, h6, h7⟩ := h
  have hb := h1.1
  refine ⟨h1.fr (fun a b z => k a b (by unfold scr; omega)), h2.fr hb.1 (fun a b z => k a b (by unfold scr; omega)), fun j hj => TxOk_fr (by omega) (fun a b z => k a b (by unfold scr; omega)) (h3 j hj), h4.fr (fun a b z => k a b (by unfold scr; omega)), fun s hs => (h5 s hs).fr hs (fun a b z => k a b (by unfold scr; omega)), h6.fr (Nat.le_refl _) (Nat.le_refl _) hb.1 (fun a b z => k a b (by unfold scr; omega)), fun j hj => ?_⟩
  rw [k 88 j (by unfold scr; omega)]; exact h7 j hj
theorem Inv.n6 {n T t : Nat} {σ : St} (h : Inv n T t σ) : n ≤ 6 := h.1.1.1
theorem Inv.T6 {n T t : Nat} {σ : St} (h : Inv n T t σ) : T ≤ 6 := h.1.1.2.1
theorem Inv.tT {n T t : Nat} {σ : St} (h : Inv n T t σ) : t < T := h.1.1.2.2
theorem Inv.t6 {n T t : Nat} {σ : St} (h : Inv n T t σ) : t < 6 := Nat.lt_of_lt_of_le h.tT h.T6
theorem Inv.n8 {n T t : Nat} {σ : St} (h : Inv n T t σ) : gI σ 1 1 = nI n := h.1.2.1.1
theorem Inv.n9 {n T t : Nat} {σ : St} (h : Inv n T t σ) : gI σ 75 0 = nI n := h.1.2.1.2
theorem Inv.T8 {n T t : Nat} {σ : St} (h : Inv n T t σ) : gI σ 0 9 = nI T := h.1.2.2.1.1
theorem Inv.T9 {n T t : Nat} {σ : St} (h : Inv n T t σ) : gI σ 75 9 = nI T := h.1.2.2.1.2
theorem Inv.l8 {n T t : Nat} {σ : St} (h : Inv n T t σ) : gI σ 1 3 = nI t := h.1.2.2.2.1.1
theorem Inv.l9 {n T t : Nat} {σ : St} (h : Inv n T t σ) : gI σ 75 10 = nI t := h.1.2.2.2.1.2
theorem Inv.d {n T t : Nat} {σ : St} (h : Inv n T t σ) : gI σ 1 2 = gI σ 75 4 := h.1.2.2.2.2
theorem Inv.men {n T t : Nat} {σ : St} (h : Inv n T t σ) {m : Nat} (hm : m < n) : ∀ k, k < 7 → gI σ (3 + m) k = stM σ m k := (h.2.1 m hm).1
theorem Inv.bd {n T t : Nat} {σ : St} (h : Inv n T t σ) {m : Nat} (hm : m < n) : bdM (stM σ m) := (h.2.1 m hm).2
theorem Inv.tx {n T t : Nat} {σ : St} (h : Inv n T t σ) {j : Nat} (hj : j < T) : TxOk σ j := h.2.2.1 j hj
theorem Inv.tp {n T t : Nat} {σ : St} (h : Inv n T t σ) : TpOk σ := h.2.2.2.1
theorem Inv.sh {n T t : Nat} {σ : St} (h : Inv n T t σ) {s : Nat} (hs : s < 4) : ShOk σ s := h.2.2.2.2.1 s hs
theorem Inv.kp {n T t : Nat} {σ : St} (h : Inv n T t σ) : KpOk σ n T := h.2.2.2.2.2.1
theorem Inv.wd {n T t : Nat} {σ : St} (h : Inv n T t σ) : WdOk σ := h.2.2.2.2.2.2
theorem stM_ag {σ σ' : St} (k : Ag σ σ') (m : Nat) : stM σ' m = stM σ m := stM_fr (fun a b z => k a b (by unfold scr; omega)) m
theorem txC_ag {σ σ' : St} (k : Ag σ σ') (t : Nat) : txC σ' t = txC σ t := txC_fr t (fun a b z => k a b (by unfold scr; omega))
/-- both sides answer the same, and what holds goes on to hold -/
def SameAt {R : Type} (f g : St → Option (R × St)) (σ : St) : Prop := ∃ (r : R) (σ1 σ2 : St), f σ = some (r, σ1) ∧ g σ1 = some (r, σ2) ∧ ∃ n T t, Inv n T t σ2
def Same {R : Type} (f g : St → Option (R × St)) : Prop := ∀ (n T t : Nat) (σ : St), Inv n T t σ → SameAt f g σ
theorem same_rf {R : Type} {f g : St → Option (R × St)} {n T t : Nat} {σ : St} (hI : Inv n T t σ) (r : R) (h1 : f σ = some (r, σ)) (h2 : g σ = some (r, σ)) : SameAt f g σ := ⟨r, σ, σ, h1, h2, n, T, t, hI⟩
theorem same_q {R : Type} {f g : St → Option (R × St)} {n T t : Nat} {σ σ1 : St} (hI : Inv n T t σ) (r : R) (h1 : f σ = some (r, σ1)) (a1 : Ag σ σ1) (h2 : ∃ σ2, g σ1 = some (r, σ2) ∧ Ag σ1 σ2) : SameAt f g σ := by
  obtain ⟨σ2, h3, a2⟩ := h2
  exact ⟨r, σ1, σ2, h1, h3, n, T, t, hI.ag (a1.tr a2)⟩
/-! What is asked for, looked at. -/
def in01 (v lo hi : Int32) : Int32 := if v < lo then 0 else if hi < v then 0 else 1
def pl01 (p : Int32) : Int32 := in01 p 0 262143
def pls01 (p q : Int32) : Int32 := if pl01 p = 0 then 0 else if pl01 q = 0 then 0 else 1
def has01 (n : Nat) (m : Int32) : Int32 := if m < 0 then 0 else if nI n ≤ m then 0 else 1
def two01 (n : Nat) (a b : Int32) : Int32 := if a = b then 0 else if has01 n a = 0 then 0 else if has01 n b = 0 then 0 else 1
def pair01 (n : Nat) (x : Int32) : Int32 := if x < 0 then 0 else two01 n (x / 10) (jrem x 10)
theorem in01_or (v lo hi : Int32) : in01 v lo hi = 0 ∨ in01 v lo hi = 1 := by
  unfold in01; split
  · exact Or.inl rfl
  · split
    · exact Or.inl rfl
    · exact Or.inr rfl
theorem in01_t {v lo hi : Int32} (h : ¬ in01 v lo hi = 0) : ¬ v < lo ∧ ¬ hi < v := by
  unfold in01 at h
  by_cases q : v < lo
  · rw [if_pos q] at h; exact absurd rfl h
  · rw [if_neg q] at h
    by_cases q2 : hi < v
    · rw [if_pos q2] at h; exact absurd rfl h
    · exact ⟨q, q2⟩
theorem in01_f {v lo hi : Int32} (h : in01 v lo hi = 0) : v < lo ∨ hi < v := by
  unfold in01 at h
  by_cases q : v < lo
  · exact Or.inl q
  · rw [if_neg q] at h
    by_cases q2 : hi < v
    · exact Or.inr q2
    · rw [if_neg q2] at h; exact absurd h (by decide)
theorem in01_1 {v lo hi : Int32} (h1 : ¬ v < lo) (h2 : ¬ hi < v) : in01 v lo hi = 1 := by unfold in01; rw [if_neg h1, if_neg h2]
theorem in9 (v lo hi : Int32) (σ : St) : S9_in v lo hi σ = some (in01 v lo hi, σ) := by
  unfold S9_in in01
  split
  · rfl
  · split <;> rfl
theorem isPlan8 (p : Int32) (σ : St) : S8_isPlan p σ = some (pl01 p, σ) := by
  unfold S8_isPlan pl01 in01
  split
  · rfl
  · split <;> rfl
theorem isPlan9 (p : Int32) (σ : St) : S9_isPlan p σ = some (pl01 p, σ) := by
  unfold S9_isPlan
  rw [in9, bnd_s, if_pos (in01_or _ _ _)]
  rfl
theorem arePlans8 (p q : Int32) (σ : St) : S8_arePlans p q σ = some (pls01 p q, σ) := by
  unfold S8_arePlans pls01
  rw [isPlan8, bnd_s, isPlan8, bnd_s]
  split
  · rfl
  · split <;> rfl
theorem pls01_f {p q : Int32} (h : pls01 p q = 0) : pl01 p = 0 ∨ (¬ pl01 p = 0 ∧ pl01 q = 0) := by
  unfold pls01 at h
  by_cases h1 : pl01 p = 0
  · exact Or.inl h1
  · rw [if_neg h1] at h
    by_cases h2 : pl01 q = 0
    · exact Or.inr ⟨h1, h2⟩
    · rw [if_neg h2] at h; exact absurd h (by decide)
theorem pls01_t {p q : Int32} (h : ¬ pls01 p q = 0) : ¬ pl01 p = 0 ∧ ¬ pl01 q = 0 := by
  unfold pls01 at h
  by_cases h1 : pl01 p = 0
  · rw [if_pos h1] at h; exact absurd rfl h
  · rw [if_neg h1] at h
    by_cases h2 : pl01 q = 0
    · rw [if_pos h2] at h; exact absurd rfl h
    · exact ⟨h1, h2⟩
theorem has8 {o n : Nat} {σ : St} (h : gI σ o 1 = nI n) (m : Int32) : S5_has o m σ = some (has01 n m, σ) := by
  unfold S5_has has01
  rw [h]
  split
  · rfl
  · split <;> rfl
theorem has01_t {n : Nat} {m : Int32} (hn : n ≤ 6) (h : ¬ has01 n m = 0) : ∃ k, k < n ∧ m = nI k := by
  unfold has01 at h
  by_cases q : m < 0
  · rw [if_pos q] at h; exact absurd rfl h
  · rw [if_neg q] at h
    by_cases q2 : nI n ≤ m
    · rw [if_pos q2] at h; exact absurd rfl h
    · obtain ⟨k, rfl, hk⟩ := ex_nI q
      refine ⟨k, ?_, rfl⟩
      rw [nI_le_iff (by omega) hk] at q2
      omega
theorem has01_1 {n k : Nat} (hn : n ≤ 6) (h : k < n) : has01 n (nI k) = 1 := by
  unfold has01
  rw [if_neg (nI_pos (by omega)), if_neg (nI_ge h (by omega))]
theorem has01_in {n : Nat} (hn : n ≤ 6) (m : Int32) : in01 m 0 (nI n - 1) = has01 n m := by
  unfold in01 has01
  by_cases q : m < 0
  · rw [if_pos q, if_pos q]
  · rw [if_neg q, if_neg q]
    have e : nI n - 1 < m ↔ nI n ≤ m := by
      have h1 : nI n ≤ nI 6 := nI_le hn (by omega)
      have h2 : ¬ nI n < 0 := nI_pos (by omega)
      have h3 : nI 6 = 6 := rfl
      rw [h3] at h1
      generalize nI n = y at h1 h2 ⊢
      constructor <;> intro <;> grind
    by_cases q2 : nI n ≤ m
    · rw [if_pos q2, if_pos (e.mpr q2)]
    · rw [if_neg q2, if_neg (fun z => q2 (e.mp z))]
theorem has01_or (n : Nat) (m : Int32) : has01 n m = 0 ∨ has01 n m = 1 := by
  unfold has01; split
  · exact Or.inl rfl
  · split
    · exact Or.inl rfl
    · exact Or.inr rfl
theorem isMan9 {n : Nat} {σ : St} (hn : n ≤ 6) (h : gI σ 75 0 = nI n) (m : Int32) : S9_isMan m σ = some (has01 n m, σ) := by
  unfold S9_isMan
  rw [in9, bnd_s, h, has01_in hn, if_pos (has01_or _ _)]
theorem areTwo8 {n : Nat} {σ : St} (h : gI σ 1 1 = nI n) (a b : Int32) : S8_areTwo a b σ = some (two01 n a b, σ) := by
  unfold S8_areTwo two01
  rw [has8 h, bnd_s, has8 h, bnd_s]
  split
  · rfl
  · split
    · rfl
    · split <;> rfl
theorem areTwo9 {n : Nat} {σ : St} (hn : n ≤ 6) (h : gI σ 75 0 = nI n) (a b : Int32) : S9_areTwo a b σ = some (two01 n a b, σ) := by
  unfold S9_areTwo two01
  rw [isMan9 hn h, bnd_s, isMan9 hn h, bnd_s]
  by_cases q : a = b
  · rw [if_pos q, if_pos q]
    split
    · rfl
    · split <;> rfl
  · rw [if_neg q, if_neg q]
    split
    · rfl
    · split <;> rfl
theorem two01_or (n : Nat) (a b : Int32) : two01 n a b = 0 ∨ two01 n a b = 1 := by
  unfold two01; split
  · exact Or.inl rfl
  · split
    · exact Or.inl rfl
    · split
      · exact Or.inl rfl
      · exact Or.inr rfl
theorem two01_t {n : Nat} {a b : Int32} (hn : n ≤ 6) (h : ¬ two01 n a b = 0) : ∃ k l, k < n ∧ l < n ∧ k ≠ l ∧ a = nI k ∧ b = nI l := by
  unfold two01 at h
  by_cases q : a = b
  · rw [if_pos q] at h; exact absurd rfl h
  · rw [if_neg q] at h
    by_cases q1 : has01 n a = 0
    · rw [if_pos q1] at h; exact absurd rfl h
    · rw [if_neg q1] at h
      by_cases q2 : has01 n b = 0
      · rw [if_pos q2] at h; exact absurd rfl h
      · obtain ⟨k, h1, rfl⟩ := has01_t hn q1
        obtain ⟨l, h2, rfl⟩ := has01_t hn q2
        exact ⟨k, l, h1, h2, fun z => q (by rw [z]), rfl, rfl⟩
theorem isPair8 {n : Nat} {σ : St} (h : gI σ 1 1 = nI n) (x : Int32) : S8_isPair x σ = some (pair01 n x, σ) := by
  unfold S8_isPair pair01
  rw [areTwo8 h, bnd_s]
  by_cases q : x < 0
  · rw [if_pos q, if_pos q]
  · rw [if_neg q, if_neg q]
    rcases two01_or n (x / 10) (jrem x 10) with e | e
    · rw [e, if_pos rfl]
    · rw [e, if_neg (by decide)]
theorem areTwoMen9 {n : Nat} {σ : St} (hn : n ≤ 6) (h : gI σ 75 0 = nI n) (x : Int32) : S9_areTwoMen x σ = some (pair01 n x, σ) := by
  unfold S9_areTwoMen pair01
  rw [in9, bnd_s, areTwo9 hn h, bnd_s]
  by_cases q : x < 0
  · rw [if_pos q, if_pos (by unfold in01; rw [if_pos q])]
  · rw [if_neg q]
    by_cases q2 : in01 x 0 55 = 0
    · rw [if_pos q2]
      have h55 : (55 : Int32) < x := (in01_f q2).resolve_left q
      have e : two01 n (x / 10) (jrem x 10) = 0 := by
        rcases two01_or n (x / 10) (jrem x 10) with e | e
        · exact e
        · exfalso
          obtain ⟨k, l, h1, h2, h3, h4, h5⟩ := two01_t hn (show ¬ two01 n (x / 10) (jrem x 10) = 0 by rw [e]; decide)
          obtain ⟨z, rfl, hz⟩ := ex_nI q
          rw [show (10 : Int32) = nI 10 from rfl] at h4 h5
          rw [nI_div hz (by omega), nI_inj (by omega) (by omega)] at h4
          rw [nI_rem hz (by omega), nI_inj (by omega) (by omega)] at h5
          rw [show (55 : Int32) = nI 55 from rfl, nI_lt_iff (by omega) hz] at h55
          omega
      rw [e]
    · rw [if_neg q2]
      rcases two01_or n (x / 10) (jrem x 10) with e | e
      · rw [e, if_pos rfl]
      · rw [e, if_neg (by decide)]
theorem pair01_t {n : Nat} {x : Int32} (hn : n ≤ 6) (h : ¬ pair01 n x = 0) : ∃ k l, k < n ∧ l < n ∧ k ≠ l ∧ x / 10 = nI k ∧ jrem x 10 = nI l := by
  unfold pair01 at h
  by_cases q : x < 0
  · rw [if_pos q] at h; exact absurd rfl h
  · rw [if_neg q] at h
    exact two01_t hn h
/-! Who is where. -/
theorem at8 {o k : Nat} (ho : Ob 75 5 o) (hk : k < 6) (σ : St) : S5_at o (nI k) σ = some (o + 2 + k, σ) := by
  unfold S5_at S5_at_22
  rw [if_neg (nI_pos (by omega)), if_neg (show ¬ (6 : Int32) ≤ nI k from nI_ge (a := k) (b := 6) hk (by omega)), if_pos (inb_nI hk (by omega)), nI_clamp (by omega)]
  have h1 := ra5 ho
  have h2 : rf (o + 1) k = o + 2 + k := by
    simp only [rf, h1.1]
  rw [h2]
theorem ob1 : Ob 75 5 1 := by decide +kernel
theorem ob9 : Ob 75 5 9 := by decide +kernel
theorem ob17 : Ob 75 5 17 := by decide +kernel
theorem obW1 : ∀ k, k < 6 → Ob 75 7 (3 + k) := by decide +kernel
theorem obW9 : ∀ k, k < 6 → Ob 75 7 (11 + k) := by decide +kernel
theorem obW25 : Ob 75 7 25 := by decide +kernel
theorem man8 {k : Nat} (hk : k < 6) (σ : St) : S5_at 1 (nI k) σ = some (3 + k, σ) := at8 ob1 hk σ
theorem textAt8 {k : Nat} (hk : k < 6) (σ : St) : S8_textAt (nI k) σ = some (49 + 3 * k, σ) := by
  unfold S8_textAt S8_textAt_22
  rw [if_neg (nI_pos (by omega)), if_neg (show ¬ (6 : Int32) ≤ nI k from nI_ge (a := k) (b := 6) hk (by omega)), if_pos (inb_nI hk (by omega)), nI_clamp (by omega)]
  rfl
theorem theLaw8 {t : Nat} {σ : St} (ht : t < 6) (h : gI σ 1 3 = nI t) : S8_theLaw σ = some (49 + 3 * t, σ) := by
  unfold S8_theLaw
  rw [h, textAt8 ht, bnd_s]
theorem theOne8 {x : Int32} {k : Nat} (h : x / 10 = nI k) (hk : k < 6) (σ : St) : S8_theOne x σ = some (3 + k, σ) := by
  unfold S8_theOne
  rw [h, man8 hk, bnd_s]
theorem theOther8 {x : Int32} {k : Nat} (h : jrem x 10 = nI k) (hk : k < 6) (σ : St) : S8_theOther x σ = some (3 + k, σ) := by
  unfold S8_theOther
  rw [h, man8 hk, bnd_s]
theorem sheetAt8 {k : Nat} (hk : k < 4) (σ : St) : S8_sheetAt (nI k) σ = some (67 + 2 * k, σ) := by
  unfold S8_sheetAt S8_sheetAt_22
  rw [if_neg (nI_pos (by omega)), if_neg (show ¬ (4 : Int32) ≤ nI k from nI_ge (a := k) (b := 4) hk (by omega)), if_pos (inb_nI hk (by omega)), nI_clamp (by omega)]
  rfl
theorem isSheet8 (s : Int32) (σ : St) : S8_isSheet s σ = some (in01 s 0 3, σ) := by
  unfold S8_isSheet in01
  have e : (4 : Int32) ≤ s ↔ (3 : Int32) < s := by constructor <;> intro <;> grind
  by_cases q : s < 0
  · rw [if_pos q, if_pos q]
  · rw [if_neg q, if_neg q]
    by_cases q2 : (3 : Int32) < s
    · rw [if_pos q2, if_pos (e.mpr q2)]
    · rw [if_neg q2, if_neg (fun z => q2 (e.mp z))]
theorem in03_t {s : Int32} (h : ¬ in01 s 0 3 = 0) : ∃ k, k < 4 ∧ s = nI k := by
  obtain ⟨h1, h2⟩ := in01_t h
  obtain ⟨k, h3, h4⟩ := ex_nIc (a := s) (c := 3) (by omega) h1 h2
  exact ⟨k, by omega, h3⟩
theorem winnerOf8 (x y : Int32) (cs : Nat → List Int32) (s1 s2 : Nat → Int32) (pa pb : Int32) {σ : St} (h : gI σ 35 5 = cel cs s1 s2 pa pb 9 - 4) : S8_winnerOf x y σ = some (winF x y (cel cs s1 s2 pa pb 9), σ) := by
  obtain ⟨c1, c2⟩ := cel_b cs s1 s2 pa pb 9
  unfold S8_winnerOf winF
  rw [h]
  generalize cel cs s1 s2 pa pb 9 = c at c1 c2 ⊢
  have e1 : c - 4 = 0 ↔ c = 4 := by constructor <;> intro <;> grind
  have e2 : c - 4 ≤ 0 ↔ c ≤ 4 := by constructor <;> intro <;> grind
  by_cases q : c = 4
  · rw [if_pos (e1.mpr q), if_pos (by rw [q]; decide), if_pos (by rw [q]; decide)]
  · rw [if_neg (fun z => q (e1.mp z))]
    by_cases q2 : c ≤ 4
    · rw [if_pos (e2.mpr q2), if_pos q2, if_neg (by grind)]
    · rw [if_neg (fun z => q2 (e2.mp z)), if_neg q2]
theorem cellBehind8 {i : Nat} (hi : i ≤ 9) {σ : St} : S0_cellBehind (nI i) σ = some (gI σ 36 i, σ) := by
  unfold S0_cellBehind
  rw [within8, bnd_s]
  have e : wi (nI i) 0 ((10 : Int32) - 1) = nI i := by
    unfold wi jmax jmin
    have h1 : nI i ≤ nI 9 := nI_le hi (by omega)
    have h2 : ¬ nI i < 0 := nI_pos (by omega)
    rw [show nI 9 = (9 : Int32) from rfl] at h1
    generalize nI i = y at h1 h2 ⊢
    split <;> (split at * <;> grind)
  rw [e, if_pos (inb_nI (by omega) (by omega)), nI_clamp (by omega)]
/-- two who are there, paired by the law -/
theorem pairMen8 {n T t : Nat} {σ : St} (hI : Inv n T t σ) {k l : Nat} (hk : k < n) (hl : l < n) : ∃ σ', S0_pair (3 + k) (3 + l) (49 + 3 * t) σ = some ((), σ') ∧ Ag σ σ' ∧ PC (txC σ t) (stM σ k) (stM σ l) σ' := by
  have h6 := hI.n6
  obtain ⟨σ', h1, h2, h3⟩ := pair2w (obW1 k (by omega)) (obW1 l (by omega)) hI.t6 (hI.tx hI.tT) rfl (fun j hj => hI.men hk j (by omega)) (fun j hj => hI.men hl j (by omega))
  exact ⟨σ', h1, Ag.fr h2 scB_scr, h3⟩
theorem pairUp8 {n T t : Nat} {σ : St} (hI : Inv n T t σ) {k l : Nat} (hk : k < n) (hl : l < n) : ∃ σ', S8_pairUp (nI k) (nI l) σ = some ((), σ') ∧ Ag σ σ' ∧ PC (txC σ t) (stM σ k) (stM σ l) σ' := by
  have h6 := hI.n6
  obtain ⟨σ', h1, h2, h3⟩ := pairMen8 hI hk hl
  refine ⟨σ', ?_, h2, h3⟩
  unfold S8_pairUp
  rw [man8 (by omega), bnd_s, man8 (by omega), bnd_s, theLaw8 hI.t6 hI.l8, bnd_s, h1, bnd_s]
theorem goMen8 {cs : Nat → List Int32} {s1 s2 : Nat → Int32} {σ : St} (k1 : smS s1) (k2 : smS s2) (h : PC cs s1 s2 σ) (pa pb : Int32) : ∃ σ', S0_goThrough pa pb σ = some ((), σ') ∧ Ag σ σ' ∧ PC cs s1 s2 σ' ∧ B2 cs s1 s2 pa pb σ' := by
  obtain ⟨σ', h1, h2, h3⟩ := go2w k1 k2 h pa pb
  exact ⟨σ', h1, Ag.fr h2 scB_scr, h3⟩
theorem boutMen9 {n T t : Nat} {σ : St} (hI : Inv n T t σ) {k l : Nat} (hk : k < n) (hl : l < n) (pa pb : Int32) : ∃ σ', S9_bout0 (nI k) (nI l) pa pb σ = some ((), σ') ∧ Ag σ σ' ∧ B9 (txC σ t) (stM σ k) (stM σ l) k l pa pb σ' := by
  have h6 := hI.n6
  obtain ⟨σ', h1, h2, h3⟩ := bout9w (hI.bd hk).1 (hI.bd hl).1 (by omega) (by omega) hI.t6 hI.l9 (hI.tx hI.tT) rfl (fun _ _ => rfl) (fun _ _ => rfl) pa pb
  exact ⟨σ', h1, Ag.fr h2 scN_scr, h3⟩
theorem beginsMen9 {n T t : Nat} {σ : St} (hI : Inv n T t σ) {k l : Nat} (hk : k < n) (hl : l < n) : ∃ σ', S9_begins (nI k) (nI l) σ = some ((), σ') ∧ Ag σ σ' ∧ PM (txC σ t) (stM σ k) (stM σ l) k l σ' := by
  have h6 := hI.n6
  obtain ⟨σ', h1, h2, h3⟩ := begins9w (m1 := k) (m2 := l) (by omega) (by omega) hI.t6 hI.l9 (hI.tx hI.tT) rfl (fun _ _ => rfl) (fun _ _ => rfl)
  exact ⟨σ', h1, Ag.fr h2 scN_scr, h3⟩
theorem goMen9 {cs : Nat → List Int32} {s1 s2 : Nat → Int32} {k l : Nat} {σ : St} (k1 : smS s1) (k2 : smS s2) (h : PM cs s1 s2 k l σ) (pa pb : Int32) : ∃ σ', S9_bouts pa pb σ = some ((), σ') ∧ Ag σ σ' ∧ PM cs s1 s2 k l σ' ∧ B9 cs s1 s2 k l pa pb σ' := by
  obtain ⟨σ', h1, h2, h3⟩ := go9w k1 k2 h pa pb
  exact ⟨σ', h1, Ag.fr h2 scN_scr, h3⟩
