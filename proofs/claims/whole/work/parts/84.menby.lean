/-! menBy. -/
def mokB (N : Nat) (a b : Int32) : Bool := (!decide (in01 a 0 59 = 0)) && ((!decide (in01 b 0 9999 = 0)) && decide (N < 6))
def mret (N : Nat) (a b : Int32) : Int32 := if in01 a 0 59 = 0 then -2 else if in01 b 0 9999 = 0 then -2 else if N = 6 then -4 else nI N
def mvF (a b : Int32) (k : Nat) : Int32 := if k = 0 then a / 10 else if k = 1 then jrem a 10 else if k = 2 then b / 100 else if k = 3 then jrem b 100 else 0
theorem mokB_t {N : Nat} {a b : Int32} (h : mokB N a b = true) : ¬ in01 a 0 59 = 0 ∧ ¬ in01 b 0 9999 = 0 ∧ N < 6 := by
  unfold mokB at h
  simp only [Bool.and_eq_true, Bool.not_eq_true', decide_eq_false_iff_not, decide_eq_true_eq] at h
  exact h
theorem mokB_f {N : Nat} {a b : Int32} (hN : N ≤ 6) (h : ¬ mokB N a b = true) : mret N a b < 0 := by
  unfold mret
  by_cases ha : in01 a 0 59 = 0
  · rw [if_pos ha]; decide
  · rw [if_neg ha]
    by_cases hb : in01 b 0 9999 = 0
    · rw [if_pos hb]; decide
    · rw [if_neg hb]
      by_cases h6 : N = 6
      · rw [if_pos h6]; decide
      · exfalso
        apply h
        unfold mokB
        simp only [Bool.and_eq_true, Bool.not_eq_true', decide_eq_false_iff_not, decide_eq_true_eq]
        exact ⟨ha, hb, by omega⟩
theorem man8e {N : Nat} {σ : St} (hN : N ≤ 6) (h : gI σ 1 1 = nI N) (a b : Int32) : ∃ σ', S8_man a b σ = some (mret N a b, σ') ∧ (mokB N a b = true → gI σ' 1 1 = nI (N + 1) ∧ (∀ k, k < 7 → gI σ' (3 + N) k = mvF a b k) ∧ ∀ x y, ¬ ((x = 1 ∧ y = 1) ∨ x = 3 + N) → gI σ' x y = gI σ x y) ∧ (¬ mokB N a b = true → σ' = σ) := by
  have h60 : (60 : Int32) ≤ a ↔ (59 : Int32) < a := by constructor <;> intro <;> grind
  have hW : (10000 : Int32) ≤ b ↔ (9999 : Int32) < b := by constructor <;> intro <;> grind
  have e8 : S8_man a b σ = S8_man_16 a b (in01 b 0 9999) σ := by
    unfold S8_man S8_man_15 in01
    by_cases q : b < 0
    · rw [if_pos q, if_pos q]
    · by_cases q2 : (9999 : Int32) < b
      · rw [if_neg q, if_neg q, if_pos q2, if_pos (hW.mpr q2)]
      · rw [if_neg q, if_neg q, if_neg q2, if_neg (fun z => q2 (hW.mp z))]
  have nok : (in01 a 0 59 = 0 ∨ in01 b 0 9999 = 0 ∨ N = 6) → ¬ mokB N a b = true := fun w z => by
    obtain ⟨z1, z2, z3⟩ := mokB_t z
    rcases w with w | w | w
    · exact z1 w
    · exact z2 w
    · omega
  by_cases ha : in01 a 0 59 = 0
  · refine ⟨σ, ?_, fun z => absurd z (nok (Or.inl ha)), fun _ => rfl⟩
    rw [e8]
    unfold S8_man_16 mret
    rw [if_pos ha]
    rcases in01_f ha with q | q
    · rw [if_pos q]
    · by_cases q0 : a < 0
      · rw [if_pos q0]
      · rw [if_neg q0, if_pos (h60.mpr q)]
  obtain ⟨a1, a2⟩ := in01_t ha
  by_cases hb : in01 b 0 9999 = 0
  · refine ⟨σ, ?_, fun z => absurd z (nok (Or.inr (Or.inl hb))), fun _ => rfl⟩
    rw [e8]
    unfold S8_man_16 mret
    rw [if_neg a1, if_neg (fun z => a2 (h60.mp z)), if_pos hb, if_neg ha, if_pos hb]
  by_cases h6 : N = 6
  · refine ⟨σ, ?_, fun z => absurd z (nok (Or.inr (Or.inr h6))), fun _ => rfl⟩
    rw [e8]
    unfold S8_man_16 mret
    rw [if_neg a1, if_neg (fun z => a2 (h60.mp z)), if_neg hb, h, if_neg ha, if_neg hb, if_pos h6, h6, if_neg (by decide)]
  have hn5 : N < 6 := by omega
  let σ1 : St := sI (sI (sI (sI (sI (sI (sI (sI σ (3 + N) 0 (a / 10)) (3 + N) 1 (jrem a 10)) (3 + N) 2 (b / 100)) (3 + N) 3 (jrem b 100)) (3 + N) 4 0) (3 + N) 5 0) (3 + N) 6 0) 1 1 (nI (N + 1))
  refine ⟨σ1, ?_, fun _ => ⟨?_, fun k hk => ?_, fun x y z => ?_⟩, fun z => absurd ?_ z⟩
  · rw [e8]
    unfold S8_man_16 mret
    rw [if_neg a1, if_neg (fun z => a2 (h60.mp z)), if_neg hb, h, if_pos (show nI N < (6 : Int32) from nI_lt (b := 6) hn5 (by omega)), man8 hn5, bnd_s, if_neg ha, if_neg hb, if_neg h6]
    unfold S7_comes
    rw [bnd_s, gI_sI, if_pos ⟨rfl, rfl⟩]
    have e1 : gI (sI (sI (sI (sI (sI (sI (sI σ (3 + N) 0 (a / 10)) (3 + N) 1 (jrem a 10)) (3 + N) 2 (b / 100)) (3 + N) 3 (jrem b 100)) (3 + N) 4 0) (3 + N) 5 0) (3 + N) 6 0) 1 1 = nI N := by
      have z1 : ¬ (1 : Nat) = 3 + N := by omega
      simp only [gI_sI, z1, false_and, if_false]
      exact h
    rw [e1, ← nI_succ, nI_pred]
  · show gI (sI _ 1 1 (nI (N + 1))) 1 1 = _
    rw [gI_sI, if_pos ⟨rfl, rfl⟩]
  · have z1 : ¬ 3 + N = 1 := by omega
    unfold mvF
    match k, hk with
    | 0, _ => simp [σ1, gI_sI, z1]
    | 1, _ => simp [σ1, gI_sI, z1]
    | 2, _ => simp [σ1, gI_sI, z1]
    | 3, _ => simp [σ1, gI_sI, z1]
    | 4, _ => simp [σ1, gI_sI, z1]
    | 5, _ => simp [σ1, gI_sI, z1]
    | 6, _ => simp [σ1, gI_sI, z1]
    | k + 7, h => exact absurd h (by omega)
  · have z1 : ∀ i, ¬ (x = 3 + N ∧ y = i) := fun i q => z (Or.inr q.1)
    have z2 : ¬ (x = 1 ∧ y = 1) := fun q => z (Or.inl q)
    simp only [σ1, gI_sI, if_neg (z1 _), if_neg z2]
  · unfold mokB
    simp only [Bool.and_eq_true, Bool.not_eq_true', decide_eq_false_iff_not, decide_eq_true_eq]
    exact ⟨ha, hb, hn5⟩
theorem man9e {N : Nat} {σ : St} (hN : N ≤ 6) (h : gI σ 75 0 = nI N) (a b : Int32) : ∃ σ', S9_man a b σ = some (mret N a b, σ') ∧ (mokB N a b = true → gI σ' 75 0 = nI (N + 1) ∧ (∀ k, k < 7 → stM σ' N k = mvF a b k) ∧ ∀ x y, ¬ ((x = 75 ∧ y = 0) ∨ ((x = 76 ∨ x = 77) ∧ y = N) ∨ (x = 78 ∧ 5 * N ≤ y ∧ y < 5 * N + 5)) → gI σ' x y = gI σ x y) ∧ (¬ mokB N a b = true → σ' = σ) := by
  have nok : (in01 a 0 59 = 0 ∨ in01 b 0 9999 = 0 ∨ N = 6) → ¬ mokB N a b = true := fun w z => by
    obtain ⟨z1, z2, z3⟩ := mokB_t z
    rcases w with w | w | w
    · exact z1 w
    · exact z2 w
    · omega
  by_cases ha : in01 a 0 59 = 0
  · refine ⟨σ, ?_, fun z => absurd z (nok (Or.inl ha)), fun _ => rfl⟩
    unfold S9_man mret
    rw [in9, bnd_s, if_pos ha, if_pos ha]
  by_cases hb : in01 b 0 9999 = 0
  · refine ⟨σ, ?_, fun z => absurd z (nok (Or.inr (Or.inl hb))), fun _ => rfl⟩
    unfold S9_man mret
    rw [in9, bnd_s, if_neg ha, in9, bnd_s, if_pos hb, if_neg ha, if_pos hb]
  by_cases h6 : N = 6
  · refine ⟨σ, ?_, fun z => absurd z (nok (Or.inr (Or.inr h6))), fun _ => rfl⟩
    unfold S9_man mret
    rw [in9, bnd_s, if_neg ha, in9, bnd_s, if_neg hb, h, if_neg ha, if_neg hb, if_pos h6, h6, if_pos (show nI 6 = (6 : Int32) from rfl)]
  have hn5 : N < 6 := by omega
  let σ0 : St := sI (sI σ 76 N (a / 10)) 77 N (jrem a 10)
  let L : Nat → St → Prop := fun i τ => (∀ j, j < i → gI τ 78 (5 * N + j) = if j = 0 then b / 100 else if j = 1 then jrem b 100 else 0) ∧ ∀ x y, ¬ (x = 78 ∧ 5 * N ≤ y ∧ y < 5 * N + 5) → gI τ x y = gI σ0 x y
  have n9' : gI σ0 75 0 = nI N := by show gI (sI (sI σ 76 N _) 77 N _) 75 0 = _; rw [gI_sI, if_neg (by omega), gI_sI, if_neg (by omega)]; exact h
  have step : ∀ (i f : Nat) (τ : St), i < 5 → L i τ → ∃ τ', S9_man_64 a b (f + 1) (nI i) τ = S9_man_64 a b f (nI (i + 1)) τ' ∧ L (i + 1) τ' := by
    intro i f τ hi ⟨l1, l2⟩
    have t9 : gI τ 75 0 = nI N := (l2 75 0 (by omega)).trans n9'
    have e5 : (5 : Int32) * nI N + nI i = nI (5 * N + i) := by rw [show (5 : Int32) = nI 5 from rfl, nI_mul, nI_add]
    have wr : ∀ v, (v = if i = 0 then b / 100 else if i = 1 then jrem b 100 else 0) → S9_man_105 a b (S9_man_64 a b f) (nI i) (nI (5 * N + i)) v τ = S9_man_64 a b f (nI (i + 1)) (sI τ 78 (5 * N + i) (if i = 0 then b / 100 else if i = 1 then jrem b 100 else 0)) := by
      intro v hv
      unfold S9_man_105
      rw [if_pos (inb_nI (by omega) (by omega)), nI_clamp (by omega), ← nI_succ, hv]
    refine ⟨sI τ 78 (5 * N + i) (if i = 0 then b / 100 else if i = 1 then jrem b 100 else 0), ?_, fun j hj => ?_, fun x y z => ?_⟩
    · show B9_man_64 _ _ _ _ τ = _
      unfold B9_man_64
      rw [if_neg (show ¬ (5 : Int32) ≤ nI i from nI_ge (b := 5) hi (by omega)), t9, e5]
      by_cases q0 : i = 0
      · rw [if_pos (show nI i = (0 : Int32) by rw [q0]; rfl)]; exact wr _ (by rw [if_pos q0])
      · rw [if_neg (show ¬ nI i = (0 : Int32) from nI_ne0 (by omega) (by omega))]
        by_cases q1 : i = 1
        · rw [if_pos (show nI i = (1 : Int32) by rw [q1]; rfl)]; exact wr _ (by rw [if_neg q0, if_pos q1])
        · rw [if_neg (show ¬ nI i = (1 : Int32) from fun z => q1 ((nI_inj (b := 1) (by omega) (by omega)).mp z))]; exact wr _ (by rw [if_neg q0, if_neg q1])
    · rw [gI_sI]
      by_cases q : j = i
      · subst q; rw [if_pos ⟨rfl, rfl⟩]
      · rw [if_neg (by omega)]; exact l1 j (by omega)
    · rw [gI_sI, if_neg (by omega)]; exact l2 x y z
  obtain ⟨f', σ2, e2, l1, l2⟩ := loopR (fun f i τ => S9_man_64 a b f (nI i) τ) 5 L step 5 0 4096 σ0 rfl (by omega) ⟨fun j hj => absurd hj (by omega), fun _ _ _ => rfl⟩
  have t9 : gI σ2 75 0 = nI N := (l2 75 0 (by omega)).trans n9'
  refine ⟨sI σ2 75 0 (nI (N + 1)), ?_, fun _ => ⟨?_, fun k hk => ?_, fun x y z => ?_⟩, fun z => absurd ?_ z⟩
  · unfold S9_man mret
    have n9'' : gI (sI σ 76 N (a / 10)) 75 0 = nI N := by rw [gI_sI, if_neg (by omega)]; exact h
    rw [in9, bnd_s, if_neg ha, in9, bnd_s, if_neg hb, h, if_neg (show ¬ nI N = (6 : Int32) from fun z => h6 ((nI_inj (b := 6) (by omega) (by omega)).mp z)), if_pos (inb_nI hn5 (by omega)), nI_clamp (by omega), n9'', if_pos (inb_nI hn5 (by omega)), nI_clamp (by omega), if_neg ha, if_neg hb, if_neg h6]
    rw [show S9_man_64 a b 4096 (0 : Int32) (sI (sI σ 76 N (a / 10)) 77 N (jrem a 10)) = _ from e2]
    show B9_man_64 _ _ _ _ σ2 = _
    unfold B9_man_64
    rw [if_pos (show (5 : Int32) ≤ nI 5 by decide), t9, ← nI_succ, gI_sI, if_pos ⟨rfl, rfl⟩, nI_pred]
  · rw [gI_sI, if_pos ⟨rfl, rfl⟩]
  · have s76 : gI (sI σ2 75 0 (nI (N + 1))) 76 N = a / 10 := by rw [gI_sI, if_neg (by omega), l2 76 N (by omega)]; show gI (sI (sI σ 76 N _) 77 N _) 76 N = _; rw [gI_sI, if_neg (by omega), gI_sI, if_pos ⟨rfl, rfl⟩]
    have s77 : gI (sI σ2 75 0 (nI (N + 1))) 77 N = jrem a 10 := by rw [gI_sI, if_neg (by omega), l2 77 N (by omega)]; show gI (sI (sI σ 76 N _) 77 N _) 77 N = _; rw [gI_sI, if_pos ⟨rfl, rfl⟩]
    have s78 : ∀ j, j < 5 → gI (sI σ2 75 0 (nI (N + 1))) 78 (5 * N + j) = if j = 0 then b / 100 else if j = 1 then jrem b 100 else 0 := fun j hj => by rw [gI_sI, if_neg (by omega)]; exact l1 j hj
    unfold stM mvF
    rw [s76, s77]
    match k, hk with
    | 0, _ => rfl
    | 1, _ => rfl
    | 2, _ => exact s78 0 (by omega)
    | 3, _ => exact s78 1 (by omega)
    | 4, _ => exact s78 2 (by omega)
    | 5, _ => exact s78 3 (by omega)
    | 6, _ => exact s78 4 (by omega)
    | k + 7, h => exact absurd h (by omega)
  · rw [gI_sI, if_neg (by omega), l2 x y (by omega)]
    show gI (sI (sI σ 76 N _) 77 N _) x y = _
    rw [gI_sI, if_neg (by omega), gI_sI, if_neg (by omega)]
  · unfold mokB
    simp only [Bool.and_eq_true, Bool.not_eq_true', decide_eq_false_iff_not, decide_eq_true_eq]
    exact ⟨ha, hb, hn5⟩
/-- how many there are behind k pairs; their numbers -/
def mN (n0 : Nat) (A B : Nat → Int32) : Nat → Nat
  | 0 => n0
  | k + 1 => if mokB (mN n0 A B k) (A k) (B k) = true then mN n0 A B k + 1 else mN n0 A B k
def mS (n0 : Nat) (S0 : Nat → Nat → Int32) (A B : Nat → Int32) : Nat → Nat → Nat → Int32
  | 0 => S0
  | k + 1 => if mokB (mN n0 A B k) (A k) (B k) = true then (fun m j => if m = mN n0 A B k then mvF (A k) (B k) j else mS n0 S0 A B k m j) else mS n0 S0 A B k
theorem mN_b (n0 : Nat) (h : n0 ≤ 6) (A B : Nat → Int32) : ∀ k, n0 ≤ mN n0 A B k ∧ mN n0 A B k ≤ 6 := by
  intro k
  induction k with
  | zero => exact ⟨Nat.le_refl _, h⟩
  | succ k ih =>
    unfold mN
    by_cases q : mokB (mN n0 A B k) (A k) (B k) = true
    · rw [if_pos q]
      have := (mokB_t q).2.2
      omega
    · rw [if_neg q]; exact ih
theorem mvF_b {a b : Int32} (h : ¬ in01 a 0 59 = 0) : bdM (mvF a b) := by
  obtain ⟨a1, a2⟩ := in01_t h
  obtain ⟨A, rfl, hA⟩ := ex_nIc (a := a) (c := 59) (by omega) a1 a2
  refine ⟨⟨?_, ?_⟩, ?_, ?_⟩
  · show 0 ≤ jrem (nI A) 10 ∧ jrem (nI A) 10 ≤ 9
    rw [show jrem (nI A) 10 = nI (A % 10) from nI_rem (b := 10) (by omega) (by omega)]
    exact ⟨nI_pos' (by omega), nI_le (b := 9) (by omega) (by omega)⟩
  · exact (by decide : (0 : Int32) ≤ 0 ∧ (0 : Int32) ≤ 9)
  · exact (by decide : (0 : Int32) ≤ 0 ∧ (0 : Int32) ≤ 999)
  · exact (by decide : (0 : Int32) ≤ 0 ∧ (0 : Int32) ≤ 999)
theorem mS_b {n0 : Nat} {S0 : Nat → Nat → Int32} (h0 : ∀ m, m < n0 → bdM (S0 m)) (A B : Nat → Int32) : ∀ k m, m < mN n0 A B k → bdM (mS n0 S0 A B k m) := by
  intro k
  induction k with
  | zero => exact h0
  | succ k ih =>
    intro m hm
    unfold mN at hm
    unfold mS
    by_cases q : mokB (mN n0 A B k) (A k) (B k) = true
    · rw [if_pos q] at hm ⊢
      by_cases q2 : m = mN n0 A B k
      · refine bdM_cg (fun j _ => ?_) (mvF_b (b := B k) (mokB_t q).1)
        rw [if_pos q2]
      · refine bdM_cg (fun j _ => ?_) (ih m (by omega))
        rw [if_neg q2]
    · rw [if_neg q] at hm ⊢
      exact ih m hm
def Re8 (n0 : Nat) (S0 : Nat → Nat → Int32) (A B : Nat → Int32) (σ : St) (k : Nat) (τ : St) : Prop := gI τ 1 1 = nI (mN n0 A B k) ∧ (∀ m j, m < mN n0 A B k → j < 7 → gI τ (3 + m) j = mS n0 S0 A B k m j) ∧ ∀ a b, ¬ (a = 1 ∧ b = 1) → ¬ (3 + n0 ≤ a ∧ a ≤ 8) → gI τ a b = gI σ a b
def Re9 (n0 : Nat) (S0 : Nat → Nat → Int32) (A B : Nat → Int32) (σ : St) (k : Nat) (τ : St) : Prop := gI τ 75 0 = nI (mN n0 A B k) ∧ (∀ m j, m < mN n0 A B k → j < 7 → stM τ m j = mS n0 S0 A B k m j) ∧ ∀ a b, ¬ (a = 75 ∧ b = 0) → ¬ ((a = 76 ∨ a = 77) ∧ n0 ≤ b) → ¬ (a = 78 ∧ 5 * n0 ≤ b) → gI τ a b = gI σ a b
theorem Re8.next {n0 : Nat} {S0 : Nat → Nat → Int32} {A B : Nat → Int32} {σ τ : St} {k : Nat} (h0 : n0 ≤ 6) (h : Re8 n0 S0 A B σ k τ) : ∃ τ', S8_man (A k) (B k) τ = some (mret (mN n0 A B k) (A k) (B k), τ') ∧ Re8 n0 S0 A B σ (k + 1) τ' := by
  obtain ⟨b1, b2⟩ := mN_b n0 h0 A B k
  obtain ⟨h1, h2, h3⟩ := h
  obtain ⟨τ', g, g1, g2⟩ := man8e b2 h1 (A k) (B k)
  refine ⟨τ', g, ?_⟩
  unfold Re8 mN mS
  by_cases q : mokB (mN n0 A B k) (A k) (B k) = true
  · obtain ⟨c1, c2, c3⟩ := g1 q
    have := (mokB_t q).2.2
    rw [if_pos q, if_pos q]
    refine ⟨c1, fun m j hm hj => ?_, fun a b z1 z2 => ?_⟩
    · by_cases q2 : m = mN n0 A B k
      · rw [if_pos q2, q2]; exact c2 j hj
      · rw [if_neg q2, c3 _ _ (by omega)]; exact h2 m j (by omega) hj
    · rw [c3 a b (by omega)]; exact h3 a b z1 z2
  · rw [g2 q, if_neg q, if_neg q]
    exact ⟨h1, h2, h3⟩
theorem Re9.next {n0 : Nat} {S0 : Nat → Nat → Int32} {A B : Nat → Int32} {σ τ : St} {k : Nat} (h0 : n0 ≤ 6) (h : Re9 n0 S0 A B σ k τ) : ∃ τ', S9_man (A k) (B k) τ = some (mret (mN n0 A B k) (A k) (B k), τ') ∧ Re9 n0 S0 A B σ (k + 1) τ' := by
  obtain ⟨b1, b2⟩ := mN_b n0 h0 A B k
  obtain ⟨h1, h2, h3⟩ := h
  obtain ⟨τ', g, g1, g2⟩ := man9e b2 h1 (A k) (B k)
  refine ⟨τ', g, ?_⟩
  unfold Re9 mN mS
  by_cases q : mokB (mN n0 A B k) (A k) (B k) = true
  · obtain ⟨c1, c2, c3⟩ := g1 q
    rw [if_pos q, if_pos q]
    refine ⟨c1, fun m j hm hj => ?_, fun a b z1 z2 z3 => ?_⟩
    · by_cases q2 : m = mN n0 A B k
      · rw [if_pos q2, q2]; exact c2 j hj
      · rw [if_neg q2]
        rw [stM_7 (σ := τ) (σ' := τ') (m := m) (c3 _ _ (by omega)) (c3 _ _ (by omega)) (fun y y1 y2 => c3 _ _ (by omega)) j hj]
        exact h2 m j (by omega) hj
    · rw [c3 a b (by omega)]; exact h3 a b z1 z2 z3
  · rw [g2 q, if_neg q, if_neg q]
    exact ⟨h1, h2, h3⟩
theorem mN_step {n0 : Nat} (h0 : n0 ≤ 6) (A B : Nat → Int32) (k : Nat) : (if mret (mN n0 A B k) (A k) (B k) < 0 then nI (mN n0 A B k - n0) + 0 else nI (mN n0 A B k - n0) + 1) = nI (mN n0 A B (k + 1) - n0) := by
  obtain ⟨b1, b2⟩ := mN_b n0 h0 A B k
  show _ = nI ((if mokB (mN n0 A B k) (A k) (B k) = true then mN n0 A B k + 1 else mN n0 A B k) - n0)
  by_cases q : mokB (mN n0 A B k) (A k) (B k) = true
  · obtain ⟨q1, q2, q3⟩ := mokB_t q
    have e : mret (mN n0 A B k) (A k) (B k) = nI (mN n0 A B k) := by
      unfold mret
      rw [if_neg q1, if_neg q2, if_neg (by omega)]
    rw [e, if_neg (nI_pos (by omega)), if_pos q, nI_1]
    congr 1; omega
  · rw [if_pos (mokB_f b2 q), if_neg q, Int32.add_zero]
theorem same_menBy (s so fr m : Int32) : Same (S8_menBy s so fr m) (S9_menBy s so fr m) := by
  intro n T t σ hI
  have hn := hI.n6
  by_cases hs : in01 s 0 3 = 0
  · refine same_rf hI (-2) ?_ ?_
    · unfold S8_menBy; rw [isSheet8, bnd_s, if_pos hs]
    · unfold S9_menBy; rw [in9, bnd_s, if_pos hs]
  obtain ⟨S, hS, rfl⟩ := in03_t hs
  by_cases ho : in01 so 0 2 = 0
  · refine same_rf hI (-2) ?_ ?_
    · unfold S8_menBy
      rw [isSheet8, bnd_s, if_neg hs]
      rcases in01_f ho with y | y
      · rw [if_pos y]
      · by_cases y0 : so < 0
        · rw [if_pos y0]
        · rw [if_neg y0, if_pos y]
    · unfold S9_menBy; rw [in9, bnd_s, if_neg hs, in9, bnd_s, if_pos ho]
  obtain ⟨o1, o2⟩ := in01_t ho
  by_cases hm : in01 m 0 6 = 0
  · refine same_rf hI (-2) ?_ ?_
    · unfold S8_menBy
      rw [isSheet8, bnd_s, if_neg hs, if_neg o1, if_neg o2]
      rcases in01_f hm with y | y
      · rw [if_pos y]
      · by_cases y0 : m < 0
        · rw [if_pos y0]
        · rw [if_neg y0, if_neg (Int32.not_le.mpr y)]
    · unfold S9_menBy; rw [in9, bnd_s, if_neg hs, in9, bnd_s, if_neg ho, in9, bnd_s, if_pos hm]
  obtain ⟨m1, m2⟩ := in01_t hm
  obtain ⟨M, rfl, hM⟩ := ex_nIc (a := m) (c := 6) (by omega) m1 m2
  obtain ⟨⟨s1, s2⟩, ⟨z, hz, z8, z9⟩, hrow⟩ := hI.sh hS
  have e8 : S8_menBy (nI S) so fr (nI M) σ = if shV σ (nI S) = 0 then (if gI σ 84 S = so then S8_menBy_72 (nI S) so fr (nI M) 4096 (67 + 2 * S) 0 0 σ else some (-13, σ)) else some (shV σ (nI S), σ) := by
    unfold S8_menBy
    rw [isSheet8, bnd_s, if_neg hs, if_neg o1, if_neg o2, if_neg m1, if_pos (Int32.not_lt.mp m2), sheetFault8 hI, bnd_s, sheetAt8 hS, bnd_s, s1]
  have hsv : shV σ (nI S) = if gI σ 84 S = -1 then -11 else 0 := by
    unfold shV; rw [if_neg hs, nI_clamp (by omega)]
  have e9 : ∀ τ, S9_menBy (nI S) so fr (nI M) τ = if gI τ 84 S = -1 then some (-11, τ) else if gI τ 84 S = so then S9_menBy_64 (nI S) so fr (nI M) 4096 0 0 τ else some (-13, τ) := by
    intro τ
    unfold S9_menBy
    rw [in9, bnd_s, if_neg hs, in9, bnd_s, if_neg ho, in9, bnd_s, if_neg hm]
    simp only [if_pos (inb_nI hS (show 4 < 2 ^ 31 by omega)), nI_clamp (show S < 2 ^ 31 by omega)]
  by_cases k1 : gI σ 84 S = -1
  · exact same_rf hI (-11) (by rw [e8, hsv, if_pos k1, if_neg (by decide)]) (by rw [e9, if_pos k1])
  rw [hsv, if_neg k1, if_pos rfl] at e8
  by_cases k2 : gI σ 84 S = so
  · rw [if_pos k2] at e8
    -- what the pairs are
    let ix : Nat → Int32 := fun k => fr + 2 * nI k
    let A : Nat → Int32 := fun k => gI σ 86 (40 * S + (ix k).toNatClampNeg)
    let B : Nat → Int32 := fun k => gI σ 86 (40 * S + (ix k).toNatClampNeg + 1)
    let out : Nat → Prop := fun k => hF z (ix k) 2 = 0
    have nout : ∀ k, ¬ out k → ∃ E, ix k = nI E ∧ E + 2 ≤ z := fun k h => by
      obtain ⟨E, F, h1, h2, h3⟩ := hF_t (by omega) h
      have : 2 = F := (nI_inj (by omega) (by omega)).mp h2
      subst this
      exact ⟨E, h1, h3⟩
    have r0 : Re8 n (stM σ) A B σ 0 σ := ⟨hI.n8, fun m j hm hj => hI.men hm j hj, fun _ _ _ _ => rfl⟩
    have h8 := loopI (fun f k τ => S8_menBy_72 (nI S) so fr (nI M) f (67 + 2 * S) (nI (mN n A B k - n)) (nI k) τ) M (fun k τ => (∀ j, j < k → ¬ out j) ∧ Re8 n (stM σ) A B σ k τ) (fun r τ => (∃ k, k < M ∧ out k ∧ (∀ j, j < k → ¬ out j) ∧ r = -12 ∧ Re8 n (stM σ) A B σ k τ) ∨ ((∀ j, j < M → ¬ out j) ∧ r = nI (mN n A B M - n) ∧ Re8 n (stM σ) A B σ M τ))
      (fun k f τ hk hL => by
        obtain ⟨hout, hR⟩ := hL
        have hz8 : gI τ (67 + 2 * S) 2 = nI z := (hR.2.2 _ _ (by omega) (by omega)).trans z8
        have e : S8_menBy_72 (nI S) so fr (nI M) (f + 1) (67 + 2 * S) (nI (mN n A B k - n)) (nI k) τ = B8_menBy_72 (nI S) so fr (nI M) (S8_menBy_72 (nI S) so fr (nI M) f) (67 + 2 * S) (nI (mN n A B k - n)) (nI k) τ := rfl
        rw [e]
        unfold B8_menBy_72 S8_menBy_131
        rw [if_neg (nI_ge hk (by omega)), hasFrom8 hz8, bnd_s]
        by_cases q : out k
        · rw [if_pos (show hF z (fr + 2 * nI k) 2 = 0 from q)]
          exact Or.inr ⟨-12, τ, rfl, Or.inl ⟨k, hk, q, hout, rfl, hR⟩⟩
        · rw [if_neg (show ¬ hF z (fr + 2 * nI k) 2 = 0 from q)]
          obtain ⟨E, hE, hEz⟩ := nout k q
          have hA : gI τ (68 + 2 * S) E = A k := by
            rw [hR.2.2 _ _ (by omega) (by omega), hrow E (by omega)]
            show gI σ 86 (40 * S + E) = gI σ 86 (40 * S + (ix k).toNatClampNeg)
            rw [hE, nI_clamp (by omega)]
          have hB : gI τ (68 + 2 * S) (E + 1) = B k := by
            rw [hR.2.2 _ _ (by omega) (by omega), hrow (E + 1) (by omega)]
            show gI σ 86 (40 * S + (E + 1)) = gI σ 86 (40 * S + (ix k).toNatClampNeg + 1)
            rw [hE, nI_clamp (by omega), Nat.add_assoc]
          obtain ⟨τ', g, hR'⟩ := Re8.next hn hR
          refine Or.inl ⟨τ', ?_, fun j hj => ?_, hR'⟩
          · rw [show fr + 2 * nI k = nI E from hE, shAt8 hS (by omega), bnd_s, nI_1 E, shAt8 hS (by omega), bnd_s, hA, hB, g, bnd_s, nI_1 k, ← mN_step hn A B k]
            by_cases y : mret (mN n A B k) (A k) (B k) < 0
            · rw [if_pos y, if_pos y]
            · rw [if_neg y, if_neg y]
          · by_cases qj : j = k
            · subst qj; exact q
            · exact hout j (by omega))
      (fun f τ hL => by
        obtain ⟨hout, hR⟩ := hL
        refine ⟨nI (mN n A B M - n), τ, ?_, Or.inr ⟨hout, rfl, hR⟩⟩
        show B8_menBy_72 _ _ _ _ _ _ _ _ τ = _
        unfold B8_menBy_72
        rw [if_pos (Int32.le_refl _)]) M 0 4096 σ (by omega) (by omega) ⟨fun j hj => absurd hj (by omega), r0⟩
    obtain ⟨r, σ1, f8, hQ8⟩ := h8
    have f8' : S8_menBy_72 (nI S) so fr (nI M) 4096 (67 + 2 * S) 0 0 σ = some (r, σ1) := by
      rw [← f8]
      show _ = S8_menBy_72 (nI S) so fr (nI M) 4096 (67 + 2 * S) (nI (n - n)) (nI 0) σ
      rw [Nat.sub_self]; rfl
    have F1 : ∀ a b, ¬ (a = 1 ∧ b = 1) → ¬ (3 + n ≤ a ∧ a ≤ 8) → gI σ1 a b = gI σ a b := by
      rcases hQ8 with ⟨k, -, -, -, -, hR⟩ | ⟨-, -, hR⟩
      · exact hR.2.2
      · exact hR.2.2
    have r09 : Re9 n (stM σ) A B σ1 0 σ1 := ⟨(F1 75 0 (by omega) (by omega)).trans hI.n9, fun m j hm hj => by rw [stM_fr (fun a b y => F1 a b (by omega) (by omega))]; rfl, fun _ _ _ _ _ => rfl⟩
    have h9 := loopI (fun f k τ => S9_menBy_64 (nI S) so fr (nI M) f (nI (mN n A B k - n)) (nI k) τ) M (fun k τ => (∀ j, j < k → ¬ out j) ∧ Re9 n (stM σ) A B σ1 k τ) (fun r τ => (∃ k, k < M ∧ out k ∧ (∀ j, j < k → ¬ out j) ∧ r = -12 ∧ Re9 n (stM σ) A B σ1 k τ) ∨ ((∀ j, j < M → ¬ out j) ∧ r = nI (mN n A B M - n) ∧ Re9 n (stM σ) A B σ1 M τ))
      (fun k f τ hk hL => by
        obtain ⟨hout, hR⟩ := hL
        have hz9 : gI τ 85 S = nI z := by rw [hR.2.2 _ _ (by omega) (by omega) (by omega), F1 _ _ (by omega) (by omega)]; exact z9
        have e : S9_menBy_64 (nI S) so fr (nI M) (f + 1) (nI (mN n A B k - n)) (nI k) τ = B9_menBy_64 (nI S) so fr (nI M) (S9_menBy_64 (nI S) so fr (nI M) f) (nI (mN n A B k - n)) (nI k) τ := rfl
        rw [e]
        unfold B9_menBy_64 S9_menBy_144
        rw [if_neg (nI_ge hk (by omega))]
        simp only [if_pos (inb_nI hS (show 4 < 2 ^ 31 by omega)), nI_clamp (show S < 2 ^ 31 by omega)]
        rw [hz9]
        -- outside, in the reference's words
        have key : (fr < 0 ∨ fr + 2 * nI k < fr ∨ ¬ fr + 2 * nI k ≤ nI z - 2) ↔ out k := by
          by_cases q0 : fr < 0
          · refine ⟨fun _ => ?_, fun _ => Or.inl q0⟩
            have o0 : out 0 := by
              show hF z (fr + 2 * nI 0) 2 = 0
              have : fr + 2 * nI 0 = fr := by rw [show (2 : Int32) * nI 0 = 0 from rfl, Int32.add_zero]
              rw [this]; unfold hF; rw [if_pos q0]
            rcases Nat.eq_zero_or_pos k with y | y
            · rw [y]; exact o0
            · exact absurd o0 (hout 0 y)
          · obtain ⟨F, hF', hF31⟩ := ex_nI q0
            by_cases q : out k
            · refine ⟨fun _ => q, fun _ => ?_⟩
              rcases Nat.eq_zero_or_pos k with y | y
              · subst y
                have e0 : fr + 2 * nI 0 = fr := by rw [show (2 : Int32) * nI 0 = 0 from rfl, Int32.add_zero]
                right; right
                rw [e0]
                intro w
                have q' : hF z fr 2 = 0 := by rw [← e0]; exact q
                by_cases hz2 : 2 ≤ z
                · rw [show (2 : Int32) = nI 2 from rfl, nI_sub hz2, hF', nI_le_iff hF31 (by omega)] at w
                  rw [hF', show (2 : Int32) = nI 2 from rfl, hF_1 (by omega) (by omega)] at q'
                  exact absurd q' (by decide)
                · have : z = 0 ∨ z = 1 := by omega
                  rcases this with rfl | rfl
                  · rw [show nI 0 - 2 = -2 from rfl] at w; grind
                  · rw [show nI 1 - 2 = -1 from rfl] at w; grind
              · obtain ⟨E0, hE0, hE0z⟩ := nout 0 (hout 0 y)
                have e0 : fr = nI E0 := by
                  rw [← hE0]
                  show fr = fr + 2 * nI 0
                  rw [show (2 : Int32) * nI 0 = 0 from rfl, Int32.add_zero]
                have ek : fr + 2 * nI k = nI (E0 + 2 * k) := by rw [e0, show (2 : Int32) = nI 2 from rfl, nI_mul, nI_add]
                right; right
                rw [ek, show (2 : Int32) = nI 2 from rfl, nI_sub (by omega), nI_le_iff (by omega) (by omega)]
                intro w
                have q' : hF z (fr + 2 * nI k) 2 = 0 := q
                rw [ek, show (2 : Int32) = nI 2 from rfl, hF_1 (by omega) (by omega)] at q'
                exact absurd q' (by decide)
            · refine ⟨fun w => ?_, fun w => absurd w q⟩
              exfalso
              obtain ⟨E, hE, hEz⟩ := nout k q
              have hE' : fr + 2 * nI k = nI E := hE
              have e0 : ∃ E0, fr = nI E0 ∧ E0 ≤ E := by
                rcases Nat.eq_zero_or_pos k with y | y
                · subst y
                  have e0 : fr + 2 * nI 0 = fr := by rw [show (2 : Int32) * nI 0 = 0 from rfl, Int32.add_zero]
                  exact ⟨E, by rw [← e0]; exact hE', Nat.le_refl _⟩
                · obtain ⟨E0, hE0, hE0z⟩ := nout 0 (hout 0 y)
                  have e0 : fr = nI E0 := by
                    rw [← hE0]
                    show fr = fr + 2 * nI 0
                    rw [show (2 : Int32) * nI 0 = 0 from rfl, Int32.add_zero]
                  have ek : fr + 2 * nI k = nI (E0 + 2 * k) := by rw [e0, show (2 : Int32) = nI 2 from rfl, nI_mul, nI_add]
                  rw [ek, nI_inj (by omega) (by omega)] at hE'
                  exact ⟨E0, e0, by omega⟩
              obtain ⟨E0, e0, hle⟩ := e0
              rcases w with w | w | w
              · exact q0 w
              · rw [hE', e0] at w; exact nI_nlt hle (by omega) w
              · rw [hE', show (2 : Int32) = nI 2 from rfl, nI_sub (by omega)] at w
                exact w (nI_le (by omega) (by omega))
        by_cases q : out k
        · refine Or.inr ⟨-12, τ, ?_, Or.inl ⟨k, hk, q, hout, rfl, hR⟩⟩
          have w := key.mpr q
          by_cases w1 : fr < 0
          · rw [if_pos w1]
          · rw [if_neg w1]
            by_cases w2 : fr + 2 * nI k < fr
            · rw [if_pos w2]
            · rw [if_neg w2, if_neg ((w.resolve_left w1).resolve_left w2)]
        · have w1 : ¬ fr < 0 := fun w => q (key.mp (Or.inl w))
          have w2 : ¬ fr + 2 * nI k < fr := fun w => q (key.mp (Or.inr (Or.inl w)))
          have w3 : fr + 2 * nI k ≤ nI z - 2 := Decidable.byContradiction fun w => q (key.mp (Or.inr (Or.inr w)))
          obtain ⟨E, hE, hEz⟩ := nout k q
          have e40 : (40 : Int32) * nI S + nI E = nI (40 * S + E) := by rw [show (40 : Int32) = nI 40 from rfl, nI_mul, nI_add]
          have hA : gI τ 86 (40 * S + E) = A k := by
            rw [hR.2.2 _ _ (by omega) (by omega) (by omega), F1 _ _ (by omega) (by omega)]
            show gI σ 86 (40 * S + E) = gI σ 86 (40 * S + (ix k).toNatClampNeg)
            rw [hE, nI_clamp (by omega)]
          have hB : gI τ 86 (40 * S + E + 1) = B k := by
            rw [hR.2.2 _ _ (by omega) (by omega) (by omega), F1 _ _ (by omega) (by omega)]
            show gI σ 86 (40 * S + E + 1) = gI σ 86 (40 * S + (ix k).toNatClampNeg + 1)
            rw [hE, nI_clamp (by omega)]
          obtain ⟨τ', g, hR'⟩ := Re9.next hn hR
          refine Or.inl ⟨τ', ?_, fun j hj => ?_, hR'⟩
          · rw [if_neg w1, if_neg w2, if_pos w3, show fr + 2 * nI k = nI E from hE, e40, if_pos (inb_nI (by omega) (by omega)), nI_1 (40 * S + E), if_pos (inb_nI (by omega) (by omega)), nI_clamp (by omega), nI_clamp (by omega), hA, hB, g, bnd_s, nI_1 k, ← mN_step hn A B k]
            by_cases y : mret (mN n A B k) (A k) (B k) < 0
            · rw [if_pos y, if_pos y]
            · rw [if_neg y, if_neg y]
          · by_cases qj : j = k
            · subst qj; exact q
            · exact hout j (by omega))
      (fun f τ hL => by
        obtain ⟨hout, hR⟩ := hL
        refine ⟨nI (mN n A B M - n), τ, ?_, Or.inr ⟨hout, rfl, hR⟩⟩
        show B9_menBy_64 _ _ _ _ _ _ _ τ = _
        unfold B9_menBy_64
        rw [if_pos (Int32.le_refl _)]) M 0 4096 σ1 (by omega) (by omega) ⟨fun j hj => absurd hj (by omega), r09⟩
    obtain ⟨r', σ2, f9, hQ9⟩ := h9
    have f9' : S9_menBy_64 (nI S) so fr (nI M) 4096 0 0 σ1 = some (r', σ2) := by
      rw [← f9]
      show _ = S9_menBy_64 (nI S) so fr (nI M) 4096 (nI (n - n)) (nI 0) σ1
      rw [Nat.sub_self]; rfl
    have both : ∃ k, r' = r ∧ Re8 n (stM σ) A B σ k σ1 ∧ Re9 n (stM σ) A B σ1 k σ2 := by
      rcases hQ8 with ⟨k, hk, ok, lk, rfl, hR⟩ | ⟨lk, rfl, hR⟩
      · rcases hQ9 with ⟨k', hk', ok', lk', rfl, hR'⟩ | ⟨lk', -, -⟩
        · have : k = k' := by
            rcases Nat.lt_trichotomy k k' with y | y | y
            · exact absurd ok (lk' k y)
            · exact y
            · exact absurd ok' (lk k' y)
          subst this
          exact ⟨k, rfl, hR, hR'⟩
        · exact absurd ok (lk' k hk)
      · rcases hQ9 with ⟨k', hk', ok', -, -, -⟩ | ⟨lk', rfl, hR'⟩
        · exact absurd ok' (lk k' hk')
        · exact ⟨M, rfl, hR, hR'⟩
    obtain ⟨k, rfl, R8, R9⟩ := both
    obtain ⟨b1, b2⟩ := mN_b n hn A B k
    have k84 : gI σ1 84 S = so := (F1 84 S (by omega) (by omega)).trans k2
    refine ⟨r', σ1, σ2, by rw [e8]; exact f8', ?_, mN n A B k, T, t, ?_⟩
    · rw [e9, if_neg (by rw [k84, ← k2]; exact k1), if_pos k84]; exact f9'
    · have F2 := R9.2.2
      have F : ∀ a b, ¬ (a = 1 ∧ b = 1) → ¬ (3 + n ≤ a ∧ a ≤ 8) → ¬ (a = 75 ∧ b = 0) → ¬ ((a = 76 ∨ a = 77) ∧ n ≤ b) → ¬ (a = 78 ∧ 5 * n ≤ b) → gI σ2 a b = gI σ a b := fun a b h1 h2 h3 h4 h5 => by rw [F2 a b h3 h4 h5]; exact F1 a b h1 h2
      obtain ⟨⟨hb0, ⟨g1, g2⟩, ⟨g3, g4⟩, ⟨g5, g6⟩, g7⟩, h2, h3, h4, h5, h6, h7⟩ := id hI
      refine ⟨⟨⟨b2, hb0.2.1, hb0.2.2⟩, ⟨by rw [F2 _ _ (by omega) (by omega) (by omega)]; exact R8.1, R9.1⟩, ⟨by rw [F _ _ (by omega) (by omega) (by omega) (by omega) (by omega)]; exact g3, by rw [F _ _ (by omega) (by omega) (by omega) (by omega) (by omega)]; exact g4⟩, ⟨by rw [F _ _ (by omega) (by omega) (by omega) (by omega) (by omega)]; exact g5, by rw [F _ _ (by omega) (by omega) (by omega) (by omega) (by omega)]; exact g6⟩, by rw [F _ _ (by omega) (by omega) (by omega) (by omega) (by omega), F 75 4 (by omega) (by omega) (by omega) (by omega) (by omega)]; exact g7⟩, fun m hm => ⟨fun j hj => ?_, ?_⟩, fun j hj => TxOk_fr (by omega) (fun a b z => F a b (by omega) (by omega) (by omega) (by omega) (by omega)) (h3 j hj), h4.fr (fun a b z => F a b (by omega) (by omega) (by omega) (by omega) (by omega)), fun s hs => (h5 s hs).fr hs (fun a b z => F a b (by omega) (by omega) (by omega) (by omega) (by omega)), h6.fr b1 (Nat.le_refl _) hn (fun a b z => F a b (by omega) (by omega) (by omega) (by omega) (by omega)), fun j hj => ?_⟩
      · rw [F2 _ _ (by omega) (by omega) (by omega), R8.2.1 m j hm hj, R9.2.1 m j hm hj]
      · exact bdM_cg (fun j hj => (R9.2.1 m j hm hj).symm) (mS_b (fun m hm => hI.bd hm) A B k m hm)
      · rw [F 88 j (by omega) (by omega) (by omega) (by omega) (by omega)]; exact h7 j hj
  · rw [if_neg k2] at e8
    exact same_rf hI (-13) e8 (by rw [e9, if_neg k1, if_neg k2])
