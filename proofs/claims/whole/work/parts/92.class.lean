/-! The class's side of reading; what is well formed. -/
def fC (t a k : Nat) : Prop := (a = 26 ∧ 2 ≤ k ∧ k ≤ 5) ∨ (a = 49 + 3 * t ∧ k = 2) ∨ a = 50 + 3 * t
def CM (b : Nat → Nat) (s t : Nat) (out : List Int32) (j : Nat) (σ : St) : Prop := TC b s σ ∧ CL b s j σ ∧ (gR σ 26 6 = 49 + 3 * t ∧ t < 6) ∧ gI σ (49 + 3 * t) 2 = nI out.length ∧ ∀ k, k < out.length → gI σ (50 + 3 * t) k = stp (out.getD k 0)
theorem numV_b {b : Nat → Nat} {q : Nat} : ∀ n, (∀ i, i < n → 48 ≤ b (q + i) ∧ b (q + i) ≤ 57) → numV b q n < 10 ^ n := by
  intro n
  induction n with
  | zero => intro _; exact Nat.one_pos
  | succ n ih =>
    intro h
    have h1 := ih (fun i hi => h i (by omega))
    have h2 := h n (by omega)
    show 10 * numV b q n + b (q + n) - 48 < 10 ^ (n + 1)
    rw [Nat.pow_succ]
    omega
theorem tV_1 {b : Nat → Nat} {s j : Nat} (h : tK b s j = 1) : tV b s j ≤ 9999 := by
  obtain ⟨l1, l2⟩ := pL_b b s j
  unfold tK at h
  unfold tV
  generalize pL b s j = q at h l2 ⊢
  unfold kd at h
  unfold vl
  by_cases q1 : s ≤ q
  · rw [if_pos q1] at h; exact absurd h (by decide)
  rw [if_neg q1] at h
  by_cases q2 : isLe (b q) = true
  · rw [if_pos q2] at h
    exfalso
    have : wk b q (endR isLe b s q - q) ≤ 12 := by
      rcases wk_s b q (endR isLe b s q - q) with ⟨z, -⟩ | ⟨z, -⟩ <;> omega
    unfold kw at h
    split at h
    · omega
    · split at h
      · omega
      · split at h <;> omega
  rw [if_neg q2] at h ⊢
  by_cases q3 : isDg (b q) = true
  · rw [if_pos q3] at h
    obtain ⟨e1, e2, e3, e4⟩ := endR_s isDg b l2
    by_cases q4 : endR isDg b s q - q ≤ 4
    · have hd : ∀ i, i < endR isDg b s q - q → 48 ≤ b (q + i) ∧ b (q + i) ≤ 57 := fun i hi => by
        have := e3 (q + i) (by omega) (by omega)
        unfold isDg at this
        rw [Bool.and_eq_true, decide_eq_true_iff, decide_eq_true_iff] at this
        exact this
      have h1 := numV_b _ hd
      have h2 : 10 ^ (endR isDg b s q - q) ≤ 10 ^ 4 := Nat.pow_le_pow_right (by omega) q4
      omega
    · rw [if_neg q4] at h; exact absurd h (by decide)
  · rw [if_neg q3] at h
    by_cases q4 : isSg (b q) = true
    · rw [if_pos q4] at h
      rw [h] at q4
      exact absurd q4 (by decide)
    · rw [if_neg q4] at h; exact absurd h (by decide)
theorem tV_w {b : Nat → Nat} {s j : Nat} : (tK b s j = 2 → tV b s j ≤ 5) ∧ (tK b s j = 3 → tV b s j ≤ 2) ∧ (tK b s j ≤ 7 ∨ isSg (tK b s j) = true) := by
  unfold tK tV kd vl
  generalize pL b s j = q
  by_cases q1 : s ≤ q
  · rw [if_pos q1]; exact ⟨fun h => absurd h (by decide), fun h => absurd h (by decide), Or.inl (by omega)⟩
  rw [if_neg q1]
  by_cases q2 : isLe (b q) = true
  · rw [if_pos q2, if_pos q2]
    have : wk b q (endR isLe b s q - q) ≤ 12 := by
      rcases wk_s b q (endR isLe b s q - q) with ⟨z, -⟩ | ⟨z, -⟩ <;> omega
    generalize wk b q (endR isLe b s q - q) = k at this ⊢
    unfold kw
    by_cases k3 : k < 3
    · rw [if_pos k3, if_pos k3]; exact ⟨fun h => absurd h (by decide), fun _ => by omega, Or.inl (by omega)⟩
    · rw [if_neg k3, if_neg k3]
      by_cases k9 : k < 9
      · rw [if_pos k9]; exact ⟨fun _ => by omega, fun h => absurd h (by decide), Or.inl (by omega)⟩
      · rw [if_neg k9]
        by_cases k12 : k = 12
        · rw [if_pos k12]; exact ⟨fun h => absurd h (by decide), fun h => absurd h (by decide), Or.inl (by omega)⟩
        · rw [if_neg k12]; exact ⟨fun h => by omega, fun h => by omega, Or.inl (by omega)⟩
  rw [if_neg q2]
  by_cases q3 : isDg (b q) = true
  · rw [if_pos q3]
    by_cases q4 : endR isDg b s q - q ≤ 4
    · rw [if_pos q4]; exact ⟨fun h => absurd h (by decide), fun h => absurd h (by decide), Or.inl (by omega)⟩
    · rw [if_neg q4]; exact ⟨fun h => absurd h (by decide), fun h => absurd h (by decide), Or.inl (by omega)⟩
  · rw [if_neg q3]
    by_cases q4 : isSg (b q) = true
    · rw [if_pos q4]
      have hb := isSg_b q4
      exact ⟨fun h => by omega, fun h => by omega, Or.inr q4⟩
    · rw [if_neg q4]; exact ⟨fun h => absurd h (by decide), fun h => absurd h (by decide), Or.inl (by omega)⟩
/-- what the class sees of a token -/
def seeP (K : Nat) (c : Int32) : Prop := ((c = 109 ↔ K = 4) ∧ (c = 110 ↔ K = 5) ∧ (c = 111 ↔ K = 6) ∧ (c = 42 ↔ K = 42) ∧ (c = 43 ↔ K = 43) ∧ (c = 45 ↔ K = 45) ∧ (c = 60 ↔ K = 60) ∧ (c = 61 ↔ K = 61)) ∧ (c = 40 ↔ K = 40) ∧ (c = 41 ↔ K = 41) ∧ (c = 59 ↔ K = 59) ∧ (c = 1 ↔ K = 1) ∧ ((c < 100 ∨ 106 ≤ c) ↔ K ≠ 2) ∧ (c = -1 ↔ K = 0)
def seeB (K : Nat) (c : Int32) : Bool := (decide (c = 109) == decide (K = 4)) && (decide (c = 110) == decide (K = 5)) && (decide (c = 111) == decide (K = 6)) && (decide (c = 42) == decide (K = 42)) && (decide (c = 43) == decide (K = 43)) && (decide (c = 45) == decide (K = 45)) && (decide (c = 60) == decide (K = 60)) && (decide (c = 61) == decide (K = 61)) && (decide (c = 40) == decide (K = 40)) && (decide (c = 41) == decide (K = 41)) && (decide (c = 59) == decide (K = 59)) && (decide (c = 1) == decide (K = 1)) && (decide (c < 100 ∨ 106 ≤ c) == decide (K ≠ 2)) && (decide (c = -1) == decide (K = 0))
def KL : List Nat := [0, 1, 2, 3, 4, 5, 6, 7, 40, 41, 42, 43, 45, 59, 60, 61]
theorem see_b : KL.all (fun K => (List.range 6).all (fun V => (decide (K = 3) && decide (3 ≤ V)) || seeB K (ctk K V))) = true := by decide +kernel
theorem dec_iff {p q : Prop} {i : Decidable p} {k : Decidable q} (h : (@decide p i == @decide q k) = true) : p ↔ q := decide_eq_decide.mp (eq_of_beq h)
theorem see_fin : ∀ K ∈ KL, ∀ V, V < 6 → (K = 3 → V < 3) → seeP K (ctk K V) := by
  intro K hK V hV h3
  have h := List.all_eq_true.mp (List.all_eq_true.mp see_b K hK) V (List.mem_range.mpr hV)
  have h' : seeB K (ctk K V) = true := by
    rw [Bool.or_eq_true, Bool.and_eq_true, decide_eq_true_iff, decide_eq_true_iff] at h
    rcases h with ⟨y1, y2⟩ | h
    · have := h3 y1; omega
    · exact h
  unfold seeB at h'
  simp only [Bool.and_eq_true] at h'
  obtain ⟨⟨⟨⟨⟨⟨⟨⟨⟨⟨⟨⟨⟨a1, a2⟩, a3⟩, a4⟩, a5⟩, a6⟩, a7⟩, a8⟩, a9⟩, a10⟩, a11⟩, a12⟩, a13⟩, a14⟩ := h'
  exact ⟨⟨dec_iff a1, dec_iff a2, dec_iff a3, dec_iff a4, dec_iff a5, dec_iff a6, dec_iff a7, dec_iff a8⟩, dec_iff a9, dec_iff a10, dec_iff a11, dec_iff a12, dec_iff a13, dec_iff a14⟩
theorem see_ok {b : Nat → Nat} {s j : Nat} : seeP (tK b s j) (ctk (tK b s j) (tV b s j)) := by
  obtain ⟨h2, h3, h4⟩ := tV_w (b := b) (s := s) (j := j)
  generalize tK b s j = K at h2 h3 h4 ⊢
  generalize tV b s j = V at h2 h3 ⊢
  have hmem : K ∈ KL := by
    rcases h4 with h | h
    · have : K = 0 ∨ K = 1 ∨ K = 2 ∨ K = 3 ∨ K = 4 ∨ K = 5 ∨ K = 6 ∨ K = 7 := by omega
      rcases this with rfl | rfl | rfl | rfl | rfl | rfl | rfl | rfl <;> decide
    · unfold isSg at h
      simp only [Bool.or_eq_true, beq_iff_eq] at h
      rcases h with (((((((h | h) | h) | h) | h) | h) | h) | h) <;> (rw [h]; decide)
  by_cases q2 : K = 2
  · exact see_fin K hmem V (by have := h2 q2; omega) (fun h => by omega)
  · by_cases q3 : K = 3
    · exact see_fin K hmem V (by have := h3 q3; omega) (fun _ => by have := h3 q3; omega)
    · have e : ctk K V = ctk K 0 := by unfold ctk; rw [if_neg q2, if_neg q2, if_neg q3, if_neg q3]
      rw [e]
      exact see_fin K hmem 0 (by omega) (fun _ => by omega)
/-! stacks go well -/
def VD (cs : List Int32) : Prop := ∀ d, dep cs d = some (d + 1)
theorem dep_app : ∀ (a c : List Int32) (d : Nat), dep (a ++ c) d = (dep a d).bind (dep c) := by
  intro a
  induction a with
  | nil => intro c d; rfl
  | cons x a ih =>
    intro c d
    show dep (x :: (a ++ c)) d = (dep (x :: a) d).bind (dep c)
    unfold dep
    by_cases q : vcB x = true
    · rw [if_pos q, if_pos q]
      by_cases q1 : 100000 ≤ x ∨ x < 11
      · rw [if_pos q1, if_pos q1]; exact ih c _
      · rw [if_neg q1, if_neg q1]
        by_cases q2 : x = 13 ∨ x = 19
        · rw [if_pos q2, if_pos q2]
          by_cases q3 : 1 ≤ d
          · rw [if_pos q3, if_pos q3]; exact ih c _
          · rw [if_neg q3, if_neg q3]; rfl
        · rw [if_neg q2, if_neg q2]
          by_cases q3 : 2 ≤ d
          · rw [if_pos q3, if_pos q3]; exact ih c _
          · rw [if_neg q3, if_neg q3]; rfl
    · rw [if_neg q, if_neg q]; rfl
theorem dep_bin : ∀ x, 11 ≤ x → x ≤ 18 → x ≠ 13 → ∀ d, dep [nI x] (d + 2) = some (d + 1) := by
  intro x h1 h2 h3 d
  have : x = 11 ∨ x = 12 ∨ x = 14 ∨ x = 15 ∨ x = 16 ∨ x = 17 ∨ x = 18 := by omega
  unfold dep
  rcases this with rfl | rfl | rfl | rfl | rfl | rfl | rfl
  all_goals
    rw [if_pos (by decide), if_neg (by decide), if_neg (by decide), if_pos (by omega)]
    rfl
theorem VD_bin {c1 c2 : List Int32} (h1 : VD c1) (h2 : VD c2) {x : Nat} (x1 : 11 ≤ x) (x2 : x ≤ 18) (x3 : x ≠ 13) : VD (c1 ++ c2 ++ [nI x]) := by
  intro d
  rw [dep_app, dep_app, h1 d]
  show ((dep c2 (d + 1))).bind (dep [nI x]) = _
  rw [h2 (d + 1)]
  exact dep_bin x x1 x2 x3 d
theorem VD_un {c : List Int32} (h : VD c) {x : Nat} (hx : x = 13 ∨ x = 19) : VD (c ++ [nI x]) := by
  intro d
  rw [dep_app, h d]
  show dep [nI x] (d + 1) = _
  unfold dep
  rcases hx with rfl | rfl
  · rw [if_pos (by decide), if_neg (by decide), if_pos (by decide), if_pos (by omega)]; rfl
  · rw [if_pos (by decide), if_neg (by decide), if_pos (by decide), if_pos (by omega)]; rfl
theorem num_ge {V : Nat} (h : V ≤ 9999) : 100000 ≤ (100000 : Int32) + nI V ∧ (100000 : Int32) + nI V ≤ 109999 ∧ (100000 : Int32) + nI V - 100000 = nI V := by
  have h1 : nI V ≤ nI 9999 := nI_le h (by omega)
  have h2 : 0 ≤ nI V := nI_pos' (by omega)
  rw [show nI 9999 = (9999 : Int32) from rfl] at h1
  generalize nI V = y at h1 h2 ⊢
  refine ⟨?_, ?_, ?_⟩ <;> grind
theorem VD_num {V : Nat} (h : V ≤ 9999) : VD [(100000 : Int32) + nI V] := by
  obtain ⟨h1, h2, -⟩ := num_ge h
  intro d
  unfold dep
  have hv : vcB ((100000 : Int32) + nI V) = true := by
    unfold vcB
    simp only [h1, h2, decide_true, Bool.true_and, Bool.true_or]
  rw [if_pos hv, if_pos (Or.inl h1)]
  rfl
theorem VD_name : ∀ V, V ≤ 5 → VD [nI V] := by
  intro V hV d
  unfold dep
  have : V = 0 ∨ V = 1 ∨ V = 2 ∨ V = 3 ∨ V = 4 ∨ V = 5 := by omega
  rcases this with rfl | rfl | rfl | rfl | rfl | rfl
  all_goals
    rw [if_pos (by decide), if_pos (by decide)]
    rfl
theorem stp_num' {V : Nat} (h : V ≤ 9999) : stp ((100000 : Int32) + nI V) = nI V := by
  obtain ⟨h1, h2, h3⟩ := num_ge h
  rw [(stp_num h1 h2).1, h3]
theorem stp_nm : ∀ V, V < 6 → stp (nI V) = -(ctk 2 V) := by decide +kernel
theorem stp_sg : ∀ K ∈ [4, 5, 60, 61, 43, 45, 42], ∀ V : Nat, stp (nI (sgn K)) = -(ctk K 0) := by
  intro K hK V
  simp only [List.mem_cons, List.not_mem_nil, or_false] at hK
  rcases hK with rfl | rfl | rfl | rfl | rfl | rfl | rfl <;> decide
theorem stp_op {K V : Nat} (h : opK K) : stp (nI (sgn K)) = -(ctk K V) := by
  unfold opK at h
  have e : ctk K V = ctk K 0 := by unfold ctk; rw [if_neg (show ¬ K = 2 by omega), if_neg (show ¬ K = 2 by omega), if_neg (show ¬ K = 3 by omega), if_neg (show ¬ K = 3 by omega)]
  rw [e]
  exact stp_sg K (by rcases h with rfl | rfl | rfl | rfl | rfl | rfl | rfl <;> decide) 0
section CMS
variable {b : Nat → Nat} {s t : Nat}
theorem CM.up {out : List Int32} {j : Nat} {σ σ' : St} (h : CM b s t out j σ) (hl : CL b s j σ') (k : Fr lxC noR σ σ') : CM b s t out j σ' := by
  obtain ⟨h1, -, ⟨h3, h4⟩, h5, h6⟩ := h
  refine ⟨h1.fr (fun x y z => k.1 x y (by unfold lxC; omega)), hl, ⟨(k.2 26 6 (fun z => z)).trans h3, h4⟩, (k.1 _ _ (by unfold lxC; omega)).trans h5, fun i hi => ?_⟩
  rw [k.1 _ _ (by unfold lxC; omega)]; exact h6 i hi
theorem lxC_C {σ σ' : St} (h : Fr lxC noR σ σ') : Fr (fC t) noR σ σ' := h.mo (fun a k z => by unfold lxC at z; unfold fC; omega) (fun _ _ z => z)
theorem stepM8 (hs : s ≤ 160) (hb : ∀ k, k < s → b k ≤ 255) {out : List Int32} {j : Nat} {σ : St} (h : CM b s t out j σ) : ∃ σ', S1_step σ = some ((), σ') ∧ CM b s t out (j + 1) σ' ∧ Fr (fC t) noR σ σ' := by
  obtain ⟨σ', g, l, f⟩ := step8 hs hb h.1 h.2.1.2.1
  obtain ⟨h1, -, ⟨h3, h4⟩, h5, h6⟩ := h
  refine ⟨σ', g, ⟨h1.fr (fun x y z => f.1 x y (by unfold lxC; omega)), l, ⟨(f.2 26 6 (fun z => z)).trans h3, h4⟩, (f.1 _ _ (by unfold lxC; omega)).trans h5, fun i hi => ?_⟩, lxC_C f⟩
  rw [f.1 _ _ (by unfold lxC; omega)]; exact h6 i hi
theorem addM8 {out : List Int32} {j : Nat} {σ : St} (h : CM b s t out j σ) (hl : out.length < 160) {c v : Int32} (hv : v = stp c) : ∃ σ', S6_add (49 + 3 * t) v σ = some ((), σ') ∧ CM b s t (out ++ [c]) j σ' ∧ Fr (fC t) noR σ σ' := by
  obtain ⟨h1, h2, ⟨h3, h4⟩, h5, h6⟩ := h
  unfold S6_add
  rw [h5, if_neg (show ¬ (160 : Int32) ≤ nI out.length from nI_ge (b := 160) hl (by omega)), if_pos (inb_nI hl (by omega)), nI_clamp (by omega), show 49 + 3 * t + 1 = 50 + 3 * t by omega]
  have hlen : (out ++ [c]).length = out.length + 1 := by simp
  have K : ∀ x y, x = 26 ∨ x = 27 → gI (sI (sI σ (50 + 3 * t) out.length v) (49 + 3 * t) 2 (gI (sI σ (50 + 3 * t) out.length v) (49 + 3 * t) 2 + 1)) x y = gI σ x y := fun x y z => by rw [gI_sI, if_neg (by omega), gI_sI, if_neg (by omega)]
  refine ⟨_, rfl, ⟨h1.fr (fun x y z => K x y (by omega)), ⟨(K _ _ (Or.inl rfl)).trans h2.1, (K _ _ (Or.inl rfl)).trans h2.2.1, (K _ _ (Or.inl rfl)).trans h2.2.2.1, fun z => (K _ _ (Or.inl rfl)).trans (h2.2.2.2 z)⟩, ⟨h3, h4⟩, ?_, fun k hk => ?_⟩, (Fr.rf.sI _ (by unfold fC; omega)).sI _ (by unfold fC; omega)⟩
  · rw [gI_sI, if_pos ⟨rfl, rfl⟩, gI_sI, if_neg (by omega), h5, nI_1, hlen]
  · rw [gI_sI, if_neg (by omega), gI_sI]
    rw [hlen] at hk
    by_cases q : k = out.length
    · rw [if_pos ⟨rfl, q⟩, q, hv]
      congr 1
      simp [List.getD]
    · rw [if_neg (fun z => q z.2), h6 k (by omega)]
      congr 1
      simp [List.getD, List.getElem?_append_left (show k < out.length by omega)]
theorem obT (ht : t < 6) : Ob 75 6 (49 + 3 * t) := tx_ob t ht
end CMS
