/-! Calls, one after another: wrestlers, the law. -/
theorem same_count (a : Int32) : Same (S8_count a) (S9_count a) := by
  intro n T t σ hI
  obtain ⟨s, -, t1, t2, -⟩ := hI.tp
  have key : ∃ r, S8_count a σ = some (r, σ) ∧ S9_count a σ = some (r, σ) := by
    unfold S8_count S9_count
    rw [hI.n8, hI.n9, hI.d, hI.T8, hI.T9, hI.l8, hI.l9, t1, t2]
    by_cases q0 : a = 0
    · simp only [if_pos q0]; exact ⟨_, rfl, rfl⟩
    · by_cases q1 : a = 1
      · simp only [if_neg q0, if_pos q1]; exact ⟨_, rfl, rfl⟩
      · by_cases q2 : a = 2
        · simp only [if_neg q0, if_neg q1, if_pos q2]; exact ⟨_, rfl, rfl⟩
        · by_cases q3 : a = 3
          · simp only [if_neg q0, if_neg q1, if_neg q2, if_pos q3]; exact ⟨_, rfl, rfl⟩
          · by_cases q4 : a = 4
            · simp only [if_neg q0, if_neg q1, if_neg q2, if_neg q3, if_pos q4]; exact ⟨_, rfl, rfl⟩
            · simp only [if_neg q0, if_neg q1, if_neg q2, if_neg q3, if_neg q4]; exact ⟨_, rfl, rfl⟩
  obtain ⟨r, h1, h2⟩ := key
  exact same_rf hI r h1 h2
/-! the tape -/
def by01 (v : Int32) : Int32 := in01 v 0 255
def by5 (a b c d e : Int32) : Int32 := if by01 a = 0 then 0 else if by01 b = 0 then 0 else if by01 c = 0 then 0 else if by01 d = 0 then 0 else if by01 e = 0 then 0 else 1
theorem isByte8 (v : Int32) (σ : St) : S8_isByte v σ = some (by01 v, σ) := by
  unfold S8_isByte by01 in01
  split
  · rfl
  · split <;> rfl
theorem isByte9 (v : Int32) (σ : St) : S9_isByte v σ = some (by01 v, σ) := by
  unfold S9_isByte
  rw [in9, bnd_s, if_pos (in01_or _ _ _)]
  rfl
theorem feed8_r (n a b c d e : Int32) (σ : St) : S8_feed n a b c d e σ = S8_feed_43 n a b c d e (by5 a b c d e) σ := by
  unfold S8_feed S8_feed_42 by5
  simp only [isByte8, bnd_s]
  by_cases qa : by01 a = 0
  · simp only [if_pos qa]
  · by_cases qb : by01 b = 0
    · simp only [if_neg qa, if_pos qb]
    · by_cases qc : by01 c = 0
      · simp only [if_neg qa, if_neg qb, if_pos qc]
      · by_cases qd : by01 d = 0
        · simp only [if_neg qa, if_neg qb, if_neg qc, if_pos qd]
        · by_cases qe : by01 e = 0
          · simp only [if_neg qa, if_neg qb, if_neg qc, if_neg qd, if_pos qe]
          · simp only [if_neg qa, if_neg qb, if_neg qc, if_neg qd, if_neg qe]
theorem feed9_r (n a b c d e : Int32) (σ : St) : S9_feed n a b c d e σ = if in01 n 1 5 = 0 then some (-2, σ) else if by5 a b c d e = 0 then some (-2, σ) else if gI σ 75 6 + n ≤ 160 then S9_feed_68 n a b c d e 4096 0 σ else some (-4, σ) := by
  unfold S9_feed by5
  simp only [in9, isByte9, bnd_s]
  by_cases qn : in01 n 1 5 = 0
  · simp only [if_pos qn]
  · by_cases qa : by01 a = 0
    · simp only [if_neg qn, if_pos qa, if_true]
    · by_cases qb : by01 b = 0
      · simp only [if_neg qn, if_neg qa, if_pos qb, if_true]
      · by_cases qc : by01 c = 0
        · simp only [if_neg qn, if_neg qa, if_neg qb, if_pos qc, if_true]
        · by_cases qd : by01 d = 0
          · simp only [if_neg qn, if_neg qa, if_neg qb, if_neg qc, if_pos qd, if_true]
          · by_cases qe : by01 e = 0
            · simp only [if_neg qn, if_neg qa, if_neg qb, if_neg qc, if_neg qd, if_pos qe, if_true]
            · simp only [if_neg qn, if_neg qa, if_neg qb, if_neg qc, if_neg qd, if_neg qe, if_neg (show ¬ (1 : Int32) = 0 by decide)]
def fiv (a b c d e : Int32) (i : Nat) : Int32 := if i = 0 then a else if i = 1 then b else if i = 2 then c else if i = 3 then d else e
def TA (v : Nat → Int32) (s i : Nat) (σ0 σ : St) : Prop := gI σ 26 1 = nI (s + i) ∧ (∀ j, j < i → gI σ 27 (s + j) = v j) ∧ ∀ a b, ¬ ((a = 26 ∧ b = 1) ∨ (a = 27 ∧ s ≤ b)) → gI σ a b = gI σ0 a b
def TB (v : Nat → Int32) (s i : Nat) (σ0 σ : St) : Prop := gI σ 75 6 = nI (s + i) ∧ (∀ j, j < i → gI σ 79 (s + j) = v j) ∧ ∀ a b, ¬ ((a = 75 ∧ b = 6) ∨ (a = 79 ∧ s ≤ b)) → gI σ a b = gI σ0 a b
theorem add8 {v : Nat → Int32} {s i : Nat} {σ0 σ : St} (h : TA v s i σ0 σ) (hs : s + i < 160) : ∃ σ', S1_add (v i) σ = some ((), σ') ∧ TA v s (i + 1) σ0 σ' := by
  obtain ⟨h1, h2, h3⟩ := h
  unfold S1_add
  rw [h1, if_neg (show ¬ (160 : Int32) ≤ nI (s + i) from nI_ge (a := s + i) (b := 160) hs (by omega)), if_pos (inb_nI hs (by omega)), nI_clamp (by omega)]
  refine ⟨_, rfl, ?_, fun j hj => ?_, fun a b z => ?_⟩
  · rw [gI_sI, if_pos ⟨rfl, rfl⟩, gI_sI, if_neg (by omega), h1, ← nI_succ]
    rfl
  · rw [gI_sI, if_neg (by omega), gI_sI]
    by_cases q : j = i
    · subst q; rw [if_pos ⟨rfl, rfl⟩]
    · rw [if_neg (by omega)]; exact h2 j (by omega)
  · rw [gI_sI, if_neg (by omega), gI_sI, if_neg (by omega)]; exact h3 a b z
theorem feed8_t {n T t : Nat} {σ : St} {a b c d e : Int32} {k s : Nat} (hk : 1 ≤ k) (hk5 : k ≤ 5) (hb : ¬ by5 a b c d e = 0) (hs : gI σ 26 1 = nI s) (h : s + k ≤ 160) : ∃ σ', S8_feed (nI k) a b c d e σ = some (nI (s + k), σ') ∧ TA (fiv a b c d e) s k σ σ' := by
  have t0 : TA (fiv a b c d e) s 0 σ σ := ⟨hs, fun j hj => absurd hj (by omega), fun _ _ _ => rfl⟩
  have h160 : nI s + nI k ≤ 160 := by rw [nI_add]; exact nI_le (b := 160) h (by omega)
  rw [feed8_r]
  unfold S8_feed_43
  rw [hs, if_neg (show ¬ nI k < (1 : Int32) from nI_nlt (b := 1) hk (by omega)), if_neg (show ¬ (5 : Int32) < nI k from nI_nlt (a := 5) hk5 (by omega)), if_neg hb, if_pos h160]
  obtain ⟨σ1, e1, t1⟩ := add8 t0 (by omega)
  rw [show S1_add a σ = some ((), σ1) from e1, bnd_s]
  unfold S8_feed_102 S8_feed_116 S8_feed_130 S8_feed_144
  match k, hk, hk5 with
  | 1, _, _ =>
    rw [if_pos (show nI 1 ≤ (1 : Int32) by decide), if_pos (show nI 1 ≤ (2 : Int32) by decide), if_pos (show nI 1 ≤ (3 : Int32) by decide), if_pos (show nI 1 ≤ (4 : Int32) by decide)]
    exact ⟨σ1, by rw [t1.1], t1⟩
  | k + 2, _, hk5 =>
    obtain ⟨σ2, e2, t2⟩ := add8 t1 (by omega)
    rw [if_neg (show ¬ nI (k + 2) ≤ (1 : Int32) from nI_ge (a := 1) (by omega) (by omega)), show S1_add b σ1 = some ((), σ2) from e2, bnd_s]
    match k, hk5 with
    | 0, _ =>
      rw [if_pos (show nI 2 ≤ (2 : Int32) by decide), if_pos (show nI 2 ≤ (3 : Int32) by decide), if_pos (show nI 2 ≤ (4 : Int32) by decide)]
      exact ⟨σ2, by rw [t2.1], t2⟩
    | k + 1, hk5 =>
      obtain ⟨σ3, e3, t3⟩ := add8 t2 (by omega)
      rw [if_neg (show ¬ nI (k + 1 + 2) ≤ (2 : Int32) from nI_ge (a := 2) (by omega) (by omega)), show S1_add c σ2 = some ((), σ3) from e3, bnd_s]
      match k, hk5 with
      | 0, _ =>
        rw [if_pos (show nI 3 ≤ (3 : Int32) by decide), if_pos (show nI 3 ≤ (4 : Int32) by decide)]
        exact ⟨σ3, by rw [t3.1], t3⟩
      | k + 1, hk5 =>
        obtain ⟨σ4, e4, t4⟩ := add8 t3 (by omega)
        rw [if_neg (show ¬ nI (k + 1 + 1 + 2) ≤ (3 : Int32) from nI_ge (a := 3) (by omega) (by omega)), show S1_add d σ3 = some ((), σ4) from e4, bnd_s]
        match k, hk5 with
        | 0, _ =>
          rw [if_pos (show nI 4 ≤ (4 : Int32) by decide)]
          exact ⟨σ4, by rw [t4.1], t4⟩
        | k + 1, hk5 =>
          have q : k = 0 := by omega
          subst q
          obtain ⟨σ5, e5, t5⟩ := add8 t4 (by omega)
          rw [if_neg (show ¬ nI 5 ≤ (4 : Int32) by decide), show S1_add e σ4 = some ((), σ5) from e5, bnd_s]
          exact ⟨σ5, by rw [t5.1], t5⟩
theorem feed9_t {σ : St} {a b c d e : Int32} {k s : Nat} (hk5 : k ≤ 5) (hs : gI σ 75 6 = nI s) (h : s + k ≤ 160) : ∃ σ', S9_feed_68 (nI k) a b c d e 4096 0 σ = some (nI (s + k), σ') ∧ TB (fiv a b c d e) s k σ σ' := by
  have t0 : TB (fiv a b c d e) s 0 σ σ := ⟨hs, fun j hj => absurd hj (by omega), fun _ _ _ => rfl⟩
  have step : ∀ (i f : Nat) (τ : St), i < k → TB (fiv a b c d e) s i σ τ → ∃ τ', S9_feed_68 (nI k) a b c d e (f + 1) (nI i) τ = S9_feed_68 (nI k) a b c d e f (nI (i + 1)) τ' ∧ TB (fiv a b c d e) s (i + 1) σ τ' := by
    intro i f τ hi ht
    obtain ⟨h1, h2, h3⟩ := ht
    have w : S9_feed_125 (nI k) a b c d e (S9_feed_68 (nI k) a b c d e f) (nI i) (nI (s + i)) (fiv a b c d e i) τ = S9_feed_68 (nI k) a b c d e f (nI (i + 1)) (sI (sI τ 79 (s + i) (fiv a b c d e i)) 75 6 (nI (s + (i + 1)))) := by
      unfold S9_feed_125
      rw [if_pos (inb_nI (by omega) (by omega)), nI_clamp (by omega), gI_sI, if_neg (by omega), h1, ← nI_succ, ← nI_succ]
      rfl
    refine ⟨sI (sI τ 79 (s + i) (fiv a b c d e i)) 75 6 (nI (s + (i + 1))), ?_, ?_, fun j hj => ?_, fun x y z => ?_⟩
    · show B9_feed_68 _ _ _ _ _ _ _ _ τ = _
      unfold B9_feed_68
      rw [if_neg (nI_ge hi (by omega)), h1]
      match i, hi, w with
      | 0, _, w => rw [if_pos (show nI 0 = (0 : Int32) from rfl)]; exact w
      | 1, _, w => rw [if_neg (show ¬ nI 1 = (0 : Int32) by decide), if_pos (show nI 1 = (1 : Int32) from rfl)]; exact w
      | 2, _, w => rw [if_neg (show ¬ nI 2 = (0 : Int32) by decide), if_neg (show ¬ nI 2 = (1 : Int32) by decide), if_pos (show nI 2 = (2 : Int32) from rfl)]; exact w
      | 3, _, w => rw [if_neg (show ¬ nI 3 = (0 : Int32) by decide), if_neg (show ¬ nI 3 = (1 : Int32) by decide), if_neg (show ¬ nI 3 = (2 : Int32) by decide), if_pos (show nI 3 = (3 : Int32) from rfl)]; exact w
      | 4, _, w => rw [if_neg (show ¬ nI 4 = (0 : Int32) by decide), if_neg (show ¬ nI 4 = (1 : Int32) by decide), if_neg (show ¬ nI 4 = (2 : Int32) by decide), if_neg (show ¬ nI 4 = (3 : Int32) by decide)]; exact w
      | i + 5, hi, _ => exact absurd hi (by omega)
    · rw [gI_sI, if_pos ⟨rfl, rfl⟩]
    · rw [gI_sI, if_neg (by omega), gI_sI]
      by_cases q : j = i
      · subst q; rw [if_pos ⟨rfl, rfl⟩]
      · rw [if_neg (by omega)]; exact h2 j (by omega)
    · rw [gI_sI, if_neg (by omega), gI_sI, if_neg (by omega)]; exact h3 x y z
  obtain ⟨f', σ', e1, t1⟩ := loopR (fun f i τ => S9_feed_68 (nI k) a b c d e f (nI i) τ) k (TB (fiv a b c d e) s · σ ·) step k 0 4096 σ (by omega) (by omega) t0
  refine ⟨σ', ?_, t1⟩
  rw [show S9_feed_68 (nI k) a b c d e 4096 (0 : Int32) σ = _ from e1]
  show B9_feed_68 _ _ _ _ _ _ _ _ σ' = _
  unfold B9_feed_68
  rw [if_pos (Int32.le_refl _), t1.1]
theorem by01_b {v : Int32} (h : ¬ by01 v = 0) : 0 ≤ v ∧ v ≤ 255 := by
  obtain ⟨h1, h2⟩ := in01_t h
  exact ⟨Int32.not_lt.mp h1, Int32.not_lt.mp h2⟩
theorem by5_b {a b c d e : Int32} (h : ¬ by5 a b c d e = 0) : ∀ i, 0 ≤ fiv a b c d e i ∧ fiv a b c d e i ≤ 255 := by
  unfold by5 at h
  by_cases qa : by01 a = 0
  · rw [if_pos qa] at h; exact absurd rfl h
  by_cases qb : by01 b = 0
  · rw [if_neg qa, if_pos qb] at h; exact absurd rfl h
  by_cases qc : by01 c = 0
  · rw [if_neg qa, if_neg qb, if_pos qc] at h; exact absurd rfl h
  by_cases qd : by01 d = 0
  · rw [if_neg qa, if_neg qb, if_neg qc, if_pos qd] at h; exact absurd rfl h
  by_cases qe : by01 e = 0
  · rw [if_neg qa, if_neg qb, if_neg qc, if_neg qd, if_pos qe] at h; exact absurd rfl h
  intro i
  unfold fiv
  split
  · exact by01_b qa
  · split
    · exact by01_b qb
    · split
      · exact by01_b qc
      · split
        · exact by01_b qd
        · exact by01_b qe
theorem same_feed (k a b c d e : Int32) : Same (S8_feed k a b c d e) (S9_feed k a b c d e) := by
  intro n T t σ hI
  obtain ⟨s, s1, t1, t2, t3⟩ := hI.tp
  have bad : ∀ r, S8_feed_43 k a b c d e (by5 a b c d e) σ = some (r, σ) → (if in01 k 1 5 = 0 then some (-2, σ) else if by5 a b c d e = 0 then some (-2, σ) else if gI σ 75 6 + k ≤ 160 then S9_feed_68 k a b c d e 4096 0 σ else some (-4, σ)) = some (r, σ) → SameAt (S8_feed k a b c d e) (S9_feed k a b c d e) σ := fun r h1 h2 => same_rf hI r (by rw [feed8_r]; exact h1) (by rw [feed9_r]; exact h2)
  by_cases qn : in01 k 1 5 = 0
  · refine bad (-2) ?_ (by rw [if_pos qn])
    unfold S8_feed_43
    rcases in01_f qn with q | q
    · rw [if_pos q]
    · by_cases q0 : k < 1
      · rw [if_pos q0]
      · rw [if_neg q0, if_pos q]
  · obtain ⟨q1, q2⟩ := in01_t qn
    by_cases qb : by5 a b c d e = 0
    · refine bad (-2) ?_ (by rw [if_neg qn, if_pos qb])
      unfold S8_feed_43
      rw [if_neg q1, if_neg q2, if_pos qb]
    · by_cases qf : nI s + k ≤ 160
      · obtain ⟨z, rfl, hz⟩ := ex_nIc (a := k) (c := 5) (by omega) (by grind) q2
        have hz1 : 1 ≤ z := by
          have : ¬ nI z < nI 1 := q1
          rw [nI_lt_iff (by omega) (by omega)] at this
          omega
        rw [nI_add, show (160 : Int32) = nI 160 from rfl, nI_le_iff (by omega) (by omega)] at qf
        obtain ⟨σ1, e1, g1, g2, g3⟩ := feed8_t (n := n) (T := T) (t := t) (σ := σ) hz1 hz qb t1 qf
        have t2' : gI σ1 75 6 = nI s := by rw [g3 _ _ (by omega)]; exact t2
        obtain ⟨σ2, e2, p1, p2, p3⟩ := feed9_t (σ := σ1) (a := a) (b := b) (c := c) (d := d) (e := e) hz t2' qf
        refine ⟨_, σ1, σ2, e1, ?_, n, T, t, ?_⟩
        · rw [feed9_r, if_neg qn, if_neg qb, t2', nI_add, if_pos (show nI (s + z) ≤ (160 : Int32) from nI_le (b := 160) qf (by omega))]
          exact e2
        · have k1 : ∀ x y, ¬ ((x = 26 ∧ y = 1) ∨ (x = 27 ∧ s ≤ y) ∨ (x = 75 ∧ y = 6) ∨ (x = 79 ∧ s ≤ y)) → gI σ2 x y = gI σ x y := fun x y z => by rw [p3 x y (by omega), g3 x y (by omega)]
          obtain ⟨h1, h2, h3, h4, h5, h6, h7⟩ := hI
          have hb := h1.1
          refine ⟨h1.fr (fun a b z => k1 a b (by omega)), h2.fr hb.1 (fun a b z => k1 a b (by omega)), fun j hj => TxOk_fr (by omega) (fun a b z => k1 a b (by omega)) (h3 j hj), ⟨s + z, qf, ?_, p1, fun j hj => ?_⟩, fun s hs => (h5 s hs).fr hs (fun a b z => k1 a b (by omega)), h6.fr (Nat.le_refl _) (Nat.le_refl _) hb.1 (fun a b z => k1 a b (by omega)), fun j hj => ?_⟩
          · rw [p3 _ _ (by omega)]; exact g1
          · by_cases q : j < s
            · rw [k1 27 j (by omega), k1 79 j (by omega)]
              exact t3 j q
            · obtain ⟨i, rfl⟩ : ∃ i, j = s + i := ⟨j - s, by omega⟩
              rw [p2 i (by omega), p3 27 _ (by omega), g2 i (by omega)]
              exact ⟨rfl, by5_b qb i⟩
          · rw [k1 88 j (by omega)]; exact h7 j hj
      · refine bad (-4) ?_ (by rw [if_neg qn, if_neg qb, t2, if_neg qf])
        unfold S8_feed_43
        rw [if_neg q1, if_neg q2, if_neg qb, t1, if_neg qf]
theorem same_force (a : Int32) : Same (S8_force a) (S9_force a) := by
  intro n T t σ hI
  have hT6 := hI.T6
  by_cases q : has01 T a = 0
  · refine same_rf hI (-2) ?_ ?_
    · unfold S8_force
      rw [hI.T8]
      by_cases q1 : a < 0
      · rw [if_pos q1]
      · rw [if_neg q1, if_neg ?_]
        intro q2
        obtain ⟨k, rfl, hk⟩ := ex_nI q1
        rw [nI_lt_iff hk (by omega)] at q2
        rw [has01_1 hT6 q2] at q
        exact absurd q (by decide)
    · unfold S9_force
      rw [in9, bnd_s, hI.T9, has01_in hT6, if_pos q]
  · obtain ⟨k, hk, rfl⟩ := has01_t hT6 q
    refine ⟨nI t, sI σ 1 3 (nI k), sI (sI σ 1 3 (nI k)) 75 10 (nI k), ?_, ?_, n, T, k, ?_⟩
    · unfold S8_force
      rw [hI.T8, if_neg (nI_pos (by omega)), if_pos (nI_lt hk (by omega)), hI.l8]
    · unfold S9_force
      have e9 : gI (sI σ 1 3 (nI k)) 75 9 = nI T := by rw [gI_sI, if_neg (by omega)]; exact hI.T9
      rw [in9, bnd_s, e9, has01_in hT6, if_neg q, gI_sI, if_neg (by omega), hI.l9]
    · have k1 : ∀ x y, ¬ ((x = 1 ∧ y = 3) ∨ (x = 75 ∧ y = 10)) → gI (sI (sI σ 1 3 (nI k)) 75 10 (nI k)) x y = gI σ x y := fun x y z => by rw [gI_sI, if_neg (by omega), gI_sI, if_neg (by omega)]
      have e1 : gI (sI (sI σ 1 3 (nI k)) 75 10 (nI k)) 1 3 = nI k := by rw [gI_sI, if_neg (by omega), gI_sI, if_pos ⟨rfl, rfl⟩]
      have e2 : gI (sI (sI σ 1 3 (nI k)) 75 10 (nI k)) 75 10 = nI k := by rw [gI_sI, if_pos ⟨rfl, rfl⟩]
      generalize sI (sI σ 1 3 (nI k)) 75 10 (nI k) = σ2 at k1 e1 e2
      obtain ⟨⟨hb, ⟨g1, g2⟩, ⟨g3, g4⟩, -, g7⟩, h2, h3, h4, h5, h6, h7⟩ := hI
      refine ⟨⟨⟨hb.1, hb.2.1, hk⟩, ⟨by rw [k1 _ _ (by omega)]; exact g1, by rw [k1 _ _ (by omega)]; exact g2⟩, ⟨by rw [k1 _ _ (by omega)]; exact g3, by rw [k1 _ _ (by omega)]; exact g4⟩, ⟨e1, e2⟩, by rw [k1 _ _ (by omega), k1 75 4 (by omega)]; exact g7⟩, h2.fr hb.1 (fun a b z => k1 a b (by omega)), fun j hj => TxOk_fr (by omega) (fun a b z => k1 a b (by omega)) (h3 j hj), h4.fr (fun a b z => k1 a b (by omega)), fun s hs => (h5 s hs).fr hs (fun a b z => k1 a b (by omega)), h6.fr (Nat.le_refl _) (Nat.le_refl _) hb.1 (fun a b z => k1 a b (by omega)), fun j hj => ?_⟩
      rw [k1 88 j (by omega)]; exact h7 j hj
