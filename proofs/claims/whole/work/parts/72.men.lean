/-! asks, man, put, told. -/
theorem same_asks (p m acts c : Int32) : Same (S8_asks p m acts c) (S9_asks p m acts c) := by
  intro n T t σ hI
  have hn := hI.n6
  -- the acts
  have hacts : (¬ (acts < 0 ∨ 4 ≤ acts / 10 ∨ 4 ≤ jrem acts 10)) ↔ (¬ in01 acts 0 33 = 0 ∧ ¬ 4 ≤ jrem acts 10) := by
    by_cases q : acts < 0
    · have e : in01 acts 0 33 = 0 := by unfold in01; rw [if_pos q]
      exact ⟨fun h => absurd (Or.inl q) h, fun h => absurd e h.1⟩
    · obtain ⟨A, rfl, hA⟩ := ex_nI q
      rw [show (10 : Int32) = nI 10 from rfl, nI_div hA (by omega), nI_rem hA (by omega), show (4 : Int32) = nI 4 from rfl, nI_le_iff (by omega) (by omega), nI_le_iff (by omega) (by omega)]
      by_cases q2 : (33 : Int32) < nI A
      · have e : in01 (nI A) 0 33 = 0 := by unfold in01; rw [if_neg q, if_pos q2]
        rw [show (33 : Int32) = nI 33 from rfl, nI_lt_iff (by omega) hA] at q2
        exact ⟨fun h => by exfalso; apply h; right; omega, fun h => absurd e h.1⟩
      · have e : in01 (nI A) 0 33 = 1 := in01_1 q q2
        rw [show (33 : Int32) = nI 33 from rfl, nI_lt_iff (by omega) hA] at q2
        rw [e]
        refine ⟨fun h => ⟨by decide, fun z => h (Or.inr (Or.inr z))⟩, fun h z => ?_⟩
        rcases z with z | z | z
        · exact q z
        · omega
        · exact h.2 z
  have hcell : ∀ x : Int32, (9 : Int32) ≤ x ↔ (8 : Int32) < x := fun x => by constructor <;> intro <;> grind
  have hpart : ∀ x : Int32, (3 : Int32) ≤ x ↔ (2 : Int32) < x := fun x => by constructor <;> intro <;> grind
  -- the class's two looks
  have e8 : ∀ s0 s1 : Int32, (s0 = if (acts < 0 ∨ 4 ≤ acts / 10 ∨ 4 ≤ jrem acts 10) then 0 else 1) → s1 = in01 c 0 8 → S8_asks p m acts c σ = S8_asks_44 p m acts c s0 s1 σ := by
    intro s0 s1 h0 h1
    have h2 : S8_asks p m acts c σ = S8_asks_25 p m acts c s0 σ := by
      unfold S8_asks S8_asks_24
      by_cases q : acts < 0
      · rw [if_pos (Or.inl q)] at h0
        rw [if_pos q, h0]
      · by_cases q2 : 4 ≤ acts / 10
        · rw [if_pos (Or.inr (Or.inl q2))] at h0
          rw [if_neg q, if_pos q2, h0]
        · by_cases q3 : 4 ≤ jrem acts 10
          · rw [if_pos (Or.inr (Or.inr q3))] at h0
            rw [if_neg q, if_neg q2, if_pos q3, h0]
          · rw [if_neg (by rintro (z | z | z) <;> contradiction)] at h0
            rw [if_neg q, if_neg q2, if_neg q3, h0]
    rw [h2]
    unfold S8_asks_25 S8_asks_43
    rw [h1]
    unfold in01
    by_cases q : c < 0
    · rw [if_pos q, if_pos q]
    · by_cases q2 : (8 : Int32) < c
      · rw [if_neg q, if_neg q, if_pos q2, if_pos ((hcell c).mpr q2)]
      · rw [if_neg q, if_neg q, if_neg q2, if_neg (fun z => q2 ((hcell c).mp z))]
  -- all is well
  by_cases hp : in01 p 0 2 = 0
  · refine same_rf hI (-1000) ?_ ?_
    · rw [e8 _ _ rfl rfl]
      unfold S8_asks_44
      rcases in01_f hp with q | q
      · rw [if_pos q]
      · by_cases q0 : p < 0
        · rw [if_pos q0]
        · rw [if_neg q0, if_pos ((hpart p).mpr q)]
    · unfold S9_asks S9_asks_50 S9_asks_51
      rw [in9, bnd_s, if_pos hp, if_pos rfl]
  · obtain ⟨p1, p2⟩ := in01_t hp
    by_cases hm : has01 n m = 0
    · refine same_rf hI (-1000) ?_ ?_
      · rw [e8 _ _ rfl rfl]
        unfold S8_asks_44
        rw [if_neg p1, if_neg (fun z => p2 ((hpart p).mp z)), has8 hI.n8, bnd_s, if_pos hm]
      · unfold S9_asks S9_asks_50 S9_asks_51
        rw [in9, bnd_s, if_neg hp, isMan9 hn hI.n9, bnd_s, if_pos hm, if_pos rfl]
    · by_cases ha : acts < 0 ∨ 4 ≤ acts / 10 ∨ 4 ≤ jrem acts 10
      · refine same_rf hI (-1000) ?_ ?_
        · rw [e8 _ _ rfl rfl]
          unfold S8_asks_44
          rw [if_neg p1, if_neg (fun z => p2 ((hpart p).mp z)), has8 hI.n8, bnd_s, if_neg hm, if_pos ha, if_pos rfl]
        · unfold S9_asks S9_asks_50 S9_asks_51
          rw [in9, bnd_s, if_neg hp, isMan9 hn hI.n9, bnd_s, if_neg hm, in9, bnd_s]
          by_cases q : in01 acts 0 33 = 0
          · rw [if_pos q, if_pos rfl]
          · rw [if_neg q]
            by_cases q2 : 4 ≤ jrem acts 10
            · rw [if_pos q2, if_pos rfl]
            · exact absurd ha (hacts.mpr ⟨q, q2⟩)
      · obtain ⟨a1, a2⟩ := hacts.mp ha
        by_cases hc : in01 c 0 8 = 0
        · refine same_rf hI (-1000) ?_ ?_
          · rw [e8 _ _ rfl rfl]
            unfold S8_asks_44
            rw [if_neg p1, if_neg (fun z => p2 ((hpart p).mp z)), has8 hI.n8, bnd_s, if_neg hm, if_neg ha, if_neg (by decide), if_pos hc]
          · unfold S9_asks S9_asks_50 S9_asks_51
            rw [in9, bnd_s, if_neg hp, isMan9 hn hI.n9, bnd_s, if_neg hm, in9, bnd_s, if_neg a1, if_neg a2, in9, bnd_s, if_pos hc, if_pos rfl]
        · obtain ⟨k, hk, rfl⟩ := has01_t hn hm
          obtain ⟨P, rfl, hP⟩ := ex_nIc (a := p) (c := 2) (by omega) p1 p2
          have hw := ob7_ne (obW1 k (by omega))
          obtain ⟨σ1, g1, f1⟩ := says2 (p := P) (w := 3 + k) (act := acts / 10) (his := jrem acts 10) (cell := c) hI.t6 (by omega) (hI.tx hI.tT) hw.1
          have A1 : Ag σ σ1 := Ag.fr f1 (fun a b z => by unfold scr; omega)
          have hI1 := hI.ag A1
          obtain ⟨σ2, g2, f2⟩ := says9 (p := P) (m := k) (act := acts / 10) (his := jrem acts 10) (cell := c) hI1.t6 (by omega) (show k < 6 by omega) hI1.l9 (hI1.tx hI1.tT)
          refine same_q hI (sayF (txC σ t P) P (envS (gI σ (3 + k)) (acts / 10) (jrem acts 10) c)) ?_ A1 ⟨σ2, ?_, Ag.fr f2 (fun a b z => by unfold scr; omega)⟩
          · rw [e8 _ _ rfl rfl]
            unfold S8_asks_44
            rw [if_neg p1, if_neg (fun z => p2 ((hpart _).mp z)), has8 hI.n8, bnd_s, if_neg hm, if_neg ha, if_neg (by decide), if_neg hc, theLaw8 hI.t6 hI.l8, bnd_s, man8 (by omega), bnd_s, g1, bnd_s]
          · unfold S9_asks S9_asks_51
            rw [in9, bnd_s, if_neg hp, isMan9 hn hI1.n9, bnd_s, if_neg hm, in9, bnd_s, if_neg a1, if_neg a2, in9, bnd_s, if_neg hc, if_neg (by decide), g2, bnd_s, txC_ag A1, stM_ag A1, envS_cg (fun j hj => hI.men hk j (by omega))]
theorem bdM_cg {s s' : Nat → Int32} (h : ∀ k, k < 7 → s k = s' k) (k : bdM s) : bdM s' := by
  unfold bdM smS at k ⊢
  rw [← h 1 (by omega), ← h 4 (by omega), ← h 5 (by omega), ← h 6 (by omega)]
  exact k
theorem stM_7 {σ σ' : St} {m : Nat} (h1 : gI σ' 76 m = gI σ 76 m) (h2 : gI σ' 77 m = gI σ 77 m) (h3 : ∀ y, 5 * m ≤ y → y < 5 * m + 5 → gI σ' 78 y = gI σ 78 y) : ∀ k, k < 7 → stM σ' m k = stM σ m k := by
  intro k hk
  unfold stM
  rw [h1, h2]
  split
  · rfl
  · split
    · rfl
    · exact h3 _ (by omega) (by omega)
theorem man_new {n T t : Nat} {σ σ2 : St} (hI : Inv n T t σ) (hn : n < 6) (k1 : ∀ x y, ¬ ((x = 1 ∧ y = 1) ∨ x = 3 + n ∨ (x = 75 ∧ y = 0) ∨ ((x = 76 ∨ x = 77) ∧ y = n) ∨ (x = 78 ∧ 5 * n ≤ y ∧ y < 5 * n + 5)) → gI σ2 x y = gI σ x y) (c8 : gI σ2 1 1 = nI (n + 1)) (c9 : gI σ2 75 0 = nI (n + 1)) (hm : ∀ k, k < 7 → gI σ2 (3 + n) k = stM σ2 n k) (hb : bdM (stM σ2 n)) : Inv (n + 1) T t σ2 := by
  obtain ⟨⟨hb0, ⟨g1, g2⟩, ⟨g3, g4⟩, ⟨g5, g6⟩, g7⟩, h2, h3, h4, h5, h6, h7⟩ := hI
  refine ⟨⟨⟨by omega, hb0.2.1, hb0.2.2⟩, ⟨c8, c9⟩, ⟨by rw [k1 _ _ (by omega)]; exact g3, by rw [k1 _ _ (by omega)]; exact g4⟩, ⟨by rw [k1 _ _ (by omega)]; exact g5, by rw [k1 _ _ (by omega)]; exact g6⟩, by rw [k1 _ _ (by omega), k1 75 4 (by omega)]; exact g7⟩, fun m hm' => ?_, fun j hj => TxOk_fr (by omega) (fun a b z => k1 a b (by omega)) (h3 j hj), h4.fr (fun a b z => k1 a b (by omega)), fun s hs => (h5 s hs).fr hs (fun a b z => k1 a b (by omega)), h6.fr (Nat.le_succ _) (Nat.le_refl _) hb0.1 (fun a b z => k1 a b (by omega)), fun j hj => ?_⟩
  · by_cases q : m = n
    · subst q; exact ⟨hm, hb⟩
    · have hlt : m < n := by omega
      have e : ∀ k, k < 7 → stM σ2 m k = stM σ m k := stM_7 (k1 _ _ (by omega)) (k1 _ _ (by omega)) (fun y y1 y2 => k1 _ _ (by omega))
      refine ⟨fun k hk => ?_, bdM_cg (fun k hk => (e k hk).symm) (h2 m hlt).2⟩
      rw [e k hk, k1 (3 + m) k (by omega)]
      exact (h2 m hlt).1 k hk
  · rw [k1 88 j (by omega)]; exact h7 j hj
theorem same_man (a b : Int32) : Same (S8_man a b) (S9_man a b) := by
  intro n T t σ hI
  have hn := hI.n6
  have h60 : (60 : Int32) ≤ a ↔ (59 : Int32) < a := by constructor <;> intro <;> grind
  have hW : (10000 : Int32) ≤ b ↔ (9999 : Int32) < b := by constructor <;> intro <;> grind
  have e8 : S8_man a b σ = S8_man_16 a b (in01 b 0 9999) σ := by
    unfold S8_man S8_man_15 in01
    by_cases q : b < 0
    · rw [if_pos q, if_pos q]
    · by_cases q2 : (9999 : Int32) < b
      · rw [if_neg q, if_neg q, if_pos q2, if_pos (hW.mpr q2)]
      · rw [if_neg q, if_neg q, if_neg q2, if_neg (fun z => q2 (hW.mp z))]
  by_cases ha : in01 a 0 59 = 0
  · refine same_rf hI (-2) ?_ ?_
    · rw [e8]
      unfold S8_man_16
      rcases in01_f ha with q | q
      · rw [if_pos q]
      · by_cases q0 : a < 0
        · rw [if_pos q0]
        · rw [if_neg q0, if_pos (h60.mpr q)]
    · unfold S9_man
      rw [in9, bnd_s, if_pos ha]
  · obtain ⟨a1, a2⟩ := in01_t ha
    by_cases hb : in01 b 0 9999 = 0
    · refine same_rf hI (-2) ?_ ?_
      · rw [e8]
        unfold S8_man_16
        rw [if_neg a1, if_neg (fun z => a2 (h60.mp z)), if_pos hb]
      · unfold S9_man
        rw [in9, bnd_s, if_neg ha, in9, bnd_s, if_pos hb]
    · obtain ⟨b1, b2⟩ := in01_t hb
      by_cases hf : n = 6
      · refine same_rf hI (-4) ?_ ?_
        · rw [e8]
          unfold S8_man_16
          rw [if_neg a1, if_neg (fun z => a2 (h60.mp z)), if_neg hb, hI.n8, hf, if_neg (by decide)]
        · unfold S9_man
          rw [in9, bnd_s, if_neg ha, in9, bnd_s, if_neg hb, hI.n9, hf, if_pos (show nI 6 = (6 : Int32) from rfl)]
      · have hn5 : n < 6 := by omega
        obtain ⟨A, rfl, hA⟩ := ex_nIc (a := a) (c := 59) (by omega) a1 a2
        have c10 : nI A / 10 = nI (A / 10) := nI_div (b := 10) (by omega) (by omega)
        have d10 : jrem (nI A) 10 = nI (A % 10) := nI_rem (b := 10) (by omega) (by omega)
        -- the class
        let σ1 : St := sI (sI (sI (sI (sI (sI (sI (sI σ (3 + n) 0 (nI A / 10)) (3 + n) 1 (jrem (nI A) 10)) (3 + n) 2 (b / 100)) (3 + n) 3 (jrem b 100)) (3 + n) 4 0) (3 + n) 5 0) (3 + n) 6 0) 1 1 (nI (n + 1))
        have g1 : S8_man (nI A) b σ = some (nI n, σ1) := by
          rw [e8]
          unfold S8_man_16
          rw [if_neg a1, if_neg (fun z => a2 (h60.mp z)), if_neg hb, hI.n8, if_pos (show nI n < (6 : Int32) from nI_lt (b := 6) hn5 (by omega)), man8 hn5, bnd_s]
          unfold S7_comes
          rw [bnd_s, gI_sI, if_pos ⟨rfl, rfl⟩]
          have e1 : gI (sI (sI (sI (sI (sI (sI (sI σ (3 + n) 0 (nI A / 10)) (3 + n) 1 (jrem (nI A) 10)) (3 + n) 2 (b / 100)) (3 + n) 3 (jrem b 100)) (3 + n) 4 0) (3 + n) 5 0) (3 + n) 6 0) 1 1 = nI n := by
            have z1 : ¬ (1 : Nat) = 3 + n := by omega
            simp only [gI_sI, z1, false_and, if_false]
            exact hI.n8
          rw [e1, ← nI_succ, nI_pred]
        have m1 : ∀ x y, ¬ ((x = 1 ∧ y = 1) ∨ x = 3 + n) → gI σ1 x y = gI σ x y := by
          intro x y z
          have z1 : ∀ i, ¬ (x = 3 + n ∧ y = i) := fun i q => z (Or.inr q.1)
          have z2 : ¬ (x = 1 ∧ y = 1) := fun q => z (Or.inl q)
          simp only [σ1, gI_sI, if_neg (z1 _), if_neg z2]
        have c1 : gI σ1 1 1 = nI (n + 1) := by show gI (sI _ 1 1 (nI (n + 1))) 1 1 = _; rw [gI_sI, if_pos ⟨rfl, rfl⟩]
        have w1 : ∀ k, k < 7 → gI σ1 (3 + n) k = if k = 0 then nI A / 10 else if k = 1 then jrem (nI A) 10 else if k = 2 then b / 100 else if k = 3 then jrem b 100 else 0 := by
          intro k hk
          have z1 : ¬ 3 + n = 1 := by omega
          match k, hk with
          | 0, _ => simp [σ1, gI_sI, z1]
          | 1, _ => simp [σ1, gI_sI, z1]
          | 2, _ => simp [σ1, gI_sI, z1]
          | 3, _ => simp [σ1, gI_sI, z1]
          | 4, _ => simp [σ1, gI_sI, z1]
          | 5, _ => simp [σ1, gI_sI, z1]
          | 6, _ => simp [σ1, gI_sI, z1]
          | k + 7, h => exact absurd h (by omega)
        have n9 : gI σ1 75 0 = nI n := (m1 75 0 (by omega)).trans hI.n9
        generalize σ1 = σ1 at g1 m1 c1 w1 n9
        -- the reference
        let L : Nat → St → Prop := fun i τ => (∀ j, j < i → gI τ 78 (5 * n + j) = if j = 0 then b / 100 else if j = 1 then jrem b 100 else 0) ∧ ∀ x y, ¬ (x = 78 ∧ 5 * n ≤ y ∧ y < 5 * n + 5) → gI τ x y = gI (sI (sI σ1 76 n (nI A / 10)) 77 n (jrem (nI A) 10)) x y
        have n9' : gI (sI (sI σ1 76 n (nI A / 10)) 77 n (jrem (nI A) 10)) 75 0 = nI n := by rw [gI_sI, if_neg (by omega), gI_sI, if_neg (by omega)]; exact n9
        have step : ∀ (i f : Nat) (τ : St), i < 5 → L i τ → ∃ τ', S9_man_64 (nI A) b (f + 1) (nI i) τ = S9_man_64 (nI A) b f (nI (i + 1)) τ' ∧ L (i + 1) τ' := by
          intro i f τ hi ⟨l1, l2⟩
          have t9 : gI τ 75 0 = nI n := (l2 75 0 (by omega)).trans n9'
          have e5 : (5 : Int32) * nI n + nI i = nI (5 * n + i) := by rw [show (5 : Int32) = nI 5 from rfl, nI_mul, nI_add]
          have wr : ∀ v, (v = if i = 0 then b / 100 else if i = 1 then jrem b 100 else 0) → S9_man_105 (nI A) b (S9_man_64 (nI A) b f) (nI i) (nI (5 * n + i)) v τ = S9_man_64 (nI A) b f (nI (i + 1)) (sI τ 78 (5 * n + i) (if i = 0 then b / 100 else if i = 1 then jrem b 100 else 0)) := by
            intro v hv
            unfold S9_man_105
            rw [if_pos (inb_nI (by omega) (by omega)), nI_clamp (by omega), ← nI_succ, hv]
          refine ⟨sI τ 78 (5 * n + i) (if i = 0 then b / 100 else if i = 1 then jrem b 100 else 0), ?_, fun j hj => ?_, fun x y z => ?_⟩
          · show B9_man_64 _ _ _ _ τ = _
            unfold B9_man_64
            rw [if_neg (show ¬ (5 : Int32) ≤ nI i from nI_ge (b := 5) hi (by omega)), t9, e5]
            by_cases q0 : i = 0
            · rw [if_pos (show nI i = (0 : Int32) by rw [q0]; rfl)]; exact wr _ (by rw [if_pos q0])
            · rw [if_neg (show ¬ nI i = (0 : Int32) from nI_ne0 (by omega) (by omega))]
              by_cases q1 : i = 1
              · rw [if_pos (show nI i = (1 : Int32) by rw [q1]; rfl)]; exact wr _ (by rw [if_neg q0, if_pos q1])
              · rw [if_neg (show ¬ nI i = (1 : Int32) from fun z => q1 ((nI_inj (b := 1) (by omega) (by omega)).mp z))]; exact wr _ (by rw [if_neg q0, if_neg q1])
          · rw [gI_sI]
            by_cases q : j = i
            · subst q; rw [if_pos ⟨rfl, rfl⟩]
            · rw [if_neg (by omega)]; exact l1 j (by omega)
          · rw [gI_sI, if_neg (by omega)]; exact l2 x y z
        obtain ⟨f', σ2, e2, l1, l2⟩ := loopR (fun f i τ => S9_man_64 (nI A) b f (nI i) τ) 5 L step 5 0 4096 (sI (sI σ1 76 n (nI A / 10)) 77 n (jrem (nI A) 10)) rfl (by omega) ⟨fun j hj => absurd hj (by omega), fun _ _ _ => rfl⟩
        have t9 : gI σ2 75 0 = nI n := (l2 75 0 (by omega)).trans n9'
        refine ⟨nI n, σ1, sI σ2 75 0 (nI (n + 1)), g1, ?_, n + 1, T, t, ?_⟩
        · unfold S9_man
          have n9'' : gI (sI σ1 76 n (nI A / 10)) 75 0 = nI n := by rw [gI_sI, if_neg (by omega)]; exact n9
          rw [in9, bnd_s, if_neg ha, in9, bnd_s, if_neg hb, n9, if_neg (show ¬ nI n = (6 : Int32) from fun z => hf ((nI_inj (b := 6) (by omega) (by omega)).mp z)), if_pos (inb_nI hn5 (by omega)), nI_clamp (by omega), n9'', if_pos (inb_nI hn5 (by omega)), nI_clamp (by omega)]
          rw [show S9_man_64 (nI A) b 4096 (0 : Int32) _ = _ from e2]
          show B9_man_64 _ _ _ _ σ2 = _
          unfold B9_man_64
          rw [if_pos (show (5 : Int32) ≤ nI 5 by decide), t9, ← nI_succ, gI_sI, if_pos ⟨rfl, rfl⟩, nI_pred]
        · have k2 : ∀ x y, ¬ ((x = 75 ∧ y = 0) ∨ ((x = 76 ∨ x = 77) ∧ y = n) ∨ (x = 78 ∧ 5 * n ≤ y ∧ y < 5 * n + 5)) → gI (sI σ2 75 0 (nI (n + 1))) x y = gI σ1 x y := fun x y z => by rw [gI_sI, if_neg (by omega), l2 x y (by omega), gI_sI, if_neg (by omega), gI_sI, if_neg (by omega)]
          have s76 : gI (sI σ2 75 0 (nI (n + 1))) 76 n = nI A / 10 := by rw [gI_sI, if_neg (by omega), l2 76 n (by omega), gI_sI, if_neg (by omega), gI_sI, if_pos ⟨rfl, rfl⟩]
          have s77 : gI (sI σ2 75 0 (nI (n + 1))) 77 n = jrem (nI A) 10 := by rw [gI_sI, if_neg (by omega), l2 77 n (by omega), gI_sI, if_pos ⟨rfl, rfl⟩]
          have s78 : ∀ j, j < 5 → gI (sI σ2 75 0 (nI (n + 1))) 78 (5 * n + j) = if j = 0 then b / 100 else if j = 1 then jrem b 100 else 0 := fun j hj => by rw [gI_sI, if_neg (by omega)]; exact l1 j hj
          have c9 : gI (sI σ2 75 0 (nI (n + 1))) 75 0 = nI (n + 1) := by rw [gI_sI, if_pos ⟨rfl, rfl⟩]
          generalize sI σ2 75 0 (nI (n + 1)) = σ3 at k2 s76 s77 s78 c9 ⊢
          have hst : ∀ k, k < 7 → stM σ3 n k = if k = 0 then nI A / 10 else if k = 1 then jrem (nI A) 10 else if k = 2 then b / 100 else if k = 3 then jrem b 100 else 0 := by
            intro k hk
            unfold stM
            rw [s76, s77]
            match k, hk with
            | 0, _ => rfl
            | 1, _ => rfl
            | 2, _ => exact s78 0 (by omega)
            | 3, _ => exact s78 1 (by omega)
            | 4, _ => exact s78 2 (by omega)
            | 5, _ => exact s78 3 (by omega)
            | 6, _ => exact s78 4 (by omega)
            | k + 7, h => exact absurd h (by omega)
          refine man_new hI hn5 (fun x y z => by rw [k2 x y (by omega), m1 x y (by omega)]) (by rw [k2 1 1 (by omega)]; exact c1) c9 (fun k hk => by rw [k2 _ _ (by omega), w1 k hk, hst k hk]) ?_
          refine bdM_cg (fun k hk => (hst k hk).symm) ?_
          refine ⟨⟨?_, ?_⟩, ?_, ?_⟩
          · show 0 ≤ jrem (nI A) 10 ∧ jrem (nI A) 10 ≤ 9
            rw [d10]
            exact ⟨nI_pos' (by omega), nI_le (b := 9) (by omega) (by omega)⟩
          · exact (by decide : (0 : Int32) ≤ 0 ∧ (0 : Int32) ≤ 9)
          · exact (by decide : (0 : Int32) ≤ 0 ∧ (0 : Int32) ≤ 999)
          · exact (by decide : (0 : Int32) ≤ 0 ∧ (0 : Int32) ≤ 999)
/-- a wrestler's number is written, on both sides -/
theorem inv_set {n T t : Nat} {σ σ2 : St} (hI : Inv n T t σ) {m : Nat} (hm : m < n) (k1 : ∀ x y, ¬ (x = 3 + m ∨ (x = 78 ∧ 5 * m ≤ y ∧ y < 5 * m + 5)) → gI σ2 x y = gI σ x y) (h8 : ∀ k, k < 7 → gI σ2 (3 + m) k = stM σ2 m k) (hb : bdM (stM σ2 m)) : Inv n T t σ2 := by
  obtain ⟨h1, h2, h3, h4, h5, h6, h7⟩ := hI
  have hb0 := h1.1
  refine ⟨h1.fr (fun a b z => k1 a b (by omega)), fun m' hm' => ?_, fun j hj => TxOk_fr (by omega) (fun a b z => k1 a b (by omega)) (h3 j hj), h4.fr (fun a b z => k1 a b (by omega)), fun s hs => (h5 s hs).fr hs (fun a b z => k1 a b (by omega)), h6.fr (Nat.le_refl _) (Nat.le_refl _) hb0.1 (fun a b z => k1 a b (by omega)), fun j hj => ?_⟩
  · by_cases q : m' = m
    · subst q; exact ⟨h8, hb⟩
    · have e : ∀ k, k < 7 → stM σ2 m' k = stM σ m' k := stM_7 (k1 _ _ (by omega)) (k1 _ _ (by omega)) (fun y y1 y2 => k1 _ _ (by omega))
      refine ⟨fun k hk => ?_, bdM_cg (fun k hk => (e k hk).symm) (h2 m' hm').2⟩
      rw [e k hk, k1 (3 + m') k (by omega)]
      exact (h2 m' hm').1 k hk
  · rw [k1 88 j (by omega)]; exact h7 j hj
theorem same_put (m w v : Int32) : Same (S8_put m w v) (S9_put m w v) := by
  intro n T t σ hI
  have hn := hI.n6
  by_cases hm : has01 n m = 0
  · refine same_rf hI (-5) ?_ ?_
    · unfold S8_put; rw [has8 hI.n8, bnd_s, if_pos hm]
    · unfold S9_put; rw [isMan9 hn hI.n9, bnd_s, if_pos hm]
  · obtain ⟨k, hk, rfl⟩ := has01_t hn hm
    have e8 : S8_put (nI k) w v σ = S8_put_26 (nI k) w v (if w = 2 then 9 else 99) σ := by
      unfold S8_put
      rw [has8 hI.n8, bnd_s, if_neg hm]
      split <;> rfl
    have e9 : ∀ τ, gI τ 75 0 = nI n → S9_put (nI k) w v τ = if in01 w 0 2 = 0 then some (-7, τ) else S9_put_34 (nI k) w v (if w = 2 then 9 else 99) τ := by
      intro τ h9
      unfold S9_put
      rw [isMan9 hn h9, bnd_s, if_neg hm, in9, bnd_s]
      split
      · rfl
      · split <;> rfl
    generalize hmx : (if w = 2 then (9 : Int32) else 99) = mx at e8 e9
    by_cases hw : in01 w 0 2 = 0
    · refine same_rf hI (-7) ?_ (by rw [e9 σ hI.n9, if_pos hw])
      rw [e8]
      unfold S8_put_26
      rcases in01_f hw with q | q
      · rw [if_pos q]
      · by_cases q0 : w < 0
        · rw [if_pos q0]
        · rw [if_neg q0, if_pos q]
    · obtain ⟨w1, w2⟩ := in01_t hw
      by_cases hv : in01 v 0 mx = 0
      · refine same_rf hI (-7) ?_ ?_
        · rw [e8]
          unfold S8_put_26
          rw [if_neg w1, if_neg w2]
          by_cases q0 : v < 0
          · rw [if_pos q0]
          · rw [if_neg q0, if_neg (Int32.not_le.mpr ((in01_f hv).resolve_left q0))]
        · rw [e9 σ hI.n9, if_neg hw]
          unfold S9_put_34
          rw [in9, bnd_s, if_pos hv]
      · obtain ⟨v1, v2⟩ := in01_t hv
        obtain ⟨W, rfl, hW⟩ := ex_nIc (a := w) (c := 2) (by omega) w1 w2
        have tl : S7_tells (3 + k) (nI W) σ = some (gI σ (3 + k) (2 + W), σ) := by
          unfold S7_tells
          match W, hW with
          | 0, _ => rfl
          | 1, _ => rfl
          | 2, _ => rfl
        have bc : S7_becomes (3 + k) (nI W) v σ = some ((), sI σ (3 + k) (2 + W) v) := by
          unfold S7_becomes
          match W, hW with
          | 0, _ => rfl
          | 1, _ => rfl
          | 2, _ => rfl
        have g1 : S8_put (nI k) (nI W) v σ = some (gI σ (3 + k) (2 + W), sI σ (3 + k) (2 + W) v) := by
          rw [e8]
          unfold S8_put_26
          rw [if_neg w1, if_neg w2, if_neg v1, if_pos (Int32.not_lt.mp v2), man8 (by omega), bnd_s, tl, bnd_s, man8 (by omega), bnd_s, bc, bnd_s]
        have i5 : (5 : Int32) * nI k + nI W = nI (5 * k + W) := by rw [show (5 : Int32) = nI 5 from rfl, nI_mul, nI_add]
        have hrd : gI σ (3 + k) (2 + W) = gI σ 78 (5 * k + W) := by
          rw [hI.men hk (2 + W) (by omega)]
          unfold stM
          rw [if_neg (by omega), if_neg (by omega)]
          congr 1
          omega
        have n9' : gI (sI σ (3 + k) (2 + W) v) 75 0 = nI n := by rw [gI_sI, if_neg (by omega)]; exact hI.n9
        refine ⟨_, _, sI (sI σ (3 + k) (2 + W) v) 78 (5 * k + W) v, g1, ?_, n, T, t, ?_⟩
        · rw [e9 _ n9', if_neg hw]
          unfold S9_put_34
          rw [in9, bnd_s, if_neg hv, i5, if_pos (inb_nI (by omega) (by omega)), if_pos (inb_nI (by omega) (by omega)), nI_clamp (by omega), gI_sI, if_neg (by omega), hrd]
        · have k1 : ∀ x y, ¬ ((x = 3 + k ∧ y = 2 + W) ∨ (x = 78 ∧ y = 5 * k + W)) → gI (sI (sI σ (3 + k) (2 + W) v) 78 (5 * k + W) v) x y = gI σ x y := fun x y z => by rw [gI_sI, if_neg (by omega), gI_sI, if_neg (by omega)]
          have c1 : gI (sI (sI σ (3 + k) (2 + W) v) 78 (5 * k + W) v) (3 + k) (2 + W) = v := by rw [gI_sI, if_neg (by omega), gI_sI, if_pos ⟨rfl, rfl⟩]
          have c2 : gI (sI (sI σ (3 + k) (2 + W) v) 78 (5 * k + W) v) 78 (5 * k + W) = v := by rw [gI_sI, if_pos ⟨rfl, rfl⟩]
          generalize sI (sI σ (3 + k) (2 + W) v) 78 (5 * k + W) v = σ2 at k1 c1 c2
          have hst : ∀ j, j < 7 → stM σ2 k j = if j = 2 + W then v else stM σ k j := by
            intro j hj
            unfold stM
            rw [k1 76 k (by omega), k1 77 k (by omega)]
            by_cases q0 : j = 0
            · rw [if_pos q0, if_pos q0, if_neg (by omega)]
            · rw [if_neg q0, if_neg q0]
              by_cases q1 : j = 1
              · rw [if_pos q1, if_pos q1, if_neg (by omega)]
              · rw [if_neg q1, if_neg q1]
                by_cases q : j = 2 + W
                · rw [if_pos q, show 5 * k + (j - 2) = 5 * k + W by omega]; exact c2
                · rw [if_neg q]; exact k1 _ _ (by omega)
          refine inv_set hI hk (fun x y z => k1 x y (by omega)) (fun j hj => ?_) ?_
          · rw [hst j hj]
            by_cases q : j = 2 + W
            · subst q; rw [if_pos rfl]; exact c1
            · rw [if_neg q, k1 _ _ (by omega)]; exact hI.men hk j hj
          · have hB := hI.bd hk
            refine bdM_cg (fun j hj => (hst j hj).symm) ?_
            obtain ⟨⟨b1, b2⟩, b3, b4⟩ := hB
            refine ⟨⟨?_, ?_⟩, ?_, ?_⟩
            · show 0 ≤ (if 1 = 2 + W then v else stM σ k 1) ∧ (if 1 = 2 + W then v else stM σ k 1) ≤ 9
              rw [if_neg (by omega)]; exact b1
            · show 0 ≤ (if 4 = 2 + W then v else stM σ k 4) ∧ (if 4 = 2 + W then v else stM σ k 4) ≤ 9
              by_cases q : W = 2
              · rw [if_pos (by omega)]
                rw [q, if_pos (show nI 2 = (2 : Int32) from rfl)] at hmx
                rw [← hmx] at v2
                exact ⟨Int32.not_lt.mp v1, Int32.not_lt.mp v2⟩
              · rw [if_neg (by omega)]; exact b2
            · show 0 ≤ (if 5 = 2 + W then v else stM σ k 5) ∧ (if 5 = 2 + W then v else stM σ k 5) ≤ 999
              rw [if_neg (by omega)]; exact b3
            · show 0 ≤ (if 6 = 2 + W then v else stM σ k 6) ∧ (if 6 = 2 + W then v else stM σ k 6) ≤ 999
              rw [if_neg (by omega)]; exact b4
theorem same_told (m w : Int32) : Same (S8_told m w) (S9_told m w) := by
  intro n T t σ hI
  have hn := hI.n6
  by_cases hm : has01 n m = 0
  · refine same_rf hI (-5) ?_ ?_
    · unfold S8_told; rw [has8 hI.n8, bnd_s, if_pos hm]
    · unfold S9_told; rw [isMan9 hn hI.n9, bnd_s, if_pos hm]
  · obtain ⟨k, hk, rfl⟩ := has01_t hn hm
    by_cases hw : in01 w 0 6 = 0
    · refine same_rf hI (-7) ?_ ?_
      · unfold S8_told S8_told_24
        rw [has8 hI.n8, bnd_s, if_neg hm]
        rcases in01_f hw with q | q
        · rw [if_pos q]
        · by_cases q0 : w < 0
          · rw [if_pos q0]
          · rw [if_neg q0, if_neg (Int32.not_le.mpr q)]
      · unfold S9_told
        have q4 : in01 w 0 4 = 0 := by
          unfold in01
          rcases in01_f hw with q | q
          · rw [if_pos q]
          · by_cases q0 : w < 0
            · rw [if_pos q0]
            · rw [if_neg q0, if_pos (by grind)]
        have q5 : ¬ w = 5 := by rintro rfl; exact absurd hw (by decide)
        have q6 : ¬ w = 6 := by rintro rfl; exact absurd hw (by decide)
        rw [isMan9 hn hI.n9, bnd_s, if_neg hm, in9, bnd_s, if_pos q4, if_neg q5, if_neg q6]
    · obtain ⟨w1, w2⟩ := in01_t hw
      obtain ⟨W, rfl, hW⟩ := ex_nIc (a := w) (c := 6) (by omega) w1 w2
      have i5 : (5 : Int32) * nI k + nI W = nI (5 * k + W) := by rw [show (5 : Int32) = nI 5 from rfl, nI_mul, nI_add]
      have hmen := hI.men hk
      refine same_rf hI (if W = 5 then gI σ 76 k else if W = 6 then gI σ 77 k else gI σ 78 (5 * k + W)) ?_ ?_
      · unfold S8_told
        rw [has8 hI.n8, bnd_s, if_neg hm, if_neg w1, if_pos (Int32.not_lt.mp w2), man8 (by omega), bnd_s]
        unfold S7_tells
        match W, hW with
        | 0, _ => exact congrArg (fun x => some (x, σ)) (hmen 2 (by omega))
        | 1, _ => exact congrArg (fun x => some (x, σ)) (hmen 3 (by omega))
        | 2, _ => exact congrArg (fun x => some (x, σ)) (hmen 4 (by omega))
        | 3, _ => exact congrArg (fun x => some (x, σ)) (hmen 5 (by omega))
        | 4, _ => exact congrArg (fun x => some (x, σ)) (hmen 6 (by omega))
        | 5, _ => exact congrArg (fun x => some (x, σ)) (hmen 0 (by omega))
        | 6, _ => exact congrArg (fun x => some (x, σ)) (hmen 1 (by omega))
      · unfold S9_told
        rw [isMan9 hn hI.n9, bnd_s, if_neg hm, in9, bnd_s]
        by_cases q5 : W = 5
        · subst q5
          rw [if_pos (show in01 (nI 5) 0 4 = 0 by decide), if_pos (show nI 5 = (5 : Int32) from rfl), if_pos (inb_nI (by omega) (by omega)), nI_clamp (by omega), if_pos rfl]
        · by_cases q6 : W = 6
          · subst q6
            rw [if_pos (show in01 (nI 6) 0 4 = 0 by decide), if_neg (show ¬ nI 6 = (5 : Int32) by decide), if_pos (show nI 6 = (6 : Int32) from rfl), if_pos (inb_nI (by omega) (by omega)), nI_clamp (by omega), if_neg (by omega), if_pos rfl]
          · have hin : in01 (nI W) 0 4 = 1 := in01_1 w1 (show ¬ (4 : Int32) < nI W from nI_nlt (a := 4) (by omega) (by omega))
            rw [hin, if_neg (by decide), i5, if_pos (inb_nI (by omega) (by omega)), nI_clamp (by omega), if_neg q5, if_neg q6]
