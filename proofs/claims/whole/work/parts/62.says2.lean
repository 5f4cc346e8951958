/-! The class's way of reckoning a text: steps for codes. -/
def stp (c : Int32) : Int32 :=
  if 100000 ≤ c then c - 100000 else if c < 6 then -100 - c else if c = 11 then -109 else if c = 12 then -110 else if c = 13 then -111 else if c = 14 then -60 else if c = 15 then -61 else if c = 16 then -43 else if c = 17 then -45 else if c = 18 then -42 else -1
def env2 (σ : St) (w : Nat) (act his cell : Int32) (k : Nat) : Int32 := if k = 0 then gI σ w 2 else if k = 1 then gI σ w 3 else if k = 2 then act else if k = 3 then his else if k = 4 then cell else gI σ w 4
def clampF (p : Nat) (v : Int32) : Int32 := jmax (leastF p) (jmin (mostF p) v)
theorem stp_num {c : Int32} (h1 : 100000 ≤ c) (h2 : c ≤ 109999) : stp c = c - 100000 ∧ 0 ≤ stp c := by
  have e : stp c = c - 100000 := by unfold stp; rw [if_pos h1]
  rw [e]
  exact ⟨rfl, by grind⟩
theorem stp_name (k : Nat) (hk : k < 6) (σ : St) (w : Nat) (a h c : Int32) : ¬ 0 ≤ stp (nI k) ∧ stp (nI k) < 0 ∧ S2_isName (stp (nI k)) σ = some (1, σ) ∧ S2_named (-(stp (nI k))) w a h c σ = some (env2 σ w a h c k, σ) := by
  match k, hk with
  | 0, _ => exact ⟨by decide, by decide, rfl, rfl⟩
  | 1, _ => exact ⟨by decide, by decide, rfl, rfl⟩
  | 2, _ => exact ⟨by decide, by decide, rfl, rfl⟩
  | 3, _ => exact ⟨by decide, by decide, rfl, rfl⟩
  | 4, _ => exact ⟨by decide, by decide, rfl, rfl⟩
  | 5, _ => exact ⟨by decide, by decide, rfl, rfl⟩
theorem stp_un (k : Nat) (hk : k = 13 ∨ k = 19) (σ : St) (x : Int32) : ¬ 0 ≤ stp (nI k) ∧ S2_isName (stp (nI k)) σ = some (0, σ) ∧ (stp (nI k) = -1 ∨ stp (nI k) = -111) ∧ S2_turned (stp (nI k)) x σ = some (if k = 13 then (if x = 0 then 1 else 0) else -x, σ) := by
  rcases hk with rfl | rfl
  · refine ⟨by decide, rfl, by decide, ?_⟩
    unfold S2_turned
    rw [if_neg (by decide)]
    by_cases h : x = 0
    · rw [if_pos h, if_pos h]; rfl
    · rw [if_neg h, if_neg h]; rfl
  · exact ⟨by decide, rfl, by decide, rfl⟩
theorem join2 (n c : Int32) (x y : Int32) (σ : St) (h : (n, c) ∈ [((109 : Int32), (11 : Int32)), (110, 12), (60, 14), (61, 15), (43, 16), (45, 17), (42, 18)]) : S2_joined n x y σ = some (twoF c x y, σ) := by
  simp only [List.mem_cons, Prod.mk.injEq, List.not_mem_nil, or_false] at h
  rcases h with ⟨rfl, rfl⟩ | ⟨rfl, rfl⟩ | ⟨rfl, rfl⟩ | ⟨rfl, rfl⟩ | ⟨rfl, rfl⟩ | ⟨rfl, rfl⟩ | ⟨rfl, rfl⟩
  all_goals
    unfold S2_joined S2_joined_116 twoF
    simp (decide := true) only [if_true, if_false, ite_true, ite_false]
    repeat' split
    all_goals first | rfl | (exfalso; simp_all; done) | simp_all
theorem stp_bin (k : Nat) (h1 : 11 ≤ k) (h2 : k ≤ 18) (h3 : k ≠ 13) (σ : St) (x y : Int32) : ¬ 0 ≤ stp (nI k) ∧ S2_isName (stp (nI k)) σ = some (0, σ) ∧ ¬ stp (nI k) = -1 ∧ ¬ stp (nI k) = -111 ∧ S2_joined (-(stp (nI k))) x y σ = some (twoF (nI k) x y, σ) := by
  match k, h1, h2, h3 with
  | 11, _, _, _ => exact ⟨by decide, rfl, by decide, by decide, join2 _ _ _ _ _ (by decide)⟩
  | 12, _, _, _ => exact ⟨by decide, rfl, by decide, by decide, join2 _ _ _ _ _ (by decide)⟩
  | 14, _, _, _ => exact ⟨by decide, rfl, by decide, by decide, join2 _ _ _ _ _ (by decide)⟩
  | 15, _, _, _ => exact ⟨by decide, rfl, by decide, by decide, join2 _ _ _ _ _ (by decide)⟩
  | 16, _, _, _ => exact ⟨by decide, rfl, by decide, by decide, join2 _ _ _ _ _ (by decide)⟩
  | 17, _, _, _ => exact ⟨by decide, rfl, by decide, by decide, join2 _ _ _ _ _ (by decide)⟩
  | 18, _, _, _ => exact ⟨by decide, rfl, by decide, by decide, join2 _ _ _ _ _ (by decide)⟩
  | 13, _, _, h => exact absurd rfl h
  | k + 19, _, h, _ => exact absurd h (by omega)
/-- what a valid code is -/
theorem vc_cases {c : Int32} (h : vcB c = true) : (100000 ≤ c ∧ c ≤ 109999) ∨ (∃ k, c = nI k ∧ k < 6) ∨ ∃ k, c = nI k ∧ 11 ≤ k ∧ k ≤ 19 := by
  unfold vcB at h
  simp only [Bool.or_eq_true, Bool.and_eq_true, decide_eq_true_eq] at h
  rcases h with (h | h) | h
  · exact Or.inl h
  · obtain ⟨k, h1, h2⟩ := ex_nIc (a := c) (c := 5) (by omega) (by grind) (by have : nI 5 = 5 := rfl; rw [this]; grind)
    exact Or.inr (Or.inl ⟨k, h1, by omega⟩)
  · obtain ⟨k, h1, h2⟩ := ex_nIc (a := c) (c := 19) (by omega) (by grind) (by have : nI 19 = 19 := rfl; rw [this]; grind)
    refine Or.inr (Or.inr ⟨k, h1, ?_, h2⟩)
    have h3 := h.1
    rw [h1, show (11 : Int32) = nI 11 from rfl, nI_le_iff (by omega) (by omega)] at h3
    exact h3
theorem says2_loop {t p e o w : Nat} {act his cell : Int32} (hp : p < 3) (he : e ≤ 160) (ho : o + 1 ≠ 34) (hw : w ≠ 34) (ht : t < 6) : ∀ (d i n f : Nat) (σ : St), (∀ k, i ≤ k → k < e → gI σ (o + 1) k = stp (gI σ 80 (200 * t + k))) → i + d = e → n ≤ i → d < f → dep (cds σ t i d) n = some 1 →
    ∃ σ', S2_says_49 o (nI p) w act his cell f (nI n) (nI e) (nI i) σ = some (clampF p ((evC (env2 σ w act his cell) (cds σ t i d) (stk σ 34 n)).headD 0), σ') ∧ Fr (fun a _ => a = 34) noR σ σ' := by
  intro d
  induction d with
  | zero =>
    intro i n f σ hs hi hn hf hd
    obtain ⟨f, rfl⟩ : ∃ z, f = z + 1 := ⟨f - 1, by omega⟩
    have hi : i = e := hi
    have hd : n = 1 := Option.some.inj hd
    subst hd; subst hi
    refine ⟨σ, ?_, Fr.rf⟩
    show B2_says_49 _ _ _ _ _ _ _ _ _ _ σ = _
    unfold B2_says_49 S8_within
    have q : nI 1 - 1 = nI 0 := rfl
    rw [if_pos (nI_le (by omega) (by omega)), if_pos (show (1 : Int32) ≤ nI 1 by decide)]
    simp only [q, if_pos (inb_nI (show 0 < 160 by omega) (show 160 < 2 ^ 31 by omega)), if_pos (inb_nI hp (show 3 < 2 ^ 31 by omega)), nI_clamp (show 0 < 2 ^ 31 by omega), nI_clamp (show p < 2 ^ 31 by omega), bnd_s]
    rfl
  | succ d ih =>
    intro i n f σ hs hi hn hf hd
    obtain ⟨f, rfl⟩ : ∃ z, f = z + 1 := ⟨f - 1, by omega⟩
    have e3 : nI i + 1 = nI (i + 1) := (nI_succ i).symm
    have e4 : nI n + 1 = nI (n + 1) := (nI_succ n).symm
    show ∃ σ', B2_says_49 _ _ _ _ _ _ _ _ _ _ σ = _ ∧ _
    unfold B2_says_49
    rw [if_neg (nI_ge (by omega) (by omega)), if_pos (inb_nI (by omega) (by omega)), nI_clamp (show i < 2 ^ 31 by omega)]
    rw [hs i (Nat.le_refl _) (by omega)]
    show ∃ σ', _ = some (clampF p ((evC (env2 σ w act his cell) (cds σ t (i + 1) d) (evI (env2 σ w act his cell) (gI σ 80 (200 * t + i)) (stk σ 34 n))).headD 0), σ') ∧ _
    have hd' : dep (gI σ 80 (200 * t + i) :: cds σ t (i + 1) d) n = some 1 := hd
    generalize hc : gI σ 80 (200 * t + i) = c at hd' ⊢
    unfold dep at hd'
    have step : ∀ (k n' : Nat) (v : Int32), k < 160 → n' ≤ i + 1 → dep (cds σ t (i + 1) d) n' = some 1 → stk (sI σ 34 k v) 34 n' = evI (env2 σ w act his cell) c (stk σ 34 n) →
        ∃ σ', S2_says_49 o (nI p) w act his cell f (nI n') (nI e) (nI (i + 1)) (sI σ 34 k v) = some (clampF p ((evC (env2 σ w act his cell) (cds σ t (i + 1) d) (evI (env2 σ w act his cell) c (stk σ 34 n))).headD 0), σ') ∧ Fr (fun a _ => a = 34) noR σ σ' := by
      intro k n' v hk hn' hdd hst
      have hcd : cds (sI σ 34 k v) t (i + 1) d = cds σ t (i + 1) d := cds_eq t (fun b => by rw [gI_sI, if_neg (by omega)]) d (i + 1)
      have hev : env2 (sI σ 34 k v) w act his cell = env2 σ w act his cell := by
        funext z
        unfold env2
        simp only [gI_sI, if_neg (show ¬ (w = 34 ∧ (2 : Nat) = k) from fun q => hw q.1), if_neg (show ¬ (w = 34 ∧ (3 : Nat) = k) from fun q => hw q.1), if_neg (show ¬ (w = 34 ∧ (4 : Nat) = k) from fun q => hw q.1)]
      obtain ⟨σ', h1, h2⟩ := ih (i + 1) n' f (sI σ 34 k v) (fun z z1 z2 => by rw [gI_sI, if_neg (fun q => ho q.1), gI_sI, if_neg (by omega)]; exact hs z (by omega) z2) (by omega) hn' (by omega) (by rw [hcd]; exact hdd)
      refine ⟨σ', ?_, ((Fr.rf (T := fun a _ => a = 34) (U := noR)).sI v rfl).tr h2⟩
      rw [h1, hcd, hst, hev]
    have i160 : ∀ z, z < 160 → inb (nI z) 160 := fun z hz => inb_nI hz (by omega)
    have hn160 : n < 160 := by omega
    by_cases hv : vcB c = true
    · rw [if_pos hv] at hd'
      rcases vc_cases hv with ⟨h1, h1'⟩ | ⟨k, rfl, hk⟩ | ⟨k, rfl, hk, hk'⟩
      · -- a number
        rw [if_pos (Or.inl h1)] at hd'
        obtain ⟨s1, s2⟩ := stp_num h1 h1'
        rw [if_pos s2]
        unfold S2_says_78
        rw [if_neg (show ¬ (160 : Int32) ≤ nI n from nI_ge (a := n) (b := 160) hn160 (by omega)), if_neg (Int32.not_lt.mpr s2)]
        unfold S2_says_117 S2_says_209
        rw [if_pos (i160 n hn160), nI_clamp (show n < 2 ^ 31 by omega), e3, e4, s1]
        exact step n (n + 1) _ hn160 (by omega) hd' (by rw [stk_push]; unfold evI; rw [if_pos h1])
      · -- a name
        have g1 : ¬ (100000 : Int32) ≤ nI k := nI_ge (a := k) (b := 100000) (by omega) (by omega)
        have g2 : nI k < (11 : Int32) := nI_lt (a := k) (b := 11) (by omega) (by omega)
        rw [if_pos (Or.inr g2)] at hd'
        obtain ⟨s1, s2, s3, s4⟩ := stp_name k hk σ w act his cell
        rw [if_neg s1, s3, bnd_s, if_neg (by decide)]
        unfold S2_says_78
        rw [if_neg (show ¬ (160 : Int32) ≤ nI n from nI_ge (a := n) (b := 160) hn160 (by omega)), if_pos s2, s4, bnd_s]
        unfold S2_says_117 S2_says_209
        rw [if_pos (i160 n hn160), nI_clamp (show n < 2 ^ 31 by omega), e3, e4]
        exact step n (n + 1) _ hn160 (by omega) hd' (by rw [stk_push]; unfold evI; rw [if_neg g1, if_pos g2, nI_clamp (show k < 2 ^ 31 by omega)])
      · have g1 : ¬ (100000 : Int32) ≤ nI k := nI_ge (a := k) (b := 100000) (by omega) (by omega)
        have g2 : ¬ nI k < (11 : Int32) := nI_nlt (a := k) (b := 11) (by omega) (by omega)
        rw [if_neg (fun h => h.elim g1 g2)] at hd'
        by_cases h3 : k = 13 ∨ k = 19
        · rw [if_pos (by rcases h3 with rfl | rfl; exact Or.inl rfl; exact Or.inr rfl)] at hd'
          by_cases hn1 : 1 ≤ n
          · rw [if_pos hn1] at hd'
            obtain ⟨n, rfl⟩ : ∃ z, n = z + 1 := ⟨n - 1, by omega⟩
            obtain ⟨s1, s2, s3, s4⟩ := stp_un k h3 σ (gI σ 34 n)
            have q : nI (n + 1) - 1 = nI n := nI_pred2 (n := n + 1) (by omega)
            have key : ∃ σ', S2_says_137 o (nI p) w act his cell (S2_says_49 o (nI p) w act his cell f) (nI (n + 1)) (nI e) (nI i) (stp (nI k)) σ = some (clampF p ((evC (env2 σ w act his cell) (cds σ t (i + 1) d) (evI (env2 σ w act his cell) (nI k) (stk σ 34 (n + 1)))).headD 0), σ') ∧ Fr (fun a _ => a = 34) noR σ σ' := by
              unfold S2_says_137 S2_says_209
              rw [if_neg (show ¬ nI (n + 1) < (1 : Int32) from nI_nlt (a := n + 1) (b := 1) (by omega) (by omega))]
              simp only [q, if_pos (i160 n (by omega)), nI_clamp (show n < 2 ^ 31 by omega), s4, bnd_s, e3]
              refine step n (n + 1) _ (by omega) (by omega) hd' ?_
              rw [stk_push]
              unfold evI
              rw [if_neg g1, if_neg g2]
              rcases h3 with rfl | rfl
              · rw [if_pos rfl, if_pos (show nI 13 = 13 from rfl)]; rfl
              · rw [if_neg (show ¬ (19 : Nat) = 13 by omega), if_neg (show ¬ nI 19 = 13 by decide), if_pos (show nI 19 = 19 from rfl)]; rfl
            rw [if_neg s1, s2, bnd_s, if_pos rfl]
            by_cases s5 : stp (nI k) = -1
            · rw [if_pos s5]; exact key
            · rw [if_neg s5, if_pos (s3.resolve_left s5)]; exact key
          · rw [if_neg hn1] at hd'; cases hd'
        · have k13 : k ≠ 13 := fun q => h3 (Or.inl q)
          have k19 : k ≠ 19 := fun q => h3 (Or.inr q)
          have c13 : ¬ nI k = 13 := fun q => k13 ((nI_inj (a := k) (b := 13) (by omega) (by omega)).mp q)
          have c19 : ¬ nI k = 19 := fun q => k19 ((nI_inj (a := k) (b := 19) (by omega) (by omega)).mp q)
          rw [if_neg (fun h => h.elim c13 c19)] at hd'
          by_cases hn1 : 2 ≤ n
          · rw [if_pos hn1] at hd'
            obtain ⟨n, rfl⟩ : ∃ z, n = z + 2 := ⟨n - 2, by omega⟩
            obtain ⟨s1, s2, s3, s4, s5⟩ := stp_bin k hk (by omega) k13 σ (gI σ 34 n) (gI σ 34 (n + 1))
            have q1 : n + 2 - 1 = n + 1 := by omega
            have q2 : nI (n + 1) - 1 = nI n := nI_pred2 (n := n + 1) (by omega)
            have q3 : nI (n + 2) + (-1) = nI (n + 1) := nI_m1 (n := n + 2) (by omega)
            rw [if_neg s1, s2, bnd_s, if_pos rfl, if_neg s3, if_neg s4, if_neg (show ¬ nI (n + 2) < (2 : Int32) from nI_nlt (a := n + 2) (b := 2) (by omega) (by omega))]
            unfold S2_says_209
            simp only [q3, q2, if_pos (i160 n (by omega)), if_pos (i160 (n + 1) (by omega)), nI_clamp (show n < 2 ^ 31 by omega), nI_clamp (show n + 1 < 2 ^ 31 by omega), s5, bnd_s, e3]
            rw [q1] at hd'
            exact step n (n + 1) _ (by omega) (by omega) hd' (by rw [stk_push]; unfold evI; rw [if_neg g1, if_neg g2, if_neg c13, if_neg c19]; rfl)
          · rw [if_neg hn1] at hd'; cases hd'
    · rw [if_neg hv] at hd'; cases hd'
