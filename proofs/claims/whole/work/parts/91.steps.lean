/-! The reference's machine, token by token. -/
def fE (t a k : Nat) : Prop := (a = 75 ∧ 18 ≤ k ∧ k ≤ 26) ∨ a = 89 ∨ (a = 80 ∧ 200 * t ≤ k ∧ k < 200 * t + 200)
theorem fU_E {t : Nat} {σ σ' : St} (h : Fr (fU t) noR σ σ') : Fr (fE t) noR σ σ' := h.mo (fun a k z => by unfold fU at z; unfold fE; omega) (fun _ _ z => z)
theorem lxR_E {t : Nat} {σ σ' : St} (h : Fr lxR noR σ σ') : Fr (fE t) noR σ σ' := h.mo (fun a k z => by unfold lxR at z; unfold fE; omega) (fun _ _ z => z)
theorem tK_b {b : Nat → Nat} {s : Nat} (hb : ∀ k, k < s → b k ≤ 255) (j : Nat) : tK b s j ≤ 255 := by
  unfold tK kd
  by_cases q1 : s ≤ pL b s j
  · rw [if_pos q1]; omega
  · rw [if_neg q1]
    by_cases q2 : isLe (b (pL b s j)) = true
    · rw [if_pos q2]
      have : wk b (pL b s j) (endR isLe b s (pL b s j) - pL b s j) ≤ 12 := by
        rcases wk_s b (pL b s j) (endR isLe b s (pL b s j) - pL b s j) with ⟨z, -⟩ | ⟨z, -⟩ <;> omega
      unfold kw
      split
      · omega
      · split
        · omega
        · split <;> omega
    · rw [if_neg q2]
      by_cases q3 : isDg (b (pL b s j)) = true
      · rw [if_pos q3]; split <;> omega
      · rw [if_neg q3]
        by_cases q4 : isSg (b (pL b s j)) = true
        · rw [if_pos q4]; exact hb _ (by omega)
        · rw [if_neg q4]; omega
theorem rtk_eq {K n : Nat} (hK : K ≤ 255) (hn : n ≤ 255) (h7 : n ≠ 7) : rtk K = nI n ↔ K = n := by
  unfold rtk
  by_cases q : K = 7
  · rw [if_pos q]
    exact ⟨fun h => absurd (nI_pos' (n := n) (by omega)) (by rw [← h]; decide), fun h => absurd (h.symm.trans q) h7⟩
  · rw [if_neg q]; exact nI_inj (by omega) (by omega)
def sgn (K : Nat) : Nat := if K = 4 then 11 else if K = 5 then 12 else if K = 60 then 14 else if K = 61 then 15 else if K = 43 then 16 else if K = 45 then 17 else 18
def opK (K : Nat) : Prop := K = 4 ∨ K = 5 ∨ K = 60 ∨ K = 61 ∨ K = 43 ∨ K = 45 ∨ K = 42
def lvK (K : Nat) : Nat := if rkN (sgn K) = 4 then 5 else rkN (sgn K)
theorem sgn_b (K : Nat) : 11 ≤ sgn K ∧ sgn K ≤ 18 ∧ sgn K ≠ 13 := by
  unfold sgn
  split
  · omega
  · split
    · omega
    · split
      · omega
      · split
        · omega
        · split
          · omega
          · split <;> omega
theorem lvK_b (K : Nat) : 1 ≤ lvK K ∧ lvK K ≤ 7 := by
  obtain ⟨h1, h2, h3⟩ := sgn_b K
  have : ∀ c, 11 ≤ c → c ≤ 18 → c ≠ 13 → 1 ≤ (if rkN c = 4 then 5 else rkN c) ∧ (if rkN c = 4 then 5 else rkN c) ≤ 7 := by
    intro c c1 c2 c3
    have : c = 11 ∨ c = 12 ∨ c = 14 ∨ c = 15 ∨ c = 16 ∨ c = 17 ∨ c = 18 := by omega
    rcases this with rfl | rfl | rfl | rfl | rfl | rfl | rfl <;> decide
  exact this _ h1 h2 h3
section EM
variable {b : Nat → Nat} {s t : Nat}
theorem nextM (hs : s ≤ 160) (hb : ∀ k, k < s → b k ≤ 255) {H : List Nat} {out : List Int32} {j : Nat} {σ : St} (h : RM b s t H out j σ) : ∃ σ1, S9_next σ = some ((), σ1) ∧ RM b s t H out (j + 1) σ1 ∧ rdT b s j σ1 ∧ Fr (fE t) noR σ σ1 := by
  obtain ⟨h1, h2, h3⟩ := h
  obtain ⟨σ1, g, r, f⟩ := next9 hs hb h1 h3
  exact ⟨σ1, g, ⟨h1.fr (fun x y z => f.1 x y (by unfold lxR; omega)), h2.fr (fun a k z => f.1 a k (by unfold lxR; omega)), r.1⟩, r, lxR_E f⟩
/-- behind signs and codes -/
theorem RM.up {H H' : List Nat} {out out' : List Int32} {j : Nat} {σ σ' : St} (h : RM b s t H out j σ) (h2 : RSx t H' (cnt3 H') out' σ') (f : Fr (fU t) noR σ σ') : RM b s t H' out' j σ' := ⟨h.1.fr (fun x y z => f.1 x y (by unfold fU; omega)), h2, (f.1 75 18 (by unfold fU; omega)).trans h.2.2⟩
theorem eW_num (hs : s ≤ 160) (hb : ∀ k, k < s → b k ≤ 255) {H : List Nat} {out : List Int32} {j : Nat} {σ : St} (h : RM b s t H out j σ) (hl : out.length + H.length ≤ 160) (mn : Int32) (hK : tK b s j = 1 ∨ tK b s j = 2) : ∃ σ', (∀ f, S9_eRead_14 (f + 1) 1 mn σ = S9_eRead_14 f 0 mn σ') ∧ RM b s t (unw 7 H (out ++ [if tK b s j = 1 then 100000 + nI (tV b s j) else nI (tV b s j)])).1 (unw 7 H (out ++ [if tK b s j = 1 then 100000 + nI (tV b s j) else nI (tV b s j)])).2 (j + 1) σ' ∧ Fr (fE t) noR σ σ' := by
  obtain ⟨σ1, g1, R1, ⟨-, -, r20, r21⟩, f1⟩ := nextM hs hb h
  have hKb := tK_b hb j
  generalize hc : (if tK b s j = 1 then (100000 : Int32) + nI (tV b s j) else nI (tV b s j)) = c
  obtain ⟨σ2, g2, S2, f2⟩ := puts9 R1.2.1 (by omega) c
  obtain ⟨σ3, g3, S3, f3⟩ := unwinds9w (l := 7) (by omega) (by omega) S2 (by simp only [List.length_append, List.length_cons, List.length_nil]; omega)
  refine ⟨σ3, fun f => ?_, R1.up S3 (f2.tr f3), (f1.tr (fU_E f2)).tr (fU_E f3)⟩
  show B9_eRead_14 _ _ _ σ = _
  unfold B9_eRead_14 S9_eRead_38 S9_eRead_61
  rw [g1, bnd_s, if_neg (by decide), r20, r21 (by omega)]
  rcases hK with y | y
  · rw [if_pos y] at hc
    rw [if_pos (show rtk (tK b s j) = (1 : Int32) from (rtk_eq hKb (n := 1) (by omega) (by omega)).mpr y), if_pos (show rtk (tK b s j) = (1 : Int32) from (rtk_eq hKb (n := 1) (by omega) (by omega)).mpr y), hc, g2, bnd_s, show S9_unwinds (7 : Int32) σ2 = _ from g3, bnd_s]
  · rw [if_neg (by omega)] at hc
    have n1 : ¬ rtk (tK b s j) = (1 : Int32) := fun z => absurd ((rtk_eq hKb (n := 1) (by omega) (by omega)).mp z) (by omega)
    rw [if_neg n1, if_pos (show rtk (tK b s j) = (2 : Int32) from (rtk_eq hKb (n := 2) (by omega) (by omega)).mpr y), if_neg n1, hc, g2, bnd_s, show S9_unwinds (7 : Int32) σ2 = _ from g3, bnd_s]
theorem opens9 {H : List Nat} {out : List Int32} {σ : St} (h : RSx t H (cnt3 H) out σ) (hl : H.length < 200) {c : Nat} (hc : c = 0 ∨ c = 13 ∨ c = 19) : (cnt3 H = 5 → S9_opensOne (nI c) σ = some (0, σ)) ∧ (¬ cnt3 H = 5 → ∃ σ', S9_opensOne (nI c) σ = some (1, σ') ∧ RSx t (c :: H) (cnt3 (c :: H)) out σ' ∧ Fr (fU t) noR σ σ') := by
  have h25 := h.2.2.1
  have hcb := cnt3_b H
  constructor
  · intro y
    unfold S9_opensOne
    rw [h25, y, if_pos (show nI 5 = (5 : Int32) from rfl)]
  · intro y
    have e : cnt3 (c :: H) = cnt3 H + 1 := by
      show (if c = 0 ∨ c = 13 ∨ c = 19 then 1 else 0) + cnt3 H = _
      rw [if_pos hc]; omega
    have h' := h.opn (o' := cnt3 H + 1)
    obtain ⟨σ', g, S1, f1⟩ := holds9 h' hl (show c < 20 by omega)
    refine ⟨σ', ?_, by rw [e]; exact S1, (Fr.rf.sI _ (by unfold fU; omega)).tr f1⟩
    unfold S9_opensOne
    rw [h25, if_neg (show ¬ nI (cnt3 H) = (5 : Int32) from fun z => y ((nI_inj (b := 5) (by omega) (by omega)).mp z)), nI_1, g, bnd_s]
theorem eW_open (hs : s ≤ 160) (hb : ∀ k, k < s → b k ≤ 255) {H : List Nat} {out : List Int32} {j : Nat} {σ : St} (h : RM b s t H out j σ) (hl : out.length + H.length ≤ 160) {mn mn' : Int32} {c : Nat} (hK : (tK b s j = 45 ∧ c = 19 ∧ mn' = 0) ∨ (tK b s j = 40 ∧ c = 0 ∧ mn' = 1) ∨ (tK b s j = 6 ∧ mn = 1 ∧ c = 13 ∧ mn' = 1)) : (cnt3 H = 5 → ∃ σ', (∀ f, S9_eRead_14 (f + 1) 1 mn σ = some (0, σ')) ∧ gI σ' 75 19 = nI (pL b s j) ∧ Fr (fE t) noR σ σ') ∧ (¬ cnt3 H = 5 → ∃ σ', (∀ f, S9_eRead_14 (f + 1) 1 mn σ = S9_eRead_14 f 1 mn' σ') ∧ RM b s t (c :: H) out (j + 1) σ' ∧ Fr (fE t) noR σ σ') := by
  obtain ⟨σ1, g1, R1, ⟨-, r19, r20, -⟩, f1⟩ := nextM hs hb h
  have hKb := tK_b hb j
  have hc : c = 0 ∨ c = 13 ∨ c = 19 := by omega
  obtain ⟨o1, o2⟩ := opens9 R1.2.1 (by omega) hc
  have n : ∀ m : Nat, m ≤ 255 → m ≠ 7 → tK b s j ≠ m → ¬ rtk (tK b s j) = nI m := fun m h1 h2 h3 z => h3 ((rtk_eq hKb h1 h2).mp z)
  have p : ∀ m : Nat, m ≤ 255 → m ≠ 7 → tK b s j = m → rtk (tK b s j) = nI m := fun m h1 h2 h3 => (rtk_eq hKb h1 h2).mpr h3
  -- all ways lead to opensOne
  have way : ∀ f, S9_eRead_14 (f + 1) 1 mn σ = bnd (S9_opensOne (nI c) σ1) fun r τ => if r = 0 then some (0, τ) else S9_eRead_14 f 1 mn' τ := by
    intro f
    show B9_eRead_14 _ _ _ σ = _
    unfold B9_eRead_14 S9_eRead_99
    rw [g1, bnd_s, if_neg (by decide), r20]
    rcases hK with ⟨y, rfl, rfl⟩ | ⟨y, rfl, rfl⟩ | ⟨y, rfl, rfl, rfl⟩
    · rw [if_neg (show ¬ rtk (tK b s j) = (1 : Int32) from n 1 (by omega) (by omega) (by omega)), if_neg (show ¬ rtk (tK b s j) = (2 : Int32) from n 2 (by omega) (by omega) (by omega)), if_neg (show ¬ rtk (tK b s j) = (6 : Int32) from n 6 (by omega) (by omega) (by omega)), if_pos (show rtk (tK b s j) = (45 : Int32) from p 45 (by omega) (by omega) y)]
      rfl
    · rw [if_neg (show ¬ rtk (tK b s j) = (1 : Int32) from n 1 (by omega) (by omega) (by omega)), if_neg (show ¬ rtk (tK b s j) = (2 : Int32) from n 2 (by omega) (by omega) (by omega)), if_neg (show ¬ rtk (tK b s j) = (6 : Int32) from n 6 (by omega) (by omega) (by omega)), if_neg (show ¬ rtk (tK b s j) = (45 : Int32) from n 45 (by omega) (by omega) (by omega)), if_pos (show rtk (tK b s j) = (40 : Int32) from p 40 (by omega) (by omega) y)]
      rfl
    · rw [if_neg (show ¬ rtk (tK b s j) = (1 : Int32) from n 1 (by omega) (by omega) (by omega)), if_neg (show ¬ rtk (tK b s j) = (2 : Int32) from n 2 (by omega) (by omega) (by omega)), if_pos (show rtk (tK b s j) = (6 : Int32) from p 6 (by omega) (by omega) y), if_neg (by decide)]
      rfl
  constructor
  · intro y
    refine ⟨σ1, fun f => ?_, r19, f1⟩
    rw [way f, o1 y, bnd_s, if_pos rfl]
  · intro y
    obtain ⟨σ2, g2, S2, f2⟩ := o2 y
    refine ⟨σ2, fun f => ?_, R1.up S2 f2, f1.tr (fU_E f2)⟩
    rw [way f, g2, bnd_s, if_neg (by decide)]
theorem eW_bad (hs : s ≤ 160) (hb : ∀ k, k < s → b k ≤ 255) {H : List Nat} {out : List Int32} {j : Nat} {σ : St} (h : RM b s t H out j σ) {mn : Int32} (h1 : tK b s j ≠ 1) (h2 : tK b s j ≠ 2) (h3 : tK b s j ≠ 45) (h4 : tK b s j ≠ 40) (h5 : tK b s j = 6 → mn = 0) : ∃ σ', (∀ f, S9_eRead_14 (f + 1) 1 mn σ = some (0, σ')) ∧ gI σ' 75 19 = nI (pL b s j) ∧ Fr (fE t) noR σ σ' := by
  obtain ⟨σ1, g1, R1, ⟨-, r19, r20, -⟩, f1⟩ := nextM hs hb h
  have hKb := tK_b hb j
  have n : ∀ m : Nat, m ≤ 255 → m ≠ 7 → tK b s j ≠ m → ¬ rtk (tK b s j) = nI m := fun m h1 h2 h3 z => h3 ((rtk_eq hKb h1 h2).mp z)
  refine ⟨σ1, fun f => ?_, r19, f1⟩
  have e99 : S9_eRead_99 (S9_eRead_14 f) 1 σ1 = some (0, σ1) := by
    unfold S9_eRead_99
    rw [r20, if_neg (show ¬ rtk (tK b s j) = (45 : Int32) from n 45 (by omega) (by omega) h3), if_neg (show ¬ rtk (tK b s j) = (40 : Int32) from n 40 (by omega) (by omega) h4)]
  show B9_eRead_14 _ _ _ σ = _
  unfold B9_eRead_14
  rw [g1, bnd_s, if_neg (by decide), e99, r20, if_neg (show ¬ rtk (tK b s j) = (1 : Int32) from n 1 (by omega) (by omega) h1), if_neg (show ¬ rtk (tK b s j) = (2 : Int32) from n 2 (by omega) (by omega) h2)]
  by_cases y : tK b s j = 6
  · rw [if_pos (show rtk (tK b s j) = (6 : Int32) from (rtk_eq hKb (n := 6) (by omega) (by omega)).mpr y), h5 y, if_pos rfl]
  · rw [if_neg (show ¬ rtk (tK b s j) = (6 : Int32) from n 6 (by omega) (by omega) y)]
theorem between9 {H : List Nat} {out : List Int32} {σ : St} (h : RSx t H (cnt3 H) out σ) (hl : out.length + H.length ≤ 160) (K : Nat) : (rkN (sgn K) = 4 → (∃ x H', (unw (lvK K) H out).1 = x :: H' ∧ rkN x = 4) → ∃ σ', S9_between (nI (sgn K)) σ = some (0, σ') ∧ Fr (fU t) noR σ σ') ∧ (¬ (rkN (sgn K) = 4 ∧ ∃ x H', (unw (lvK K) H out).1 = x :: H' ∧ rkN x = 4) → ∃ σ', S9_between (nI (sgn K)) σ = some (1, σ') ∧ RSx t (sgn K :: (unw (lvK K) H out).1) (cnt3 (sgn K :: (unw (lvK K) H out).1)) (unw (lvK K) H out).2 σ' ∧ Fr (fU t) noR σ σ') := by
  obtain ⟨s1, s2, s3⟩ := sgn_b K
  obtain ⟨l1, l2⟩ := lvK_b K
  have hrb := rkN_b (sgn K) (by omega)
  obtain ⟨σ1, g1, S1, f1⟩ := unwinds9w l1 l2 h (by omega)
  have hlen := unw_len (lvK K) H out
  have eb : S9_between (nI (sgn K)) σ = S9_between_17 (nI (sgn K)) (nI (lvK K)) σ := by
    unfold S9_between lvK
    rw [rank9 _ (by omega), bnd_s]
    by_cases y : rkN (sgn K) = 4
    · rw [y, if_pos (show nI 4 = (4 : Int32) from rfl), if_pos rfl]; rfl
    · rw [if_neg (show ¬ nI (rkN (sgn K)) = (4 : Int32) from fun z => y ((nI_inj (b := 4) (by omega) (by omega)).mp z)), rank9 _ (by omega), bnd_s, if_neg y]
  generalize (unw (lvK K) H out).1 = H1 at S1 hlen ⊢
  generalize (unw (lvK K) H out).2 = out1 at S1 hlen ⊢
  obtain ⟨σ2, g2, S2, f2⟩ := holds9 S1 (show H1.length < 200 by omega) (show sgn K < 20 by omega)
  have ec : cnt3 (sgn K :: H1) = cnt3 H1 := by
    show (if sgn K = 0 ∨ sgn K = 13 ∨ sgn K = 19 then 1 else 0) + cnt3 H1 = _
    rw [if_neg (by omega), Nat.zero_add]
  have e55 : S9_between_55 (nI (sgn K)) σ1 = some (1, σ2) := by
    unfold S9_between_55
    rw [g2, bnd_s]
  rw [eb]
  unfold S9_between_17
  rw [g1, bnd_s, rank9 _ (by omega), bnd_s, e55, S1.2.1.1]
  constructor
  · rintro y ⟨x, H', rfl, hx⟩
    refine ⟨σ1, ?_, f1⟩
    have hx20 := S1.2.1.2.2 x (List.mem_cons_self ..)
    have hlen' : out1.length + (H'.length + 1) = out.length + H.length := hlen
    have em : nI (x :: H').length - 1 = nI H'.length := nI_pred _
    rw [y, if_pos (show nI 4 = (4 : Int32) from rfl), if_neg (show ¬ nI (x :: H').length ≤ 0 from nI_nle (by show 0 < H'.length + 1; omega) (by show H'.length + 1 < 2 ^ 31; omega)), em]
    simp only [if_pos (inb_nI (show H'.length < 200 by omega) (show 200 < 2 ^ 31 by omega)), nI_clamp (show H'.length < 2 ^ 31 by omega)]
    rw [S1.2.1.2.1.1, rank9 x hx20, bnd_s, hx, if_pos (show nI 4 = (4 : Int32) from rfl)]
  · intro hno
    refine ⟨σ2, ?_, by rw [ec]; exact S2, f1.tr f2⟩
    by_cases y : rkN (sgn K) = 4
    · rw [y, if_pos (show nI 4 = (4 : Int32) from rfl)]
      cases H1 with
      | nil => rw [if_pos (show nI ([] : List Nat).length ≤ 0 by decide)]
      | cons x H' =>
        have hx20 := S1.2.1.2.2 x (List.mem_cons_self ..)
        have hlen' : out1.length + (H'.length + 1) = out.length + H.length := hlen
        have em : nI (x :: H').length - 1 = nI H'.length := nI_pred _
        have hx : ¬ rkN x = 4 := fun z => hno ⟨y, x, H', rfl, z⟩
        have hxb := rkN_b x hx20
        rw [if_neg (show ¬ nI (x :: H').length ≤ 0 from nI_nle (by show 0 < H'.length + 1; omega) (by show H'.length + 1 < 2 ^ 31; omega)), em]
        simp only [if_pos (inb_nI (show H'.length < 200 by omega) (show 200 < 2 ^ 31 by omega)), nI_clamp (show H'.length < 2 ^ 31 by omega)]
        rw [S1.2.1.2.1.1, rank9 x hx20, bnd_s, if_neg (show ¬ nI (rkN x) = (4 : Int32) from fun z => hx ((nI_inj (b := 4) (by omega) (by omega)).mp z))]
        exact e55
    · rw [if_neg (show ¬ nI (rkN (sgn K)) = (4 : Int32) from fun z => y ((nI_inj (b := 4) (by omega) (by omega)).mp z))]
theorem signOf9 {K : Nat} (hKb : K ≤ 255) {σ : St} (h : gI σ 75 20 = rtk K) : (opK K → S9_signOf σ = some (nI (sgn K), σ)) ∧ (¬ opK K → S9_signOf σ = some (-1, σ)) := by
  have n : ∀ m : Nat, m ≤ 255 → m ≠ 7 → K ≠ m → ¬ rtk K = nI m := fun m h1 h2 h3 z => h3 ((rtk_eq hKb h1 h2).mp z)
  unfold S9_signOf
  rw [h]
  constructor
  · intro y
    rcases y with rfl | rfl | rfl | rfl | rfl | rfl | rfl <;> rfl
  · intro y
    have hh : K ≠ 4 ∧ K ≠ 5 ∧ K ≠ 60 ∧ K ≠ 61 ∧ K ≠ 43 ∧ K ≠ 45 ∧ K ≠ 42 := by
      unfold opK at y
      omega
    obtain ⟨h1, h2, h3, h4, h5, h6, h7⟩ := hh
    rw [if_neg (show ¬ rtk K = (4 : Int32) from n 4 (by omega) (by omega) h1), if_neg (show ¬ rtk K = (5 : Int32) from n 5 (by omega) (by omega) h2), if_neg (show ¬ rtk K = (60 : Int32) from n 60 (by omega) (by omega) h3), if_neg (show ¬ rtk K = (61 : Int32) from n 61 (by omega) (by omega) h4), if_neg (show ¬ rtk K = (43 : Int32) from n 43 (by omega) (by omega) h5), if_neg (show ¬ rtk K = (45 : Int32) from n 45 (by omega) (by omega) h6), if_neg (show ¬ rtk K = (42 : Int32) from n 42 (by omega) (by omega) h7)]
theorem eN_op (hs : s ≤ 160) (hb : ∀ k, k < s → b k ≤ 255) {H : List Nat} {out : List Int32} {j : Nat} {σ : St} (h : RM b s t H out j σ) (hl : out.length + H.length ≤ 160) (mn : Int32) (hK : opK (tK b s j)) : (rkN (sgn (tK b s j)) = 4 → (∃ x H', (unw (lvK (tK b s j)) H out).1 = x :: H' ∧ rkN x = 4) → ∃ σ', (∀ f, S9_eRead_14 (f + 1) 0 mn σ = some (0, σ')) ∧ gI σ' 75 19 = nI (pL b s j) ∧ Fr (fE t) noR σ σ') ∧ (¬ (rkN (sgn (tK b s j)) = 4 ∧ ∃ x H', (unw (lvK (tK b s j)) H out).1 = x :: H' ∧ rkN x = 4) → ∃ σ', (∀ f, S9_eRead_14 (f + 1) 0 mn σ = S9_eRead_14 f 1 (if sgn (tK b s j) ≤ 12 then 1 else 0) σ') ∧ RM b s t (sgn (tK b s j) :: (unw (lvK (tK b s j)) H out).1) (unw (lvK (tK b s j)) H out).2 (j + 1) σ' ∧ Fr (fE t) noR σ σ') := by
  obtain ⟨σ1, g1, R1, ⟨-, r19, r20, -⟩, f1⟩ := nextM hs hb h
  have hKb := tK_b hb j
  have sg := (signOf9 hKb r20).1 hK
  obtain ⟨b1, b2, b3⟩ := sgn_b (tK b s j)
  have n59 : ¬ rtk (tK b s j) = (59 : Int32) := fun z => by
    have := (rtk_eq hKb (n := 59) (by omega) (by omega)).mp z
    unfold opK at hK; omega
  have n41 : ¬ rtk (tK b s j) = (41 : Int32) := fun z => by
    have := (rtk_eq hKb (n := 41) (by omega) (by omega)).mp z
    unfold opK at hK; omega
  obtain ⟨t1, t2⟩ := between9 R1.2.1 hl (tK b s j)
  have nm : ¬ nI (sgn (tK b s j)) = -1 := fun z => absurd (nI_pos' (n := sgn (tK b s j)) (by omega)) (by rw [z]; decide)
  have way : ∀ f, S9_eRead_14 (f + 1) 0 mn σ = bnd (S9_between (nI (sgn (tK b s j))) σ1) fun r τ => if r = 0 then some (0, τ) else S9_eRead_14 f 1 (if sgn (tK b s j) ≤ 12 then 1 else 0) τ := by
    intro f
    show B9_eRead_14 _ _ _ σ = _
    unfold B9_eRead_14 S9_eRead_262
    rw [g1, bnd_s, if_pos rfl, r20, if_neg n59, if_neg n41, sg, bnd_s, if_neg nm]
    congr 1
    funext r τ
    by_cases y : r = 0
    · rw [if_pos y, if_pos y]
    · rw [if_neg y, if_neg y]
      by_cases z : sgn (tK b s j) ≤ 12
      · rw [if_neg (show ¬ (12 : Int32) < nI (sgn (tK b s j)) from nI_nlt (a := 12) z (by omega)), if_pos z]
      · rw [if_pos (show (12 : Int32) < nI (sgn (tK b s j)) from nI_lt (a := 12) (by omega) (by omega)), if_neg z]
  constructor
  · intro y1 y2
    obtain ⟨σ2, g2, f2⟩ := t1 y1 y2
    refine ⟨σ2, fun f => ?_, (f2.1 75 19 (by unfold fU; omega)).trans r19, f1.tr (fU_E f2)⟩
    rw [way f, g2, bnd_s, if_pos rfl]
  · intro y
    obtain ⟨σ2, g2, S2, f2⟩ := t2 y
    refine ⟨σ2, fun f => ?_, R1.up S2 f2, f1.tr (fU_E f2)⟩
    rw [way f, g2, bnd_s, if_neg (by decide)]
theorem eN_bad (hs : s ≤ 160) (hb : ∀ k, k < s → b k ≤ 255) {H : List Nat} {out : List Int32} {j : Nat} {σ : St} (h : RM b s t H out j σ) (mn : Int32) (h1 : tK b s j ≠ 59) (h2 : tK b s j ≠ 41) (h3 : ¬ opK (tK b s j)) : ∃ σ', (∀ f, S9_eRead_14 (f + 1) 0 mn σ = some (0, σ')) ∧ gI σ' 75 19 = nI (pL b s j) ∧ Fr (fE t) noR σ σ' := by
  obtain ⟨σ1, g1, R1, ⟨-, r19, r20, -⟩, f1⟩ := nextM hs hb h
  have hKb := tK_b hb j
  have n : ∀ m : Nat, m ≤ 255 → m ≠ 7 → tK b s j ≠ m → ¬ rtk (tK b s j) = nI m := fun m h1 h2 h3 z => h3 ((rtk_eq hKb h1 h2).mp z)
  refine ⟨σ1, fun f => ?_, r19, f1⟩
  show B9_eRead_14 _ _ _ σ = _
  unfold B9_eRead_14
  rw [g1, bnd_s, if_pos rfl, r20, if_neg (show ¬ rtk (tK b s j) = (59 : Int32) from n 59 (by omega) (by omega) h1), if_neg (show ¬ rtk (tK b s j) = (41 : Int32) from n 41 (by omega) (by omega) h2), (signOf9 hKb r20).2 h3, bnd_s, if_pos rfl]
theorem eN_semi (hs : s ≤ 160) (hb : ∀ k, k < s → b k ≤ 255) {H : List Nat} {out : List Int32} {j : Nat} {σ : St} (h : RM b s t H out j σ) (hl : out.length + H.length ≤ 160) (mn : Int32) (h1 : tK b s j = 59) : ∃ σ', (∀ f, S9_eRead_14 (f + 1) 0 mn σ = some (if (unw 1 H out).1 = [] then 1 else 0, σ')) ∧ RM b s t (unw 1 H out).1 (unw 1 H out).2 (j + 1) σ' ∧ gI σ' 75 19 = nI (pL b s j) ∧ Fr (fE t) noR σ σ' := by
  obtain ⟨σ1, g1, R1, ⟨-, r19, r20, -⟩, f1⟩ := nextM hs hb h
  have hKb := tK_b hb j
  obtain ⟨σ2, g2, S2, f2⟩ := unwinds9w (l := 1) (by omega) (by omega) R1.2.1 (by omega)
  have hlen := unw_len 1 H out
  refine ⟨σ2, fun f => ?_, R1.up S2 f2, (f2.1 75 19 (by unfold fU; omega)).trans r19, f1.tr (fU_E f2)⟩
  show B9_eRead_14 _ _ _ σ = _
  unfold B9_eRead_14
  rw [g1, bnd_s, if_pos rfl, r20, if_pos (show rtk (tK b s j) = (59 : Int32) from (rtk_eq hKb (n := 59) (by omega) (by omega)).mpr h1), show S9_unwinds (1 : Int32) σ1 = _ from g2, bnd_s, S2.2.1.1]
  generalize (unw 1 H out).1 = H1 at hlen ⊢
  cases H1 with
  | nil => rw [if_pos (show nI ([] : List Nat).length = 0 from rfl), if_pos rfl]
  | cons x H' =>
    have hlen' : (unw 1 H out).2.length + (H'.length + 1) = out.length + H.length := hlen
    rw [if_neg (show ¬ nI (x :: H').length = 0 from nI_ne0 (by show 0 < H'.length + 1; omega) (by show H'.length + 1 < 2 ^ 31; omega)), if_neg (by intro z; cases z)]
theorem eN_close (hs : s ≤ 160) (hb : ∀ k, k < s → b k ≤ 255) {H : List Nat} {out : List Int32} {j : Nat} {σ : St} (h : RM b s t H out j σ) (hl : out.length + H.length ≤ 160) (mn : Int32) (h1 : tK b s j = 41) : ((unw 1 H out).1 = [] → ∃ σ', (∀ f, S9_eRead_14 (f + 1) 0 mn σ = some (0, σ')) ∧ gI σ' 75 19 = nI (pL b s j) ∧ Fr (fE t) noR σ σ') ∧ (∀ H', (unw 1 H out).1 = 0 :: H' → ∃ σ', (∀ f, S9_eRead_14 (f + 1) 0 mn σ = S9_eRead_14 f 0 mn σ') ∧ RM b s t (unw 7 H' (unw 1 H out).2).1 (unw 7 H' (unw 1 H out).2).2 (j + 1) σ' ∧ Fr (fE t) noR σ σ') := by
  obtain ⟨σ1, g1, R1, ⟨-, r19, r20, -⟩, f1⟩ := nextM hs hb h
  have hKb := tK_b hb j
  obtain ⟨σ2, g2, S2, f2⟩ := unwinds9w (l := 1) (by omega) (by omega) R1.2.1 (by omega)
  have hlen := unw_len 1 H out
  have R2 := R1.up S2 f2
  have n59 : ¬ rtk (tK b s j) = (59 : Int32) := fun z => absurd ((rtk_eq hKb (n := 59) (by omega) (by omega)).mp z) (by omega)
  have way : ∀ f, S9_eRead_14 (f + 1) 0 mn σ = if gI σ2 75 24 = 0 then some (0, σ2) else bnd (S9_unwinds (7 : Int32) (sI (sI σ2 75 24 (gI σ2 75 24 - 1)) 75 25 (gI (sI σ2 75 24 (gI σ2 75 24 - 1)) 75 25 - 1))) fun _ τ => S9_eRead_14 f 0 mn τ := by
    intro f
    show B9_eRead_14 _ _ _ σ = _
    unfold B9_eRead_14
    rw [g1, bnd_s, if_pos rfl, r20, if_neg n59, if_pos (show rtk (tK b s j) = (41 : Int32) from (rtk_eq hKb (n := 41) (by omega) (by omega)).mpr h1), show S9_unwinds (1 : Int32) σ1 = _ from g2, bnd_s]
  constructor
  · intro y
    rw [y] at S2
    refine ⟨σ2, fun f => ?_, (f2.1 75 19 (by unfold fU; omega)).trans r19, f1.tr (fU_E f2)⟩
    rw [way f, S2.2.1.1, if_pos (show nI ([] : List Nat).length = 0 from rfl)]
  · intro H' y
    rw [y] at S2 hlen
    have hlen' : (unw 1 H out).2.length + (H'.length + 1) = out.length + H.length := hlen
    obtain ⟨p1, p2, p3⟩ := pop9 S2 (by omega)
    have e24 : gI σ2 75 24 - 1 = nI H'.length := by rw [p1, nI_pred]
    have hcn := cnt3_b H'
    have e25 : gI (sI σ2 75 24 (nI H'.length)) 75 25 - 1 = nI (cnt3 H') := by
      rw [p3.2.2.1]
      show nI ((if 0 = 0 ∨ 0 = 13 ∨ 0 = 19 then 1 else 0) + cnt3 H') - 1 = _
      rw [if_pos (Or.inl rfl), show 1 + cnt3 H' = cnt3 H' + 1 by omega, nI_pred]
    have p4 := p3.opn (o' := cnt3 H')
    have f3 : Fr (fU t) noR σ2 (sI (sI σ2 75 24 (nI H'.length)) 75 25 (nI (cnt3 H'))) := (Fr.rf.sI _ (by unfold fU; omega)).sI _ (by unfold fU; omega)
    obtain ⟨σ4, g4, S4, f4⟩ := unwinds9w (l := 7) (by omega) (by omega) p4 (by omega)
    refine ⟨σ4, fun f => ?_, R2.up S4 (f3.tr f4), ((f1.tr (fU_E f2)).tr (fU_E f3)).tr (fU_E f4)⟩
    rw [way f, p1, if_neg (nI_ne0 (by omega) (by omega)), nI_pred, e25, show S9_unwinds (7 : Int32) _ = _ from g4, bnd_s]
end EM
