/-! Each level; the claim. -/
section LVL
variable {b : Nat → Nat} {s t : Nat}
theorem sgn_st : stp (nI (sgn 4)) = -109 ∧ stp (nI (sgn 5)) = -110 ∧ stp (nI (sgn 42)) = -42 := by decide +kernel
theorem any_ok (hs : s ≤ 160) (hb : ∀ k, k < s → b k ≤ 255) {d a j : Nat} {H : List Nat} {out : List Int32} {mn : Int32} {σ8 σ9 : St} (hC : CLAIM b s t d) (ha : a ≤ 5) (haH : a = cnt3 H) (hd : (5 - a) * 6 + (6 - (0 + 1)) ≤ d) (h8 : CM b s t out j σ8) (h9 : RM b s t H out j σ9) (htop : topR H (prL 0)) (m1 : mn = 1) (hl : out.length + H.length ≤ j) (hj : j ≤ s) : GF b s t 1 mn j σ8 σ9 (B1_any (SG d) (nI a) σ8) ∨ GK b s t 0 1 mn H out j σ8 σ9 (B1_any (SG d) (nI a) σ8) := by
  refine levelL hs hb hC (Or.inl rfl) ha haH hd h8 h9 htop (fun _ => m1) (fun y => absurd y (by omega)) hl hj (fun f x τ => S1_any_12 (SG d) (nI a) f x τ) (fun f i j σ hL hi hop => ?_) (fun f i j σ hL hop => ?_)
  · have hse := (see_ok (b := b) (s := s) (j := j)).1.1
    have hK : tK b s j = 4 := by unfold isop at hop; omega
    show B1_any_12 _ _ _ _ σ = _
    unfold B1_any_12
    rw [if_neg (show ¬ (160 : Int32) ≤ nI i from nI_ge (b := 160) hi (by omega)), hL.2.2.1, if_pos (hse.mpr hK), hK, sgn_st.1]
  · have hse := (see_ok (b := b) (s := s) (j := j)).1.1
    have hK : ¬ tK b s j = 4 := fun y => hop (Or.inl ⟨rfl, y⟩)
    show B1_any_12 _ _ _ _ σ = _
    unfold B1_any_12
    rw [hL.2.2.1, if_neg (fun y => hK (hse.mp y))]
    split <;> rfl
theorem all_ok (hs : s ≤ 160) (hb : ∀ k, k < s → b k ≤ 255) {d a j : Nat} {H : List Nat} {out : List Int32} {mn : Int32} {σ8 σ9 : St} (hC : CLAIM b s t d) (ha : a ≤ 5) (haH : a = cnt3 H) (hd : (5 - a) * 6 + (6 - (1 + 1)) ≤ d) (h8 : CM b s t out j σ8) (h9 : RM b s t H out j σ9) (htop : topR H (prL 1)) (m1 : mn = 1) (hl : out.length + H.length ≤ j) (hj : j ≤ s) : GF b s t 1 mn j σ8 σ9 (B1_all (SG d) (nI a) σ8) ∨ GK b s t 1 1 mn H out j σ8 σ9 (B1_all (SG d) (nI a) σ8) := by
  refine levelL hs hb hC (Or.inr (Or.inl rfl)) ha haH hd h8 h9 htop (fun _ => m1) (fun y => absurd y (by omega)) hl hj (fun f x τ => S1_all_12 (SG d) (nI a) f x τ) (fun f i j σ hL hi hop => ?_) (fun f i j σ hL hop => ?_)
  · have hse := (see_ok (b := b) (s := s) (j := j)).1.2.1
    have hK : tK b s j = 5 := by unfold isop at hop; omega
    show B1_all_12 _ _ _ _ σ = _
    unfold B1_all_12
    rw [if_neg (show ¬ (160 : Int32) ≤ nI i from nI_ge (b := 160) hi (by omega)), hL.2.2.1, if_pos (hse.mpr hK), hK, sgn_st.2.1]
  · have hse := (see_ok (b := b) (s := s) (j := j)).1.2.1
    have hK : ¬ tK b s j = 5 := fun y => hop (Or.inr (Or.inl ⟨rfl, y⟩))
    show B1_all_12 _ _ _ _ σ = _
    unfold B1_all_12
    rw [hL.2.2.1, if_neg (fun y => hK (hse.mp y))]
    split <;> rfl
theorem term_ok (hs : s ≤ 160) (hb : ∀ k, k < s → b k ≤ 255) {d a j : Nat} {H : List Nat} {out : List Int32} {mn : Int32} {σ8 σ9 : St} (hC : CLAIM b s t d) (ha : a ≤ 5) (haH : a = cnt3 H) (hd : (5 - a) * 6 + (6 - (4 + 1)) ≤ d) (h8 : CM b s t out j σ8) (h9 : RM b s t H out j σ9) (htop : topR H (prL 4)) (m2 : tK b s j = 6 → mn = 0) (hl : out.length + H.length ≤ j) (hj : j ≤ s) : GF b s t 1 mn j σ8 σ9 (B1_term (SG d) (nI a) σ8) ∨ GK b s t 4 1 mn H out j σ8 σ9 (B1_term (SG d) (nI a) σ8) := by
  refine levelL hs hb hC (Or.inr (Or.inr (Or.inr rfl))) ha haH hd h8 h9 htop (fun y => absurd y (by omega)) (fun _ => m2) hl hj (fun f x τ => S1_term_12 (SG d) (nI a) f x τ) (fun f i j σ hL hi hop => ?_) (fun f i j σ hL hop => ?_)
  · have hse := (see_ok (b := b) (s := s) (j := j)).1.2.2.2.1
    have hK : tK b s j = 42 := by unfold isop at hop; omega
    show B1_term_12 _ _ _ _ σ = _
    unfold B1_term_12
    rw [if_neg (show ¬ (160 : Int32) ≤ nI i from nI_ge (b := 160) hi (by omega)), hL.2.2.1, if_pos (hse.mpr hK), hK, sgn_st.2.2]
  · have hse := (see_ok (b := b) (s := s) (j := j)).1.2.2.2.1
    have hK : ¬ tK b s j = 42 := fun y => hop (Or.inr (Or.inr (Or.inr ⟨rfl, y⟩)))
    show B1_term_12 _ _ _ _ σ = _
    unfold B1_term_12
    rw [hL.2.2.1, if_neg (fun y => hK (hse.mp y))]
    split <;> rfl
theorem sum_ok (hs : s ≤ 160) (hb : ∀ k, k < s → b k ≤ 255) {d a j : Nat} {H : List Nat} {out : List Int32} {mn : Int32} {σ8 σ9 : St} (hC : CLAIM b s t d) (ha : a ≤ 5) (haH : a = cnt3 H) (hd : (5 - a) * 6 + (6 - (3 + 1)) ≤ d) (h8 : CM b s t out j σ8) (h9 : RM b s t H out j σ9) (htop : topR H (prL 3)) (m2 : tK b s j = 6 → mn = 0) (hl : out.length + H.length ≤ j) (hj : j ≤ s) : GF b s t 1 mn j σ8 σ9 (B1_sum (SG d) (nI a) σ8) ∨ GK b s t 3 1 mn H out j σ8 σ9 (B1_sum (SG d) (nI a) σ8) := by
  refine levelL hs hb hC (Or.inr (Or.inr (Or.inl rfl))) ha haH hd h8 h9 htop (fun y => absurd y (by omega)) (fun _ => m2) hl hj (fun f x τ => S1_sum_12 (SG d) (nI a) f x τ) (fun f i j σ hL hi hop => ?_) (fun f i j σ hL hop => ?_)
  · have hse := (see_ok (b := b) (s := s) (j := j)).1.2.2.2.2
    have hK : tK b s j = 43 ∨ tK b s j = 45 := by unfold isop at hop; omega
    have hop2 : opK (tK b s j) := by unfold opK; omega
    show B1_sum_12 _ _ _ _ σ = _
    unfold B1_sum_12 S1_sum_37
    rw [if_neg (show ¬ (160 : Int32) ≤ nI i from nI_ge (b := 160) hi (by omega)), hL.2.2.1, stp_op (V := tV b s j) hop2]
    rcases hK with y | y
    · rw [if_pos (hse.1.mpr y)]
    · rw [if_neg (fun z => absurd (hse.1.mp z) (by omega)), if_pos (hse.2.1.mpr y)]
  · have hse := (see_ok (b := b) (s := s) (j := j)).1.2.2.2.2
    have h43 : ¬ tK b s j = 43 := fun y => hop (Or.inr (Or.inr (Or.inl ⟨rfl, Or.inl y⟩)))
    have h45 : ¬ tK b s j = 45 := fun y => hop (Or.inr (Or.inr (Or.inl ⟨rfl, Or.inr y⟩)))
    show B1_sum_12 _ _ _ _ σ = _
    unfold B1_sum_12
    rw [hL.2.2.1, if_neg (fun y => h43 (hse.1.mp y)), if_neg (fun y => h45 (hse.2.1.mp y))]
    split <;> rfl
theorem opens8 (hs : s ≤ 160) (hb : ∀ k, k < s → b k ≤ 255) {a j : Nat} {out : List Int32} {σ8 : St} (ha : a ≤ 5) (h8 : CM b s t out j σ8) : (a = 5 → S1_opens (nI a) σ8 = some (0, σ8)) ∧ (¬ a = 5 → ∃ σ', S1_opens (nI a) σ8 = some (1, σ') ∧ CM b s t out (j + 1) σ' ∧ Fr (fC t) noR σ8 σ') := by
  unfold S1_opens
  constructor
  · rintro rfl
    rw [if_neg (by decide)]
  · intro y
    obtain ⟨σ', g, c, f⟩ := stepM8 hs hb h8
    refine ⟨σ', ?_, c, f⟩
    rw [if_pos (show nI a < (5 : Int32) from nI_lt (b := 5) (by omega) (by omega)), g, bnd_s]
theorem takes8 (hs : s ≤ 160) (hb : ∀ k, k < s → b k ≤ 255) {j : Nat} {out : List Int32} {σ8 : St} (h8 : CM b s t out j σ8) (w : Int32) : (ctk (tK b s j) (tV b s j) = w → ∃ σ', S1_takes w σ8 = some (1, σ') ∧ CM b s t out (j + 1) σ' ∧ Fr (fC t) noR σ8 σ') ∧ (¬ ctk (tK b s j) (tV b s j) = w → S1_takes w σ8 = some (0, σ8)) := by
  unfold S1_takes
  rw [h8.2.1.2.2.1]
  constructor
  · intro y
    obtain ⟨σ', g, c, f⟩ := stepM8 hs hb h8
    exact ⟨σ', by rw [if_pos y, g, bnd_s], c, f⟩
  · intro y
    rw [if_neg y]
/-- behind a whole E: what can't go on is a fault at the reference, too -/
theorem stop9 (hs : s ≤ 160) (hb : ∀ k, k < s → b k ≤ 255) {j : Nat} {H : List Nat} {out : List Int32} {σ9 : St} (h9 : RM b s t H out j σ9) (hl : out.length + H.length ≤ 160) (mn : Int32) (hn : nc 0 (tK b s j) H out) (h1 : tK b s j ≠ 59) (h2 : tK b s j ≠ 41) : ∃ σ', (∀ f, S9_eRead_14 (f + 1) 0 mn σ9 = some (0, σ')) ∧ gI σ' 75 19 = nI (pL b s j) ∧ Fr (fE t) noR σ9 σ' := by
  by_cases hop : opK (tK b s j)
  · obtain ⟨n1, n2, n3, n4, n5⟩ := hn
    have hK : tK b s j = 60 ∨ tK b s j = 61 := by
      have a1 := n1 (by omega)
      have a2 := n2 (by omega)
      have a4 := n4 (by omega)
      have a5 := n5 rfl
      clear n3
      unfold opK at hop
      omega
    have hcmp := n3 (by omega) hK
    have hr : rkN (sgn (tK b s j)) = 4 ∧ lvK (tK b s j) = 5 := by rcases hK with y | y <;> (rw [y]; decide)
    exact (eN_op hs hb h9 hl mn hop).1 hr.1 (by rw [hr.2]; exact hcmp)
  · exact eN_bad hs hb h9 mn h1 h2 hop
theorem one_ok (hs : s ≤ 160) (hb : ∀ k, k < s → b k ≤ 255) {d a j : Nat} {H : List Nat} {out : List Int32} {mn : Int32} {σ8 σ9 : St} (hC : CLAIM b s t d) (ha : a ≤ 5) (haH : a = cnt3 H) (hd : (5 - a) * 6 ≤ d) (h8 : CM b s t out j σ8) (h9 : RM b s t H out j σ9) (m2 : tK b s j = 6 → mn = 0) (hl : out.length + H.length ≤ j) (hj : j ≤ s) : GF b s t 1 mn j σ8 σ9 (B1_one (SG d) (nI a) σ8) ∨ GK b s t 5 1 mn H out j σ8 σ9 (B1_one (SG d) (nI a) σ8) := by
  obtain ⟨⟨-, -, v111, -, -, v45, -, -⟩, v40, v41, -, v1, vn, -⟩ := see_ok (b := b) (s := s) (j := j)
  have htok := h8.2.1.2.2.1
  have hob := obT (t := t) h8.2.2.1.2
  have hg6 := h8.2.2.1.1
  by_cases hK12 : tK b s j = 1 ∨ tK b s j = 2
  · -- a number or a name
    have hK0 : ¬ tK b s j = 0 := by omega
    have hlt := (tK_lt hb j hK0).2
    generalize hc : (if tK b s j = 1 then (100000 : Int32) + nI (tV b s j) else nI (tV b s j)) = c
    have hst : stp c = (if tK b s j = 1 then nI (tV b s j) else -(ctk (tK b s j) (tV b s j))) := by
      rw [← hc]
      by_cases y : tK b s j = 1
      · rw [if_pos y, if_pos y, stp_num' (tV_1 y)]
      · have y2 : tK b s j = 2 := by omega
        rw [if_neg y, if_neg y, y2, stp_nm _ (by have := (tV_w (b := b) (s := s) (j := j)).1 y2; omega)]
    have hvd : VD [c] := by
      rw [← hc]
      by_cases y : tK b s j = 1
      · rw [if_pos y]; exact VD_num (tV_1 y)
      · have y2 : tK b s j = 2 := by omega
        rw [if_neg y]; exact VD_name _ ((tV_w (b := b) (s := s) (j := j)).1 y2)
    obtain ⟨σ9a, g9, r9, f9⟩ := eW_num hs hb h9 (by omega) mn hK12
    rw [hc] at r9
    obtain ⟨σ8a, g8, c8, f8⟩ := addM8 h8 (by omega) (c := c) rfl
    obtain ⟨σ8b, g8b, c8b, f8b⟩ := stepM8 hs hb c8
    have hres : B1_one (SG d) (nI a) σ8 = some (1, σ8b) := by
      unfold B1_one
      rw [htok]
      by_cases y : tK b s j = 1
      · rw [if_pos y] at hst
        rw [if_pos (v1.mpr y), hg6, if_pos hob, h8.2.1.2.2.2 y, ← hst, g8, bnd_s, g8b, bnd_s]
      · have y2 : tK b s j = 2 := by omega
        rw [if_neg y] at hst
        have hx : ¬ (ctk (tK b s j) (tV b s j) < 100 ∨ 106 ≤ ctk (tK b s j) (tV b s j)) := fun z => (vn.mp z) y2
        rw [if_neg (fun z => y (v1.mp z)), if_neg (fun z => hx (Or.inl z)), if_neg (fun z => hx (Or.inr z)), hg6, if_pos hob, ← hst, g8, bnd_s, g8b, bnd_s]
    have hlen := unw_len 7 H (out ++ [c])
    have hlc : (out ++ [c]).length = out.length + 1 := by simp
    refine Or.inr ⟨j + 1, [c], _, _, mn, σ8b, σ9a, ⟨by omega, hres⟩, ⟨c8b, f8.tr f8b⟩, ⟨fun f => ?_, r9, f9⟩, ⟨unw_unw (Nat.le_refl _) _ _, hvd⟩, ⟨by omega, by omega, by omega⟩, ⟨fun y => absurd y (by omega), fun y => absurd y (by omega), fun y => absurd y (by omega), fun y => absurd y (by omega), fun y => absurd y (by omega)⟩⟩
    rw [show f + (j + 1 - j) = f + 1 by omega]; exact g9 f
  · have hn1 : ¬ tK b s j = 1 := fun y => hK12 (Or.inl y)
    have hn2 : ¬ tK b s j = 2 := fun y => hK12 (Or.inr y)
    have hto61 : B1_one (SG d) (nI a) σ8 = S1_one_61 (SG d) (nI a) σ8 := by
      unfold B1_one
      rw [htok, if_neg (fun z => hn1 (v1.mp z))]
      rcases vn.mpr hn2 with z | z
      · rw [if_pos z]
      · by_cases z0 : ctk (tK b s j) (tV b s j) < 100
        · rw [if_pos z0]
        · rw [if_neg z0, if_pos z]
    rw [hto61]
    by_cases hK45 : tK b s j = 45
    · -- a sign ahead of one
      have hlt := (tK_lt hb j (show ¬ tK b s j = 0 by omega)).2
      obtain ⟨o1, o2⟩ := opens8 hs hb ha h8
      obtain ⟨e1, e2⟩ := eW_open hs hb h9 (by omega) (mn := mn) (mn' := 0) (c := 19) (Or.inl ⟨hK45, rfl, rfl⟩)
      by_cases h5 : a = 5
      · obtain ⟨σ9a, g9, r19, f9⟩ := e1 (by omega)
        refine Or.inl ⟨j, σ8, σ9a, ⟨Nat.le_refl _, hj⟩, ?_, h8.2.1.1, Fr.rf, fun f => ?_, r19, f9⟩
        · unfold S1_one_61
          rw [htok, if_pos (v45.mpr hK45), o1 h5, bnd_s, if_pos rfl]
        · rw [Nat.sub_self]; exact g9 f
      · obtain ⟨σ9a, g9, r9, f9⟩ := e2 (by omega)
        obtain ⟨σ8a, g8, c8, f8⟩ := o2 h5
        have e1' : ∀ f, S9_eRead_14 (f + (j + 1 - j)) 1 mn σ9 = S9_eRead_14 f 1 0 σ9a := fun f => by rw [show f + (j + 1 - j) = f + 1 by omega]; exact g9 f
        have hc19 : cnt3 (19 :: H) = cnt3 H + 1 := by show 1 + cnt3 H = _; omega
        have hsub := hC 5 (a + 1) (j + 1) (19 :: H) out 0 σ8a σ9a (by omega) (by omega) (by omega) (by omega) c8 r9 (by show rkN 19 < prL 5; decide) (fun y => absurd y (by omega)) (fun _ _ => rfl) (by show out.length + (H.length + 1) ≤ j + 1; omega) (by omega)
        have hres : S1_one_61 (SG d) (nI a) σ8 = bnd (SG d 5 (nI (a + 1)) σ8a) fun r τ => if r = 0 then some (0, τ) else if Ob 75 6 (gR τ 26 6) then bnd (S6_add (gR τ 26 6) (-1) τ) fun _ τ => some (1, τ) else none := by
          unfold S1_one_61
          rw [htok, if_pos (v45.mpr hK45), g8, bnd_s, if_neg (by decide), nI_1]
        rcases hsub with hF | hK
        · refine Or.inl ((hF.pre (by omega) f8 f9 e1').res (fun σ' y => ?_))
          rw [hres, y, bnd_s, if_pos rfl]
        · obtain ⟨j2, cs2, Hx2, outx2, mn2, σ8b, σ9b, ⟨k1, k2⟩, ⟨k3, k4⟩, ⟨k5, k6, k7⟩, ⟨k8, k9⟩, ⟨k10, k11, k12⟩, k13⟩ := hK
          have k10' : (out ++ cs2).length + (H.length + 1) ≤ j2 := k10
          obtain ⟨σ8c, g8c, c8c, f8c⟩ := addM8 k3 (by omega) (c := nI 19) (v := -1) (by decide)
          have hlen : (out ++ (cs2 ++ [nI 19])).length = (out ++ cs2).length + 1 := by rw [← List.append_assoc, List.length_append]; rfl
          rw [List.append_assoc] at c8c
          refine Or.inr ⟨j2, cs2 ++ [nI 19], Hx2, outx2, mn2, σ8c, σ9b, ⟨by omega, ?_⟩, ⟨c8c, (f8.tr k4).tr f8c⟩, ⟨fun f => ?_, k6, f9.tr k7⟩, ⟨?_, VD_un k9 (Or.inr rfl)⟩, ⟨by omega, k11, k12⟩, ⟨fun y => absurd y (by omega), fun y => absurd y (by omega), fun y => absurd y (by omega), fun y => absurd y (by omega), fun y => absurd y (by omega)⟩⟩
          · rw [hres, k2, bnd_s, if_neg (by decide), k3.2.2.1.1, if_pos hob, g8c, bnd_s]
          · rw [show f + (j2 - j) = (f + (j2 - (j + 1))) + (j + 1 - j) by omega, e1']; exact k5 f
          · rw [k8, unw_pop (by decide), List.append_assoc]
    · by_cases hK40 : tK b s j = 40
      · -- an E in brackets
        have hlt := (tK_lt hb j (show ¬ tK b s j = 0 by omega)).2
        obtain ⟨o1, o2⟩ := opens8 hs hb ha h8
        obtain ⟨e1, e2⟩ := eW_open hs hb h9 (by omega) (mn := mn) (mn' := 1) (c := 0) (Or.inr (Or.inl ⟨hK40, rfl, rfl⟩))
        have n45 : ¬ ctk (tK b s j) (tV b s j) = 45 := fun z => hK45 (v45.mp z)
        by_cases h5 : a = 5
        · obtain ⟨σ9a, g9, r19, f9⟩ := e1 (by omega)
          refine Or.inl ⟨j, σ8, σ9a, ⟨Nat.le_refl _, hj⟩, ?_, h8.2.1.1, Fr.rf, fun f => ?_, r19, f9⟩
          · unfold S1_one_61
            rw [htok, if_neg n45, if_pos (v40.mpr hK40), o1 h5, bnd_s, if_pos rfl]
          · rw [Nat.sub_self]; exact g9 f
        · obtain ⟨σ9a, g9, r9, f9⟩ := e2 (by omega)
          obtain ⟨σ8a, g8, c8, f8⟩ := o2 h5
          have e1' : ∀ f, S9_eRead_14 (f + (j + 1 - j)) 1 mn σ9 = S9_eRead_14 f 1 1 σ9a := fun f => by rw [show f + (j + 1 - j) = f + 1 by omega]; exact g9 f
          have hc0 : cnt3 (0 :: H) = cnt3 H + 1 := by show 1 + cnt3 H = _; omega
          have hsub := hC 0 (a + 1) (j + 1) (0 :: H) out 1 σ8a σ9a (by omega) (by omega) (by omega) (by omega) c8 r9 (by show rkN 0 < prL 0; decide) (fun _ => rfl) (fun y => absurd y (by omega)) (by show out.length + (H.length + 1) ≤ j + 1; omega) (by omega)
          have hres : S1_one_61 (SG d) (nI a) σ8 = bnd (SG d 0 (nI (a + 1)) σ8a) fun r τ => if r = 0 then some (0, τ) else bnd (S1_takes (41 : Int32) τ) fun r98 τ => if r98 = 0 then some (0, τ) else some (1, τ) := by
            unfold S1_one_61
            rw [htok, if_neg n45, if_pos (v40.mpr hK40), g8, bnd_s, if_neg (by decide), nI_1]
          rcases hsub with hF | hK
          · refine Or.inl ((hF.pre (by omega) f8 f9 e1').res (fun σ' y => ?_))
            rw [hres, y, bnd_s, if_pos rfl]
          · obtain ⟨j2, cs2, Hx2, outx2, mn2, σ8b, σ9b, ⟨k1, k2⟩, ⟨k3, k4⟩, ⟨k5, k6, k7⟩, ⟨k8, k9⟩, ⟨k10, k11, k12⟩, k13⟩ := hK
            have k10' : (out ++ cs2).length + (H.length + 1) ≤ j2 := k10
            have k8' : unw 1 Hx2 outx2 = (0 :: H, out ++ cs2) := by
              have : lev 0 = 1 := rfl
              rw [this] at k8
              rw [k8]
              exact unw_id (l := 1) (H := 0 :: H) (by show rkN 0 < 1; decide) _
            have e2' : ∀ f, S9_eRead_14 (f + (j2 - j)) 1 mn σ9 = S9_eRead_14 f 0 mn2 σ9b := fun f => by
              rw [show f + (j2 - j) = (f + (j2 - (j + 1))) + (j + 1 - j) by omega, e1']; exact k5 f
            obtain ⟨t1, t2⟩ := takes8 hs hb k3 (41 : Int32)
            have v41' := (see_ok (b := b) (s := s) (j := j2)).2.2.1
            by_cases h41 : tK b s j2 = 41
            · obtain ⟨σ8c, g8c, c8c, f8c⟩ := t1 (v41'.mpr h41)
              obtain ⟨σ9c, g9c, r9c, f9c⟩ := (eN_close hs hb k6 (by omega) mn2 h41).2 H (by rw [k8'])
              rw [show (unw 1 Hx2 outx2).2 = out ++ cs2 by rw [k8']] at r9c
              have hlt2 := (tK_lt hb j2 (show ¬ tK b s j2 = 0 by omega)).2
              have hlen := unw_len 7 H (out ++ cs2)
              refine Or.inr ⟨j2 + 1, cs2, _, _, mn2, σ8c, σ9c, ⟨by omega, ?_⟩, ⟨c8c, (f8.tr k4).tr f8c⟩, ⟨fun f => ?_, r9c, (f9.tr k7).tr f9c⟩, ⟨unw_unw (Nat.le_refl _) _ _, k9⟩, ⟨by omega, by omega, by omega⟩, ⟨fun y => absurd y (by omega), fun y => absurd y (by omega), fun y => absurd y (by omega), fun y => absurd y (by omega), fun y => absurd y (by omega)⟩⟩
              · rw [hres, k2, bnd_s, if_neg (by decide), g8c, bnd_s, if_neg (by decide)]
              · rw [show f + (j2 + 1 - j) = (f + 1) + (j2 - j) by omega, e2']; exact g9c f
            · -- no bracket: a fault there
              have hfault : ∃ σ', (∀ f, S9_eRead_14 (f + 1) 0 mn2 σ9b = some (0, σ')) ∧ gI σ' 75 19 = nI (pL b s j2) ∧ Fr (fE t) noR σ9b σ' := by
                by_cases h59 : tK b s j2 = 59
                · obtain ⟨σ', w1, w2, w3, w4⟩ := eN_semi hs hb k6 (by omega) mn2 h59
                  refine ⟨σ', fun f => ?_, w3, w4⟩
                  rw [w1 f, k8', if_neg (by intro z; cases z)]
                · exact stop9 hs hb k6 (by omega) mn2 k13 h59 h41
              obtain ⟨σ9c, w1, w2, w3⟩ := hfault
              refine Or.inl ⟨j2, σ8b, σ9c, by omega, ?_, k3.2.1.1, f8.tr k4, fun f => ?_, w2, (f9.tr k7).tr w3⟩
              · rw [hres, k2, bnd_s, if_neg (by decide), t2 (fun z => h41 (v41'.mp z)), bnd_s, if_pos rfl]
              · rw [show f + (j2 - j) + 1 = (f + 1) + (j2 - j) by omega, e2']; exact w1 f
      · -- nothing that can stand here
        obtain ⟨σ9a, g9, r19, f9⟩ := eW_bad hs hb h9 (mn := mn) hn1 hn2 hK45 hK40 m2
        refine Or.inl ⟨j, σ8, σ9a, ⟨Nat.le_refl _, hj⟩, ?_, h8.2.1.1, Fr.rf, fun f => ?_, r19, f9⟩
        · unfold S1_one_61
          rw [htok, if_neg (fun z => hK45 (v45.mp z)), if_neg (fun z => hK40 (v40.mp z))]
        · rw [Nat.sub_self]; exact g9 f
end LVL
