/-! A comparison, a denial; the claim at every depth. -/
section TRU
variable {b : Nat → Nat} {s t : Nat}
theorem truth_ok (hs : s ≤ 160) (hb : ∀ k, k < s → b k ≤ 255) {d a j : Nat} {H : List Nat} {out : List Int32} {mn : Int32} {σ8 σ9 : St} (hC : CLAIM b s t d) (ha : a ≤ 5) (haH : a = cnt3 H) (hd : (5 - a) * 6 + (6 - (2 + 1)) ≤ d) (h8 : CM b s t out j σ8) (h9 : RM b s t H out j σ9) (htop : topR H (prL 2)) (m1 : mn = 1) (hl : out.length + H.length ≤ j) (hj : j ≤ s) : GF b s t 1 mn j σ8 σ9 (B1_truth (SG d) (nI a) σ8) ∨ GK b s t 2 1 mn H out j σ8 σ9 (B1_truth (SG d) (nI a) σ8) := by
  obtain ⟨⟨-, -, v111, -, -, -, -, -⟩, -⟩ := see_ok (b := b) (s := s) (j := j)
  have htok := h8.2.1.2.2.1
  have hob := obT (t := t) h8.2.2.1.2
  by_cases hK6 : tK b s j = 6
  · have hlt := (tK_lt hb j (show ¬ tK b s j = 0 by omega)).2
    obtain ⟨o1, o2⟩ := opens8 hs hb ha h8
    obtain ⟨e1, e2⟩ := eW_open hs hb h9 (by omega) (mn := mn) (mn' := 1) (c := 13) (Or.inr (Or.inr ⟨hK6, m1, rfl, rfl⟩))
    by_cases h5 : a = 5
    · obtain ⟨σ9a, g9, r19, f9⟩ := e1 (by omega)
      refine Or.inl ⟨j, σ8, σ9a, ⟨Nat.le_refl _, hj⟩, ?_, h8.2.1.1, Fr.rf, fun f => ?_, r19, f9⟩
      · unfold B1_truth
        rw [htok, if_pos (v111.mpr hK6), o1 h5, bnd_s, if_pos rfl]
      · rw [Nat.sub_self]; exact g9 f
    · obtain ⟨σ9a, g9, r9, f9⟩ := e2 (by omega)
      obtain ⟨σ8a, g8, c8, f8⟩ := o2 h5
      have e1' : ∀ f, S9_eRead_14 (f + (j + 1 - j)) 1 mn σ9 = S9_eRead_14 f 1 1 σ9a := fun f => by rw [show f + (j + 1 - j) = f + 1 by omega]; exact g9 f
      have hc13 : cnt3 (13 :: H) = cnt3 H + 1 := by show 1 + cnt3 H = _; omega
      have hsub := hC 2 (a + 1) (j + 1) (13 :: H) out 1 σ8a σ9a (by omega) (by omega) (by omega) (by omega) c8 r9 (by show rkN 13 < prL 2; decide) (fun _ => rfl) (fun y => absurd y (by omega)) (by show out.length + (H.length + 1) ≤ j + 1; omega) (by omega)
      have hres : B1_truth (SG d) (nI a) σ8 = bnd (SG d 2 (nI (a + 1)) σ8a) fun r τ => if r = 0 then some (0, τ) else if Ob 75 6 (gR τ 26 6) then bnd (S6_add (gR τ 26 6) (-111) τ) fun _ τ => some (1, τ) else none := by
        unfold B1_truth
        rw [htok, if_pos (v111.mpr hK6), g8, bnd_s, if_neg (by decide), nI_1]
      rcases hsub with hF | hK
      · refine Or.inl ((hF.pre (by omega) f8 f9 e1').res (fun σ' y => ?_))
        rw [hres, y, bnd_s, if_pos rfl]
      · obtain ⟨j2, cs2, Hx2, outx2, mn2, σ8b, σ9b, ⟨k1, k2⟩, ⟨k3, k4⟩, ⟨k5, k6, k7⟩, ⟨k8, k9⟩, ⟨k10, k11, k12⟩, k13⟩ := hK
        have k10' : (out ++ cs2).length + (H.length + 1) ≤ j2 := k10
        obtain ⟨σ8c, g8c, c8c, f8c⟩ := addM8 k3 (by omega) (c := nI 13) (v := -111) (by decide)
        have hlen : (out ++ (cs2 ++ [nI 13])).length = (out ++ cs2).length + 1 := by rw [← List.append_assoc, List.length_append]; rfl
        rw [List.append_assoc] at c8c
        refine Or.inr ⟨j2, cs2 ++ [nI 13], Hx2, outx2, mn2, σ8c, σ9b, ⟨by omega, ?_⟩, ⟨c8c, (f8.tr k4).tr f8c⟩, ⟨fun f => ?_, k6, f9.tr k7⟩, ⟨?_, VD_un k9 (Or.inl rfl)⟩, ⟨by omega, k11, k12⟩, k13⟩
        · rw [hres, k2, bnd_s, if_neg (by decide), k3.2.2.1.1, if_pos hob, g8c, bnd_s]
        · rw [show f + (j2 - j) = (f + (j2 - (j + 1))) + (j + 1 - j) by omega, e1']; exact k5 f
        · rw [k8, unw_pop (by decide), List.append_assoc]
  · have hsub := hC 3 a j H out mn σ8 σ9 (by omega) ha haH (by omega) h8 h9 (topR_mono htop (by decide)) (fun y => absurd y (by omega)) (fun _ y => absurd y hK6) hl hj
    have hn111 : ¬ ctk (tK b s j) (tV b s j) = 111 := fun z => hK6 (v111.mp z)
    rcases hsub with hF | hK
    · refine Or.inl (hF.res (fun σ' y => ?_))
      unfold B1_truth
      rw [htok, if_neg hn111, y, bnd_s, if_pos rfl]
    · obtain ⟨j1, cs, Hx, outx, mn1, σ8b, σ9b, ⟨k1, k2⟩, ⟨k3, k4⟩, ⟨k5, k6, k7⟩, ⟨k8, k9⟩, ⟨k10, k11, k12⟩, k13⟩ := hK
      have htok1 := k3.2.1.2.2.1
      have k8' : unw 5 Hx outx = (H, out ++ cs) := by
        rw [show (5 : Nat) = lev 3 from rfl, k8]
        exact unw_id (topR_mono htop (by decide)) _
      obtain ⟨-, -, -, -, -, -, v60, v61⟩ := (see_ok (b := b) (s := s) (j := j1)).1
      have hto : B1_truth (SG d) (nI a) σ8 = if ctk (tK b s j1) (tV b s j1) = (60 : Int32) then S1_truth_70 (SG d) (nI a) σ8b else if ctk (tK b s j1) (tV b s j1) = (61 : Int32) then S1_truth_70 (SG d) (nI a) σ8b else some (1, σ8b) := by
        unfold B1_truth
        rw [htok, if_neg hn111, k2, bnd_s, if_neg (by decide), htok1]
      obtain ⟨n1, n2, -, -, -⟩ := k13
      by_cases hcmp : tK b s j1 = 60 ∨ tK b s j1 = 61
      · have hto2 : B1_truth (SG d) (nI a) σ8 = S1_truth_70 (SG d) (nI a) σ8b := by
          rw [hto]
          rcases hcmp with y | y
          · rw [if_pos (v60.mpr y)]
          · rw [if_neg (fun z => absurd (v60.mp z) (by omega)), if_pos (v61.mpr y)]
        have hlt := (tK_lt hb j1 (show ¬ tK b s j1 = 0 by omega)).2
        have hop : opK (tK b s j1) := by unfold opK; omega
        have hr : rkN (sgn (tK b s j1)) = 4 ∧ lvK (tK b s j1) = 5 ∧ ¬ sgn (tK b s j1) ≤ 12 := by rcases hcmp with y | y <;> (rw [y]; decide)
        obtain ⟨sg1, sg2, sg3⟩ := sgn_b (tK b s j1)
        obtain ⟨σ8c, g8c, c8c, f8c⟩ := stepM8 hs hb k3
        obtain ⟨σ9c, g9c, r9c, f9c⟩ := (eN_op hs hb k6 (by omega) mn1 hop).2 (by
          rintro ⟨-, x, H', y1, y2⟩
          rw [hr.2.1, k8'] at y1
          have y1' : H = x :: H' := y1
          rw [y1'] at htop
          have : rkN x < 4 := htop
          omega)
        rw [if_neg hr.2.2] at g9c
        rw [hr.2.1, k8'] at r9c
        have e1 : ∀ f, S9_eRead_14 (f + (j1 + 1 - j)) 1 mn σ9 = S9_eRead_14 f 1 0 σ9c := fun f => by
          rw [show f + (j1 + 1 - j) = (f + 1) + (j1 - j) by omega, k5]
          exact g9c f
        have hsub2 := hC 3 a (j1 + 1) (sgn (tK b s j1) :: H) (out ++ cs) 0 σ8c σ9c (by omega) ha (by rw [cnt3_sgn]; exact haH) (by omega) c8c r9c (by show rkN (sgn (tK b s j1)) < prL 3; rw [hr.1]; decide) (fun y => absurd y (by omega)) (fun _ _ => rfl) (by show (out ++ cs).length + (H.length + 1) ≤ j1 + 1; omega) (by omega)
        have hres : B1_truth (SG d) (nI a) σ8 = bnd (SG d 3 (nI a) σ8c) fun r τ => if r = 0 then some (0, τ) else if Ob 75 6 (gR τ 26 6) then bnd (S6_add (gR τ 26 6) (stp (nI (sgn (tK b s j1)))) τ) fun _ τ => some (1, τ) else none := by
          rw [hto2]
          unfold S1_truth_70
          rw [g8c, bnd_s, htok1, stp_op (V := tV b s j1) hop]
        rcases hsub2 with hF | hK
        · refine Or.inl ((hF.pre (by omega) (k4.tr f8c) (k7.tr f9c) e1).res (fun σ' y => ?_))
          rw [hres, y, bnd_s, if_pos rfl]
        · obtain ⟨j2, cs2, Hx2, outx2, mn2, σ8d, σ9d, ⟨p1, p2⟩, ⟨p3, p4⟩, ⟨p5, p6, p7⟩, ⟨p8, p9⟩, ⟨p10, p11, p12⟩, p13⟩ := hK
          have p10' : ((out ++ cs) ++ cs2).length + (H.length + 1) ≤ j2 := p10
          obtain ⟨σ8e, g8e, c8e, f8e⟩ := addM8 p3 (by omega) (c := nI (sgn (tK b s j1))) rfl
          have hassoc : ((out ++ cs) ++ cs2) ++ [nI (sgn (tK b s j1))] = out ++ (cs ++ cs2 ++ [nI (sgn (tK b s j1))]) := by simp only [List.append_assoc]
          rw [hassoc] at c8e
          have hlen : (out ++ (cs ++ cs2 ++ [nI (sgn (tK b s j1))])).length = ((out ++ cs) ++ cs2).length + 1 := by
            rw [← hassoc, List.length_append]; rfl
          have hu5 : unw 5 Hx2 outx2 = (sgn (tK b s j1) :: H, (out ++ cs) ++ cs2) := by
            rw [show (5 : Nat) = lev 3 from rfl, p8]
            exact unw_id (H := sgn (tK b s j1) :: H) (by show rkN (sgn (tK b s j1)) < lev 3; rw [hr.1]; decide) _
          refine Or.inr ⟨j2, cs ++ cs2 ++ [nI (sgn (tK b s j1))], Hx2, outx2, mn2, σ8e, σ9d, ⟨by omega, ?_⟩, ⟨c8e, ((k4.tr f8c).tr p4).tr f8e⟩, ⟨fun f => ?_, p6, (k7.tr f9c).tr p7⟩, ⟨?_, VD_bin k9 p9 sg1 sg2 sg3⟩, ⟨by omega, p11, p12⟩, ⟨fun _ => p13.1 (by omega), fun _ => p13.2.1 (by omega), fun _ _ => ⟨sgn (tK b s j1), H, by rw [hu5], hr.1⟩, fun y => absurd y (by omega), fun y => absurd y (by omega)⟩⟩
          · rw [hres, p2, bnd_s, if_neg (by decide), p3.2.2.1.1, if_pos hob, g8e, bnd_s]
          · rw [show f + (j2 - j) = (f + (j2 - (j1 + 1))) + (j1 + 1 - j) by omega, e1]
            exact p5 f
          · rw [unw_eq (show lev 2 ≤ lev 3 by decide) p8, unw_pop (by rw [hr.1]; decide), hassoc]
      · have n60 : ¬ ctk (tK b s j1) (tV b s j1) = 60 := fun z => hcmp (Or.inl (v60.mp z))
        have n61 : ¬ ctk (tK b s j1) (tV b s j1) = 61 := fun z => hcmp (Or.inr (v61.mp z))
        refine Or.inr ⟨j1, cs, Hx, outx, mn1, σ8b, σ9b, ⟨k1, ?_⟩, ⟨k3, k4⟩, ⟨k5, k6, k7⟩, ⟨unw_eq (show lev 2 ≤ lev 3 by decide) k8, k9⟩, ⟨k10, k11, k12⟩, ⟨fun _ => n1 (by omega), fun _ => n2 (by omega), fun _ y => absurd y hcmp, fun y => absurd y (by omega), fun y => absurd y (by omega)⟩⟩
        rw [hto, if_neg n60, if_neg n61]
theorem claim_ok (hs : s ≤ 160) (hb : ∀ k, k < s → b k ≤ 255) : ∀ d, CLAIM b s t d := by
  intro d
  induction d with
  | zero =>
    intro w a j H out mn σ8 σ9 hw ha haH hd
    exact absurd hd (by omega)
  | succ d ih =>
    intro w a j H out mn σ8 σ9 hw ha haH hd h8 h9 htop m1 m2 hl hj
    match w, hw with
    | 0, _ => exact any_ok hs hb ih ha haH (by omega) h8 h9 htop (m1 (by omega)) hl hj
    | 1, _ => exact all_ok hs hb ih ha haH (by omega) h8 h9 htop (m1 (by omega)) hl hj
    | 2, _ => exact truth_ok hs hb ih ha haH (by omega) h8 h9 htop (m1 (by omega)) hl hj
    | 3, _ => exact sum_ok hs hb ih ha haH (by omega) h8 h9 htop (m2 (by omega)) hl hj
    | 4, _ => exact term_ok hs hb ih ha haH (by omega) h8 h9 htop (m2 (by omega)) hl hj
    | 5, _ => exact one_ok hs hb ih ha haH (by omega) h8 h9 (m2 (by omega)) hl hj
    | w + 6, hw => exact absurd hw (by omega)
end TRU
