/-! The parser's six methods that call one another, by the depth of the calls. -/
def yG (w : Nat) : MethodName := match w with
  | 0 => yX1_any
  | 1 => yX1_all
  | 2 => yX1_truth
  | 3 => yX1_sum
  | 4 => yX1_term
  | _ => yX1_one
def ccG (w : Nat) : ByteArray := match w with
  | 0 => cX1_any
  | 1 => cX1_all
  | 2 => cX1_truth
  | 3 => cX1_sum
  | 4 => cX1_term
  | _ => cX1_one
def nLG (w : Nat) : Nat := match w with
  | 0 => 3
  | 1 => 3
  | 2 => 3
  | 3 => 4
  | 4 => 3
  | _ => 2
def mG (d w : Nat) : MI := (ccG w, RX1, nLG w, some .boolean, 9 + d)
theorem mG_lt (d w v : Nat) : decide ((mG d w).lv < (mG (d + 1) v).lv) = true := by simp [mG, MI.lv]
theorem mG_lo (d v : Nat) {n : Nat} (h : decide (n ≤ 9) = true) : decide (n < (mG (d + 1) v).lv) = true := by
  have := of_decide_eq_true h
  apply decide_eq_true
  show n < 9 + (d + 1)
  omega

def S1_one_61 (R : Nat → Int32 → St → Option (Int32 × St)) (a1 : Int32) (σ : St) : Option (Int32 × St) := if (gI σ 26 4) = (45 : Int32) then (bnd (S1_opens a1 σ) fun r102 σ101 => if r102 = 0 then (some ((0 : Int32), σ101)) else (bnd (R 5 (a1 + (1 : Int32)) σ101) fun r106 σ105 => if r106 = 0 then (some ((0 : Int32), σ105)) else (if Ob 75 6 (gR σ105 26 6) then (bnd (S6_add (gR σ105 26 6) (-1 : Int32) σ105) fun r111 σ110 => some ((1 : Int32), σ110)) else none))) else (if (gI σ 26 4) = (40 : Int32) then (bnd (S1_opens a1 σ) fun r90 σ89 => if r90 = 0 then (some ((0 : Int32), σ89)) else (bnd (R 0 (a1 + (1 : Int32)) σ89) fun r94 σ93 => if r94 = 0 then (some ((0 : Int32), σ93)) else (bnd (S1_takes (41 : Int32) σ93) fun r98 σ97 => if r98 = 0 then (some ((0 : Int32), σ97)) else (some ((1 : Int32), σ97))))) else (some ((0 : Int32), σ)))
def B1_one (R : Nat → Int32 → St → Option (Int32 × St)) (a1 : Int32) (σ : St) : Option (Int32 × St) := if (gI σ 26 4) = (1 : Int32) then (if Ob 75 6 (gR σ 26 6) then (bnd (S6_add (gR σ 26 6) (gI σ 26 5) σ) fun r125 σ124 => bnd (S1_step σ124) fun r128 σ127 => some ((1 : Int32), σ127)) else none) else (if (gI σ 26 4) < (100 : Int32) then (S1_one_61 R a1 σ) else (if (106 : Int32) ≤ (gI σ 26 4) then (S1_one_61 R a1 σ) else (if Ob 75 6 (gR σ 26 6) then (bnd (S6_add (gR σ 26 6) (-(gI σ 26 4)) σ) fun r118 σ117 => bnd (S1_step σ117) fun r121 σ120 => some ((1 : Int32), σ120)) else none)))
set_option maxRecDepth 100000 in
set_option maxHeartbeats 4000000 in
theorem v1_one_61 {g : GT} {X : XT} {d : Nat} {a1 : Int32} {R : Nat → Int32 → St → Option (Int32 × St)} (hX : OkX g X (mG (d + 1) 5)) (hN : 75 ≤ g.N) (hR : ∀ w, w < 6 → ∀ a σ r σ', R w a σ = some (r, σ') → CtI g X.l (mG d w) (yG w) [.ref (g.ad 26), .int a] σ r σ') {res : Int32 × St} (hQ : X.Q = QI g X res.1 res.2 ∧ X.cells = 0 ∧ X.slots = 0)    (σ : St)  (h : S1_one_61 R a1 σ = some res) : V g X (mG (d + 1) 5) 61 [(0, .ref (g.ad (26))), (1, .int (a1))] [] σ := by
  unfold S1_one_61 at h
  refine V_aload_n (q := 62) hX dX1_one_61 0 rfl rfl ?_
  refine V_getI (n := 75) (c := 1) (k := 4) (nf := 7) (C := RX1) (T := TX1) (q := 65) hX rfl rfl iG1 k1_118 rfl rfl ⟨rfl, by decide⟩ hN rfl rfl dX1_one_62 rfl ?_
  refine V_bipush (v := 45) (q := 67) hX dX1_one_65 (by decide) rfl ?_
  refine V_icmp_ne (q := 70) (t := 100) hX dX1_one_67 (by decide) rfl (fun z87 => ?_) (fun z87 => ?_)
  · have h := ite_f z87 h
    refine V_aload_n (q := 101) hX dX1_one_100 0 rfl rfl ?_
    refine V_getI (n := 75) (c := 1) (k := 4) (nf := 7) (C := RX1) (T := TX1) (q := 104) hX rfl rfl iG1 k1_118 rfl rfl ⟨rfl, by decide⟩ hN rfl rfl dX1_one_101 rfl ?_
    refine V_bipush (v := 40) (q := 106) hX dX1_one_104 (by decide) rfl ?_
    refine V_icmp_ne (q := 109) (t := 140) hX dX1_one_106 (by decide) rfl (fun z88 => ?_) (fun z88 => ?_)
    · have h := ite_f z88 h
      refine V_iconst (v := 0) (q := 141) hX dX1_one_140 (by decide) rfl ?_
      obtain ⟨f1, f2⟩ := some2 h
      rw [f1, f2] at hQ
      exact V_zret (ty := .boolean) hX hQ rfl rfl dX1_one_141
    have h := ite_t z88 h
    refine V_aload_n (q := 110) hX dX1_one_109 0 rfl rfl ?_
    refine V_iload_n (q := 111) hX dX1_one_110 1 rfl rfl ?_
    obtain ⟨r90, σ89, e91, h⟩ := bnd_some h
    refine V_cvI (n := 75) (c := 1) (nf := 7) (C := RX1) (T := TX1) (As := [.int (a1)]) (q := 114) hX (c1_opens hX.2.2.2.2.1 hN e91) (goodV_of k2_147 k2_149 kp_8 k1_4 (cons_g k2_150)) (nA := 1) (by decide) rfl (mG_lo d 5 rfl) rfl rfl rfl ⟨rfl, by decide⟩ hN rfl rfl rfl dX1_one_111 rfl ?_
    refine V_if_eq (q := 117) (t := 140) hX dX1_one_114 (by decide) rfl (fun z92 => ?_) (fun z92 => ?_)
    · have h := ite_t z92 h
      refine V_iconst (v := 0) (q := 141) hX dX1_one_140 (by decide) rfl ?_
      obtain ⟨f1, f2⟩ := some2 h
      rw [f1, f2] at hQ
      exact V_zret (ty := .boolean) hX hQ rfl rfl dX1_one_141
    have h := ite_f z92 h
    refine V_aload_n (q := 118) hX dX1_one_117 0 rfl rfl ?_
    refine V_iload_n (q := 119) hX dX1_one_118 1 rfl rfl ?_
    refine V_iconst (v := 1) (q := 120) hX dX1_one_119 (by decide) rfl ?_
    refine V_iadd (q := 121) hX dX1_one_120 rfl ?_
    obtain ⟨r94, σ93, e95, h⟩ := bnd_some h
    refine V_cvI (n := 75) (c := 1) (nf := 7) (C := RX1) (T := TX1) (As := [.int ((a1 + (1 : Int32)))]) (q := 124) hX (hR 0 (by decide) _ _ _ _ e95) (goodV_of k2_135 k2_137 kp_5 k1_4 (cons_g k2_138)) (nA := 1) (by decide) rfl (mG_lt d 0 5) rfl rfl rfl ⟨rfl, by decide⟩ hN rfl rfl rfl dX1_one_121 rfl ?_
    refine V_if_eq (q := 127) (t := 140) hX dX1_one_124 (by decide) rfl (fun z96 => ?_) (fun z96 => ?_)
    · have h := ite_t z96 h
      refine V_iconst (v := 0) (q := 141) hX dX1_one_140 (by decide) rfl ?_
      obtain ⟨f1, f2⟩ := some2 h
      rw [f1, f2] at hQ
      exact V_zret (ty := .boolean) hX hQ rfl rfl dX1_one_141
    have h := ite_f z96 h
    refine V_aload_n (q := 128) hX dX1_one_127 0 rfl rfl ?_
    refine V_bipush (v := 41) (q := 130) hX dX1_one_128 (by decide) rfl ?_
    obtain ⟨r98, σ97, e99, h⟩ := bnd_some h
    refine V_cvI (n := 75) (c := 1) (nf := 7) (C := RX1) (T := TX1) (As := [.int ((41 : Int32))]) (q := 133) hX (c1_takes hX.2.2.2.2.1 hN e99) (goodV_of k2_131 k2_133 kp_4 k1_4 (cons_g k2_134)) (nA := 1) (by decide) rfl (mG_lo d 5 rfl) rfl rfl rfl ⟨rfl, by decide⟩ hN rfl rfl rfl dX1_one_130 rfl ?_
    refine V_if_eq (q := 136) (t := 140) hX dX1_one_133 (by decide) rfl (fun z100 => ?_) (fun z100 => ?_)
    · have h := ite_t z100 h
      refine V_iconst (v := 0) (q := 141) hX dX1_one_140 (by decide) rfl ?_
      obtain ⟨f1, f2⟩ := some2 h
      rw [f1, f2] at hQ
      exact V_zret (ty := .boolean) hX hQ rfl rfl dX1_one_141
    have h := ite_f z100 h
    refine V_iconst (v := 1) (q := 137) hX dX1_one_136 (by decide) rfl ?_
    refine V_goto hX dX1_one_137 (q := 141) (by decide) ?_
    obtain ⟨f1, f2⟩ := some2 h
    rw [f1, f2] at hQ
    exact V_zret (ty := .boolean) hX hQ rfl rfl dX1_one_141
  have h := ite_t z87 h
  refine V_aload_n (q := 71) hX dX1_one_70 0 rfl rfl ?_
  refine V_iload_n (q := 72) hX dX1_one_71 1 rfl rfl ?_
  obtain ⟨r102, σ101, e103, h⟩ := bnd_some h
  refine V_cvI (n := 75) (c := 1) (nf := 7) (C := RX1) (T := TX1) (As := [.int (a1)]) (q := 75) hX (c1_opens hX.2.2.2.2.1 hN e103) (goodV_of k2_147 k2_149 kp_8 k1_4 (cons_g k2_150)) (nA := 1) (by decide) rfl (mG_lo d 5 rfl) rfl rfl rfl ⟨rfl, by decide⟩ hN rfl rfl rfl dX1_one_72 rfl ?_
  refine V_if_eq (q := 78) (t := 88) hX dX1_one_75 (by decide) rfl (fun z104 => ?_) (fun z104 => ?_)
  · have h := ite_t z104 h
    refine V_iconst (v := 0) (q := 89) hX dX1_one_88 (by decide) rfl ?_
    obtain ⟨f1, f2⟩ := some2 h
    rw [f1, f2] at hQ
    exact V_zret (ty := .boolean) hX hQ rfl rfl dX1_one_89
  have h := ite_f z104 h
  refine V_aload_n (q := 79) hX dX1_one_78 0 rfl rfl ?_
  refine V_iload_n (q := 80) hX dX1_one_79 1 rfl rfl ?_
  refine V_iconst (v := 1) (q := 81) hX dX1_one_80 (by decide) rfl ?_
  refine V_iadd (q := 82) hX dX1_one_81 rfl ?_
  obtain ⟨r106, σ105, e107, h⟩ := bnd_some h
  refine V_cvI (n := 75) (c := 1) (nf := 7) (C := RX1) (T := TX1) (As := [.int ((a1 + (1 : Int32)))]) (q := 85) hX (hR 5 (by decide) _ _ _ _ e107) (goodV_of k2_163 k2_165 kp_11 k1_4 (cons_g k2_166)) (nA := 1) (by decide) rfl (mG_lt d 5 5) rfl rfl rfl ⟨rfl, by decide⟩ hN rfl rfl rfl dX1_one_82 rfl ?_
  refine V_if_ne (q := 88) (t := 90) hX dX1_one_85 (by decide) rfl (fun z108 => ?_) (fun z108 => ?_)
  · have h := ite_f z108 h
    refine V_aload_n (q := 91) hX dX1_one_90 0 rfl rfl ?_
    obtain ⟨hp109, h⟩ := chk_t h
    refine V_getM (n := 75) (c := 1) (k := 6) (nf := 7) (C := RX1) (T := TX1) (q := 94) hX rfl rfl iG1 k1_120 rfl rfl ⟨rfl, by decide⟩ hN rfl rfl rfl dX1_one_91 rfl ?_
    refine V_iconst (v := -1) (q := 95) hX dX1_one_94 (by decide) rfl ?_
    obtain ⟨r111, σ110, e112, h⟩ := bnd_some h
    refine V_cvV (n := 75) (c := 6) (nf := 3) (C := RX6) (T := TX6) (As := [.int ((-1 : Int32))]) (q := 98) hX (c6_add hX.2.2.2.2.1 hN hp109 e112) (goodV_of k2_151 k2_152 k2_153 k1_5 (cons_g k2_154)) (nA := 1) (by decide) rfl (mG_lo d 5 rfl) rfl rfl rfl hp109 hN rfl rfl rfl dX1_one_95 rfl ?_
    refine V_iconst (v := 1) (q := 99) hX dX1_one_98 (by decide) rfl ?_
    obtain ⟨f1, f2⟩ := some2 h
    rw [f1, f2] at hQ
    exact V_zret (ty := .boolean) hX hQ rfl rfl dX1_one_99
  have h := ite_t z108 h
  refine V_iconst (v := 0) (q := 89) hX dX1_one_88 (by decide) rfl ?_
  obtain ⟨f1, f2⟩ := some2 h
  rw [f1, f2] at hQ
  exact V_zret (ty := .boolean) hX hQ rfl rfl dX1_one_89
set_option maxRecDepth 100000 in
set_option maxHeartbeats 4000000 in
theorem v1_one {g : GT} {X : XT} {d : Nat} {a1 : Int32} {R : Nat → Int32 → St → Option (Int32 × St)} (hX : OkX g X (mG (d + 1) 5)) (hN : 75 ≤ g.N) (hR : ∀ w, w < 6 → ∀ a σ r σ', R w a σ = some (r, σ') → CtI g X.l (mG d w) (yG w) [.ref (g.ad 26), .int a] σ r σ') {res : Int32 × St} (hQ : X.Q = QI g X res.1 res.2 ∧ X.cells = 0 ∧ X.slots = 0) {σ : St} (h : B1_one R a1 σ = some res) : V g X (mG (d + 1) 5) 0 [(0, .ref (g.ad (26))), (1, .int (a1))] [] σ := by
  unfold B1_one at h
  refine V_aload_n (q := 1) hX dX1_one_0 0 rfl rfl ?_
  refine V_getI (n := 75) (c := 1) (k := 4) (nf := 7) (C := RX1) (T := TX1) (q := 4) hX rfl rfl iG1 k1_118 rfl rfl ⟨rfl, by decide⟩ hN rfl rfl dX1_one_1 rfl ?_
  refine V_iconst (v := 1) (q := 5) hX dX1_one_4 (by decide) rfl ?_
  refine V_icmp_ne (q := 8) (t := 25) hX dX1_one_5 (by decide) rfl (fun z113 => ?_) (fun z113 => ?_)
  · have h := ite_f z113 h
    refine V_aload_n (q := 26) hX dX1_one_25 0 rfl rfl ?_
    refine V_getI (n := 75) (c := 1) (k := 4) (nf := 7) (C := RX1) (T := TX1) (q := 29) hX rfl rfl iG1 k1_118 rfl rfl ⟨rfl, by decide⟩ hN rfl rfl dX1_one_26 rfl ?_
    refine V_bipush (v := 100) (q := 31) hX dX1_one_29 (by decide) rfl ?_
    refine V_icmp_lt (q := 34) (t := 61) hX dX1_one_31 (by decide) rfl (fun z114 => ?_) (fun z114 => ?_)
    · have h := ite_t z114 h
      refine V.pick [0, 1] rfl ?_
      exact v1_one_61 hX hN hR hQ σ h
    have h := ite_f z114 h
    refine V_aload_n (q := 35) hX dX1_one_34 0 rfl rfl ?_
    refine V_getI (n := 75) (c := 1) (k := 4) (nf := 7) (C := RX1) (T := TX1) (q := 38) hX rfl rfl iG1 k1_118 rfl rfl ⟨rfl, by decide⟩ hN rfl rfl dX1_one_35 rfl ?_
    refine V_bipush (v := 106) (q := 40) hX dX1_one_38 (by decide) rfl ?_
    refine V_icmp_ge (q := 43) (t := 61) hX dX1_one_40 (by decide) rfl (fun z115 => ?_) (fun z115 => ?_)
    · have h := ite_t z115 h
      refine V.pick [0, 1] rfl ?_
      exact v1_one_61 hX hN hR hQ σ h
    have h := ite_f z115 h
    refine V_aload_n (q := 44) hX dX1_one_43 0 rfl rfl ?_
    obtain ⟨hp116, h⟩ := chk_t h
    refine V_getM (n := 75) (c := 1) (k := 6) (nf := 7) (C := RX1) (T := TX1) (q := 47) hX rfl rfl iG1 k1_120 rfl rfl ⟨rfl, by decide⟩ hN rfl rfl rfl dX1_one_44 rfl ?_
    refine V_aload_n (q := 48) hX dX1_one_47 0 rfl rfl ?_
    refine V_getI (n := 75) (c := 1) (k := 4) (nf := 7) (C := RX1) (T := TX1) (q := 51) hX rfl rfl iG1 k1_118 rfl rfl ⟨rfl, by decide⟩ hN rfl rfl dX1_one_48 rfl ?_
    refine V_ineg (q := 52) hX dX1_one_51 rfl ?_
    obtain ⟨r118, σ117, e119, h⟩ := bnd_some h
    refine V_cvV (n := 75) (c := 6) (nf := 3) (C := RX6) (T := TX6) (As := [.int ((-(gI σ 26 4)))]) (q := 55) hX (c6_add hX.2.2.2.2.1 hN hp116 e119) (goodV_of k2_151 k2_152 k2_153 k1_5 (cons_g k2_154)) (nA := 1) (by decide) rfl (mG_lo d 5 rfl) rfl rfl rfl hp116 hN rfl rfl rfl dX1_one_52 rfl ?_
    refine V_aload_n (q := 56) hX dX1_one_55 0 rfl rfl ?_
    obtain ⟨r121, σ120, e122, h⟩ := bnd_some h
    refine V_cvV (n := 75) (c := 1) (nf := 7) (C := RX1) (T := TX1) (As := []) (q := 59) hX (c1_step hX.2.2.2.2.1 hN e122) (goodV_of k2_43 k2_45 kp_0 k1_4 (cons_g k2_46)) (nA := 0) (by decide) rfl (mG_lo d 5 rfl) rfl rfl rfl ⟨rfl, by decide⟩ hN rfl rfl rfl dX1_one_56 rfl ?_
    refine V_iconst (v := 1) (q := 60) hX dX1_one_59 (by decide) rfl ?_
    obtain ⟨f1, f2⟩ := some2 h
    rw [f1, f2] at hQ
    exact V_zret (ty := .boolean) hX hQ rfl rfl dX1_one_60
  have h := ite_t z113 h
  refine V_aload_n (q := 9) hX dX1_one_8 0 rfl rfl ?_
  obtain ⟨hp123, h⟩ := chk_t h
  refine V_getM (n := 75) (c := 1) (k := 6) (nf := 7) (C := RX1) (T := TX1) (q := 12) hX rfl rfl iG1 k1_120 rfl rfl ⟨rfl, by decide⟩ hN rfl rfl rfl dX1_one_9 rfl ?_
  refine V_aload_n (q := 13) hX dX1_one_12 0 rfl rfl ?_
  refine V_getI (n := 75) (c := 1) (k := 5) (nf := 7) (C := RX1) (T := TX1) (q := 16) hX rfl rfl iG1 k1_119 rfl rfl ⟨rfl, by decide⟩ hN rfl rfl dX1_one_13 rfl ?_
  obtain ⟨r125, σ124, e126, h⟩ := bnd_some h
  refine V_cvV (n := 75) (c := 6) (nf := 3) (C := RX6) (T := TX6) (As := [.int ((gI σ 26 5))]) (q := 19) hX (c6_add hX.2.2.2.2.1 hN hp123 e126) (goodV_of k2_151 k2_152 k2_153 k1_5 (cons_g k2_154)) (nA := 1) (by decide) rfl (mG_lo d 5 rfl) rfl rfl rfl hp123 hN rfl rfl rfl dX1_one_16 rfl ?_
  refine V_aload_n (q := 20) hX dX1_one_19 0 rfl rfl ?_
  obtain ⟨r128, σ127, e129, h⟩ := bnd_some h
  refine V_cvV (n := 75) (c := 1) (nf := 7) (C := RX1) (T := TX1) (As := []) (q := 23) hX (c1_step hX.2.2.2.2.1 hN e129) (goodV_of k2_43 k2_45 kp_0 k1_4 (cons_g k2_46)) (nA := 0) (by decide) rfl (mG_lo d 5 rfl) rfl rfl rfl ⟨rfl, by decide⟩ hN rfl rfl rfl dX1_one_20 rfl ?_
  refine V_iconst (v := 1) (q := 24) hX dX1_one_23 (by decide) rfl ?_
  obtain ⟨f1, f2⟩ := some2 h
  rw [f1, f2] at hQ
  exact V_zret (ty := .boolean) hX hQ rfl rfl dX1_one_24

def B1_term_12 (R : Nat → Int32 → St → Option (Int32 × St)) (a1 : Int32) (rec : Int32 → St → Option (Int32 × St)) (x2 : Int32) (σ : St) : Option (Int32 × St) := if (160 : Int32) ≤ x2 then (some ((1 : Int32), σ)) else (if (gI σ 26 4) = (42 : Int32) then (bnd (S1_step σ) fun r38 σ37 => bnd (R 5 a1 σ37) fun r41 σ40 => if r41 = 0 then (some ((0 : Int32), σ40)) else (if Ob 75 6 (gR σ40 26 6) then (bnd (S6_add (gR σ40 26 6) (-42 : Int32) σ40) fun r46 σ45 => rec (x2 + 1) σ45) else none)) else (some ((1 : Int32), σ)))
def S1_term_12 (R : Nat → Int32 → St → Option (Int32 × St)) (a1 : Int32) : Nat → Int32 → St → Option (Int32 × St)
  | 0, _, _ => none
  | n + 1, x2, σ => B1_term_12 R a1 (S1_term_12 R a1 n) x2 σ
def B1_term (R : Nat → Int32 → St → Option (Int32 × St)) (a1 : Int32) (σ : St) : Option (Int32 × St) := bnd (R 5 a1 σ) fun r49 σ48 => if r49 = 0 then (some ((0 : Int32), σ48)) else (S1_term_12 R a1 4096 (0 : Int32) σ48)
set_option maxRecDepth 100000 in
set_option maxHeartbeats 4000000 in
theorem v1_term_12n {g : GT} {X : XT} {d : Nat} {a1 : Int32} {R : Nat → Int32 → St → Option (Int32 × St)} (hX : OkX g X (mG (d + 1) 4)) (hN : 75 ≤ g.N) (hR : ∀ w, w < 6 → ∀ a σ r σ', R w a σ = some (r, σ') → CtI g X.l (mG d w) (yG w) [.ref (g.ad 26), .int a] σ r σ') {res : Int32 × St} (hQ : X.Q = QI g X res.1 res.2 ∧ X.cells = 0 ∧ X.slots = 0)   (n : Nat) : ∀ (x2 : Int32) (σ : St) , S1_term_12 R a1 n x2 σ = some res → V g X (mG (d + 1) 4) 12 [(0, .ref (g.ad (26))), (1, .int (a1)), (2, .int (x2))] [] σ := by
  induction n with
  | zero => intro x2 σ; intro h; cases h
  | succ n ih =>
    intro x2 σ h
    have h : B1_term_12 R a1 (S1_term_12 R a1 n) x2 σ = some res := h
    unfold B1_term_12 at h
    refine V_iload_n (q := 13) hX dX1_term_12 2 rfl rfl ?_
    refine V_sipush (v := 160) (q := 16) hX dX1_term_13 (by decide) rfl ?_
    refine V_icmp_ge (q := 19) (t := 57) hX dX1_term_16 (by decide) rfl (fun z35 => ?_) (fun z35 => ?_)
    · have h := ite_t z35 h
      refine V_iconst (v := 1) (q := 58) hX dX1_term_57 (by decide) rfl ?_
      obtain ⟨f1, f2⟩ := some2 h
      rw [f1, f2] at hQ
      exact V_zret (ty := .boolean) hX hQ rfl rfl dX1_term_58
    have h := ite_f z35 h
    refine V_aload_n (q := 20) hX dX1_term_19 0 rfl rfl ?_
    refine V_getI (n := 75) (c := 1) (k := 4) (nf := 7) (C := RX1) (T := TX1) (q := 23) hX rfl rfl iG1 k1_118 rfl rfl ⟨rfl, by decide⟩ hN rfl rfl dX1_term_20 rfl ?_
    refine V_bipush (v := 42) (q := 25) hX dX1_term_23 (by decide) rfl ?_
    refine V_icmp_ne (q := 28) (t := 57) hX dX1_term_25 (by decide) rfl (fun z36 => ?_) (fun z36 => ?_)
    · have h := ite_f z36 h
      refine V_iconst (v := 1) (q := 58) hX dX1_term_57 (by decide) rfl ?_
      obtain ⟨f1, f2⟩ := some2 h
      rw [f1, f2] at hQ
      exact V_zret (ty := .boolean) hX hQ rfl rfl dX1_term_58
    have h := ite_t z36 h
    refine V_aload_n (q := 29) hX dX1_term_28 0 rfl rfl ?_
    obtain ⟨r38, σ37, e39, h⟩ := bnd_some h
    refine V_cvV (n := 75) (c := 1) (nf := 7) (C := RX1) (T := TX1) (As := []) (q := 32) hX (c1_step hX.2.2.2.2.1 hN e39) (goodV_of k2_43 k2_45 kp_0 k1_4 (cons_g k2_46)) (nA := 0) (by decide) rfl (mG_lo d 4 rfl) rfl rfl rfl ⟨rfl, by decide⟩ hN rfl rfl rfl dX1_term_29 rfl ?_
    refine V_aload_n (q := 33) hX dX1_term_32 0 rfl rfl ?_
    refine V_iload_n (q := 34) hX dX1_term_33 1 rfl rfl ?_
    obtain ⟨r41, σ40, e42, h⟩ := bnd_some h
    refine V_cvI (n := 75) (c := 1) (nf := 7) (C := RX1) (T := TX1) (As := [.int (a1)]) (q := 37) hX (hR 5 (by decide) _ _ _ _ e42) (goodV_of k2_163 k2_165 kp_11 k1_4 (cons_g k2_166)) (nA := 1) (by decide) rfl (mG_lt d 5 4) rfl rfl rfl ⟨rfl, by decide⟩ hN rfl rfl rfl dX1_term_34 rfl ?_
    refine V_if_ne (q := 40) (t := 42) hX dX1_term_37 (by decide) rfl (fun z43 => ?_) (fun z43 => ?_)
    · have h := ite_f z43 h
      refine V_aload_n (q := 43) hX dX1_term_42 0 rfl rfl ?_
      obtain ⟨hp44, h⟩ := chk_t h
      refine V_getM (n := 75) (c := 1) (k := 6) (nf := 7) (C := RX1) (T := TX1) (q := 46) hX rfl rfl iG1 k1_120 rfl rfl ⟨rfl, by decide⟩ hN rfl rfl rfl dX1_term_43 rfl ?_
      refine V_bipush (v := -42) (q := 48) hX dX1_term_46 (by decide) rfl ?_
      obtain ⟨r46, σ45, e47, h⟩ := bnd_some h
      refine V_cvV (n := 75) (c := 6) (nf := 3) (C := RX6) (T := TX6) (As := [.int ((-42 : Int32))]) (q := 51) hX (c6_add hX.2.2.2.2.1 hN hp44 e47) (goodV_of k2_151 k2_152 k2_153 k1_5 (cons_g k2_154)) (nA := 1) (by decide) rfl (mG_lo d 4 rfl) rfl rfl rfl hp44 hN rfl rfl rfl dX1_term_48 rfl ?_
      refine V_iinc (v := (x2 + 1)) (lv' := [(2, .int ((x2 + 1))), (0, .ref (g.ad (26))), (1, .int (a1))]) (q := 54) hX dX1_term_51 2 rfl (by rfl) rfl rfl rfl ?_
      refine V_goto hX dX1_term_54 (q := 12) (by decide) ?_
      refine V.pick [1, 2, 0] rfl ?_
      exact ih (x2 + 1) σ45  h
    have h := ite_t z43 h
    refine V_iconst (v := 0) (q := 41) hX dX1_term_40 (by decide) rfl ?_
    obtain ⟨f1, f2⟩ := some2 h
    rw [f1, f2] at hQ
    exact V_zret (ty := .boolean) hX hQ rfl rfl dX1_term_41
theorem v1_term_12 {g : GT} {X : XT} {d : Nat} {a1 : Int32} {R : Nat → Int32 → St → Option (Int32 × St)} (hX : OkX g X (mG (d + 1) 4)) (hN : 75 ≤ g.N) (hR : ∀ w, w < 6 → ∀ a σ r σ', R w a σ = some (r, σ') → CtI g X.l (mG d w) (yG w) [.ref (g.ad 26), .int a] σ r σ') {res : Int32 × St} (hQ : X.Q = QI g X res.1 res.2 ∧ X.cells = 0 ∧ X.slots = 0) (x2 : Int32) (σ : St) (h : S1_term_12 R a1 4096 x2 σ = some res) : V g X (mG (d + 1) 4) 12 [(0, .ref (g.ad (26))), (1, .int (a1)), (2, .int (x2))] [] σ := v1_term_12n hX hN hR hQ 4096 x2 σ h
set_option maxRecDepth 100000 in
set_option maxHeartbeats 4000000 in
theorem v1_term {g : GT} {X : XT} {d : Nat} {a1 : Int32} {R : Nat → Int32 → St → Option (Int32 × St)} (hX : OkX g X (mG (d + 1) 4)) (hN : 75 ≤ g.N) (hR : ∀ w, w < 6 → ∀ a σ r σ', R w a σ = some (r, σ') → CtI g X.l (mG d w) (yG w) [.ref (g.ad 26), .int a] σ r σ') {res : Int32 × St} (hQ : X.Q = QI g X res.1 res.2 ∧ X.cells = 0 ∧ X.slots = 0) {σ : St} (h : B1_term R a1 σ = some res) : V g X (mG (d + 1) 4) 0 [(0, .ref (g.ad (26))), (1, .int (a1))] [] σ := by
  unfold B1_term at h
  refine V_aload_n (q := 1) hX dX1_term_0 0 rfl rfl ?_
  refine V_iload_n (q := 2) hX dX1_term_1 1 rfl rfl ?_
  obtain ⟨r49, σ48, e50, h⟩ := bnd_some h
  refine V_cvI (n := 75) (c := 1) (nf := 7) (C := RX1) (T := TX1) (As := [.int (a1)]) (q := 5) hX (hR 5 (by decide) _ _ _ _ e50) (goodV_of k2_163 k2_165 kp_11 k1_4 (cons_g k2_166)) (nA := 1) (by decide) rfl (mG_lt d 5 4) rfl rfl rfl ⟨rfl, by decide⟩ hN rfl rfl rfl dX1_term_2 rfl ?_
  refine V_if_ne (q := 8) (t := 10) hX dX1_term_5 (by decide) rfl (fun z51 => ?_) (fun z51 => ?_)
  · have h := ite_f z51 h
    refine V_iconst (v := 0) (q := 11) hX dX1_term_10 (by decide) rfl ?_
    refine V_istore_n (lv' := [(2, .int ((0 : Int32))), (0, .ref (g.ad (26))), (1, .int (a1))]) (q := 12) hX dX1_term_11 rfl rfl rfl ?_
    refine V.pick [1, 2, 0] rfl ?_
    exact v1_term_12 hX hN hR hQ (0 : Int32) σ48 h
  have h := ite_t z51 h
  refine V_iconst (v := 0) (q := 9) hX dX1_term_8 (by decide) rfl ?_
  obtain ⟨f1, f2⟩ := some2 h
  rw [f1, f2] at hQ
  exact V_zret (ty := .boolean) hX hQ rfl rfl dX1_term_9

def S1_sum_37 (R : Nat → Int32 → St → Option (Int32 × St)) (a1 : Int32) (k12 : Int32 → St → Option (Int32 × St)) (x2 : Int32) (σ : St) : Option (Int32 × St) := bnd (S1_step σ) fun r56 σ55 => bnd (R 4 a1 σ55) fun r59 σ58 => if r59 = 0 then (some ((0 : Int32), σ58)) else (if Ob 75 6 (gR σ58 26 6) then (bnd (S6_add (gR σ58 26 6) (-(gI σ 26 4)) σ58) fun r64 σ63 => k12 (x2 + 1) σ63) else none)
def B1_sum_12 (R : Nat → Int32 → St → Option (Int32 × St)) (a1 : Int32) (rec : Int32 → St → Option (Int32 × St)) (x2 : Int32) (σ : St) : Option (Int32 × St) := if (160 : Int32) ≤ x2 then (some ((1 : Int32), σ)) else (if (gI σ 26 4) = (43 : Int32) then (S1_sum_37 R a1 rec x2 σ) else (if (gI σ 26 4) = (45 : Int32) then (S1_sum_37 R a1 rec x2 σ) else (some ((1 : Int32), σ))))
def S1_sum_12 (R : Nat → Int32 → St → Option (Int32 × St)) (a1 : Int32) : Nat → Int32 → St → Option (Int32 × St)
  | 0, _, _ => none
  | n + 1, x2, σ => B1_sum_12 R a1 (S1_sum_12 R a1 n) x2 σ
def B1_sum (R : Nat → Int32 → St → Option (Int32 × St)) (a1 : Int32) (σ : St) : Option (Int32 × St) := bnd (R 4 a1 σ) fun r70 σ69 => if r70 = 0 then (some ((0 : Int32), σ69)) else (S1_sum_12 R a1 4096 (0 : Int32) σ69)
set_option maxRecDepth 100000 in
set_option maxHeartbeats 4000000 in
theorem v1_sum_37 {g : GT} {X : XT} {d : Nat} {a1 : Int32} {R : Nat → Int32 → St → Option (Int32 × St)} (hX : OkX g X (mG (d + 1) 3)) (hN : 75 ≤ g.N) (hR : ∀ w, w < 6 → ∀ a σ r σ', R w a σ = some (r, σ') → CtI g X.l (mG d w) (yG w) [.ref (g.ad 26), .int a] σ r σ') {res : Int32 × St} (hQ : X.Q = QI g X res.1 res.2 ∧ X.cells = 0 ∧ X.slots = 0)  {k12 : Int32 → St → Option (Int32 × St)} (hk12 : ∀ (x2 : Int32) (σ : St), k12 x2 σ = some res → V g X (mG (d + 1) 3) 12 [(0, .ref (g.ad (26))), (1, .int (a1)), (2, .int (x2))] [] σ) (x2 : Int32) (σ : St)  (h : S1_sum_37 R a1 k12 x2 σ = some res) : V g X (mG (d + 1) 3) 37 [(0, .ref (g.ad (26))), (1, .int (a1)), (2, .int (x2))] [] σ := by
  unfold S1_sum_37 at h
  refine V_aload_n (q := 38) hX dX1_sum_37 0 rfl rfl ?_
  refine V_getI (n := 75) (c := 1) (k := 4) (nf := 7) (C := RX1) (T := TX1) (q := 41) hX rfl rfl iG1 k1_118 rfl rfl ⟨rfl, by decide⟩ hN rfl rfl dX1_sum_38 rfl ?_
  refine V_istore_n (lv' := [(3, .int ((gI σ 26 4))), (0, .ref (g.ad (26))), (1, .int (a1)), (2, .int (x2))]) (q := 42) hX dX1_sum_41 rfl rfl rfl ?_
  refine V_aload_n (q := 43) hX dX1_sum_42 1 rfl rfl ?_
  obtain ⟨r56, σ55, e57, h⟩ := bnd_some h
  refine V_cvV (n := 75) (c := 1) (nf := 7) (C := RX1) (T := TX1) (As := []) (q := 46) hX (c1_step hX.2.2.2.2.1 hN e57) (goodV_of k2_43 k2_45 kp_0 k1_4 (cons_g k2_46)) (nA := 0) (by decide) rfl (mG_lo d 3 rfl) rfl rfl rfl ⟨rfl, by decide⟩ hN rfl rfl rfl dX1_sum_43 rfl ?_
  refine V_aload_n (q := 47) hX dX1_sum_46 1 rfl rfl ?_
  refine V_iload_n (q := 48) hX dX1_sum_47 2 rfl rfl ?_
  obtain ⟨r59, σ58, e60, h⟩ := bnd_some h
  refine V_cvI (n := 75) (c := 1) (nf := 7) (C := RX1) (T := TX1) (As := [.int (a1)]) (q := 51) hX (hR 4 (by decide) _ _ _ _ e60) (goodV_of k2_159 k2_161 kp_10 k1_4 (cons_g k2_162)) (nA := 1) (by decide) rfl (mG_lt d 4 3) rfl rfl rfl ⟨rfl, by decide⟩ hN rfl rfl rfl dX1_sum_48 rfl ?_
  refine V_if_ne (q := 54) (t := 56) hX dX1_sum_51 (by decide) rfl (fun z61 => ?_) (fun z61 => ?_)
  · have h := ite_f z61 h
    refine V_aload_n (q := 57) hX dX1_sum_56 1 rfl rfl ?_
    obtain ⟨hp62, h⟩ := chk_t h
    refine V_getM (n := 75) (c := 1) (k := 6) (nf := 7) (C := RX1) (T := TX1) (q := 60) hX rfl rfl iG1 k1_120 rfl rfl ⟨rfl, by decide⟩ hN rfl rfl rfl dX1_sum_57 rfl ?_
    refine V_iload_n (q := 61) hX dX1_sum_60 0 rfl rfl ?_
    refine V_ineg (q := 62) hX dX1_sum_61 rfl ?_
    obtain ⟨r64, σ63, e65, h⟩ := bnd_some h
    refine V_cvV (n := 75) (c := 6) (nf := 3) (C := RX6) (T := TX6) (As := [.int ((-(gI σ 26 4)))]) (q := 65) hX (c6_add hX.2.2.2.2.1 hN hp62 e65) (goodV_of k2_151 k2_152 k2_153 k1_5 (cons_g k2_154)) (nA := 1) (by decide) rfl (mG_lo d 3 rfl) rfl rfl rfl hp62 hN rfl rfl rfl dX1_sum_62 rfl ?_
    refine V_iinc (v := (x2 + 1)) (lv' := [(2, .int ((x2 + 1))), (3, .int ((gI σ 26 4))), (0, .ref (g.ad (26))), (1, .int (a1))]) (q := 68) hX dX1_sum_65 3 rfl (by rfl) rfl rfl rfl ?_
    refine V_goto hX dX1_sum_68 (q := 12) (by decide) ?_
    refine V.pick [2, 3, 0] rfl ?_
    exact hk12 (x2 + 1) σ63  h
  have h := ite_t z61 h
  refine V_iconst (v := 0) (q := 55) hX dX1_sum_54 (by decide) rfl ?_
  obtain ⟨f1, f2⟩ := some2 h
  rw [f1, f2] at hQ
  exact V_zret (ty := .boolean) hX hQ rfl rfl dX1_sum_55
set_option maxRecDepth 100000 in
set_option maxHeartbeats 4000000 in
theorem v1_sum_12n {g : GT} {X : XT} {d : Nat} {a1 : Int32} {R : Nat → Int32 → St → Option (Int32 × St)} (hX : OkX g X (mG (d + 1) 3)) (hN : 75 ≤ g.N) (hR : ∀ w, w < 6 → ∀ a σ r σ', R w a σ = some (r, σ') → CtI g X.l (mG d w) (yG w) [.ref (g.ad 26), .int a] σ r σ') {res : Int32 × St} (hQ : X.Q = QI g X res.1 res.2 ∧ X.cells = 0 ∧ X.slots = 0)   (n : Nat) : ∀ (x2 : Int32) (σ : St) , S1_sum_12 R a1 n x2 σ = some res → V g X (mG (d + 1) 3) 12 [(0, .ref (g.ad (26))), (1, .int (a1)), (2, .int (x2))] [] σ := by
  induction n with
  | zero => intro x2 σ; intro h; cases h
  | succ n ih =>
    intro x2 σ h
    have h : B1_sum_12 R a1 (S1_sum_12 R a1 n) x2 σ = some res := h
    unfold B1_sum_12 at h
    refine V_iload_n (q := 13) hX dX1_sum_12 2 rfl rfl ?_
    refine V_sipush (v := 160) (q := 16) hX dX1_sum_13 (by decide) rfl ?_
    refine V_icmp_ge (q := 19) (t := 71) hX dX1_sum_16 (by decide) rfl (fun z66 => ?_) (fun z66 => ?_)
    · have h := ite_t z66 h
      refine V_iconst (v := 1) (q := 72) hX dX1_sum_71 (by decide) rfl ?_
      obtain ⟨f1, f2⟩ := some2 h
      rw [f1, f2] at hQ
      exact V_zret (ty := .boolean) hX hQ rfl rfl dX1_sum_72
    have h := ite_f z66 h
    refine V_aload_n (q := 20) hX dX1_sum_19 0 rfl rfl ?_
    refine V_getI (n := 75) (c := 1) (k := 4) (nf := 7) (C := RX1) (T := TX1) (q := 23) hX rfl rfl iG1 k1_118 rfl rfl ⟨rfl, by decide⟩ hN rfl rfl dX1_sum_20 rfl ?_
    refine V_bipush (v := 43) (q := 25) hX dX1_sum_23 (by decide) rfl ?_
    refine V_icmp_eq (q := 28) (t := 37) hX dX1_sum_25 (by decide) rfl (fun z67 => ?_) (fun z67 => ?_)
    · have h := ite_t z67 h
      refine V.pick [0, 1, 2] rfl ?_
      exact v1_sum_37 hX hN hR hQ ih x2 σ h
    have h := ite_f z67 h
    refine V_aload_n (q := 29) hX dX1_sum_28 0 rfl rfl ?_
    refine V_getI (n := 75) (c := 1) (k := 4) (nf := 7) (C := RX1) (T := TX1) (q := 32) hX rfl rfl iG1 k1_118 rfl rfl ⟨rfl, by decide⟩ hN rfl rfl dX1_sum_29 rfl ?_
    refine V_bipush (v := 45) (q := 34) hX dX1_sum_32 (by decide) rfl ?_
    refine V_icmp_ne (q := 37) (t := 71) hX dX1_sum_34 (by decide) rfl (fun z68 => ?_) (fun z68 => ?_)
    · have h := ite_f z68 h
      refine V_iconst (v := 1) (q := 72) hX dX1_sum_71 (by decide) rfl ?_
      obtain ⟨f1, f2⟩ := some2 h
      rw [f1, f2] at hQ
      exact V_zret (ty := .boolean) hX hQ rfl rfl dX1_sum_72
    have h := ite_t z68 h
    refine V.pick [0, 1, 2] rfl ?_
    exact v1_sum_37 hX hN hR hQ ih x2 σ h
theorem v1_sum_12 {g : GT} {X : XT} {d : Nat} {a1 : Int32} {R : Nat → Int32 → St → Option (Int32 × St)} (hX : OkX g X (mG (d + 1) 3)) (hN : 75 ≤ g.N) (hR : ∀ w, w < 6 → ∀ a σ r σ', R w a σ = some (r, σ') → CtI g X.l (mG d w) (yG w) [.ref (g.ad 26), .int a] σ r σ') {res : Int32 × St} (hQ : X.Q = QI g X res.1 res.2 ∧ X.cells = 0 ∧ X.slots = 0) (x2 : Int32) (σ : St) (h : S1_sum_12 R a1 4096 x2 σ = some res) : V g X (mG (d + 1) 3) 12 [(0, .ref (g.ad (26))), (1, .int (a1)), (2, .int (x2))] [] σ := v1_sum_12n hX hN hR hQ 4096 x2 σ h
set_option maxRecDepth 100000 in
set_option maxHeartbeats 4000000 in
theorem v1_sum {g : GT} {X : XT} {d : Nat} {a1 : Int32} {R : Nat → Int32 → St → Option (Int32 × St)} (hX : OkX g X (mG (d + 1) 3)) (hN : 75 ≤ g.N) (hR : ∀ w, w < 6 → ∀ a σ r σ', R w a σ = some (r, σ') → CtI g X.l (mG d w) (yG w) [.ref (g.ad 26), .int a] σ r σ') {res : Int32 × St} (hQ : X.Q = QI g X res.1 res.2 ∧ X.cells = 0 ∧ X.slots = 0) {σ : St} (h : B1_sum R a1 σ = some res) : V g X (mG (d + 1) 3) 0 [(0, .ref (g.ad (26))), (1, .int (a1))] [] σ := by
  unfold B1_sum at h
  refine V_aload_n (q := 1) hX dX1_sum_0 0 rfl rfl ?_
  refine V_iload_n (q := 2) hX dX1_sum_1 1 rfl rfl ?_
  obtain ⟨r70, σ69, e71, h⟩ := bnd_some h
  refine V_cvI (n := 75) (c := 1) (nf := 7) (C := RX1) (T := TX1) (As := [.int (a1)]) (q := 5) hX (hR 4 (by decide) _ _ _ _ e71) (goodV_of k2_159 k2_161 kp_10 k1_4 (cons_g k2_162)) (nA := 1) (by decide) rfl (mG_lt d 4 3) rfl rfl rfl ⟨rfl, by decide⟩ hN rfl rfl rfl dX1_sum_2 rfl ?_
  refine V_if_ne (q := 8) (t := 10) hX dX1_sum_5 (by decide) rfl (fun z72 => ?_) (fun z72 => ?_)
  · have h := ite_f z72 h
    refine V_iconst (v := 0) (q := 11) hX dX1_sum_10 (by decide) rfl ?_
    refine V_istore_n (lv' := [(2, .int ((0 : Int32))), (0, .ref (g.ad (26))), (1, .int (a1))]) (q := 12) hX dX1_sum_11 rfl rfl rfl ?_
    refine V.pick [1, 2, 0] rfl ?_
    exact v1_sum_12 hX hN hR hQ (0 : Int32) σ69 h
  have h := ite_t z72 h
  refine V_iconst (v := 0) (q := 9) hX dX1_sum_8 (by decide) rfl ?_
  obtain ⟨f1, f2⟩ := some2 h
  rw [f1, f2] at hQ
  exact V_zret (ty := .boolean) hX hQ rfl rfl dX1_sum_9

def S1_truth_70 (R : Nat → Int32 → St → Option (Int32 × St)) (a1 : Int32) (σ : St) : Option (Int32 × St) := bnd (S1_step σ) fun r62 σ61 => bnd (R 3 a1 σ61) fun r65 σ64 => if r65 = 0 then (some ((0 : Int32), σ64)) else (if Ob 75 6 (gR σ64 26 6) then (bnd (S6_add (gR σ64 26 6) (-(gI σ 26 4)) σ64) fun r70 σ69 => some ((1 : Int32), σ69)) else none)
def B1_truth (R : Nat → Int32 → St → Option (Int32 × St)) (a1 : Int32) (σ : St) : Option (Int32 × St) := if (gI σ 26 4) = (111 : Int32) then (bnd (S1_opens a1 σ) fun r80 σ79 => if r80 = 0 then (some ((0 : Int32), σ79)) else (bnd (R 2 (a1 + (1 : Int32)) σ79) fun r84 σ83 => if r84 = 0 then (some ((0 : Int32), σ83)) else (if Ob 75 6 (gR σ83 26 6) then (bnd (S6_add (gR σ83 26 6) (-111 : Int32) σ83) fun r89 σ88 => some ((1 : Int32), σ88)) else none))) else (bnd (R 3 a1 σ) fun r74 σ73 => if r74 = 0 then (some ((0 : Int32), σ73)) else (if (gI σ73 26 4) = (60 : Int32) then (S1_truth_70 R a1 σ73) else (if (gI σ73 26 4) = (61 : Int32) then (S1_truth_70 R a1 σ73) else (some ((1 : Int32), σ73)))))
set_option maxRecDepth 100000 in
set_option maxHeartbeats 4000000 in
theorem v1_truth_70 {g : GT} {X : XT} {d : Nat} {a1 : Int32} {R : Nat → Int32 → St → Option (Int32 × St)} (hX : OkX g X (mG (d + 1) 2)) (hN : 75 ≤ g.N) (hR : ∀ w, w < 6 → ∀ a σ r σ', R w a σ = some (r, σ') → CtI g X.l (mG d w) (yG w) [.ref (g.ad 26), .int a] σ r σ') {res : Int32 × St} (hQ : X.Q = QI g X res.1 res.2 ∧ X.cells = 0 ∧ X.slots = 0)    (σ : St)  (h : S1_truth_70 R a1 σ = some res) : V g X (mG (d + 1) 2) 70 [(0, .ref (g.ad (26))), (1, .int (a1))] [] σ := by
  unfold S1_truth_70 at h
  refine V_aload_n (q := 71) hX dX1_truth_70 0 rfl rfl ?_
  refine V_getI (n := 75) (c := 1) (k := 4) (nf := 7) (C := RX1) (T := TX1) (q := 74) hX rfl rfl iG1 k1_118 rfl rfl ⟨rfl, by decide⟩ hN rfl rfl dX1_truth_71 rfl ?_
  refine V_istore_n (lv' := [(2, .int ((gI σ 26 4))), (0, .ref (g.ad (26))), (1, .int (a1))]) (q := 75) hX dX1_truth_74 rfl rfl rfl ?_
  refine V_aload_n (q := 76) hX dX1_truth_75 1 rfl rfl ?_
  obtain ⟨r62, σ61, e63, h⟩ := bnd_some h
  refine V_cvV (n := 75) (c := 1) (nf := 7) (C := RX1) (T := TX1) (As := []) (q := 79) hX (c1_step hX.2.2.2.2.1 hN e63) (goodV_of k2_43 k2_45 kp_0 k1_4 (cons_g k2_46)) (nA := 0) (by decide) rfl (mG_lo d 2 rfl) rfl rfl rfl ⟨rfl, by decide⟩ hN rfl rfl rfl dX1_truth_76 rfl ?_
  refine V_aload_n (q := 80) hX dX1_truth_79 1 rfl rfl ?_
  refine V_iload_n (q := 81) hX dX1_truth_80 2 rfl rfl ?_
  obtain ⟨r65, σ64, e66, h⟩ := bnd_some h
  refine V_cvI (n := 75) (c := 1) (nf := 7) (C := RX1) (T := TX1) (As := [.int (a1)]) (q := 84) hX (hR 3 (by decide) _ _ _ _ e66) (goodV_of k2_155 k2_157 kp_9 k1_4 (cons_g k2_158)) (nA := 1) (by decide) rfl (mG_lt d 3 2) rfl rfl rfl ⟨rfl, by decide⟩ hN rfl rfl rfl dX1_truth_81 rfl ?_
  refine V_if_ne (q := 87) (t := 89) hX dX1_truth_84 (by decide) rfl (fun z67 => ?_) (fun z67 => ?_)
  · have h := ite_f z67 h
    refine V_aload_n (q := 90) hX dX1_truth_89 1 rfl rfl ?_
    obtain ⟨hp68, h⟩ := chk_t h
    refine V_getM (n := 75) (c := 1) (k := 6) (nf := 7) (C := RX1) (T := TX1) (q := 93) hX rfl rfl iG1 k1_120 rfl rfl ⟨rfl, by decide⟩ hN rfl rfl rfl dX1_truth_90 rfl ?_
    refine V_iload_n (q := 94) hX dX1_truth_93 0 rfl rfl ?_
    refine V_ineg (q := 95) hX dX1_truth_94 rfl ?_
    obtain ⟨r70, σ69, e71, h⟩ := bnd_some h
    refine V_cvV (n := 75) (c := 6) (nf := 3) (C := RX6) (T := TX6) (As := [.int ((-(gI σ 26 4)))]) (q := 98) hX (c6_add hX.2.2.2.2.1 hN hp68 e71) (goodV_of k2_151 k2_152 k2_153 k1_5 (cons_g k2_154)) (nA := 1) (by decide) rfl (mG_lo d 2 rfl) rfl rfl rfl hp68 hN rfl rfl rfl dX1_truth_95 rfl ?_
    refine V_iconst (v := 1) (q := 99) hX dX1_truth_98 (by decide) rfl ?_
    obtain ⟨f1, f2⟩ := some2 h
    rw [f1, f2] at hQ
    exact V_zret (ty := .boolean) hX hQ rfl rfl dX1_truth_99
  have h := ite_t z67 h
  refine V_iconst (v := 0) (q := 88) hX dX1_truth_87 (by decide) rfl ?_
  obtain ⟨f1, f2⟩ := some2 h
  rw [f1, f2] at hQ
  exact V_zret (ty := .boolean) hX hQ rfl rfl dX1_truth_88
set_option maxRecDepth 100000 in
set_option maxHeartbeats 4000000 in
theorem v1_truth {g : GT} {X : XT} {d : Nat} {a1 : Int32} {R : Nat → Int32 → St → Option (Int32 × St)} (hX : OkX g X (mG (d + 1) 2)) (hN : 75 ≤ g.N) (hR : ∀ w, w < 6 → ∀ a σ r σ', R w a σ = some (r, σ') → CtI g X.l (mG d w) (yG w) [.ref (g.ad 26), .int a] σ r σ') {res : Int32 × St} (hQ : X.Q = QI g X res.1 res.2 ∧ X.cells = 0 ∧ X.slots = 0) {σ : St} (h : B1_truth R a1 σ = some res) : V g X (mG (d + 1) 2) 0 [(0, .ref (g.ad (26))), (1, .int (a1))] [] σ := by
  unfold B1_truth at h
  refine V_aload_n (q := 1) hX dX1_truth_0 0 rfl rfl ?_
  refine V_getI (n := 75) (c := 1) (k := 4) (nf := 7) (C := RX1) (T := TX1) (q := 4) hX rfl rfl iG1 k1_118 rfl rfl ⟨rfl, by decide⟩ hN rfl rfl dX1_truth_1 rfl ?_
  refine V_bipush (v := 111) (q := 6) hX dX1_truth_4 (by decide) rfl ?_
  refine V_icmp_ne (q := 9) (t := 40) hX dX1_truth_6 (by decide) rfl (fun z72 => ?_) (fun z72 => ?_)
  · have h := ite_f z72 h
    refine V_aload_n (q := 41) hX dX1_truth_40 0 rfl rfl ?_
    refine V_iload_n (q := 42) hX dX1_truth_41 1 rfl rfl ?_
    obtain ⟨r74, σ73, e75, h⟩ := bnd_some h
    refine V_cvI (n := 75) (c := 1) (nf := 7) (C := RX1) (T := TX1) (As := [.int (a1)]) (q := 45) hX (hR 3 (by decide) _ _ _ _ e75) (goodV_of k2_155 k2_157 kp_9 k1_4 (cons_g k2_158)) (nA := 1) (by decide) rfl (mG_lt d 3 2) rfl rfl rfl ⟨rfl, by decide⟩ hN rfl rfl rfl dX1_truth_42 rfl ?_
    refine V_if_ne (q := 48) (t := 50) hX dX1_truth_45 (by decide) rfl (fun z76 => ?_) (fun z76 => ?_)
    · have h := ite_f z76 h
      refine V_aload_n (q := 51) hX dX1_truth_50 0 rfl rfl ?_
      refine V_getI (n := 75) (c := 1) (k := 4) (nf := 7) (C := RX1) (T := TX1) (q := 54) hX rfl rfl iG1 k1_118 rfl rfl ⟨rfl, by decide⟩ hN rfl rfl dX1_truth_51 rfl ?_
      refine V_bipush (v := 60) (q := 56) hX dX1_truth_54 (by decide) rfl ?_
      refine V_icmp_eq (q := 59) (t := 70) hX dX1_truth_56 (by decide) rfl (fun z77 => ?_) (fun z77 => ?_)
      · have h := ite_t z77 h
        refine V.pick [0, 1] rfl ?_
        exact v1_truth_70 hX hN hR hQ σ73 h
      have h := ite_f z77 h
      refine V_aload_n (q := 60) hX dX1_truth_59 0 rfl rfl ?_
      refine V_getI (n := 75) (c := 1) (k := 4) (nf := 7) (C := RX1) (T := TX1) (q := 63) hX rfl rfl iG1 k1_118 rfl rfl ⟨rfl, by decide⟩ hN rfl rfl dX1_truth_60 rfl ?_
      refine V_bipush (v := 61) (q := 65) hX dX1_truth_63 (by decide) rfl ?_
      refine V_icmp_eq (q := 68) (t := 70) hX dX1_truth_65 (by decide) rfl (fun z78 => ?_) (fun z78 => ?_)
      · have h := ite_t z78 h
        refine V.pick [0, 1] rfl ?_
        exact v1_truth_70 hX hN hR hQ σ73 h
      have h := ite_f z78 h
      refine V_iconst (v := 1) (q := 69) hX dX1_truth_68 (by decide) rfl ?_
      obtain ⟨f1, f2⟩ := some2 h
      rw [f1, f2] at hQ
      exact V_zret (ty := .boolean) hX hQ rfl rfl dX1_truth_69
    have h := ite_t z76 h
    refine V_iconst (v := 0) (q := 49) hX dX1_truth_48 (by decide) rfl ?_
    obtain ⟨f1, f2⟩ := some2 h
    rw [f1, f2] at hQ
    exact V_zret (ty := .boolean) hX hQ rfl rfl dX1_truth_49
  have h := ite_t z72 h
  refine V_aload_n (q := 10) hX dX1_truth_9 0 rfl rfl ?_
  refine V_iload_n (q := 11) hX dX1_truth_10 1 rfl rfl ?_
  obtain ⟨r80, σ79, e81, h⟩ := bnd_some h
  refine V_cvI (n := 75) (c := 1) (nf := 7) (C := RX1) (T := TX1) (As := [.int (a1)]) (q := 14) hX (c1_opens hX.2.2.2.2.1 hN e81) (goodV_of k2_147 k2_149 kp_8 k1_4 (cons_g k2_150)) (nA := 1) (by decide) rfl (mG_lo d 2 rfl) rfl rfl rfl ⟨rfl, by decide⟩ hN rfl rfl rfl dX1_truth_11 rfl ?_
  refine V_if_eq (q := 17) (t := 27) hX dX1_truth_14 (by decide) rfl (fun z82 => ?_) (fun z82 => ?_)
  · have h := ite_t z82 h
    refine V_iconst (v := 0) (q := 28) hX dX1_truth_27 (by decide) rfl ?_
    obtain ⟨f1, f2⟩ := some2 h
    rw [f1, f2] at hQ
    exact V_zret (ty := .boolean) hX hQ rfl rfl dX1_truth_28
  have h := ite_f z82 h
  refine V_aload_n (q := 18) hX dX1_truth_17 0 rfl rfl ?_
  refine V_iload_n (q := 19) hX dX1_truth_18 1 rfl rfl ?_
  refine V_iconst (v := 1) (q := 20) hX dX1_truth_19 (by decide) rfl ?_
  refine V_iadd (q := 21) hX dX1_truth_20 rfl ?_
  obtain ⟨r84, σ83, e85, h⟩ := bnd_some h
  refine V_cvI (n := 75) (c := 1) (nf := 7) (C := RX1) (T := TX1) (As := [.int ((a1 + (1 : Int32)))]) (q := 24) hX (hR 2 (by decide) _ _ _ _ e85) (goodV_of k2_143 k2_145 kp_7 k1_4 (cons_g k2_146)) (nA := 1) (by decide) rfl (mG_lt d 2 2) rfl rfl rfl ⟨rfl, by decide⟩ hN rfl rfl rfl dX1_truth_21 rfl ?_
  refine V_if_ne (q := 27) (t := 29) hX dX1_truth_24 (by decide) rfl (fun z86 => ?_) (fun z86 => ?_)
  · have h := ite_f z86 h
    refine V_aload_n (q := 30) hX dX1_truth_29 0 rfl rfl ?_
    obtain ⟨hp87, h⟩ := chk_t h
    refine V_getM (n := 75) (c := 1) (k := 6) (nf := 7) (C := RX1) (T := TX1) (q := 33) hX rfl rfl iG1 k1_120 rfl rfl ⟨rfl, by decide⟩ hN rfl rfl rfl dX1_truth_30 rfl ?_
    refine V_bipush (v := -111) (q := 35) hX dX1_truth_33 (by decide) rfl ?_
    obtain ⟨r89, σ88, e90, h⟩ := bnd_some h
    refine V_cvV (n := 75) (c := 6) (nf := 3) (C := RX6) (T := TX6) (As := [.int ((-111 : Int32))]) (q := 38) hX (c6_add hX.2.2.2.2.1 hN hp87 e90) (goodV_of k2_151 k2_152 k2_153 k1_5 (cons_g k2_154)) (nA := 1) (by decide) rfl (mG_lo d 2 rfl) rfl rfl rfl hp87 hN rfl rfl rfl dX1_truth_35 rfl ?_
    refine V_iconst (v := 1) (q := 39) hX dX1_truth_38 (by decide) rfl ?_
    obtain ⟨f1, f2⟩ := some2 h
    rw [f1, f2] at hQ
    exact V_zret (ty := .boolean) hX hQ rfl rfl dX1_truth_39
  have h := ite_t z86 h
  refine V_iconst (v := 0) (q := 28) hX dX1_truth_27 (by decide) rfl ?_
  obtain ⟨f1, f2⟩ := some2 h
  rw [f1, f2] at hQ
  exact V_zret (ty := .boolean) hX hQ rfl rfl dX1_truth_28

def B1_all_12 (R : Nat → Int32 → St → Option (Int32 × St)) (a1 : Int32) (rec : Int32 → St → Option (Int32 × St)) (x2 : Int32) (σ : St) : Option (Int32 × St) := if (160 : Int32) ≤ x2 then (some ((1 : Int32), σ)) else (if (gI σ 26 4) = (110 : Int32) then (bnd (S1_step σ) fun r38 σ37 => bnd (R 2 a1 σ37) fun r41 σ40 => if r41 = 0 then (some ((0 : Int32), σ40)) else (if Ob 75 6 (gR σ40 26 6) then (bnd (S6_add (gR σ40 26 6) (-110 : Int32) σ40) fun r46 σ45 => rec (x2 + 1) σ45) else none)) else (some ((1 : Int32), σ)))
def S1_all_12 (R : Nat → Int32 → St → Option (Int32 × St)) (a1 : Int32) : Nat → Int32 → St → Option (Int32 × St)
  | 0, _, _ => none
  | n + 1, x2, σ => B1_all_12 R a1 (S1_all_12 R a1 n) x2 σ
def B1_all (R : Nat → Int32 → St → Option (Int32 × St)) (a1 : Int32) (σ : St) : Option (Int32 × St) := bnd (R 2 a1 σ) fun r49 σ48 => if r49 = 0 then (some ((0 : Int32), σ48)) else (S1_all_12 R a1 4096 (0 : Int32) σ48)
set_option maxRecDepth 100000 in
set_option maxHeartbeats 4000000 in
theorem v1_all_12n {g : GT} {X : XT} {d : Nat} {a1 : Int32} {R : Nat → Int32 → St → Option (Int32 × St)} (hX : OkX g X (mG (d + 1) 1)) (hN : 75 ≤ g.N) (hR : ∀ w, w < 6 → ∀ a σ r σ', R w a σ = some (r, σ') → CtI g X.l (mG d w) (yG w) [.ref (g.ad 26), .int a] σ r σ') {res : Int32 × St} (hQ : X.Q = QI g X res.1 res.2 ∧ X.cells = 0 ∧ X.slots = 0)   (n : Nat) : ∀ (x2 : Int32) (σ : St) , S1_all_12 R a1 n x2 σ = some res → V g X (mG (d + 1) 1) 12 [(0, .ref (g.ad (26))), (1, .int (a1)), (2, .int (x2))] [] σ := by
  induction n with
  | zero => intro x2 σ; intro h; cases h
  | succ n ih =>
    intro x2 σ h
    have h : B1_all_12 R a1 (S1_all_12 R a1 n) x2 σ = some res := h
    unfold B1_all_12 at h
    refine V_iload_n (q := 13) hX dX1_all_12 2 rfl rfl ?_
    refine V_sipush (v := 160) (q := 16) hX dX1_all_13 (by decide) rfl ?_
    refine V_icmp_ge (q := 19) (t := 57) hX dX1_all_16 (by decide) rfl (fun z35 => ?_) (fun z35 => ?_)
    · have h := ite_t z35 h
      refine V_iconst (v := 1) (q := 58) hX dX1_all_57 (by decide) rfl ?_
      obtain ⟨f1, f2⟩ := some2 h
      rw [f1, f2] at hQ
      exact V_zret (ty := .boolean) hX hQ rfl rfl dX1_all_58
    have h := ite_f z35 h
    refine V_aload_n (q := 20) hX dX1_all_19 0 rfl rfl ?_
    refine V_getI (n := 75) (c := 1) (k := 4) (nf := 7) (C := RX1) (T := TX1) (q := 23) hX rfl rfl iG1 k1_118 rfl rfl ⟨rfl, by decide⟩ hN rfl rfl dX1_all_20 rfl ?_
    refine V_bipush (v := 110) (q := 25) hX dX1_all_23 (by decide) rfl ?_
    refine V_icmp_ne (q := 28) (t := 57) hX dX1_all_25 (by decide) rfl (fun z36 => ?_) (fun z36 => ?_)
    · have h := ite_f z36 h
      refine V_iconst (v := 1) (q := 58) hX dX1_all_57 (by decide) rfl ?_
      obtain ⟨f1, f2⟩ := some2 h
      rw [f1, f2] at hQ
      exact V_zret (ty := .boolean) hX hQ rfl rfl dX1_all_58
    have h := ite_t z36 h
    refine V_aload_n (q := 29) hX dX1_all_28 0 rfl rfl ?_
    obtain ⟨r38, σ37, e39, h⟩ := bnd_some h
    refine V_cvV (n := 75) (c := 1) (nf := 7) (C := RX1) (T := TX1) (As := []) (q := 32) hX (c1_step hX.2.2.2.2.1 hN e39) (goodV_of k2_43 k2_45 kp_0 k1_4 (cons_g k2_46)) (nA := 0) (by decide) rfl (mG_lo d 1 rfl) rfl rfl rfl ⟨rfl, by decide⟩ hN rfl rfl rfl dX1_all_29 rfl ?_
    refine V_aload_n (q := 33) hX dX1_all_32 0 rfl rfl ?_
    refine V_iload_n (q := 34) hX dX1_all_33 1 rfl rfl ?_
    obtain ⟨r41, σ40, e42, h⟩ := bnd_some h
    refine V_cvI (n := 75) (c := 1) (nf := 7) (C := RX1) (T := TX1) (As := [.int (a1)]) (q := 37) hX (hR 2 (by decide) _ _ _ _ e42) (goodV_of k2_143 k2_145 kp_7 k1_4 (cons_g k2_146)) (nA := 1) (by decide) rfl (mG_lt d 2 1) rfl rfl rfl ⟨rfl, by decide⟩ hN rfl rfl rfl dX1_all_34 rfl ?_
    refine V_if_ne (q := 40) (t := 42) hX dX1_all_37 (by decide) rfl (fun z43 => ?_) (fun z43 => ?_)
    · have h := ite_f z43 h
      refine V_aload_n (q := 43) hX dX1_all_42 0 rfl rfl ?_
      obtain ⟨hp44, h⟩ := chk_t h
      refine V_getM (n := 75) (c := 1) (k := 6) (nf := 7) (C := RX1) (T := TX1) (q := 46) hX rfl rfl iG1 k1_120 rfl rfl ⟨rfl, by decide⟩ hN rfl rfl rfl dX1_all_43 rfl ?_
      refine V_bipush (v := -110) (q := 48) hX dX1_all_46 (by decide) rfl ?_
      obtain ⟨r46, σ45, e47, h⟩ := bnd_some h
      refine V_cvV (n := 75) (c := 6) (nf := 3) (C := RX6) (T := TX6) (As := [.int ((-110 : Int32))]) (q := 51) hX (c6_add hX.2.2.2.2.1 hN hp44 e47) (goodV_of k2_151 k2_152 k2_153 k1_5 (cons_g k2_154)) (nA := 1) (by decide) rfl (mG_lo d 1 rfl) rfl rfl rfl hp44 hN rfl rfl rfl dX1_all_48 rfl ?_
      refine V_iinc (v := (x2 + 1)) (lv' := [(2, .int ((x2 + 1))), (0, .ref (g.ad (26))), (1, .int (a1))]) (q := 54) hX dX1_all_51 2 rfl (by rfl) rfl rfl rfl ?_
      refine V_goto hX dX1_all_54 (q := 12) (by decide) ?_
      refine V.pick [1, 2, 0] rfl ?_
      exact ih (x2 + 1) σ45  h
    have h := ite_t z43 h
    refine V_iconst (v := 0) (q := 41) hX dX1_all_40 (by decide) rfl ?_
    obtain ⟨f1, f2⟩ := some2 h
    rw [f1, f2] at hQ
    exact V_zret (ty := .boolean) hX hQ rfl rfl dX1_all_41
theorem v1_all_12 {g : GT} {X : XT} {d : Nat} {a1 : Int32} {R : Nat → Int32 → St → Option (Int32 × St)} (hX : OkX g X (mG (d + 1) 1)) (hN : 75 ≤ g.N) (hR : ∀ w, w < 6 → ∀ a σ r σ', R w a σ = some (r, σ') → CtI g X.l (mG d w) (yG w) [.ref (g.ad 26), .int a] σ r σ') {res : Int32 × St} (hQ : X.Q = QI g X res.1 res.2 ∧ X.cells = 0 ∧ X.slots = 0) (x2 : Int32) (σ : St) (h : S1_all_12 R a1 4096 x2 σ = some res) : V g X (mG (d + 1) 1) 12 [(0, .ref (g.ad (26))), (1, .int (a1)), (2, .int (x2))] [] σ := v1_all_12n hX hN hR hQ 4096 x2 σ h
set_option maxRecDepth 100000 in
set_option maxHeartbeats 4000000 in
theorem v1_all {g : GT} {X : XT} {d : Nat} {a1 : Int32} {R : Nat → Int32 → St → Option (Int32 × St)} (hX : OkX g X (mG (d + 1) 1)) (hN : 75 ≤ g.N) (hR : ∀ w, w < 6 → ∀ a σ r σ', R w a σ = some (r, σ') → CtI g X.l (mG d w) (yG w) [.ref (g.ad 26), .int a] σ r σ') {res : Int32 × St} (hQ : X.Q = QI g X res.1 res.2 ∧ X.cells = 0 ∧ X.slots = 0) {σ : St} (h : B1_all R a1 σ = some res) : V g X (mG (d + 1) 1) 0 [(0, .ref (g.ad (26))), (1, .int (a1))] [] σ := by
  unfold B1_all at h
  refine V_aload_n (q := 1) hX dX1_all_0 0 rfl rfl ?_
  refine V_iload_n (q := 2) hX dX1_all_1 1 rfl rfl ?_
  obtain ⟨r49, σ48, e50, h⟩ := bnd_some h
  refine V_cvI (n := 75) (c := 1) (nf := 7) (C := RX1) (T := TX1) (As := [.int (a1)]) (q := 5) hX (hR 2 (by decide) _ _ _ _ e50) (goodV_of k2_143 k2_145 kp_7 k1_4 (cons_g k2_146)) (nA := 1) (by decide) rfl (mG_lt d 2 1) rfl rfl rfl ⟨rfl, by decide⟩ hN rfl rfl rfl dX1_all_2 rfl ?_
  refine V_if_ne (q := 8) (t := 10) hX dX1_all_5 (by decide) rfl (fun z51 => ?_) (fun z51 => ?_)
  · have h := ite_f z51 h
    refine V_iconst (v := 0) (q := 11) hX dX1_all_10 (by decide) rfl ?_
    refine V_istore_n (lv' := [(2, .int ((0 : Int32))), (0, .ref (g.ad (26))), (1, .int (a1))]) (q := 12) hX dX1_all_11 rfl rfl rfl ?_
    refine V.pick [1, 2, 0] rfl ?_
    exact v1_all_12 hX hN hR hQ (0 : Int32) σ48 h
  have h := ite_t z51 h
  refine V_iconst (v := 0) (q := 9) hX dX1_all_8 (by decide) rfl ?_
  obtain ⟨f1, f2⟩ := some2 h
  rw [f1, f2] at hQ
  exact V_zret (ty := .boolean) hX hQ rfl rfl dX1_all_9

def B1_any_12 (R : Nat → Int32 → St → Option (Int32 × St)) (a1 : Int32) (rec : Int32 → St → Option (Int32 × St)) (x2 : Int32) (σ : St) : Option (Int32 × St) := if (160 : Int32) ≤ x2 then (some ((1 : Int32), σ)) else (if (gI σ 26 4) = (109 : Int32) then (bnd (S1_step σ) fun r38 σ37 => bnd (R 1 a1 σ37) fun r41 σ40 => if r41 = 0 then (some ((0 : Int32), σ40)) else (if Ob 75 6 (gR σ40 26 6) then (bnd (S6_add (gR σ40 26 6) (-109 : Int32) σ40) fun r46 σ45 => rec (x2 + 1) σ45) else none)) else (some ((1 : Int32), σ)))
def S1_any_12 (R : Nat → Int32 → St → Option (Int32 × St)) (a1 : Int32) : Nat → Int32 → St → Option (Int32 × St)
  | 0, _, _ => none
  | n + 1, x2, σ => B1_any_12 R a1 (S1_any_12 R a1 n) x2 σ
def B1_any (R : Nat → Int32 → St → Option (Int32 × St)) (a1 : Int32) (σ : St) : Option (Int32 × St) := bnd (R 1 a1 σ) fun r49 σ48 => if r49 = 0 then (some ((0 : Int32), σ48)) else (S1_any_12 R a1 4096 (0 : Int32) σ48)
set_option maxRecDepth 100000 in
set_option maxHeartbeats 4000000 in
theorem v1_any_12n {g : GT} {X : XT} {d : Nat} {a1 : Int32} {R : Nat → Int32 → St → Option (Int32 × St)} (hX : OkX g X (mG (d + 1) 0)) (hN : 75 ≤ g.N) (hR : ∀ w, w < 6 → ∀ a σ r σ', R w a σ = some (r, σ') → CtI g X.l (mG d w) (yG w) [.ref (g.ad 26), .int a] σ r σ') {res : Int32 × St} (hQ : X.Q = QI g X res.1 res.2 ∧ X.cells = 0 ∧ X.slots = 0)   (n : Nat) : ∀ (x2 : Int32) (σ : St) , S1_any_12 R a1 n x2 σ = some res → V g X (mG (d + 1) 0) 12 [(0, .ref (g.ad (26))), (1, .int (a1)), (2, .int (x2))] [] σ := by
  induction n with
  | zero => intro x2 σ; intro h; cases h
  | succ n ih =>
    intro x2 σ h
    have h : B1_any_12 R a1 (S1_any_12 R a1 n) x2 σ = some res := h
    unfold B1_any_12 at h
    refine V_iload_n (q := 13) hX dX1_any_12 2 rfl rfl ?_
    refine V_sipush (v := 160) (q := 16) hX dX1_any_13 (by decide) rfl ?_
    refine V_icmp_ge (q := 19) (t := 57) hX dX1_any_16 (by decide) rfl (fun z35 => ?_) (fun z35 => ?_)
    · have h := ite_t z35 h
      refine V_iconst (v := 1) (q := 58) hX dX1_any_57 (by decide) rfl ?_
      obtain ⟨f1, f2⟩ := some2 h
      rw [f1, f2] at hQ
      exact V_zret (ty := .boolean) hX hQ rfl rfl dX1_any_58
    have h := ite_f z35 h
    refine V_aload_n (q := 20) hX dX1_any_19 0 rfl rfl ?_
    refine V_getI (n := 75) (c := 1) (k := 4) (nf := 7) (C := RX1) (T := TX1) (q := 23) hX rfl rfl iG1 k1_118 rfl rfl ⟨rfl, by decide⟩ hN rfl rfl dX1_any_20 rfl ?_
    refine V_bipush (v := 109) (q := 25) hX dX1_any_23 (by decide) rfl ?_
    refine V_icmp_ne (q := 28) (t := 57) hX dX1_any_25 (by decide) rfl (fun z36 => ?_) (fun z36 => ?_)
    · have h := ite_f z36 h
      refine V_iconst (v := 1) (q := 58) hX dX1_any_57 (by decide) rfl ?_
      obtain ⟨f1, f2⟩ := some2 h
      rw [f1, f2] at hQ
      exact V_zret (ty := .boolean) hX hQ rfl rfl dX1_any_58
    have h := ite_t z36 h
    refine V_aload_n (q := 29) hX dX1_any_28 0 rfl rfl ?_
    obtain ⟨r38, σ37, e39, h⟩ := bnd_some h
    refine V_cvV (n := 75) (c := 1) (nf := 7) (C := RX1) (T := TX1) (As := []) (q := 32) hX (c1_step hX.2.2.2.2.1 hN e39) (goodV_of k2_43 k2_45 kp_0 k1_4 (cons_g k2_46)) (nA := 0) (by decide) rfl (mG_lo d 0 rfl) rfl rfl rfl ⟨rfl, by decide⟩ hN rfl rfl rfl dX1_any_29 rfl ?_
    refine V_aload_n (q := 33) hX dX1_any_32 0 rfl rfl ?_
    refine V_iload_n (q := 34) hX dX1_any_33 1 rfl rfl ?_
    obtain ⟨r41, σ40, e42, h⟩ := bnd_some h
    refine V_cvI (n := 75) (c := 1) (nf := 7) (C := RX1) (T := TX1) (As := [.int (a1)]) (q := 37) hX (hR 1 (by decide) _ _ _ _ e42) (goodV_of k2_139 k2_141 kp_6 k1_4 (cons_g k2_142)) (nA := 1) (by decide) rfl (mG_lt d 1 0) rfl rfl rfl ⟨rfl, by decide⟩ hN rfl rfl rfl dX1_any_34 rfl ?_
    refine V_if_ne (q := 40) (t := 42) hX dX1_any_37 (by decide) rfl (fun z43 => ?_) (fun z43 => ?_)
    · have h := ite_f z43 h
      refine V_aload_n (q := 43) hX dX1_any_42 0 rfl rfl ?_
      obtain ⟨hp44, h⟩ := chk_t h
      refine V_getM (n := 75) (c := 1) (k := 6) (nf := 7) (C := RX1) (T := TX1) (q := 46) hX rfl rfl iG1 k1_120 rfl rfl ⟨rfl, by decide⟩ hN rfl rfl rfl dX1_any_43 rfl ?_
      refine V_bipush (v := -109) (q := 48) hX dX1_any_46 (by decide) rfl ?_
      obtain ⟨r46, σ45, e47, h⟩ := bnd_some h
      refine V_cvV (n := 75) (c := 6) (nf := 3) (C := RX6) (T := TX6) (As := [.int ((-109 : Int32))]) (q := 51) hX (c6_add hX.2.2.2.2.1 hN hp44 e47) (goodV_of k2_151 k2_152 k2_153 k1_5 (cons_g k2_154)) (nA := 1) (by decide) rfl (mG_lo d 0 rfl) rfl rfl rfl hp44 hN rfl rfl rfl dX1_any_48 rfl ?_
      refine V_iinc (v := (x2 + 1)) (lv' := [(2, .int ((x2 + 1))), (0, .ref (g.ad (26))), (1, .int (a1))]) (q := 54) hX dX1_any_51 2 rfl (by rfl) rfl rfl rfl ?_
      refine V_goto hX dX1_any_54 (q := 12) (by decide) ?_
      refine V.pick [1, 2, 0] rfl ?_
      exact ih (x2 + 1) σ45  h
    have h := ite_t z43 h
    refine V_iconst (v := 0) (q := 41) hX dX1_any_40 (by decide) rfl ?_
    obtain ⟨f1, f2⟩ := some2 h
    rw [f1, f2] at hQ
    exact V_zret (ty := .boolean) hX hQ rfl rfl dX1_any_41
theorem v1_any_12 {g : GT} {X : XT} {d : Nat} {a1 : Int32} {R : Nat → Int32 → St → Option (Int32 × St)} (hX : OkX g X (mG (d + 1) 0)) (hN : 75 ≤ g.N) (hR : ∀ w, w < 6 → ∀ a σ r σ', R w a σ = some (r, σ') → CtI g X.l (mG d w) (yG w) [.ref (g.ad 26), .int a] σ r σ') {res : Int32 × St} (hQ : X.Q = QI g X res.1 res.2 ∧ X.cells = 0 ∧ X.slots = 0) (x2 : Int32) (σ : St) (h : S1_any_12 R a1 4096 x2 σ = some res) : V g X (mG (d + 1) 0) 12 [(0, .ref (g.ad (26))), (1, .int (a1)), (2, .int (x2))] [] σ := v1_any_12n hX hN hR hQ 4096 x2 σ h
set_option maxRecDepth 100000 in
set_option maxHeartbeats 4000000 in
theorem v1_any {g : GT} {X : XT} {d : Nat} {a1 : Int32} {R : Nat → Int32 → St → Option (Int32 × St)} (hX : OkX g X (mG (d + 1) 0)) (hN : 75 ≤ g.N) (hR : ∀ w, w < 6 → ∀ a σ r σ', R w a σ = some (r, σ') → CtI g X.l (mG d w) (yG w) [.ref (g.ad 26), .int a] σ r σ') {res : Int32 × St} (hQ : X.Q = QI g X res.1 res.2 ∧ X.cells = 0 ∧ X.slots = 0) {σ : St} (h : B1_any R a1 σ = some res) : V g X (mG (d + 1) 0) 0 [(0, .ref (g.ad (26))), (1, .int (a1))] [] σ := by
  unfold B1_any at h
  refine V_aload_n (q := 1) hX dX1_any_0 0 rfl rfl ?_
  refine V_iload_n (q := 2) hX dX1_any_1 1 rfl rfl ?_
  obtain ⟨r49, σ48, e50, h⟩ := bnd_some h
  refine V_cvI (n := 75) (c := 1) (nf := 7) (C := RX1) (T := TX1) (As := [.int (a1)]) (q := 5) hX (hR 1 (by decide) _ _ _ _ e50) (goodV_of k2_139 k2_141 kp_6 k1_4 (cons_g k2_142)) (nA := 1) (by decide) rfl (mG_lt d 1 0) rfl rfl rfl ⟨rfl, by decide⟩ hN rfl rfl rfl dX1_any_2 rfl ?_
  refine V_if_ne (q := 8) (t := 10) hX dX1_any_5 (by decide) rfl (fun z51 => ?_) (fun z51 => ?_)
  · have h := ite_f z51 h
    refine V_iconst (v := 0) (q := 11) hX dX1_any_10 (by decide) rfl ?_
    refine V_istore_n (lv' := [(2, .int ((0 : Int32))), (0, .ref (g.ad (26))), (1, .int (a1))]) (q := 12) hX dX1_any_11 rfl rfl rfl ?_
    refine V.pick [1, 2, 0] rfl ?_
    exact v1_any_12 hX hN hR hQ (0 : Int32) σ48 h
  have h := ite_t z51 h
  refine V_iconst (v := 0) (q := 9) hX dX1_any_8 (by decide) rfl ?_
  obtain ⟨f1, f2⟩ := some2 h
  rw [f1, f2] at hQ
  exact V_zret (ty := .boolean) hX hQ rfl rfl dX1_any_9

def SG : Nat → Nat → Int32 → St → Option (Int32 × St)
  | 0, _, _, _ => none
  | d + 1, w, a, σ => match w with
    | 0 => B1_any (SG d) a σ
    | 1 => B1_all (SG d) a σ
    | 2 => B1_truth (SG d) a σ
    | 3 => B1_sum (SG d) a σ
    | 4 => B1_term (SG d) a σ
    | _ => B1_one (SG d) a σ
theorem cG_all {g : GT} {l : Launch} (hg : OkG g) (hN : 75 ≤ g.N) : ∀ (d w : Nat), w < 6 → ∀ (a : Int32) (σ : St) (r : Int32) (σ' : St), SG d w a σ = some (r, σ') → CtI g l (mG d w) (yG w) [.ref (g.ad 26), .int a] σ r σ' := by
  intro d
  induction d with
  | zero => intro w _ a σ r σ' h; cases h
  | succ d ih =>
    intro w hw a σ r σ' h
    match w, hw with
    | 0, _ => exact CtI.of hg (by decide) rfl rfl (fun X h1 h2 h3 => v1_any (R := SG d) h1 hN (by rw [h2]; exact ih) (res := (r, σ')) h3 h)
    | 1, _ => exact CtI.of hg (by decide) rfl rfl (fun X h1 h2 h3 => v1_all (R := SG d) h1 hN (by rw [h2]; exact ih) (res := (r, σ')) h3 h)
    | 2, _ => exact CtI.of hg (by decide) rfl rfl (fun X h1 h2 h3 => v1_truth (R := SG d) h1 hN (by rw [h2]; exact ih) (res := (r, σ')) h3 h)
    | 3, _ => exact CtI.of hg (by decide) rfl rfl (fun X h1 h2 h3 => v1_sum (R := SG d) h1 hN (by rw [h2]; exact ih) (res := (r, σ')) h3 h)
    | 4, _ => exact CtI.of hg (by decide) rfl rfl (fun X h1 h2 h3 => v1_term (R := SG d) h1 hN (by rw [h2]; exact ih) (res := (r, σ')) h3 h)
    | 5, _ => exact CtI.of hg (by decide) rfl rfl (fun X h1 h2 h3 => v1_one (R := SG d) h1 hN (by rw [h2]; exact ih) (res := (r, σ')) h3 h)
    | w + 6, hw => exact absurd hw (by omega)
theorem cG_any {g : GT} {l : Launch} (hg : OkG g) (hN : 75 ≤ g.N) {a : Int32} {σ : St} {r : Int32} {σ' : St} (h : SG 50 0 a σ = some (r, σ')) : CtI g l (mG 50 0) yX1_any [.ref (g.ad 26), .int a] σ r σ' := cG_all hg hN 50 0 (by decide) a σ r σ' h
