abbrev m8_best : MI := (cX8_best, RX8, 8, some .int, 5)
def S8_best_135 (a1 : Int32) (a2 : Int32) (a3 : Int32) (a4 : Int32) (k72 : Int32 → Int32 → Int32 → St → Option (Int32 × St)) (x5 : Int32) (x6 : Int32) (x7 : Int32) (σ : St) : Option (Int32 × St) := k72 x5 x6 (x7 + 1) σ
def S8_best_122 (a1 : Int32) (a2 : Int32) (a3 : Int32) (a4 : Int32) (k72 : Int32 → Int32 → Int32 → St → Option (Int32 × St)) (x7 : Int32) (σ : St) : Option (Int32 × St) := S8_best_135 a1 a2 a3 a4 k72 x7 (gI σ 35 4) x7 σ
def B8_best_72 (a1 : Int32) (a2 : Int32) (a3 : Int32) (a4 : Int32) (rec : Int32 → Int32 → Int32 → St → Option (Int32 × St)) (x5 : Int32) (x6 : Int32) (x7 : Int32) (σ : St) : Option (Int32 × St) := bnd (S8_shortPlans a3 σ) fun r116 σ115 => if r116 ≤ x7 then (if a4 = 0 then (some (x5, σ115)) else (some (x6, σ115))) else (bnd (S8_wholePlan x7 a3 σ115) fun r121 σ120 => bnd (S0_goThrough r121 a2 σ120) fun r124 σ123 => if (gI σ123 35 5) ≤ 0 then (S8_best_135 a1 a2 a3 a4 rec x5 x6 x7 σ123) else (if x5 < 0 then (S8_best_122 a1 a2 a3 a4 rec x7 σ123) else (if x6 ≤ (gI σ123 35 4) then (S8_best_135 a1 a2 a3 a4 rec x5 x6 x7 σ123) else (S8_best_122 a1 a2 a3 a4 rec x7 σ123))))
def S8_best_72 (a1 : Int32) (a2 : Int32) (a3 : Int32) (a4 : Int32) : Nat → Int32 → Int32 → Int32 → St → Option (Int32 × St)
  | 0, _, _, _, _ => none
  | n + 1, x5, x6, x7, σ => B8_best_72 a1 a2 a3 a4 (S8_best_72 a1 a2 a3 a4 n) x5 x6 x7 σ
def S8_best_42 (a1 : Int32) (a2 : Int32) (a3 : Int32) (a4 : Int32) (σ : St) : Option (Int32 × St) := bnd (S8_theOne a1 σ) fun r130 σ129 => bnd (S8_theOther a1 σ129) fun r133 σ132 => bnd (S8_theLaw σ132) fun r136 σ135 => bnd (S0_pair r130 r133 r136 σ135) fun r139 σ138 => S8_best_72 a1 a2 a3 a4 4096 (-1 : Int32) (-1 : Int32) (0 : Int32) σ138
def S8_best (a1 : Int32) (a2 : Int32) (a3 : Int32) (a4 : Int32) (σ : St) : Option (Int32 × St) := bnd (S8_isPair a1 σ) fun r142 σ141 => if r142 = 0 then (some ((-5 : Int32), σ141)) else (bnd (S8_isPlan a2 σ141) fun r146 σ145 => if r146 = 0 then (some ((-7 : Int32), σ145)) else (if a3 < (1 : Int32) then (some ((-7 : Int32), σ145)) else (if (3 : Int32) < a3 then (some ((-7 : Int32), σ145)) else (if a4 = 0 then (S8_best_42 a1 a2 a3 a4 σ145) else (if a4 = (1 : Int32) then (S8_best_42 a1 a2 a3 a4 σ145) else (some ((-7 : Int32), σ145)))))))
set_option maxRecDepth 100000 in
set_option maxHeartbeats 4000000 in
theorem v8_best_135 {g : GT} {X : XT} {a1 : Int32} {a2 : Int32} {a3 : Int32} {a4 : Int32} (hX : OkX g X (m8_best)) (hN : 75 ≤ g.N) {res : Int32 × St} (hQ : X.Q = QI g X res.1 res.2 ∧ X.cells = 0 ∧ X.slots = 0)  {k72 : Int32 → Int32 → Int32 → St → Option (Int32 × St)} (hk72 : ∀ (x5 : Int32) (x6 : Int32) (x7 : Int32) (σ : St), k72 x5 x6 x7 σ = some res → V g X (m8_best) 72 [(0, .ref (g.ad (0))), (2, .int (a2)), (3, .int (a3)), (4, .int (a4)), (5, .int (x5)), (6, .int (x6)), (7, .int (x7))] [] σ) (x5 : Int32) (x6 : Int32) (x7 : Int32) (σ : St)  (h : S8_best_135 a1 a2 a3 a4 k72 x5 x6 x7 σ = some res) : V g X (m8_best) 135 [(0, .ref (g.ad (0))), (2, .int (a2)), (3, .int (a3)), (4, .int (a4)), (5, .int (x5)), (6, .int (x6)), (7, .int (x7))] [] σ := by
  unfold S8_best_135 at h
  refine V_iinc (v := (x7 + 1)) (lv' := [(7, .int ((x7 + 1))), (0, .ref (g.ad (0))), (2, .int (a2)), (3, .int (a3)), (4, .int (a4)), (5, .int (x5)), (6, .int (x6))]) (q := 138) hX dX8_best_135 6 rfl (by rfl) rfl rfl rfl ?_
  refine V_goto hX dX8_best_138 (q := 72) (by decide) ?_
  refine V.pick [1, 2, 3, 4, 5, 6, 0] rfl ?_
  exact hk72 x5 x6 (x7 + 1) σ  h
set_option maxRecDepth 100000 in
set_option maxHeartbeats 4000000 in
theorem v8_best_122 {g : GT} {X : XT} {a1 : Int32} {a2 : Int32} {a3 : Int32} {a4 : Int32} (hX : OkX g X (m8_best)) (hN : 75 ≤ g.N) {res : Int32 × St} (hQ : X.Q = QI g X res.1 res.2 ∧ X.cells = 0 ∧ X.slots = 0)  {k72 : Int32 → Int32 → Int32 → St → Option (Int32 × St)} (hk72 : ∀ (x5 : Int32) (x6 : Int32) (x7 : Int32) (σ : St), k72 x5 x6 x7 σ = some res → V g X (m8_best) 72 [(0, .ref (g.ad (0))), (2, .int (a2)), (3, .int (a3)), (4, .int (a4)), (5, .int (x5)), (6, .int (x6)), (7, .int (x7))] [] σ) (x7 : Int32) (σ : St)  (h : S8_best_122 a1 a2 a3 a4 k72 x7 σ = some res) : V g X (m8_best) 122 [(0, .ref (g.ad (0))), (2, .int (a2)), (3, .int (a3)), (4, .int (a4)), (7, .int (x7))] [] σ := by
  unfold S8_best_122 at h
  refine V_iload (q := 124) hX dX8_best_122 4 rfl rfl ?_
  refine V_istore (lv' := [(5, .int (x7)), (0, .ref (g.ad (0))), (2, .int (a2)), (3, .int (a3)), (4, .int (a4)), (7, .int (x7))]) (q := 126) hX dX8_best_124 rfl rfl rfl ?_
  refine V_aload_n (q := 127) hX dX8_best_126 1 rfl rfl ?_
  refine V_getF (r := 35) (n := 75) (c := 8) (k := 8) (nf := 11) (C := RX8) (T := TX8) (q := 130) hX rfl rfl iG8 k2_183 rfl rfl ⟨rfl, by decide⟩ hN rfl rfl rfl rfl dX8_best_127 rfl ?_
  refine V_getI (n := 75) (c := 0) (k := 4) (nf := 6) (C := RX0) (T := TX0) (q := 133) hX rfl rfl iG0 k1_190 rfl rfl ⟨rfl, by decide⟩ hN rfl rfl dX8_best_130 rfl ?_
  refine V_istore (lv' := [(6, .int ((gI σ 35 4))), (5, .int (x7)), (0, .ref (g.ad (0))), (2, .int (a2)), (3, .int (a3)), (4, .int (a4)), (7, .int (x7))]) (q := 135) hX dX8_best_133 rfl rfl rfl ?_
  refine V.pick [2, 3, 4, 5, 1, 0, 6] rfl ?_
  exact v8_best_135 hX hN hQ hk72 x7 (gI σ 35 4) x7 σ h
set_option maxRecDepth 100000 in
set_option maxHeartbeats 4000000 in
theorem v8_best_72n {g : GT} {X : XT} {a1 : Int32} {a2 : Int32} {a3 : Int32} {a4 : Int32} (hX : OkX g X (m8_best)) (hN : 75 ≤ g.N) {res : Int32 × St} (hQ : X.Q = QI g X res.1 res.2 ∧ X.cells = 0 ∧ X.slots = 0)   (n : Nat) : ∀ (x5 : Int32) (x6 : Int32) (x7 : Int32) (σ : St) , S8_best_72 a1 a2 a3 a4 n x5 x6 x7 σ = some res → V g X (m8_best) 72 [(0, .ref (g.ad (0))), (2, .int (a2)), (3, .int (a3)), (4, .int (a4)), (5, .int (x5)), (6, .int (x6)), (7, .int (x7))] [] σ := by
  induction n with
  | zero => intro x5 x6 x7 σ; intro h; cases h
  | succ n ih =>
    intro x5 x6 x7 σ h
    have h : B8_best_72 a1 a2 a3 a4 (S8_best_72 a1 a2 a3 a4 n) x5 x6 x7 σ = some res := h
    unfold B8_best_72 at h
    refine V_iload (q := 74) hX dX8_best_72 6 rfl rfl ?_
    refine V_iload_n (q := 75) hX dX8_best_74 2 rfl rfl ?_
    obtain ⟨r116, σ115, e117, h⟩ := bnd_some h
    refine V_csI (As := [.int (a3)]) (q := 78) hX (c8_shortPlans hX.2.2.2.2.1 hN e117) (goodS_of k3_175 k3_176 k1_1 (cons_g k3_177)) (nA := 1) (by decide) rfl rfl rfl rfl rfl dX8_best_75 rfl ?_
    refine V_icmp_ge (q := 81) (t := 141) hX dX8_best_78 (by decide) rfl (fun z118 => ?_) (fun z118 => ?_)
    · have h := ite_t z118 h
      refine V_iload (q := 143) hX dX8_best_141 3 rfl rfl ?_
      refine V_if_ne (q := 146) (t := 151) hX dX8_best_143 (by decide) rfl (fun z119 => ?_) (fun z119 => ?_)
      · have h := ite_f z119 h
        refine V_iload (q := 153) hX dX8_best_151 5 rfl rfl ?_
        obtain ⟨f1, f2⟩ := some2 h
        rw [f1, f2] at hQ
        exact V_iret hX hQ rfl dX8_best_153
      have h := ite_t z119 h
      refine V_iload (q := 148) hX dX8_best_146 4 rfl rfl ?_
      refine V_goto hX dX8_best_148 (q := 153) (by decide) ?_
      obtain ⟨f1, f2⟩ := some2 h
      rw [f1, f2] at hQ
      exact V_iret hX hQ rfl dX8_best_153
    have h := ite_f z118 h
    refine V_aload_n (q := 82) hX dX8_best_81 0 rfl rfl ?_
    refine V_getF (r := 35) (n := 75) (c := 8) (k := 8) (nf := 11) (C := RX8) (T := TX8) (q := 85) hX rfl rfl iG8 k2_183 rfl rfl ⟨rfl, by decide⟩ hN rfl rfl rfl rfl dX8_best_82 rfl ?_
    refine V_iload (q := 87) hX dX8_best_85 6 rfl rfl ?_
    refine V_iload_n (q := 88) hX dX8_best_87 2 rfl rfl ?_
    obtain ⟨r121, σ120, e122, h⟩ := bnd_some h
    refine V_csI (As := [.int (x7), .int (a3)]) (q := 91) hX (c8_wholePlan hX.2.2.2.2.1 hN e122) (goodS_of k3_178 k3_179 k1_1 (cons_g k3_180)) (nA := 2) (by decide) rfl rfl rfl rfl rfl dX8_best_88 rfl ?_
    refine V_iload_n (q := 92) hX dX8_best_91 1 rfl rfl ?_
    obtain ⟨r124, σ123, e125, h⟩ := bnd_some h
    refine V_cvV (n := 75) (c := 0) (nf := 6) (C := RX0) (T := TX0) (As := [.int (r121), .int (a2)]) (q := 95) hX (c0_goThrough hX.2.2.2.2.1 hN e125) (goodV_of k3_117 k3_118 k3_119 k1_7 (cons_g k3_120)) (nA := 2) (by decide) rfl rfl rfl rfl rfl ⟨rfl, by decide⟩ hN rfl rfl rfl dX8_best_92 rfl ?_
    refine V_aload_n (q := 96) hX dX8_best_95 0 rfl rfl ?_
    refine V_getF (r := 35) (n := 75) (c := 8) (k := 8) (nf := 11) (C := RX8) (T := TX8) (q := 99) hX rfl rfl iG8 k2_183 rfl rfl ⟨rfl, by decide⟩ hN rfl rfl rfl rfl dX8_best_96 rfl ?_
    refine V_getI (n := 75) (c := 0) (k := 5) (nf := 6) (C := RX0) (T := TX0) (q := 102) hX rfl rfl iG0 k1_192 rfl rfl ⟨rfl, by decide⟩ hN rfl rfl dX8_best_99 rfl ?_
    refine V_if_le (q := 105) (t := 135) hX dX8_best_102 (by decide) rfl (fun z126 => ?_) (fun z126 => ?_)
    · have h := ite_t z126 h
      refine V.pick [0, 1, 2, 3, 4, 5, 6] rfl ?_
      exact v8_best_135 hX hN hQ ih x5 x6 x7 σ123 h
    have h := ite_f z126 h
    refine V_iload (q := 107) hX dX8_best_105 4 rfl rfl ?_
    refine V_if_lt (q := 110) (t := 122) hX dX8_best_107 (by decide) rfl (fun z127 => ?_) (fun z127 => ?_)
    · have h := ite_t z127 h
      refine V.pick [0, 1, 2, 3, 6] rfl ?_
      exact v8_best_122 hX hN hQ ih x7 σ123 h
    have h := ite_f z127 h
    refine V_aload_n (q := 111) hX dX8_best_110 0 rfl rfl ?_
    refine V_getF (r := 35) (n := 75) (c := 8) (k := 8) (nf := 11) (C := RX8) (T := TX8) (q := 114) hX rfl rfl iG8 k2_183 rfl rfl ⟨rfl, by decide⟩ hN rfl rfl rfl rfl dX8_best_111 rfl ?_
    refine V_getI (n := 75) (c := 0) (k := 4) (nf := 6) (C := RX0) (T := TX0) (q := 117) hX rfl rfl iG0 k1_190 rfl rfl ⟨rfl, by decide⟩ hN rfl rfl dX8_best_114 rfl ?_
    refine V_iload (q := 119) hX dX8_best_117 5 rfl rfl ?_
    refine V_icmp_ge (q := 122) (t := 135) hX dX8_best_119 (by decide) rfl (fun z128 => ?_) (fun z128 => ?_)
    · have h := ite_t z128 h
      refine V.pick [0, 1, 2, 3, 4, 5, 6] rfl ?_
      exact v8_best_135 hX hN hQ ih x5 x6 x7 σ123 h
    have h := ite_f z128 h
    refine V.pick [0, 1, 2, 3, 6] rfl ?_
    exact v8_best_122 hX hN hQ ih x7 σ123 h
theorem v8_best_72 {g : GT} {X : XT} {a1 : Int32} {a2 : Int32} {a3 : Int32} {a4 : Int32} (hX : OkX g X (m8_best)) (hN : 75 ≤ g.N) {res : Int32 × St} (hQ : X.Q = QI g X res.1 res.2 ∧ X.cells = 0 ∧ X.slots = 0) (x5 : Int32) (x6 : Int32) (x7 : Int32) (σ : St) (h : S8_best_72 a1 a2 a3 a4 4096 x5 x6 x7 σ = some res) : V g X (m8_best) 72 [(0, .ref (g.ad (0))), (2, .int (a2)), (3, .int (a3)), (4, .int (a4)), (5, .int (x5)), (6, .int (x6)), (7, .int (x7))] [] σ := v8_best_72n hX hN hQ 4096 x5 x6 x7 σ h
set_option maxRecDepth 100000 in
set_option maxHeartbeats 4000000 in
theorem v8_best_42 {g : GT} {X : XT} {a1 : Int32} {a2 : Int32} {a3 : Int32} {a4 : Int32} (hX : OkX g X (m8_best)) (hN : 75 ≤ g.N) {res : Int32 × St} (hQ : X.Q = QI g X res.1 res.2 ∧ X.cells = 0 ∧ X.slots = 0)    (σ : St)  (h : S8_best_42 a1 a2 a3 a4 σ = some res) : V g X (m8_best) 42 [(0, .ref (g.ad (0))), (1, .int (a1)), (2, .int (a2)), (3, .int (a3)), (4, .int (a4))] [] σ := by
  unfold S8_best_42 at h
  refine V_aload_n (q := 43) hX dX8_best_42 0 rfl rfl ?_
  refine V_getF (r := 35) (n := 75) (c := 8) (k := 8) (nf := 11) (C := RX8) (T := TX8) (q := 46) hX rfl rfl iG8 k2_183 rfl rfl ⟨rfl, by decide⟩ hN rfl rfl rfl rfl dX8_best_43 rfl ?_
  refine V_aload_n (q := 47) hX dX8_best_46 0 rfl rfl ?_
  refine V_iload_n (q := 48) hX dX8_best_47 1 rfl rfl ?_
  obtain ⟨r130, σ129, e131, h⟩ := bnd_some h
  refine V_cvR (n := 75) (c := 8) (nf := 11) (C := RX8) (T := TX8) (As := [.int (a1)]) (q := 51) hX (c8_theOne hX.2.2.2.2.1 hN e131) (goodV_of k3_82 k3_84 kp_16 k1_1 (cons_g k3_85)) (nA := 1) (by decide) rfl rfl rfl rfl rfl ⟨rfl, by decide⟩ hN rfl rfl rfl dX8_best_48 rfl ?_
  refine V_aload_n (q := 52) hX dX8_best_51 0 rfl rfl ?_
  refine V_iload_n (q := 53) hX dX8_best_52 1 rfl rfl ?_
  obtain ⟨r133, σ132, e134, h⟩ := bnd_some h
  refine V_cvR (n := 75) (c := 8) (nf := 11) (C := RX8) (T := TX8) (As := [.int (a1)]) (q := 56) hX (c8_theOther hX.2.2.2.2.1 hN e134) (goodV_of k3_86 k3_88 kp_17 k1_1 (cons_g k3_89)) (nA := 1) (by decide) rfl rfl rfl rfl rfl ⟨rfl, by decide⟩ hN rfl rfl rfl dX8_best_53 rfl ?_
  refine V_aload_n (q := 57) hX dX8_best_56 0 rfl rfl ?_
  obtain ⟨r136, σ135, e137, h⟩ := bnd_some h
  refine V_cvR (n := 75) (c := 8) (nf := 11) (C := RX8) (T := TX8) (As := []) (q := 60) hX (c8_theLaw hX.2.2.2.2.1 hN e137) (goodV_of k3_1 k3_3 kp_13 k1_1 (cons_g k3_4)) (nA := 0) (by decide) rfl rfl rfl rfl rfl ⟨rfl, by decide⟩ hN rfl rfl rfl dX8_best_57 rfl ?_
  obtain ⟨r139, σ138, e140, h⟩ := bnd_some h
  refine V_cvV (n := 75) (c := 0) (nf := 6) (C := RX0) (T := TX0) (As := [.ref (g.ad (r130)), .ref (g.ad (r133)), .ref (g.ad (r136))]) (q := 63) hX (c0_pair hX.2.2.2.2.1 hN (sh8_theOne e131) (sh8_theOther e134) (sh8_theLaw e137) e140) (goodV_of k3_90 k3_91 k3_92 k1_7 (cons_g k3_93)) (nA := 3) (by decide) rfl rfl rfl rfl rfl ⟨rfl, by decide⟩ hN rfl rfl rfl dX8_best_60 rfl ?_
  refine V_iconst (v := -1) (q := 64) hX dX8_best_63 (by decide) rfl ?_
  refine V_istore (lv' := [(5, .int ((-1 : Int32))), (0, .ref (g.ad (0))), (1, .int (a1)), (2, .int (a2)), (3, .int (a3)), (4, .int (a4))]) (q := 66) hX dX8_best_64 rfl rfl rfl ?_
  refine V_iconst (v := -1) (q := 67) hX dX8_best_66 (by decide) rfl ?_
  refine V_istore (lv' := [(6, .int ((-1 : Int32))), (5, .int ((-1 : Int32))), (0, .ref (g.ad (0))), (1, .int (a1)), (2, .int (a2)), (3, .int (a3)), (4, .int (a4))]) (q := 69) hX dX8_best_67 rfl rfl rfl ?_
  refine V_iconst (v := 0) (q := 70) hX dX8_best_69 (by decide) rfl ?_
  refine V_istore (lv' := [(7, .int ((0 : Int32))), (6, .int ((-1 : Int32))), (5, .int ((-1 : Int32))), (0, .ref (g.ad (0))), (1, .int (a1)), (2, .int (a2)), (3, .int (a3)), (4, .int (a4))]) (q := 72) hX dX8_best_70 rfl rfl rfl ?_
  refine V.pick [3, 5, 6, 7, 2, 1, 0] rfl ?_
  exact v8_best_72 hX hN hQ (-1 : Int32) (-1 : Int32) (0 : Int32) σ138 h
set_option maxRecDepth 100000 in
set_option maxHeartbeats 4000000 in
theorem v8_best {g : GT} {X : XT} {a1 : Int32} {a2 : Int32} {a3 : Int32} {a4 : Int32} (hX : OkX g X (m8_best)) (hN : 75 ≤ g.N) {res : Int32 × St} (hQ : X.Q = QI g X res.1 res.2 ∧ X.cells = 0 ∧ X.slots = 0) {σ : St} (h : S8_best a1 a2 a3 a4 σ = some res) : V g X (m8_best) 0 [(0, .ref (g.ad (0))), (1, .int (a1)), (2, .int (a2)), (3, .int (a3)), (4, .int (a4))] [] σ := by
  unfold S8_best at h
  refine V_aload_n (q := 1) hX dX8_best_0 0 rfl rfl ?_
  refine V_iload_n (q := 2) hX dX8_best_1 1 rfl rfl ?_
  obtain ⟨r142, σ141, e143, h⟩ := bnd_some h
  refine V_cvI (n := 75) (c := 8) (nf := 11) (C := RX8) (T := TX8) (As := [.int (a1)]) (q := 5) hX (c8_isPair hX.2.2.2.2.1 hN e143) (goodV_of k3_67 k3_69 kp_14 k1_1 (cons_g k3_70)) (nA := 1) (by decide) rfl rfl rfl rfl rfl ⟨rfl, by decide⟩ hN rfl rfl rfl dX8_best_2 rfl ?_
  refine V_if_ne (q := 8) (t := 11) hX dX8_best_5 (by decide) rfl (fun z144 => ?_) (fun z144 => ?_)
  · have h := ite_f z144 h
    refine V_iload_n (q := 12) hX dX8_best_11 2 rfl rfl ?_
    obtain ⟨r146, σ145, e147, h⟩ := bnd_some h
    refine V_csI (As := [.int (a2)]) (q := 15) hX (c8_isPlan hX.2.2.2.2.1 hN e147) (goodS_of k3_78 k3_79 k1_1 (cons_g k3_80)) (nA := 1) (by decide) rfl rfl rfl rfl rfl dX8_best_12 rfl ?_
    refine V_if_eq (q := 18) (t := 39) hX dX8_best_15 (by decide) rfl (fun z148 => ?_) (fun z148 => ?_)
    · have h := ite_t z148 h
      refine V_bipush (v := -7) (q := 41) hX dX8_best_39 (by decide) rfl ?_
      obtain ⟨f1, f2⟩ := some2 h
      rw [f1, f2] at hQ
      exact V_iret hX hQ rfl dX8_best_41
    have h := ite_f z148 h
    refine V_iload_n (q := 19) hX dX8_best_18 3 rfl rfl ?_
    refine V_iconst (v := 1) (q := 20) hX dX8_best_19 (by decide) rfl ?_
    refine V_icmp_lt (q := 23) (t := 39) hX dX8_best_20 (by decide) rfl (fun z149 => ?_) (fun z149 => ?_)
    · have h := ite_t z149 h
      refine V_bipush (v := -7) (q := 41) hX dX8_best_39 (by decide) rfl ?_
      obtain ⟨f1, f2⟩ := some2 h
      rw [f1, f2] at hQ
      exact V_iret hX hQ rfl dX8_best_41
    have h := ite_f z149 h
    refine V_iload_n (q := 24) hX dX8_best_23 3 rfl rfl ?_
    refine V_iconst (v := 3) (q := 25) hX dX8_best_24 (by decide) rfl ?_
    refine V_icmp_gt (q := 28) (t := 39) hX dX8_best_25 (by decide) rfl (fun z150 => ?_) (fun z150 => ?_)
    · have h := ite_t z150 h
      refine V_bipush (v := -7) (q := 41) hX dX8_best_39 (by decide) rfl ?_
      obtain ⟨f1, f2⟩ := some2 h
      rw [f1, f2] at hQ
      exact V_iret hX hQ rfl dX8_best_41
    have h := ite_f z150 h
    refine V_iload (q := 30) hX dX8_best_28 4 rfl rfl ?_
    refine V_if_eq (q := 33) (t := 42) hX dX8_best_30 (by decide) rfl (fun z151 => ?_) (fun z151 => ?_)
    · have h := ite_t z151 h
      refine V.pick [0, 1, 2, 3, 4] rfl ?_
      exact v8_best_42 hX hN hQ σ145 h
    have h := ite_f z151 h
    refine V_iload (q := 35) hX dX8_best_33 4 rfl rfl ?_
    refine V_iconst (v := 1) (q := 36) hX dX8_best_35 (by decide) rfl ?_
    refine V_icmp_eq (q := 39) (t := 42) hX dX8_best_36 (by decide) rfl (fun z152 => ?_) (fun z152 => ?_)
    · have h := ite_t z152 h
      refine V.pick [0, 1, 2, 3, 4] rfl ?_
      exact v8_best_42 hX hN hQ σ145 h
    have h := ite_f z152 h
    refine V_bipush (v := -7) (q := 41) hX dX8_best_39 (by decide) rfl ?_
    obtain ⟨f1, f2⟩ := some2 h
    rw [f1, f2] at hQ
    exact V_iret hX hQ rfl dX8_best_41
  have h := ite_t z144 h
  refine V_bipush (v := -5) (q := 10) hX dX8_best_8 (by decide) rfl ?_
  obtain ⟨f1, f2⟩ := some2 h
  rw [f1, f2] at hQ
  exact V_iret hX hQ rfl dX8_best_10
set_option maxRecDepth 100000 in
set_option maxHeartbeats 4000000 in
theorem c8_best {g : GT} {l : Launch} (hg : OkG g) (hN : 75 ≤ g.N) {a1 : Int32} {a2 : Int32} {a3 : Int32} {a4 : Int32} {σ : St} {r : Int32} {σ' : St} (h : S8_best a1 a2 a3 a4 σ = some (r, σ')) : CtI g l m8_best yX8_best [.ref (g.ad (0)), .int (a1), .int (a2), .int (a3), .int (a4)] σ r σ' := CtI.of hg (by decide) rfl rfl (fun X h1 h2 h3 => v8_best h1 hN (res := (r, σ')) h3 h)

abbrev m8_winsAgainstAll : MI := (cX8_winsAgainstAll, RX8, 6, some .int, 5)
def S8_winsAgainstAll_52 (a1 : Int32) (a2 : Int32) (k12 : Int32 → Int32 → Int32 → St → Option (Int32 × St)) (x3 : Int32) (x5 : Int32) (s0 : Int32) (s1 : Int32) (σ : St) : Option (Int32 × St) := k12 x3 (s0 + s1) (x5 + 1) σ
def B8_winsAgainstAll_12 (a1 : Int32) (a2 : Int32) (rec : Int32 → Int32 → Int32 → St → Option (Int32 × St)) (x3 : Int32) (x4 : Int32) (x5 : Int32) (σ : St) : Option (Int32 × St) := bnd (S8_shortPlans a2 σ) fun r44 σ43 => if r44 ≤ x5 then (some (x4, σ43)) else (bnd (S8_wholePlan x5 a2 σ43) fun r48 σ47 => bnd (S0_goThrough x3 r48 σ47) fun r51 σ50 => if (gI σ50 35 5) ≤ 0 then (S8_winsAgainstAll_52 a1 a2 rec x3 x5 x4 (0 : Int32) σ50) else (S8_winsAgainstAll_52 a1 a2 rec x3 x5 x4 (1 : Int32) σ50))
def S8_winsAgainstAll_12 (a1 : Int32) (a2 : Int32) : Nat → Int32 → Int32 → Int32 → St → Option (Int32 × St)
  | 0, _, _, _, _ => none
  | n + 1, x3, x4, x5, σ => B8_winsAgainstAll_12 a1 a2 (S8_winsAgainstAll_12 a1 a2 n) x3 x4 x5 σ
def S8_winsAgainstAll (a1 : Int32) (a2 : Int32) (σ : St) : Option (Int32 × St) := bnd (S8_wholePlan a1 a2 σ) fun r55 σ54 => S8_winsAgainstAll_12 a1 a2 4096 r55 (0 : Int32) (0 : Int32) σ54
set_option maxRecDepth 100000 in
set_option maxHeartbeats 4000000 in
theorem v8_winsAgainstAll_52 {g : GT} {X : XT} {a1 : Int32} {a2 : Int32} (hX : OkX g X (m8_winsAgainstAll)) (hN : 75 ≤ g.N) {res : Int32 × St} (hQ : X.Q = QI g X res.1 res.2 ∧ X.cells = 0 ∧ X.slots = 0)  {k12 : Int32 → Int32 → Int32 → St → Option (Int32 × St)} (hk12 : ∀ (x3 : Int32) (x4 : Int32) (x5 : Int32) (σ : St), k12 x3 x4 x5 σ = some res → V g X (m8_winsAgainstAll) 12 [(0, .ref (g.ad (0))), (2, .int (a2)), (3, .int (x3)), (4, .int (x4)), (5, .int (x5))] [] σ) (x3 : Int32) (x5 : Int32) (s0 : Int32) (s1 : Int32) (σ : St)  (h : S8_winsAgainstAll_52 a1 a2 k12 x3 x5 s0 s1 σ = some res) : V g X (m8_winsAgainstAll) 52 [(0, .ref (g.ad (0))), (2, .int (a2)), (3, .int (x3)), (5, .int (x5))] [.int (s1), .int (s0)] σ := by
  unfold S8_winsAgainstAll_52 at h
  refine V_iadd (q := 53) hX dX8_winsAgainstAll_52 rfl ?_
  refine V_istore (lv' := [(4, .int ((s0 + s1))), (0, .ref (g.ad (0))), (2, .int (a2)), (3, .int (x3)), (5, .int (x5))]) (q := 55) hX dX8_winsAgainstAll_53 rfl rfl rfl ?_
  refine V_iinc (v := (x5 + 1)) (lv' := [(5, .int ((x5 + 1))), (4, .int ((s0 + s1))), (0, .ref (g.ad (0))), (2, .int (a2)), (3, .int (x3))]) (q := 58) hX dX8_winsAgainstAll_55 4 rfl (by rfl) rfl rfl rfl ?_
  refine V_goto hX dX8_winsAgainstAll_58 (q := 12) (by decide) ?_
  refine V.pick [2, 3, 4, 1, 0] rfl ?_
  exact hk12 x3 (s0 + s1) (x5 + 1) σ  h
set_option maxRecDepth 100000 in
set_option maxHeartbeats 4000000 in
theorem v8_winsAgainstAll_12n {g : GT} {X : XT} {a1 : Int32} {a2 : Int32} (hX : OkX g X (m8_winsAgainstAll)) (hN : 75 ≤ g.N) {res : Int32 × St} (hQ : X.Q = QI g X res.1 res.2 ∧ X.cells = 0 ∧ X.slots = 0)   (n : Nat) : ∀ (x3 : Int32) (x4 : Int32) (x5 : Int32) (σ : St) , S8_winsAgainstAll_12 a1 a2 n x3 x4 x5 σ = some res → V g X (m8_winsAgainstAll) 12 [(0, .ref (g.ad (0))), (2, .int (a2)), (3, .int (x3)), (4, .int (x4)), (5, .int (x5))] [] σ := by
  induction n with
  | zero => intro x3 x4 x5 σ; intro h; cases h
  | succ n ih =>
    intro x3 x4 x5 σ h
    have h : B8_winsAgainstAll_12 a1 a2 (S8_winsAgainstAll_12 a1 a2 n) x3 x4 x5 σ = some res := h
    unfold B8_winsAgainstAll_12 at h
    refine V_iload (q := 14) hX dX8_winsAgainstAll_12 4 rfl rfl ?_
    refine V_iload_n (q := 15) hX dX8_winsAgainstAll_14 1 rfl rfl ?_
    obtain ⟨r44, σ43, e45, h⟩ := bnd_some h
    refine V_csI (As := [.int (a2)]) (q := 18) hX (c8_shortPlans hX.2.2.2.2.1 hN e45) (goodS_of k3_175 k3_176 k1_1 (cons_g k3_177)) (nA := 1) (by decide) rfl rfl rfl rfl rfl dX8_winsAgainstAll_15 rfl ?_
    refine V_icmp_ge (q := 21) (t := 61) hX dX8_winsAgainstAll_18 (by decide) rfl (fun z46 => ?_) (fun z46 => ?_)
    · have h := ite_t z46 h
      refine V_iload (q := 63) hX dX8_winsAgainstAll_61 3 rfl rfl ?_
      obtain ⟨f1, f2⟩ := some2 h
      rw [f1, f2] at hQ
      exact V_iret hX hQ rfl dX8_winsAgainstAll_63
    have h := ite_f z46 h
    refine V_aload_n (q := 22) hX dX8_winsAgainstAll_21 0 rfl rfl ?_
    refine V_getF (r := 35) (n := 75) (c := 8) (k := 8) (nf := 11) (C := RX8) (T := TX8) (q := 25) hX rfl rfl iG8 k2_183 rfl rfl ⟨rfl, by decide⟩ hN rfl rfl rfl rfl dX8_winsAgainstAll_22 rfl ?_
    refine V_iload_n (q := 26) hX dX8_winsAgainstAll_25 2 rfl rfl ?_
    refine V_iload (q := 28) hX dX8_winsAgainstAll_26 4 rfl rfl ?_
    refine V_iload_n (q := 29) hX dX8_winsAgainstAll_28 1 rfl rfl ?_
    obtain ⟨r48, σ47, e49, h⟩ := bnd_some h
    refine V_csI (As := [.int (x5), .int (a2)]) (q := 32) hX (c8_wholePlan hX.2.2.2.2.1 hN e49) (goodS_of k3_178 k3_179 k1_1 (cons_g k3_180)) (nA := 2) (by decide) rfl rfl rfl rfl rfl dX8_winsAgainstAll_29 rfl ?_
    obtain ⟨r51, σ50, e52, h⟩ := bnd_some h
    refine V_cvV (n := 75) (c := 0) (nf := 6) (C := RX0) (T := TX0) (As := [.int (x3), .int (r48)]) (q := 35) hX (c0_goThrough hX.2.2.2.2.1 hN e52) (goodV_of k3_117 k3_118 k3_119 k1_7 (cons_g k3_120)) (nA := 2) (by decide) rfl rfl rfl rfl rfl ⟨rfl, by decide⟩ hN rfl rfl rfl dX8_winsAgainstAll_32 rfl ?_
    refine V_iload (q := 37) hX dX8_winsAgainstAll_35 3 rfl rfl ?_
    refine V_aload_n (q := 38) hX dX8_winsAgainstAll_37 0 rfl rfl ?_
    refine V_getF (r := 35) (n := 75) (c := 8) (k := 8) (nf := 11) (C := RX8) (T := TX8) (q := 41) hX rfl rfl iG8 k2_183 rfl rfl ⟨rfl, by decide⟩ hN rfl rfl rfl rfl dX8_winsAgainstAll_38 rfl ?_
    refine V_getI (n := 75) (c := 0) (k := 5) (nf := 6) (C := RX0) (T := TX0) (q := 44) hX rfl rfl iG0 k1_192 rfl rfl ⟨rfl, by decide⟩ hN rfl rfl dX8_winsAgainstAll_41 rfl ?_
    refine V_if_le (q := 47) (t := 51) hX dX8_winsAgainstAll_44 (by decide) rfl (fun z53 => ?_) (fun z53 => ?_)
    · have h := ite_t z53 h
      refine V_iconst (v := 0) (q := 52) hX dX8_winsAgainstAll_51 (by decide) rfl ?_
      refine V.pick [0, 1, 2, 4] rfl ?_
      exact v8_winsAgainstAll_52 hX hN hQ ih x3 x5 x4 (0 : Int32) σ50 h
    have h := ite_f z53 h
    refine V_iconst (v := 1) (q := 48) hX dX8_winsAgainstAll_47 (by decide) rfl ?_
    refine V_goto hX dX8_winsAgainstAll_48 (q := 52) (by decide) ?_
    refine V.pick [0, 1, 2, 4] rfl ?_
    exact v8_winsAgainstAll_52 hX hN hQ ih x3 x5 x4 (1 : Int32) σ50 h
theorem v8_winsAgainstAll_12 {g : GT} {X : XT} {a1 : Int32} {a2 : Int32} (hX : OkX g X (m8_winsAgainstAll)) (hN : 75 ≤ g.N) {res : Int32 × St} (hQ : X.Q = QI g X res.1 res.2 ∧ X.cells = 0 ∧ X.slots = 0) (x3 : Int32) (x4 : Int32) (x5 : Int32) (σ : St) (h : S8_winsAgainstAll_12 a1 a2 4096 x3 x4 x5 σ = some res) : V g X (m8_winsAgainstAll) 12 [(0, .ref (g.ad (0))), (2, .int (a2)), (3, .int (x3)), (4, .int (x4)), (5, .int (x5))] [] σ := v8_winsAgainstAll_12n hX hN hQ 4096 x3 x4 x5 σ h
set_option maxRecDepth 100000 in
set_option maxHeartbeats 4000000 in
theorem v8_winsAgainstAll {g : GT} {X : XT} {a1 : Int32} {a2 : Int32} (hX : OkX g X (m8_winsAgainstAll)) (hN : 75 ≤ g.N) {res : Int32 × St} (hQ : X.Q = QI g X res.1 res.2 ∧ X.cells = 0 ∧ X.slots = 0) {σ : St} (h : S8_winsAgainstAll a1 a2 σ = some res) : V g X (m8_winsAgainstAll) 0 [(0, .ref (g.ad (0))), (1, .int (a1)), (2, .int (a2))] [] σ := by
  unfold S8_winsAgainstAll at h
  refine V_iload_n (q := 1) hX dX8_winsAgainstAll_0 1 rfl rfl ?_
  refine V_iload_n (q := 2) hX dX8_winsAgainstAll_1 2 rfl rfl ?_
  obtain ⟨r55, σ54, e56, h⟩ := bnd_some h
  refine V_csI (As := [.int (a1), .int (a2)]) (q := 5) hX (c8_wholePlan hX.2.2.2.2.1 hN e56) (goodS_of k3_178 k3_179 k1_1 (cons_g k3_180)) (nA := 2) (by decide) rfl rfl rfl rfl rfl dX8_winsAgainstAll_2 rfl ?_
  refine V_istore_n (lv' := [(3, .int (r55)), (0, .ref (g.ad (0))), (1, .int (a1)), (2, .int (a2))]) (q := 6) hX dX8_winsAgainstAll_5 rfl rfl rfl ?_
  refine V_iconst (v := 0) (q := 7) hX dX8_winsAgainstAll_6 (by decide) rfl ?_
  refine V_istore (lv' := [(4, .int ((0 : Int32))), (3, .int (r55)), (0, .ref (g.ad (0))), (1, .int (a1)), (2, .int (a2))]) (q := 9) hX dX8_winsAgainstAll_7 rfl rfl rfl ?_
  refine V_iconst (v := 0) (q := 10) hX dX8_winsAgainstAll_9 (by decide) rfl ?_
  refine V_istore (lv' := [(5, .int ((0 : Int32))), (4, .int ((0 : Int32))), (3, .int (r55)), (0, .ref (g.ad (0))), (1, .int (a1)), (2, .int (a2))]) (q := 12) hX dX8_winsAgainstAll_10 rfl rfl rfl ?_
  refine V.pick [3, 5, 2, 1, 0] rfl ?_
  exact v8_winsAgainstAll_12 hX hN hQ r55 (0 : Int32) (0 : Int32) σ54 h
set_option maxRecDepth 100000 in
set_option maxHeartbeats 4000000 in
theorem c8_winsAgainstAll {g : GT} {l : Launch} (hg : OkG g) (hN : 75 ≤ g.N) {a1 : Int32} {a2 : Int32} {σ : St} {r : Int32} {σ' : St} (h : S8_winsAgainstAll a1 a2 σ = some (r, σ')) : CtI g l m8_winsAgainstAll yX8_winsAgainstAll [.ref (g.ad (0)), .int (a1), .int (a2)] σ r σ' := CtI.of hg (by decide) rfl rfl (fun X h1 h2 h3 => v8_winsAgainstAll h1 hN (res := (r, σ')) h3 h)

abbrev m8_sure : MI := (cX8_sure, RX8, 8, some .int, 6)
def S8_sure_101 (a1 : Int32) (a2 : Int32) (a3 : Int32) (k68 : Int32 → Int32 → Int32 → St → Option (Int32 × St)) (x4 : Int32) (x5 : Int32) (x6 : Int32) (σ : St) : Option (Int32 × St) := k68 x4 x5 (x6 + 1) σ
def B8_sure_68 (a1 : Int32) (a2 : Int32) (a3 : Int32) (rec : Int32 → Int32 → Int32 → St → Option (Int32 × St)) (x4 : Int32) (x5 : Int32) (x6 : Int32) (σ : St) : Option (Int32 × St) := bnd (S8_shortPlans a2 σ) fun r98 σ97 => if r98 ≤ x6 then (if a3 = 0 then (some (x4, σ97)) else (some (x5, σ97))) else (bnd (S8_winsAgainstAll x6 a2 σ97) fun r103 σ102 => if r103 ≤ x5 then (S8_sure_101 a1 a2 a3 rec x4 x5 x6 σ102) else (S8_sure_101 a1 a2 a3 rec x6 r103 x6 σ102))
def S8_sure_68 (a1 : Int32) (a2 : Int32) (a3 : Int32) : Nat → Int32 → Int32 → Int32 → St → Option (Int32 × St)
  | 0, _, _, _, _ => none
  | n + 1, x4, x5, x6, σ => B8_sure_68 a1 a2 a3 (S8_sure_68 a1 a2 a3 n) x4 x5 x6 σ
def S8_sure_33 (a1 : Int32) (a2 : Int32) (a3 : Int32) (σ : St) : Option (Int32 × St) := bnd (S8_theOne a1 σ) fun r107 σ106 => bnd (S8_theOther a1 σ106) fun r110 σ109 => bnd (S8_theLaw σ109) fun r113 σ112 => bnd (S0_pair r107 r110 r113 σ112) fun r116 σ115 => bnd (S8_winsAgainstAll (0 : Int32) a2 σ115) fun r119 σ118 => S8_sure_68 a1 a2 a3 4096 (0 : Int32) r119 (1 : Int32) σ118
def S8_sure (a1 : Int32) (a2 : Int32) (a3 : Int32) (σ : St) : Option (Int32 × St) := bnd (S8_isPair a1 σ) fun r122 σ121 => if r122 = 0 then (some ((-5 : Int32), σ121)) else (if a2 < (1 : Int32) then (some ((-7 : Int32), σ121)) else (if (2 : Int32) < a2 then (some ((-7 : Int32), σ121)) else (if a3 = 0 then (S8_sure_33 a1 a2 a3 σ121) else (if a3 = (1 : Int32) then (S8_sure_33 a1 a2 a3 σ121) else (some ((-7 : Int32), σ121))))))
set_option maxRecDepth 100000 in
set_option maxHeartbeats 4000000 in
theorem v8_sure_101 {g : GT} {X : XT} {a1 : Int32} {a2 : Int32} {a3 : Int32} (hX : OkX g X (m8_sure)) (hN : 75 ≤ g.N) {res : Int32 × St} (hQ : X.Q = QI g X res.1 res.2 ∧ X.cells = 0 ∧ X.slots = 0)  {k68 : Int32 → Int32 → Int32 → St → Option (Int32 × St)} (hk68 : ∀ (x4 : Int32) (x5 : Int32) (x6 : Int32) (σ : St), k68 x4 x5 x6 σ = some res → V g X (m8_sure) 68 [(0, .ref (g.ad (0))), (2, .int (a2)), (3, .int (a3)), (4, .int (x4)), (5, .int (x5)), (6, .int (x6))] [] σ) (x4 : Int32) (x5 : Int32) (x6 : Int32) (σ : St)  (h : S8_sure_101 a1 a2 a3 k68 x4 x5 x6 σ = some res) : V g X (m8_sure) 101 [(0, .ref (g.ad (0))), (2, .int (a2)), (3, .int (a3)), (4, .int (x4)), (5, .int (x5)), (6, .int (x6))] [] σ := by
  unfold S8_sure_101 at h
  refine V_iinc (v := (x6 + 1)) (lv' := [(6, .int ((x6 + 1))), (0, .ref (g.ad (0))), (2, .int (a2)), (3, .int (a3)), (4, .int (x4)), (5, .int (x5))]) (q := 104) hX dX8_sure_101 5 rfl (by rfl) rfl rfl rfl ?_
  refine V_goto hX dX8_sure_104 (q := 68) (by decide) ?_
  refine V.pick [1, 2, 3, 4, 5, 0] rfl ?_
  exact hk68 x4 x5 (x6 + 1) σ  h
set_option maxRecDepth 100000 in
set_option maxHeartbeats 4000000 in
theorem v8_sure_68n {g : GT} {X : XT} {a1 : Int32} {a2 : Int32} {a3 : Int32} (hX : OkX g X (m8_sure)) (hN : 75 ≤ g.N) {res : Int32 × St} (hQ : X.Q = QI g X res.1 res.2 ∧ X.cells = 0 ∧ X.slots = 0)   (n : Nat) : ∀ (x4 : Int32) (x5 : Int32) (x6 : Int32) (σ : St) , S8_sure_68 a1 a2 a3 n x4 x5 x6 σ = some res → V g X (m8_sure) 68 [(0, .ref (g.ad (0))), (2, .int (a2)), (3, .int (a3)), (4, .int (x4)), (5, .int (x5)), (6, .int (x6))] [] σ := by
  induction n with
  | zero => intro x4 x5 x6 σ; intro h; cases h
  | succ n ih =>
    intro x4 x5 x6 σ h
    have h : B8_sure_68 a1 a2 a3 (S8_sure_68 a1 a2 a3 n) x4 x5 x6 σ = some res := h
    unfold B8_sure_68 at h
    refine V_iload (q := 70) hX dX8_sure_68 5 rfl rfl ?_
    refine V_iload_n (q := 71) hX dX8_sure_70 1 rfl rfl ?_
    obtain ⟨r98, σ97, e99, h⟩ := bnd_some h
    refine V_csI (As := [.int (a2)]) (q := 74) hX (c8_shortPlans hX.2.2.2.2.1 hN e99) (goodS_of k3_175 k3_176 k1_1 (cons_g k3_177)) (nA := 1) (by decide) rfl rfl rfl rfl rfl dX8_sure_71 rfl ?_
    refine V_icmp_ge (q := 77) (t := 107) hX dX8_sure_74 (by decide) rfl (fun z100 => ?_) (fun z100 => ?_)
    · have h := ite_t z100 h
      refine V_iload_n (q := 108) hX dX8_sure_107 2 rfl rfl ?_
      refine V_if_ne (q := 111) (t := 116) hX dX8_sure_108 (by decide) rfl (fun z101 => ?_) (fun z101 => ?_)
      · have h := ite_f z101 h
        refine V_iload (q := 118) hX dX8_sure_116 4 rfl rfl ?_
        obtain ⟨f1, f2⟩ := some2 h
        rw [f1, f2] at hQ
        exact V_iret hX hQ rfl dX8_sure_118
      have h := ite_t z101 h
      refine V_iload (q := 113) hX dX8_sure_111 3 rfl rfl ?_
      refine V_goto hX dX8_sure_113 (q := 118) (by decide) ?_
      obtain ⟨f1, f2⟩ := some2 h
      rw [f1, f2] at hQ
      exact V_iret hX hQ rfl dX8_sure_118
    have h := ite_f z100 h
    refine V_aload_n (q := 78) hX dX8_sure_77 0 rfl rfl ?_
    refine V_iload (q := 80) hX dX8_sure_78 5 rfl rfl ?_
    refine V_iload_n (q := 81) hX dX8_sure_80 1 rfl rfl ?_
    obtain ⟨r103, σ102, e104, h⟩ := bnd_some h
    refine V_cvI (n := 75) (c := 8) (nf := 11) (C := RX8) (T := TX8) (As := [.int (x6), .int (a2)]) (q := 84) hX (c8_winsAgainstAll hX.2.2.2.2.1 hN e104) (goodV_of k3_186 k3_188 kp_22 k1_1 (cons_g k3_189)) (nA := 2) (by decide) rfl rfl rfl rfl rfl ⟨rfl, by decide⟩ hN rfl rfl rfl dX8_sure_81 rfl ?_
    refine V_istore (lv' := [(7, .int (r103)), (0, .ref (g.ad (0))), (2, .int (a2)), (3, .int (a3)), (4, .int (x4)), (5, .int (x5)), (6, .int (x6))]) (q := 86) hX dX8_sure_84 rfl rfl rfl ?_
    refine V_iload (q := 88) hX dX8_sure_86 0 rfl rfl ?_
    refine V_iload (q := 90) hX dX8_sure_88 5 rfl rfl ?_
    refine V_icmp_le (q := 93) (t := 101) hX dX8_sure_90 (by decide) rfl (fun z105 => ?_) (fun z105 => ?_)
    · have h := ite_t z105 h
      refine V.pick [1, 2, 3, 4, 5, 6] rfl ?_
      exact v8_sure_101 hX hN hQ ih x4 x5 x6 σ102 h
    have h := ite_f z105 h
    refine V_iload (q := 95) hX dX8_sure_93 6 rfl rfl ?_
    refine V_istore (lv' := [(4, .int (x6)), (7, .int (r103)), (0, .ref (g.ad (0))), (2, .int (a2)), (3, .int (a3)), (5, .int (x5)), (6, .int (x6))]) (q := 97) hX dX8_sure_95 rfl rfl rfl ?_
    refine V_iload (q := 99) hX dX8_sure_97 1 rfl rfl ?_
    refine V_istore (lv' := [(5, .int (r103)), (4, .int (x6)), (7, .int (r103)), (0, .ref (g.ad (0))), (2, .int (a2)), (3, .int (a3)), (6, .int (x6))]) (q := 101) hX dX8_sure_99 rfl rfl rfl ?_
    refine V.pick [3, 4, 5, 1, 0, 6] rfl ?_
    exact v8_sure_101 hX hN hQ ih x6 r103 x6 σ102 h
theorem v8_sure_68 {g : GT} {X : XT} {a1 : Int32} {a2 : Int32} {a3 : Int32} (hX : OkX g X (m8_sure)) (hN : 75 ≤ g.N) {res : Int32 × St} (hQ : X.Q = QI g X res.1 res.2 ∧ X.cells = 0 ∧ X.slots = 0) (x4 : Int32) (x5 : Int32) (x6 : Int32) (σ : St) (h : S8_sure_68 a1 a2 a3 4096 x4 x5 x6 σ = some res) : V g X (m8_sure) 68 [(0, .ref (g.ad (0))), (2, .int (a2)), (3, .int (a3)), (4, .int (x4)), (5, .int (x5)), (6, .int (x6))] [] σ := v8_sure_68n hX hN hQ 4096 x4 x5 x6 σ h
set_option maxRecDepth 100000 in
set_option maxHeartbeats 4000000 in
theorem v8_sure_33 {g : GT} {X : XT} {a1 : Int32} {a2 : Int32} {a3 : Int32} (hX : OkX g X (m8_sure)) (hN : 75 ≤ g.N) {res : Int32 × St} (hQ : X.Q = QI g X res.1 res.2 ∧ X.cells = 0 ∧ X.slots = 0)    (σ : St)  (h : S8_sure_33 a1 a2 a3 σ = some res) : V g X (m8_sure) 33 [(0, .ref (g.ad (0))), (1, .int (a1)), (2, .int (a2)), (3, .int (a3))] [] σ := by
  unfold S8_sure_33 at h
  refine V_aload_n (q := 34) hX dX8_sure_33 0 rfl rfl ?_
  refine V_getF (r := 35) (n := 75) (c := 8) (k := 8) (nf := 11) (C := RX8) (T := TX8) (q := 37) hX rfl rfl iG8 k2_183 rfl rfl ⟨rfl, by decide⟩ hN rfl rfl rfl rfl dX8_sure_34 rfl ?_
  refine V_aload_n (q := 38) hX dX8_sure_37 0 rfl rfl ?_
  refine V_iload_n (q := 39) hX dX8_sure_38 1 rfl rfl ?_
  obtain ⟨r107, σ106, e108, h⟩ := bnd_some h
  refine V_cvR (n := 75) (c := 8) (nf := 11) (C := RX8) (T := TX8) (As := [.int (a1)]) (q := 42) hX (c8_theOne hX.2.2.2.2.1 hN e108) (goodV_of k3_82 k3_84 kp_16 k1_1 (cons_g k3_85)) (nA := 1) (by decide) rfl rfl rfl rfl rfl ⟨rfl, by decide⟩ hN rfl rfl rfl dX8_sure_39 rfl ?_
  refine V_aload_n (q := 43) hX dX8_sure_42 0 rfl rfl ?_
  refine V_iload_n (q := 44) hX dX8_sure_43 1 rfl rfl ?_
  obtain ⟨r110, σ109, e111, h⟩ := bnd_some h
  refine V_cvR (n := 75) (c := 8) (nf := 11) (C := RX8) (T := TX8) (As := [.int (a1)]) (q := 47) hX (c8_theOther hX.2.2.2.2.1 hN e111) (goodV_of k3_86 k3_88 kp_17 k1_1 (cons_g k3_89)) (nA := 1) (by decide) rfl rfl rfl rfl rfl ⟨rfl, by decide⟩ hN rfl rfl rfl dX8_sure_44 rfl ?_
  refine V_aload_n (q := 48) hX dX8_sure_47 0 rfl rfl ?_
  obtain ⟨r113, σ112, e114, h⟩ := bnd_some h
  refine V_cvR (n := 75) (c := 8) (nf := 11) (C := RX8) (T := TX8) (As := []) (q := 51) hX (c8_theLaw hX.2.2.2.2.1 hN e114) (goodV_of k3_1 k3_3 kp_13 k1_1 (cons_g k3_4)) (nA := 0) (by decide) rfl rfl rfl rfl rfl ⟨rfl, by decide⟩ hN rfl rfl rfl dX8_sure_48 rfl ?_
  obtain ⟨r116, σ115, e117, h⟩ := bnd_some h
  refine V_cvV (n := 75) (c := 0) (nf := 6) (C := RX0) (T := TX0) (As := [.ref (g.ad (r107)), .ref (g.ad (r110)), .ref (g.ad (r113))]) (q := 54) hX (c0_pair hX.2.2.2.2.1 hN (sh8_theOne e108) (sh8_theOther e111) (sh8_theLaw e114) e117) (goodV_of k3_90 k3_91 k3_92 k1_7 (cons_g k3_93)) (nA := 3) (by decide) rfl rfl rfl rfl rfl ⟨rfl, by decide⟩ hN rfl rfl rfl dX8_sure_51 rfl ?_
  refine V_iconst (v := 0) (q := 55) hX dX8_sure_54 (by decide) rfl ?_
  refine V_istore (lv' := [(4, .int ((0 : Int32))), (0, .ref (g.ad (0))), (1, .int (a1)), (2, .int (a2)), (3, .int (a3))]) (q := 57) hX dX8_sure_55 rfl rfl rfl ?_
  refine V_aload_n (q := 58) hX dX8_sure_57 1 rfl rfl ?_
  refine V_iconst (v := 0) (q := 59) hX dX8_sure_58 (by decide) rfl ?_
  refine V_iload_n (q := 60) hX dX8_sure_59 3 rfl rfl ?_
  obtain ⟨r119, σ118, e120, h⟩ := bnd_some h
  refine V_cvI (n := 75) (c := 8) (nf := 11) (C := RX8) (T := TX8) (As := [.int ((0 : Int32)), .int (a2)]) (q := 63) hX (c8_winsAgainstAll hX.2.2.2.2.1 hN e120) (goodV_of k3_186 k3_188 kp_22 k1_1 (cons_g k3_189)) (nA := 2) (by decide) rfl rfl rfl rfl rfl ⟨rfl, by decide⟩ hN rfl rfl rfl dX8_sure_60 rfl ?_
  refine V_istore (lv' := [(5, .int (r119)), (4, .int ((0 : Int32))), (0, .ref (g.ad (0))), (1, .int (a1)), (2, .int (a2)), (3, .int (a3))]) (q := 65) hX dX8_sure_63 rfl rfl rfl ?_
  refine V_iconst (v := 1) (q := 66) hX dX8_sure_65 (by decide) rfl ?_
  refine V_istore (lv' := [(6, .int ((1 : Int32))), (5, .int (r119)), (4, .int ((0 : Int32))), (0, .ref (g.ad (0))), (1, .int (a1)), (2, .int (a2)), (3, .int (a3))]) (q := 68) hX dX8_sure_66 rfl rfl rfl ?_
  refine V.pick [3, 5, 6, 2, 1, 0] rfl ?_
  exact v8_sure_68 hX hN hQ (0 : Int32) r119 (1 : Int32) σ118 h
set_option maxRecDepth 100000 in
set_option maxHeartbeats 4000000 in
theorem v8_sure {g : GT} {X : XT} {a1 : Int32} {a2 : Int32} {a3 : Int32} (hX : OkX g X (m8_sure)) (hN : 75 ≤ g.N) {res : Int32 × St} (hQ : X.Q = QI g X res.1 res.2 ∧ X.cells = 0 ∧ X.slots = 0) {σ : St} (h : S8_sure a1 a2 a3 σ = some res) : V g X (m8_sure) 0 [(0, .ref (g.ad (0))), (1, .int (a1)), (2, .int (a2)), (3, .int (a3))] [] σ := by
  unfold S8_sure at h
  refine V_aload_n (q := 1) hX dX8_sure_0 0 rfl rfl ?_
  refine V_iload_n (q := 2) hX dX8_sure_1 1 rfl rfl ?_
  obtain ⟨r122, σ121, e123, h⟩ := bnd_some h
  refine V_cvI (n := 75) (c := 8) (nf := 11) (C := RX8) (T := TX8) (As := [.int (a1)]) (q := 5) hX (c8_isPair hX.2.2.2.2.1 hN e123) (goodV_of k3_67 k3_69 kp_14 k1_1 (cons_g k3_70)) (nA := 1) (by decide) rfl rfl rfl rfl rfl ⟨rfl, by decide⟩ hN rfl rfl rfl dX8_sure_2 rfl ?_
  refine V_if_ne (q := 8) (t := 11) hX dX8_sure_5 (by decide) rfl (fun z124 => ?_) (fun z124 => ?_)
  · have h := ite_f z124 h
    refine V_iload_n (q := 12) hX dX8_sure_11 2 rfl rfl ?_
    refine V_iconst (v := 1) (q := 13) hX dX8_sure_12 (by decide) rfl ?_
    refine V_icmp_lt (q := 16) (t := 30) hX dX8_sure_13 (by decide) rfl (fun z125 => ?_) (fun z125 => ?_)
    · have h := ite_t z125 h
      refine V_bipush (v := -7) (q := 32) hX dX8_sure_30 (by decide) rfl ?_
      obtain ⟨f1, f2⟩ := some2 h
      rw [f1, f2] at hQ
      exact V_iret hX hQ rfl dX8_sure_32
    have h := ite_f z125 h
    refine V_iload_n (q := 17) hX dX8_sure_16 2 rfl rfl ?_
    refine V_iconst (v := 2) (q := 18) hX dX8_sure_17 (by decide) rfl ?_
    refine V_icmp_gt (q := 21) (t := 30) hX dX8_sure_18 (by decide) rfl (fun z126 => ?_) (fun z126 => ?_)
    · have h := ite_t z126 h
      refine V_bipush (v := -7) (q := 32) hX dX8_sure_30 (by decide) rfl ?_
      obtain ⟨f1, f2⟩ := some2 h
      rw [f1, f2] at hQ
      exact V_iret hX hQ rfl dX8_sure_32
    have h := ite_f z126 h
    refine V_iload_n (q := 22) hX dX8_sure_21 3 rfl rfl ?_
    refine V_if_eq (q := 25) (t := 33) hX dX8_sure_22 (by decide) rfl (fun z127 => ?_) (fun z127 => ?_)
    · have h := ite_t z127 h
      refine V.pick [0, 1, 2, 3] rfl ?_
      exact v8_sure_33 hX hN hQ σ121 h
    have h := ite_f z127 h
    refine V_iload_n (q := 26) hX dX8_sure_25 3 rfl rfl ?_
    refine V_iconst (v := 1) (q := 27) hX dX8_sure_26 (by decide) rfl ?_
    refine V_icmp_eq (q := 30) (t := 33) hX dX8_sure_27 (by decide) rfl (fun z128 => ?_) (fun z128 => ?_)
    · have h := ite_t z128 h
      refine V.pick [0, 1, 2, 3] rfl ?_
      exact v8_sure_33 hX hN hQ σ121 h
    have h := ite_f z128 h
    refine V_bipush (v := -7) (q := 32) hX dX8_sure_30 (by decide) rfl ?_
    obtain ⟨f1, f2⟩ := some2 h
    rw [f1, f2] at hQ
    exact V_iret hX hQ rfl dX8_sure_32
  have h := ite_t z124 h
  refine V_bipush (v := -5) (q := 10) hX dX8_sure_8 (by decide) rfl ?_
  obtain ⟨f1, f2⟩ := some2 h
  rw [f1, f2] at hQ
  exact V_iret hX hQ rfl dX8_sure_10
set_option maxRecDepth 100000 in
set_option maxHeartbeats 4000000 in
theorem c8_sure {g : GT} {l : Launch} (hg : OkG g) (hN : 75 ≤ g.N) {a1 : Int32} {a2 : Int32} {a3 : Int32} {σ : St} {r : Int32} {σ' : St} (h : S8_sure a1 a2 a3 σ = some (r, σ')) : CtI g l m8_sure yX8_sure [.ref (g.ad (0)), .int (a1), .int (a2), .int (a3)] σ r σ' := CtI.of hg (by decide) rfl rfl (fun X h1 h2 h3 => v8_sure h1 hN (res := (r, σ')) h3 h)

abbrev m8_inLowestTerms : MI := (cX8_inLowestTerms, RX8, 7, some .long, 1)
def S8_inLowestTerms_39 (a0 : Int32) (a1 : Int32) (a2 : Int32) (x3 : Int32) (σ : St) : Option (Int64 × St) := if x3 = 0 then (some ((-4611686018427387904 : Int64), σ)) else (if a2 = 0 then (if x3 = 0 then none else (some ((((a0 / x3)).toInt64), σ))) else (if x3 = 0 then none else (some ((((a1 / x3)).toInt64), σ))))
def B8_inLowestTerms_8 (a0 : Int32) (a1 : Int32) (a2 : Int32) (rec : Int32 → Int32 → Int32 → St → Option (Int64 × St)) (x3 : Int32) (x4 : Int32) (x5 : Int32) (σ : St) : Option (Int64 × St) := if (64 : Int32) ≤ x5 then (S8_inLowestTerms_39 a0 a1 a2 x3 σ) else (if x4 = 0 then (S8_inLowestTerms_39 a0 a1 a2 x3 σ) else (if x4 = 0 then none else (rec x4 (jrem x3 x4) (x5 + 1) σ)))
def S8_inLowestTerms_8 (a0 : Int32) (a1 : Int32) (a2 : Int32) : Nat → Int32 → Int32 → Int32 → St → Option (Int64 × St)
  | 0, _, _, _, _ => none
  | n + 1, x3, x4, x5, σ => B8_inLowestTerms_8 a0 a1 a2 (S8_inLowestTerms_8 a0 a1 a2 n) x3 x4 x5 σ
def S8_inLowestTerms (a0 : Int32) (a1 : Int32) (a2 : Int32) (σ : St) : Option (Int64 × St) := S8_inLowestTerms_8 a0 a1 a2 4096 a1 a0 (0 : Int32) σ
set_option maxRecDepth 100000 in
set_option maxHeartbeats 4000000 in
theorem v8_inLowestTerms_39 {g : GT} {X : XT} {a0 : Int32} {a1 : Int32} {a2 : Int32} (hX : OkX g X (m8_inLowestTerms)) (hN : 75 ≤ g.N) {res : Int64 × St} (hQ : X.Q = QJ g X res.1 res.2 ∧ X.cells = 0 ∧ X.slots = 0)   (x3 : Int32) (σ : St)  (h : S8_inLowestTerms_39 a0 a1 a2 x3 σ = some res) : V g X (m8_inLowestTerms) 39 [(0, .int (a0)), (1, .int (a1)), (2, .int (a2)), (3, .int (x3))] [] σ := by
  unfold S8_inLowestTerms_39 at h
  refine V_iload_n (q := 40) hX dX8_inLowestTerms_39 3 rfl rfl ?_
  refine V_if_ne (q := 43) (t := 47) hX dX8_inLowestTerms_40 (by decide) rfl (fun z22 => ?_) (fun z22 => ?_)
  · have h := ite_f z22 h
    refine V_iload_n (q := 48) hX dX8_inLowestTerms_47 2 rfl rfl ?_
    refine V_if_ne (q := 51) (t := 58) hX dX8_inLowestTerms_48 (by decide) rfl (fun z23 => ?_) (fun z23 => ?_)
    · have h := ite_f z23 h
      refine V_iload_n (q := 59) hX dX8_inLowestTerms_58 1 rfl rfl ?_
      refine V_iload_n (q := 60) hX dX8_inLowestTerms_59 3 rfl rfl ?_
      obtain ⟨z24, h⟩ := chk_n h
      refine V_idiv (q := 61) hX z24 dX8_inLowestTerms_60 rfl ?_
      refine V_i2l (q := 62) hX dX8_inLowestTerms_61 rfl ?_
      obtain ⟨f1, f2⟩ := some2 h
      rw [f1, f2] at hQ
      exact V_lret hX hQ rfl dX8_inLowestTerms_62
    have h := ite_t z23 h
    refine V_iload_n (q := 52) hX dX8_inLowestTerms_51 0 rfl rfl ?_
    refine V_iload_n (q := 53) hX dX8_inLowestTerms_52 3 rfl rfl ?_
    obtain ⟨z25, h⟩ := chk_n h
    refine V_idiv (q := 54) hX z25 dX8_inLowestTerms_53 rfl ?_
    refine V_i2l (q := 55) hX dX8_inLowestTerms_54 rfl ?_
    refine V_goto hX dX8_inLowestTerms_55 (q := 62) (by decide) ?_
    obtain ⟨f1, f2⟩ := some2 h
    rw [f1, f2] at hQ
    exact V_lret hX hQ rfl dX8_inLowestTerms_62
  have h := ite_t z22 h
  refine V_ldc2 (v := -4611686018427387904) (q := 46) hX k3_194 dX8_inLowestTerms_43 rfl ?_
  obtain ⟨f1, f2⟩ := some2 h
  rw [f1, f2] at hQ
  exact V_lret hX hQ rfl dX8_inLowestTerms_46
set_option maxRecDepth 100000 in
set_option maxHeartbeats 4000000 in
theorem v8_inLowestTerms_8n {g : GT} {X : XT} {a0 : Int32} {a1 : Int32} {a2 : Int32} (hX : OkX g X (m8_inLowestTerms)) (hN : 75 ≤ g.N) {res : Int64 × St} (hQ : X.Q = QJ g X res.1 res.2 ∧ X.cells = 0 ∧ X.slots = 0)   (n : Nat) : ∀ (x3 : Int32) (x4 : Int32) (x5 : Int32) (σ : St) , S8_inLowestTerms_8 a0 a1 a2 n x3 x4 x5 σ = some res → V g X (m8_inLowestTerms) 8 [(0, .int (a0)), (1, .int (a1)), (2, .int (a2)), (3, .int (x3)), (4, .int (x4)), (5, .int (x5))] [] σ := by
  induction n with
  | zero => intro x3 x4 x5 σ; intro h; cases h
  | succ n ih =>
    intro x3 x4 x5 σ h
    have h : B8_inLowestTerms_8 a0 a1 a2 (S8_inLowestTerms_8 a0 a1 a2 n) x3 x4 x5 σ = some res := h
    unfold B8_inLowestTerms_8 at h
    refine V_iload (q := 10) hX dX8_inLowestTerms_8 5 rfl rfl ?_
    refine V_bipush (v := 64) (q := 12) hX dX8_inLowestTerms_10 (by decide) rfl ?_
    refine V_icmp_ge (q := 15) (t := 39) hX dX8_inLowestTerms_12 (by decide) rfl (fun z26 => ?_) (fun z26 => ?_)
    · have h := ite_t z26 h
      refine V.pick [0, 1, 2, 3] rfl ?_
      exact v8_inLowestTerms_39 hX hN hQ x3 σ h
    have h := ite_f z26 h
    refine V_iload (q := 17) hX dX8_inLowestTerms_15 4 rfl rfl ?_
    refine V_if_eq (q := 20) (t := 39) hX dX8_inLowestTerms_17 (by decide) rfl (fun z27 => ?_) (fun z27 => ?_)
    · have h := ite_t z27 h
      refine V.pick [0, 1, 2, 3] rfl ?_
      exact v8_inLowestTerms_39 hX hN hQ x3 σ h
    have h := ite_f z27 h
    refine V_iload_n (q := 21) hX dX8_inLowestTerms_20 3 rfl rfl ?_
    refine V_iload (q := 23) hX dX8_inLowestTerms_21 4 rfl rfl ?_
    obtain ⟨z28, h⟩ := chk_n h
    refine V_irem (q := 24) hX z28 dX8_inLowestTerms_23 rfl ?_
    refine V_istore (lv' := [(6, .int ((jrem x3 x4))), (0, .int (a0)), (1, .int (a1)), (2, .int (a2)), (3, .int (x3)), (4, .int (x4)), (5, .int (x5))]) (q := 26) hX dX8_inLowestTerms_24 rfl rfl rfl ?_
    refine V_iload (q := 28) hX dX8_inLowestTerms_26 5 rfl rfl ?_
    refine V_istore_n (lv' := [(3, .int (x4)), (6, .int ((jrem x3 x4))), (0, .int (a0)), (1, .int (a1)), (2, .int (a2)), (4, .int (x4)), (5, .int (x5))]) (q := 29) hX dX8_inLowestTerms_28 rfl rfl rfl ?_
    refine V_iload (q := 31) hX dX8_inLowestTerms_29 1 rfl rfl ?_
    refine V_istore (lv' := [(4, .int ((jrem x3 x4))), (3, .int (x4)), (6, .int ((jrem x3 x4))), (0, .int (a0)), (1, .int (a1)), (2, .int (a2)), (5, .int (x5))]) (q := 33) hX dX8_inLowestTerms_31 rfl rfl rfl ?_
    refine V_iinc (v := (x5 + 1)) (lv' := [(5, .int ((x5 + 1))), (4, .int ((jrem x3 x4))), (3, .int (x4)), (6, .int ((jrem x3 x4))), (0, .int (a0)), (1, .int (a1)), (2, .int (a2))]) (q := 36) hX dX8_inLowestTerms_33 6 rfl (by rfl) rfl rfl rfl ?_
    refine V_goto hX dX8_inLowestTerms_36 (q := 8) (by decide) ?_
    refine V.pick [4, 5, 6, 2, 1, 0] rfl ?_
    exact ih x4 (jrem x3 x4) (x5 + 1) σ  h
theorem v8_inLowestTerms_8 {g : GT} {X : XT} {a0 : Int32} {a1 : Int32} {a2 : Int32} (hX : OkX g X (m8_inLowestTerms)) (hN : 75 ≤ g.N) {res : Int64 × St} (hQ : X.Q = QJ g X res.1 res.2 ∧ X.cells = 0 ∧ X.slots = 0) (x3 : Int32) (x4 : Int32) (x5 : Int32) (σ : St) (h : S8_inLowestTerms_8 a0 a1 a2 4096 x3 x4 x5 σ = some res) : V g X (m8_inLowestTerms) 8 [(0, .int (a0)), (1, .int (a1)), (2, .int (a2)), (3, .int (x3)), (4, .int (x4)), (5, .int (x5))] [] σ := v8_inLowestTerms_8n hX hN hQ 4096 x3 x4 x5 σ h
set_option maxRecDepth 100000 in
set_option maxHeartbeats 4000000 in
theorem v8_inLowestTerms {g : GT} {X : XT} {a0 : Int32} {a1 : Int32} {a2 : Int32} (hX : OkX g X (m8_inLowestTerms)) (hN : 75 ≤ g.N) {res : Int64 × St} (hQ : X.Q = QJ g X res.1 res.2 ∧ X.cells = 0 ∧ X.slots = 0) {σ : St} (h : S8_inLowestTerms a0 a1 a2 σ = some res) : V g X (m8_inLowestTerms) 0 [(0, .int (a0)), (1, .int (a1)), (2, .int (a2))] [] σ := by
  unfold S8_inLowestTerms at h
  refine V_iload_n (q := 1) hX dX8_inLowestTerms_0 1 rfl rfl ?_
  refine V_istore_n (lv' := [(3, .int (a1)), (0, .int (a0)), (1, .int (a1)), (2, .int (a2))]) (q := 2) hX dX8_inLowestTerms_1 rfl rfl rfl ?_
  refine V_iload_n (q := 3) hX dX8_inLowestTerms_2 1 rfl rfl ?_
  refine V_istore (lv' := [(4, .int (a0)), (3, .int (a1)), (0, .int (a0)), (1, .int (a1)), (2, .int (a2))]) (q := 5) hX dX8_inLowestTerms_3 rfl rfl rfl ?_
  refine V_iconst (v := 0) (q := 6) hX dX8_inLowestTerms_5 (by decide) rfl ?_
  refine V_istore (lv' := [(5, .int ((0 : Int32))), (4, .int (a0)), (3, .int (a1)), (0, .int (a0)), (1, .int (a1)), (2, .int (a2))]) (q := 8) hX dX8_inLowestTerms_6 rfl rfl rfl ?_
  refine V.pick [3, 4, 5, 2, 1, 0] rfl ?_
  exact v8_inLowestTerms_8 hX hN hQ a1 a0 (0 : Int32) σ h
set_option maxRecDepth 100000 in
set_option maxHeartbeats 4000000 in
theorem c8_inLowestTerms {g : GT} {l : Launch} (hg : OkG g) (hN : 75 ≤ g.N) {a0 : Int32} {a1 : Int32} {a2 : Int32} {σ : St} {r : Int64} {σ' : St} (h : S8_inLowestTerms a0 a1 a2 σ = some (r, σ')) : CtJ g l m8_inLowestTerms yX8_inLowestTerms [.int (a0), .int (a1), .int (a2)] σ r σ' := CtJ.of hg (by decide) rfl rfl (fun X h1 h2 h3 => v8_inLowestTerms h1 hN (res := (r, σ')) h3 h)

abbrev m8_chance : MI := (cX8_chance, RX8, 6, some .long, 6)
def B8_chance_58 (a1 : Int32) (a2 : Int32) (a3 : Int32) (rec : Int32 → Int32 → St → Option (Int64 × St)) (x4 : Int32) (x5 : Int32) (σ : St) : Option (Int64 × St) := bnd (S8_shortPlans a2 σ) fun r74 σ73 => if r74 ≤ x5 then (bnd (S8_shortPlans a2 σ73) fun r78 σ77 => bnd (S8_shortPlans a2 σ77) fun r81 σ80 => bnd (S8_inLowestTerms x4 (r78 * r81) a3 σ80) fun r84 σ83 => some (r84, σ83)) else (bnd (S8_winsAgainstAll x5 a2 σ73) fun r87 σ86 => rec (x4 + r87) (x5 + 1) σ86)
def S8_chance_58 (a1 : Int32) (a2 : Int32) (a3 : Int32) : Nat → Int32 → Int32 → St → Option (Int64 × St)
  | 0, _, _, _ => none
  | n + 1, x4, x5, σ => B8_chance_58 a1 a2 a3 (S8_chance_58 a1 a2 a3 n) x4 x5 σ
def S8_chance_31 (a1 : Int32) (a2 : Int32) (a3 : Int32) (σ : St) : Option (Int64 × St) := bnd (S8_theOne a1 σ) fun r90 σ89 => bnd (S8_theOther a1 σ89) fun r93 σ92 => bnd (S8_theLaw σ92) fun r96 σ95 => bnd (S0_pair r90 r93 r96 σ95) fun r99 σ98 => S8_chance_58 a1 a2 a3 4096 (0 : Int32) (0 : Int32) σ98
def S8_chance (a1 : Int32) (a2 : Int32) (a3 : Int32) (σ : St) : Option (Int64 × St) := bnd (S8_isPair a1 σ) fun r102 σ101 => if r102 = 0 then (some ((-4611686018427387904 : Int64), σ101)) else (if a2 < (1 : Int32) then (some ((-4611686018427387904 : Int64), σ101)) else (if (2 : Int32) < a2 then (some ((-4611686018427387904 : Int64), σ101)) else (if a3 = 0 then (S8_chance_31 a1 a2 a3 σ101) else (if a3 = (1 : Int32) then (S8_chance_31 a1 a2 a3 σ101) else (some ((-4611686018427387904 : Int64), σ101))))))
set_option maxRecDepth 100000 in
set_option maxHeartbeats 4000000 in
theorem v8_chance_58n {g : GT} {X : XT} {a1 : Int32} {a2 : Int32} {a3 : Int32} (hX : OkX g X (m8_chance)) (hN : 75 ≤ g.N) {res : Int64 × St} (hQ : X.Q = QJ g X res.1 res.2 ∧ X.cells = 0 ∧ X.slots = 0)   (n : Nat) : ∀ (x4 : Int32) (x5 : Int32) (σ : St) , S8_chance_58 a1 a2 a3 n x4 x5 σ = some res → V g X (m8_chance) 58 [(0, .ref (g.ad (0))), (2, .int (a2)), (3, .int (a3)), (4, .int (x4)), (5, .int (x5))] [] σ := by
  induction n with
  | zero => intro x4 x5 σ; intro h; cases h
  | succ n ih =>
    intro x4 x5 σ h
    have h : B8_chance_58 a1 a2 a3 (S8_chance_58 a1 a2 a3 n) x4 x5 σ = some res := h
    unfold B8_chance_58 at h
    refine V_iload (q := 60) hX dX8_chance_58 4 rfl rfl ?_
    refine V_iload_n (q := 61) hX dX8_chance_60 1 rfl rfl ?_
    obtain ⟨r74, σ73, e75, h⟩ := bnd_some h
    refine V_csI (As := [.int (a2)]) (q := 64) hX (c8_shortPlans hX.2.2.2.2.1 hN e75) (goodS_of k3_175 k3_176 k1_1 (cons_g k3_177)) (nA := 1) (by decide) rfl rfl rfl rfl rfl dX8_chance_61 rfl ?_
    refine V_icmp_ge (q := 67) (t := 85) hX dX8_chance_64 (by decide) rfl (fun z76 => ?_) (fun z76 => ?_)
    · have h := ite_t z76 h
      refine V_iload (q := 87) hX dX8_chance_85 3 rfl rfl ?_
      refine V_iload_n (q := 88) hX dX8_chance_87 1 rfl rfl ?_
      obtain ⟨r78, σ77, e79, h⟩ := bnd_some h
      refine V_csI (As := [.int (a2)]) (q := 91) hX (c8_shortPlans hX.2.2.2.2.1 hN e79) (goodS_of k3_175 k3_176 k1_1 (cons_g k3_177)) (nA := 1) (by decide) rfl rfl rfl rfl rfl dX8_chance_88 rfl ?_
      refine V_iload_n (q := 92) hX dX8_chance_91 1 rfl rfl ?_
      obtain ⟨r81, σ80, e82, h⟩ := bnd_some h
      refine V_csI (As := [.int (a2)]) (q := 95) hX (c8_shortPlans hX.2.2.2.2.1 hN e82) (goodS_of k3_175 k3_176 k1_1 (cons_g k3_177)) (nA := 1) (by decide) rfl rfl rfl rfl rfl dX8_chance_92 rfl ?_
      refine V_imul (q := 96) hX dX8_chance_95 rfl ?_
      refine V_iload_n (q := 97) hX dX8_chance_96 2 rfl rfl ?_
      obtain ⟨r84, σ83, e85, h⟩ := bnd_some h
      refine V_csJ (As := [.int (x4), .int ((r78 * r81)), .int (a3)]) (q := 100) hX (c8_inLowestTerms hX.2.2.2.2.1 hN e85) (goodS_of k3_195 k3_196 k1_1 (cons_g k3_197)) (nA := 3) (by decide) rfl rfl rfl rfl rfl dX8_chance_97 rfl ?_
      obtain ⟨f1, f2⟩ := some2 h
      rw [f1, f2] at hQ
      exact V_lret hX hQ rfl dX8_chance_100
    have h := ite_f z76 h
    refine V_iload (q := 69) hX dX8_chance_67 3 rfl rfl ?_
    refine V_aload_n (q := 70) hX dX8_chance_69 0 rfl rfl ?_
    refine V_iload (q := 72) hX dX8_chance_70 4 rfl rfl ?_
    refine V_iload_n (q := 73) hX dX8_chance_72 1 rfl rfl ?_
    obtain ⟨r87, σ86, e88, h⟩ := bnd_some h
    refine V_cvI (n := 75) (c := 8) (nf := 11) (C := RX8) (T := TX8) (As := [.int (x5), .int (a2)]) (q := 76) hX (c8_winsAgainstAll hX.2.2.2.2.1 hN e88) (goodV_of k3_186 k3_188 kp_22 k1_1 (cons_g k3_189)) (nA := 2) (by decide) rfl rfl rfl rfl rfl ⟨rfl, by decide⟩ hN rfl rfl rfl dX8_chance_73 rfl ?_
    refine V_iadd (q := 77) hX dX8_chance_76 rfl ?_
    refine V_istore (lv' := [(4, .int ((x4 + r87))), (0, .ref (g.ad (0))), (2, .int (a2)), (3, .int (a3)), (5, .int (x5))]) (q := 79) hX dX8_chance_77 rfl rfl rfl ?_
    refine V_iinc (v := (x5 + 1)) (lv' := [(5, .int ((x5 + 1))), (4, .int ((x4 + r87))), (0, .ref (g.ad (0))), (2, .int (a2)), (3, .int (a3))]) (q := 82) hX dX8_chance_79 4 rfl (by rfl) rfl rfl rfl ?_
    refine V_goto hX dX8_chance_82 (q := 58) (by decide) ?_
    refine V.pick [2, 3, 4, 1, 0] rfl ?_
    exact ih (x4 + r87) (x5 + 1) σ86  h
theorem v8_chance_58 {g : GT} {X : XT} {a1 : Int32} {a2 : Int32} {a3 : Int32} (hX : OkX g X (m8_chance)) (hN : 75 ≤ g.N) {res : Int64 × St} (hQ : X.Q = QJ g X res.1 res.2 ∧ X.cells = 0 ∧ X.slots = 0) (x4 : Int32) (x5 : Int32) (σ : St) (h : S8_chance_58 a1 a2 a3 4096 x4 x5 σ = some res) : V g X (m8_chance) 58 [(0, .ref (g.ad (0))), (2, .int (a2)), (3, .int (a3)), (4, .int (x4)), (5, .int (x5))] [] σ := v8_chance_58n hX hN hQ 4096 x4 x5 σ h
set_option maxRecDepth 100000 in
set_option maxHeartbeats 4000000 in
theorem v8_chance_31 {g : GT} {X : XT} {a1 : Int32} {a2 : Int32} {a3 : Int32} (hX : OkX g X (m8_chance)) (hN : 75 ≤ g.N) {res : Int64 × St} (hQ : X.Q = QJ g X res.1 res.2 ∧ X.cells = 0 ∧ X.slots = 0)    (σ : St)  (h : S8_chance_31 a1 a2 a3 σ = some res) : V g X (m8_chance) 31 [(0, .ref (g.ad (0))), (1, .int (a1)), (2, .int (a2)), (3, .int (a3))] [] σ := by
  unfold S8_chance_31 at h
  refine V_aload_n (q := 32) hX dX8_chance_31 0 rfl rfl ?_
  refine V_getF (r := 35) (n := 75) (c := 8) (k := 8) (nf := 11) (C := RX8) (T := TX8) (q := 35) hX rfl rfl iG8 k2_183 rfl rfl ⟨rfl, by decide⟩ hN rfl rfl rfl rfl dX8_chance_32 rfl ?_
  refine V_aload_n (q := 36) hX dX8_chance_35 0 rfl rfl ?_
  refine V_iload_n (q := 37) hX dX8_chance_36 1 rfl rfl ?_
  obtain ⟨r90, σ89, e91, h⟩ := bnd_some h
  refine V_cvR (n := 75) (c := 8) (nf := 11) (C := RX8) (T := TX8) (As := [.int (a1)]) (q := 40) hX (c8_theOne hX.2.2.2.2.1 hN e91) (goodV_of k3_82 k3_84 kp_16 k1_1 (cons_g k3_85)) (nA := 1) (by decide) rfl rfl rfl rfl rfl ⟨rfl, by decide⟩ hN rfl rfl rfl dX8_chance_37 rfl ?_
  refine V_aload_n (q := 41) hX dX8_chance_40 0 rfl rfl ?_
  refine V_iload_n (q := 42) hX dX8_chance_41 1 rfl rfl ?_
  obtain ⟨r93, σ92, e94, h⟩ := bnd_some h
  refine V_cvR (n := 75) (c := 8) (nf := 11) (C := RX8) (T := TX8) (As := [.int (a1)]) (q := 45) hX (c8_theOther hX.2.2.2.2.1 hN e94) (goodV_of k3_86 k3_88 kp_17 k1_1 (cons_g k3_89)) (nA := 1) (by decide) rfl rfl rfl rfl rfl ⟨rfl, by decide⟩ hN rfl rfl rfl dX8_chance_42 rfl ?_
  refine V_aload_n (q := 46) hX dX8_chance_45 0 rfl rfl ?_
  obtain ⟨r96, σ95, e97, h⟩ := bnd_some h
  refine V_cvR (n := 75) (c := 8) (nf := 11) (C := RX8) (T := TX8) (As := []) (q := 49) hX (c8_theLaw hX.2.2.2.2.1 hN e97) (goodV_of k3_1 k3_3 kp_13 k1_1 (cons_g k3_4)) (nA := 0) (by decide) rfl rfl rfl rfl rfl ⟨rfl, by decide⟩ hN rfl rfl rfl dX8_chance_46 rfl ?_
  obtain ⟨r99, σ98, e100, h⟩ := bnd_some h
  refine V_cvV (n := 75) (c := 0) (nf := 6) (C := RX0) (T := TX0) (As := [.ref (g.ad (r90)), .ref (g.ad (r93)), .ref (g.ad (r96))]) (q := 52) hX (c0_pair hX.2.2.2.2.1 hN (sh8_theOne e91) (sh8_theOther e94) (sh8_theLaw e97) e100) (goodV_of k3_90 k3_91 k3_92 k1_7 (cons_g k3_93)) (nA := 3) (by decide) rfl rfl rfl rfl rfl ⟨rfl, by decide⟩ hN rfl rfl rfl dX8_chance_49 rfl ?_
  refine V_iconst (v := 0) (q := 53) hX dX8_chance_52 (by decide) rfl ?_
  refine V_istore (lv' := [(4, .int ((0 : Int32))), (0, .ref (g.ad (0))), (1, .int (a1)), (2, .int (a2)), (3, .int (a3))]) (q := 55) hX dX8_chance_53 rfl rfl rfl ?_
  refine V_iconst (v := 0) (q := 56) hX dX8_chance_55 (by decide) rfl ?_
  refine V_istore (lv' := [(5, .int ((0 : Int32))), (4, .int ((0 : Int32))), (0, .ref (g.ad (0))), (1, .int (a1)), (2, .int (a2)), (3, .int (a3))]) (q := 58) hX dX8_chance_56 rfl rfl rfl ?_
  refine V.pick [2, 4, 5, 1, 0] rfl ?_
  exact v8_chance_58 hX hN hQ (0 : Int32) (0 : Int32) σ98 h
set_option maxRecDepth 100000 in
set_option maxHeartbeats 4000000 in
theorem v8_chance {g : GT} {X : XT} {a1 : Int32} {a2 : Int32} {a3 : Int32} (hX : OkX g X (m8_chance)) (hN : 75 ≤ g.N) {res : Int64 × St} (hQ : X.Q = QJ g X res.1 res.2 ∧ X.cells = 0 ∧ X.slots = 0) {σ : St} (h : S8_chance a1 a2 a3 σ = some res) : V g X (m8_chance) 0 [(0, .ref (g.ad (0))), (1, .int (a1)), (2, .int (a2)), (3, .int (a3))] [] σ := by
  unfold S8_chance at h
  refine V_aload_n (q := 1) hX dX8_chance_0 0 rfl rfl ?_
  refine V_iload_n (q := 2) hX dX8_chance_1 1 rfl rfl ?_
  obtain ⟨r102, σ101, e103, h⟩ := bnd_some h
  refine V_cvI (n := 75) (c := 8) (nf := 11) (C := RX8) (T := TX8) (As := [.int (a1)]) (q := 5) hX (c8_isPair hX.2.2.2.2.1 hN e103) (goodV_of k3_67 k3_69 kp_14 k1_1 (cons_g k3_70)) (nA := 1) (by decide) rfl rfl rfl rfl rfl ⟨rfl, by decide⟩ hN rfl rfl rfl dX8_chance_2 rfl ?_
  refine V_if_eq (q := 8) (t := 27) hX dX8_chance_5 (by decide) rfl (fun z104 => ?_) (fun z104 => ?_)
  · have h := ite_t z104 h
    refine V_ldc2 (v := -4611686018427387904) (q := 30) hX k3_194 dX8_chance_27 rfl ?_
    obtain ⟨f1, f2⟩ := some2 h
    rw [f1, f2] at hQ
    exact V_lret hX hQ rfl dX8_chance_30
  have h := ite_f z104 h
  refine V_iload_n (q := 9) hX dX8_chance_8 2 rfl rfl ?_
  refine V_iconst (v := 1) (q := 10) hX dX8_chance_9 (by decide) rfl ?_
  refine V_icmp_lt (q := 13) (t := 27) hX dX8_chance_10 (by decide) rfl (fun z105 => ?_) (fun z105 => ?_)
  · have h := ite_t z105 h
    refine V_ldc2 (v := -4611686018427387904) (q := 30) hX k3_194 dX8_chance_27 rfl ?_
    obtain ⟨f1, f2⟩ := some2 h
    rw [f1, f2] at hQ
    exact V_lret hX hQ rfl dX8_chance_30
  have h := ite_f z105 h
  refine V_iload_n (q := 14) hX dX8_chance_13 2 rfl rfl ?_
  refine V_iconst (v := 2) (q := 15) hX dX8_chance_14 (by decide) rfl ?_
  refine V_icmp_gt (q := 18) (t := 27) hX dX8_chance_15 (by decide) rfl (fun z106 => ?_) (fun z106 => ?_)
  · have h := ite_t z106 h
    refine V_ldc2 (v := -4611686018427387904) (q := 30) hX k3_194 dX8_chance_27 rfl ?_
    obtain ⟨f1, f2⟩ := some2 h
    rw [f1, f2] at hQ
    exact V_lret hX hQ rfl dX8_chance_30
  have h := ite_f z106 h
  refine V_iload_n (q := 19) hX dX8_chance_18 3 rfl rfl ?_
  refine V_if_eq (q := 22) (t := 31) hX dX8_chance_19 (by decide) rfl (fun z107 => ?_) (fun z107 => ?_)
  · have h := ite_t z107 h
    refine V.pick [0, 1, 2, 3] rfl ?_
    exact v8_chance_31 hX hN hQ σ101 h
  have h := ite_f z107 h
  refine V_iload_n (q := 23) hX dX8_chance_22 3 rfl rfl ?_
  refine V_iconst (v := 1) (q := 24) hX dX8_chance_23 (by decide) rfl ?_
  refine V_icmp_eq (q := 27) (t := 31) hX dX8_chance_24 (by decide) rfl (fun z108 => ?_) (fun z108 => ?_)
  · have h := ite_t z108 h
    refine V.pick [0, 1, 2, 3] rfl ?_
    exact v8_chance_31 hX hN hQ σ101 h
  have h := ite_f z108 h
  refine V_ldc2 (v := -4611686018427387904) (q := 30) hX k3_194 dX8_chance_27 rfl ?_
  obtain ⟨f1, f2⟩ := some2 h
  rw [f1, f2] at hQ
  exact V_lret hX hQ rfl dX8_chance_30
set_option maxRecDepth 100000 in
set_option maxHeartbeats 4000000 in
theorem c8_chance {g : GT} {l : Launch} (hg : OkG g) (hN : 75 ≤ g.N) {a1 : Int32} {a2 : Int32} {a3 : Int32} {σ : St} {r : Int64} {σ' : St} (h : S8_chance a1 a2 a3 σ = some (r, σ')) : CtJ g l m8_chance yX8_chance [.ref (g.ad (0)), .int (a1), .int (a2), .int (a3)] σ r σ' := CtJ.of hg (by decide) rfl rfl (fun X h1 h2 h3 => v8_chance h1 hN (res := (r, σ')) h3 h)

abbrev m8_knees : MI := (cX8_knees, RX8, 5, some .int, 5)
def B8_knees_37 (a1 : Int32) (a2 : Int32) (a3 : Int32) (rec : Int32 → St → Option (Int32 × St)) (x4 : Int32) (σ : St) : Option (Int32 × St) := if (10 : Int32) ≤ x4 then (some ((-1 : Int32), σ)) else (bnd (S8_theOther a1 (sI σ 25 4 x4)) fun r59 σ58 => bnd (S8_theLaw σ58) fun r62 σ61 => bnd (S0_pair 25 r59 r62 σ61) fun r65 σ64 => bnd (S0_goThrough a2 a3 σ64) fun r68 σ67 => if 0 ≤ (gI σ67 35 5) then (rec (x4 + 1) σ67) else (some (x4, σ67)))
def S8_knees_37 (a1 : Int32) (a2 : Int32) (a3 : Int32) : Nat → Int32 → St → Option (Int32 × St)
  | 0, _, _ => none
  | n + 1, x4, σ => B8_knees_37 a1 a2 a3 (S8_knees_37 a1 a2 a3 n) x4 σ
def S8_knees (a1 : Int32) (a2 : Int32) (a3 : Int32) (σ : St) : Option (Int32 × St) := bnd (S8_isPair a1 σ) fun r72 σ71 => if r72 = 0 then (some ((-5 : Int32), σ71)) else (bnd (S8_arePlans a2 a3 σ71) fun r76 σ75 => if r76 = 0 then (some ((-7 : Int32), σ75)) else (bnd (S8_theOne a1 σ75) fun r80 σ79 => bnd (S7_becomesLike 25 r80 σ79) fun r83 σ82 => S8_knees_37 a1 a2 a3 4096 (0 : Int32) σ82))
set_option maxRecDepth 100000 in
set_option maxHeartbeats 4000000 in
theorem v8_knees_37n {g : GT} {X : XT} {a1 : Int32} {a2 : Int32} {a3 : Int32} (hX : OkX g X (m8_knees)) (hN : 75 ≤ g.N) {res : Int32 × St} (hQ : X.Q = QI g X res.1 res.2 ∧ X.cells = 0 ∧ X.slots = 0)   (n : Nat) : ∀ (x4 : Int32) (σ : St) , S8_knees_37 a1 a2 a3 n x4 σ = some res → V g X (m8_knees) 37 [(0, .ref (g.ad (0))), (1, .int (a1)), (2, .int (a2)), (3, .int (a3)), (4, .int (x4))] [] σ := by
  induction n with
  | zero => intro x4 σ; intro h; cases h
  | succ n ih =>
    intro x4 σ h
    have h : B8_knees_37 a1 a2 a3 (S8_knees_37 a1 a2 a3 n) x4 σ = some res := h
    unfold B8_knees_37 at h
    refine V_iload (q := 39) hX dX8_knees_37 4 rfl rfl ?_
    refine V_bipush (v := 10) (q := 41) hX dX8_knees_39 (by decide) rfl ?_
    refine V_icmp_ge (q := 44) (t := 101) hX dX8_knees_41 (by decide) rfl (fun z57 => ?_) (fun z57 => ?_)
    · have h := ite_t z57 h
      refine V_iconst (v := -1) (q := 102) hX dX8_knees_101 (by decide) rfl ?_
      obtain ⟨f1, f2⟩ := some2 h
      rw [f1, f2] at hQ
      exact V_iret hX hQ rfl dX8_knees_102
    have h := ite_f z57 h
    refine V_aload_n (q := 45) hX dX8_knees_44 0 rfl rfl ?_
    refine V_getF (r := 25) (n := 75) (c := 8) (k := 3) (nf := 11) (C := RX8) (T := TX8) (q := 48) hX rfl rfl iG8 k2_178 rfl rfl ⟨rfl, by decide⟩ hN rfl rfl rfl rfl dX8_knees_45 rfl ?_
    refine V_iload (q := 50) hX dX8_knees_48 4 rfl rfl ?_
    refine V_putI (n := 75) (c := 7) (k := 4) (nf := 7) (C := RX7) (T := TX7) (q := 53) hX rfl rfl iG7 k1_49 rfl rfl ⟨rfl, by decide⟩ hN rfl tyX7 tyX7_ok nmX7 rfl rfl (ty := .int) (tyX7_ok 4 (by decide)) rfl rfl dX8_knees_50 rfl ?_
    refine V_aload_n (q := 54) hX dX8_knees_53 0 rfl rfl ?_
    refine V_getF (r := 35) (n := 75) (c := 8) (k := 8) (nf := 11) (C := RX8) (T := TX8) (q := 57) hX rfl rfl iG8 k2_183 rfl rfl ⟨rfl, by decide⟩ hN rfl rfl rfl rfl dX8_knees_54 rfl ?_
    refine V_aload_n (q := 58) hX dX8_knees_57 0 rfl rfl ?_
    refine V_getF (r := 25) (n := 75) (c := 8) (k := 3) (nf := 11) (C := RX8) (T := TX8) (q := 61) hX rfl rfl iG8 k2_178 rfl rfl ⟨rfl, by decide⟩ hN rfl rfl rfl rfl dX8_knees_58 rfl ?_
    refine V_aload_n (q := 62) hX dX8_knees_61 0 rfl rfl ?_
    refine V_iload_n (q := 63) hX dX8_knees_62 1 rfl rfl ?_
    obtain ⟨r59, σ58, e60, h⟩ := bnd_some h
    refine V_cvR (n := 75) (c := 8) (nf := 11) (C := RX8) (T := TX8) (As := [.int (a1)]) (q := 66) hX (c8_theOther hX.2.2.2.2.1 hN e60) (goodV_of k3_86 k3_88 kp_17 k1_1 (cons_g k3_89)) (nA := 1) (by decide) rfl rfl rfl rfl rfl ⟨rfl, by decide⟩ hN rfl rfl rfl dX8_knees_63 rfl ?_
    refine V_aload_n (q := 67) hX dX8_knees_66 0 rfl rfl ?_
    obtain ⟨r62, σ61, e63, h⟩ := bnd_some h
    refine V_cvR (n := 75) (c := 8) (nf := 11) (C := RX8) (T := TX8) (As := []) (q := 70) hX (c8_theLaw hX.2.2.2.2.1 hN e63) (goodV_of k3_1 k3_3 kp_13 k1_1 (cons_g k3_4)) (nA := 0) (by decide) rfl rfl rfl rfl rfl ⟨rfl, by decide⟩ hN rfl rfl rfl dX8_knees_67 rfl ?_
    obtain ⟨r65, σ64, e66, h⟩ := bnd_some h
    refine V_cvV (n := 75) (c := 0) (nf := 6) (C := RX0) (T := TX0) (As := [.ref (g.ad (25)), .ref (g.ad (r59)), .ref (g.ad (r62))]) (q := 73) hX (c0_pair hX.2.2.2.2.1 hN ⟨rfl, by decide⟩ (sh8_theOther e60) (sh8_theLaw e63) e66) (goodV_of k3_90 k3_91 k3_92 k1_7 (cons_g k3_93)) (nA := 3) (by decide) rfl rfl rfl rfl rfl ⟨rfl, by decide⟩ hN rfl rfl rfl dX8_knees_70 rfl ?_
    refine V_aload_n (q := 74) hX dX8_knees_73 0 rfl rfl ?_
    refine V_getF (r := 35) (n := 75) (c := 8) (k := 8) (nf := 11) (C := RX8) (T := TX8) (q := 77) hX rfl rfl iG8 k2_183 rfl rfl ⟨rfl, by decide⟩ hN rfl rfl rfl rfl dX8_knees_74 rfl ?_
    refine V_iload_n (q := 78) hX dX8_knees_77 2 rfl rfl ?_
    refine V_iload_n (q := 79) hX dX8_knees_78 3 rfl rfl ?_
    obtain ⟨r68, σ67, e69, h⟩ := bnd_some h
    refine V_cvV (n := 75) (c := 0) (nf := 6) (C := RX0) (T := TX0) (As := [.int (a2), .int (a3)]) (q := 82) hX (c0_goThrough hX.2.2.2.2.1 hN e69) (goodV_of k3_117 k3_118 k3_119 k1_7 (cons_g k3_120)) (nA := 2) (by decide) rfl rfl rfl rfl rfl ⟨rfl, by decide⟩ hN rfl rfl rfl dX8_knees_79 rfl ?_
    refine V_aload_n (q := 83) hX dX8_knees_82 0 rfl rfl ?_
    refine V_getF (r := 35) (n := 75) (c := 8) (k := 8) (nf := 11) (C := RX8) (T := TX8) (q := 86) hX rfl rfl iG8 k2_183 rfl rfl ⟨rfl, by decide⟩ hN rfl rfl rfl rfl dX8_knees_83 rfl ?_
    refine V_getI (n := 75) (c := 0) (k := 5) (nf := 6) (C := RX0) (T := TX0) (q := 89) hX rfl rfl iG0 k1_192 rfl rfl ⟨rfl, by decide⟩ hN rfl rfl dX8_knees_86 rfl ?_
    refine V_if_ge (q := 92) (t := 95) hX dX8_knees_89 (by decide) rfl (fun z70 => ?_) (fun z70 => ?_)
    · have h := ite_t z70 h
      refine V_iinc (v := (x4 + 1)) (lv' := [(4, .int ((x4 + 1))), (0, .ref (g.ad (0))), (1, .int (a1)), (2, .int (a2)), (3, .int (a3))]) (q := 98) hX dX8_knees_95 4 rfl (by rfl) rfl rfl rfl ?_
      refine V_goto hX dX8_knees_98 (q := 37) (by decide) ?_
      refine V.pick [1, 2, 3, 4, 0] rfl ?_
      exact ih (x4 + 1) σ67  h
    have h := ite_f z70 h
    refine V_iload (q := 94) hX dX8_knees_92 4 rfl rfl ?_
    obtain ⟨f1, f2⟩ := some2 h
    rw [f1, f2] at hQ
    exact V_iret hX hQ rfl dX8_knees_94
theorem v8_knees_37 {g : GT} {X : XT} {a1 : Int32} {a2 : Int32} {a3 : Int32} (hX : OkX g X (m8_knees)) (hN : 75 ≤ g.N) {res : Int32 × St} (hQ : X.Q = QI g X res.1 res.2 ∧ X.cells = 0 ∧ X.slots = 0) (x4 : Int32) (σ : St) (h : S8_knees_37 a1 a2 a3 4096 x4 σ = some res) : V g X (m8_knees) 37 [(0, .ref (g.ad (0))), (1, .int (a1)), (2, .int (a2)), (3, .int (a3)), (4, .int (x4))] [] σ := v8_knees_37n hX hN hQ 4096 x4 σ h
set_option maxRecDepth 100000 in
set_option maxHeartbeats 4000000 in
theorem v8_knees {g : GT} {X : XT} {a1 : Int32} {a2 : Int32} {a3 : Int32} (hX : OkX g X (m8_knees)) (hN : 75 ≤ g.N) {res : Int32 × St} (hQ : X.Q = QI g X res.1 res.2 ∧ X.cells = 0 ∧ X.slots = 0) {σ : St} (h : S8_knees a1 a2 a3 σ = some res) : V g X (m8_knees) 0 [(0, .ref (g.ad (0))), (1, .int (a1)), (2, .int (a2)), (3, .int (a3))] [] σ := by
  unfold S8_knees at h
  refine V_aload_n (q := 1) hX dX8_knees_0 0 rfl rfl ?_
  refine V_iload_n (q := 2) hX dX8_knees_1 1 rfl rfl ?_
  obtain ⟨r72, σ71, e73, h⟩ := bnd_some h
  refine V_cvI (n := 75) (c := 8) (nf := 11) (C := RX8) (T := TX8) (As := [.int (a1)]) (q := 5) hX (c8_isPair hX.2.2.2.2.1 hN e73) (goodV_of k3_67 k3_69 kp_14 k1_1 (cons_g k3_70)) (nA := 1) (by decide) rfl rfl rfl rfl rfl ⟨rfl, by decide⟩ hN rfl rfl rfl dX8_knees_2 rfl ?_
  refine V_if_ne (q := 8) (t := 11) hX dX8_knees_5 (by decide) rfl (fun z74 => ?_) (fun z74 => ?_)
  · have h := ite_f z74 h
    refine V_iload_n (q := 12) hX dX8_knees_11 2 rfl rfl ?_
    refine V_iload_n (q := 13) hX dX8_knees_12 3 rfl rfl ?_
    obtain ⟨r76, σ75, e77, h⟩ := bnd_some h
    refine V_csI (As := [.int (a2), .int (a3)]) (q := 16) hX (c8_arePlans hX.2.2.2.2.1 hN e77) (goodS_of k3_75 k3_76 k1_1 (cons_g k3_77)) (nA := 2) (by decide) rfl rfl rfl rfl rfl dX8_knees_13 rfl ?_
    refine V_if_ne (q := 19) (t := 22) hX dX8_knees_16 (by decide) rfl (fun z78 => ?_) (fun z78 => ?_)
    · have h := ite_f z78 h
      refine V_aload_n (q := 23) hX dX8_knees_22 0 rfl rfl ?_
      refine V_getF (r := 25) (n := 75) (c := 8) (k := 3) (nf := 11) (C := RX8) (T := TX8) (q := 26) hX rfl rfl iG8 k2_178 rfl rfl ⟨rfl, by decide⟩ hN rfl rfl rfl rfl dX8_knees_23 rfl ?_
      refine V_aload_n (q := 27) hX dX8_knees_26 0 rfl rfl ?_
      refine V_iload_n (q := 28) hX dX8_knees_27 1 rfl rfl ?_
      obtain ⟨r80, σ79, e81, h⟩ := bnd_some h
      refine V_cvR (n := 75) (c := 8) (nf := 11) (C := RX8) (T := TX8) (As := [.int (a1)]) (q := 31) hX (c8_theOne hX.2.2.2.2.1 hN e81) (goodV_of k3_82 k3_84 kp_16 k1_1 (cons_g k3_85)) (nA := 1) (by decide) rfl rfl rfl rfl rfl ⟨rfl, by decide⟩ hN rfl rfl rfl dX8_knees_28 rfl ?_
      obtain ⟨r83, σ82, e84, h⟩ := bnd_some h
      refine V_cvV (n := 75) (c := 7) (nf := 7) (C := RX7) (T := TX7) (As := [.ref (g.ad (r80))]) (q := 34) hX (c7_becomesLike hX.2.2.2.2.1 hN ⟨rfl, by decide⟩ (sh8_theOne e81) e84) (goodV_of k3_202 k3_203 k3_204 k1_3 (cons_g k3_205)) (nA := 1) (by decide) rfl rfl rfl rfl rfl ⟨rfl, by decide⟩ hN rfl rfl rfl dX8_knees_31 rfl ?_
      refine V_iconst (v := 0) (q := 35) hX dX8_knees_34 (by decide) rfl ?_
      refine V_istore (lv' := [(4, .int ((0 : Int32))), (0, .ref (g.ad (0))), (1, .int (a1)), (2, .int (a2)), (3, .int (a3))]) (q := 37) hX dX8_knees_35 rfl rfl rfl ?_
      refine V.pick [1, 2, 3, 4, 0] rfl ?_
      exact v8_knees_37 hX hN hQ (0 : Int32) σ82 h
    have h := ite_t z78 h
    refine V_bipush (v := -7) (q := 21) hX dX8_knees_19 (by decide) rfl ?_
    obtain ⟨f1, f2⟩ := some2 h
    rw [f1, f2] at hQ
    exact V_iret hX hQ rfl dX8_knees_21
  have h := ite_t z74 h
  refine V_bipush (v := -5) (q := 10) hX dX8_knees_8 (by decide) rfl ?_
  obtain ⟨f1, f2⟩ := some2 h
  rw [f1, f2] at hQ
  exact V_iret hX hQ rfl dX8_knees_10
set_option maxRecDepth 100000 in
set_option maxHeartbeats 4000000 in
theorem c8_knees {g : GT} {l : Launch} (hg : OkG g) (hN : 75 ≤ g.N) {a1 : Int32} {a2 : Int32} {a3 : Int32} {σ : St} {r : Int32} {σ' : St} (h : S8_knees a1 a2 a3 σ = some (r, σ')) : CtI g l m8_knees yX8_knees [.ref (g.ad (0)), .int (a1), .int (a2), .int (a3)] σ r σ' := CtI.of hg (by decide) rfl rfl (fun X h1 h2 h3 => v8_knees h1 hN (res := (r, σ')) h3 h)

abbrev m8_pairUp : MI := (cX8_pairUp, RX8, 3, none, 5)
def S8_pairUp (a1 : Int32) (a2 : Int32) (σ : St) : Option (Unit × St) := bnd (S5_at 1 a1 σ) fun r14 σ13 => bnd (S5_at 1 a2 σ13) fun r17 σ16 => bnd (S8_theLaw σ16) fun r20 σ19 => bnd (S0_pair r14 r17 r20 σ19) fun r23 σ22 => some ((), σ22)
set_option maxRecDepth 100000 in
set_option maxHeartbeats 4000000 in
theorem v8_pairUp {g : GT} {X : XT} {a1 : Int32} {a2 : Int32} (hX : OkX g X (m8_pairUp)) (hN : 75 ≤ g.N) {res : Unit × St} (hQ : X.Q = QV g X res.2 ∧ X.cells = 0 ∧ X.slots = 0) {σ : St} (h : S8_pairUp a1 a2 σ = some res) : V g X (m8_pairUp) 0 [(0, .ref (g.ad (0))), (1, .int (a1)), (2, .int (a2))] [] σ := by
  unfold S8_pairUp at h
  refine V_aload_n (q := 1) hX dX8_pairUp_0 0 rfl rfl ?_
  refine V_getF (r := 35) (n := 75) (c := 8) (k := 8) (nf := 11) (C := RX8) (T := TX8) (q := 4) hX rfl rfl iG8 k2_183 rfl rfl ⟨rfl, by decide⟩ hN rfl rfl rfl rfl dX8_pairUp_1 rfl ?_
  refine V_aload_n (q := 5) hX dX8_pairUp_4 0 rfl rfl ?_
  refine V_getF (r := 1) (n := 75) (c := 8) (k := 0) (nf := 11) (C := RX8) (T := TX8) (q := 8) hX rfl rfl iG8 k2_175 rfl rfl ⟨rfl, by decide⟩ hN rfl rfl rfl rfl dX8_pairUp_5 rfl ?_
  refine V_iload_n (q := 9) hX dX8_pairUp_8 1 rfl rfl ?_
  obtain ⟨r14, σ13, e15, h⟩ := bnd_some h
  refine V_cvR (n := 75) (c := 5) (nf := 4) (C := RX5) (T := TX5) (As := [.int (a1)]) (q := 12) hX (c5_at hX.2.2.2.2.1 hN ⟨rfl, by decide⟩ e15) (goodV_of k3_5 k3_6 k3_7 k1_2 (cons_g k3_8)) (nA := 1) (by decide) rfl rfl rfl rfl rfl ⟨rfl, by decide⟩ hN rfl rfl rfl dX8_pairUp_9 rfl ?_
  refine V_aload_n (q := 13) hX dX8_pairUp_12 0 rfl rfl ?_
  refine V_getF (r := 1) (n := 75) (c := 8) (k := 0) (nf := 11) (C := RX8) (T := TX8) (q := 16) hX rfl rfl iG8 k2_175 rfl rfl ⟨rfl, by decide⟩ hN rfl rfl rfl rfl dX8_pairUp_13 rfl ?_
  refine V_iload_n (q := 17) hX dX8_pairUp_16 2 rfl rfl ?_
  obtain ⟨r17, σ16, e18, h⟩ := bnd_some h
  refine V_cvR (n := 75) (c := 5) (nf := 4) (C := RX5) (T := TX5) (As := [.int (a2)]) (q := 20) hX (c5_at hX.2.2.2.2.1 hN ⟨rfl, by decide⟩ e18) (goodV_of k3_5 k3_6 k3_7 k1_2 (cons_g k3_8)) (nA := 1) (by decide) rfl rfl rfl rfl rfl ⟨rfl, by decide⟩ hN rfl rfl rfl dX8_pairUp_17 rfl ?_
  refine V_aload_n (q := 21) hX dX8_pairUp_20 0 rfl rfl ?_
  obtain ⟨r20, σ19, e21, h⟩ := bnd_some h
  refine V_cvR (n := 75) (c := 8) (nf := 11) (C := RX8) (T := TX8) (As := []) (q := 24) hX (c8_theLaw hX.2.2.2.2.1 hN e21) (goodV_of k3_1 k3_3 kp_13 k1_1 (cons_g k3_4)) (nA := 0) (by decide) rfl rfl rfl rfl rfl ⟨rfl, by decide⟩ hN rfl rfl rfl dX8_pairUp_21 rfl ?_
  obtain ⟨r23, σ22, e24, h⟩ := bnd_some h
  refine V_cvV (n := 75) (c := 0) (nf := 6) (C := RX0) (T := TX0) (As := [.ref (g.ad (r14)), .ref (g.ad (r17)), .ref (g.ad (r20))]) (q := 27) hX (c0_pair hX.2.2.2.2.1 hN (sh5_at ⟨rfl, by decide⟩ e15) (sh5_at ⟨rfl, by decide⟩ e18) (sh8_theLaw e21) e24) (goodV_of k3_90 k3_91 k3_92 k1_7 (cons_g k3_93)) (nA := 3) (by decide) rfl rfl rfl rfl rfl ⟨rfl, by decide⟩ hN rfl rfl rfl dX8_pairUp_24 rfl ?_
  obtain ⟨f1, f2⟩ := some2 h
  rw [f2] at hQ
  exact V_vret hX hQ rfl dX8_pairUp_27
set_option maxRecDepth 100000 in
set_option maxHeartbeats 4000000 in
theorem c8_pairUp {g : GT} {l : Launch} (hg : OkG g) (hN : 75 ≤ g.N) {a1 : Int32} {a2 : Int32} {σ : St} {r : Unit} {σ' : St} (h : S8_pairUp a1 a2 σ = some (r, σ')) : CtV g l m8_pairUp yX8_pairUp [.ref (g.ad (0)), .int (a1), .int (a2)] σ σ' := CtV.of hg (by decide) rfl rfl (fun X h1 h2 h3 => v8_pairUp h1 hN (res := (r, σ')) h3 h)

abbrev m8_beats : MI := (cX8_beats, RX8, 6, some .int, 6)
def S8_beats_88 (a1 : Int32) (a2 : Int32) (a3 : Int32) (k31 : Int32 → Int32 → St → Option (Int32 × St)) (x4 : Int32) (x5 : Int32) (σ : St) : Option (Int32 × St) := k31 x4 (x5 + 1) σ
def S8_beats_85 (a1 : Int32) (a2 : Int32) (a3 : Int32) (k31 : Int32 → Int32 → St → Option (Int32 × St)) (x5 : Int32) (s0 : Int32) (s1 : Int32) (σ : St) : Option (Int32 × St) := S8_beats_88 a1 a2 a3 k31 (s0 ||| s1) x5 σ
def B8_beats_31 (a1 : Int32) (a2 : Int32) (a3 : Int32) (rec : Int32 → Int32 → St → Option (Int32 × St)) (x4 : Int32) (x5 : Int32) (σ : St) : Option (Int32 × St) := if (gI σ 1 1) ≤ x5 then (some (x4, σ)) else (if x5 = a1 then (S8_beats_88 a1 a2 a3 rec x4 x5 σ) else (bnd (S8_pairUp a1 x5 σ) fun r55 σ54 => bnd (S0_goThrough a2 a3 σ54) fun r58 σ57 => if (gI σ57 35 5) ≤ 0 then (S8_beats_85 a1 a2 a3 rec x5 x4 (0 : Int32) σ57) else (S8_beats_85 a1 a2 a3 rec x5 x4 ((1 : Int32) <<< (x5 &&& 31)) σ57)))
def S8_beats_31 (a1 : Int32) (a2 : Int32) (a3 : Int32) : Nat → Int32 → Int32 → St → Option (Int32 × St)
  | 0, _, _, _ => none
  | n + 1, x4, x5, σ => B8_beats_31 a1 a2 a3 (S8_beats_31 a1 a2 a3 n) x4 x5 σ
def S8_beats (a1 : Int32) (a2 : Int32) (a3 : Int32) (σ : St) : Option (Int32 × St) := bnd (S5_has 1 a1 σ) fun r62 σ61 => if r62 = 0 then (some ((-5 : Int32), σ61)) else (bnd (S8_arePlans a2 a3 σ61) fun r66 σ65 => if r66 = 0 then (some ((-7 : Int32), σ65)) else (S8_beats_31 a1 a2 a3 4096 (0 : Int32) (0 : Int32) σ65))
set_option maxRecDepth 100000 in
set_option maxHeartbeats 4000000 in
theorem v8_beats_88 {g : GT} {X : XT} {a1 : Int32} {a2 : Int32} {a3 : Int32} (hX : OkX g X (m8_beats)) (hN : 75 ≤ g.N) {res : Int32 × St} (hQ : X.Q = QI g X res.1 res.2 ∧ X.cells = 0 ∧ X.slots = 0)  {k31 : Int32 → Int32 → St → Option (Int32 × St)} (hk31 : ∀ (x4 : Int32) (x5 : Int32) (σ : St), k31 x4 x5 σ = some res → V g X (m8_beats) 31 [(0, .ref (g.ad (0))), (1, .int (a1)), (2, .int (a2)), (3, .int (a3)), (4, .int (x4)), (5, .int (x5))] [] σ) (x4 : Int32) (x5 : Int32) (σ : St)  (h : S8_beats_88 a1 a2 a3 k31 x4 x5 σ = some res) : V g X (m8_beats) 88 [(0, .ref (g.ad (0))), (1, .int (a1)), (2, .int (a2)), (3, .int (a3)), (4, .int (x4)), (5, .int (x5))] [] σ := by
  unfold S8_beats_88 at h
  refine V_iinc (v := (x5 + 1)) (lv' := [(5, .int ((x5 + 1))), (0, .ref (g.ad (0))), (1, .int (a1)), (2, .int (a2)), (3, .int (a3)), (4, .int (x4))]) (q := 91) hX dX8_beats_88 5 rfl (by rfl) rfl rfl rfl ?_
  refine V_goto hX dX8_beats_91 (q := 31) (by decide) ?_
  refine V.pick [1, 2, 3, 4, 5, 0] rfl ?_
  exact hk31 x4 (x5 + 1) σ  h
set_option maxRecDepth 100000 in
set_option maxHeartbeats 4000000 in
theorem v8_beats_85 {g : GT} {X : XT} {a1 : Int32} {a2 : Int32} {a3 : Int32} (hX : OkX g X (m8_beats)) (hN : 75 ≤ g.N) {res : Int32 × St} (hQ : X.Q = QI g X res.1 res.2 ∧ X.cells = 0 ∧ X.slots = 0)  {k31 : Int32 → Int32 → St → Option (Int32 × St)} (hk31 : ∀ (x4 : Int32) (x5 : Int32) (σ : St), k31 x4 x5 σ = some res → V g X (m8_beats) 31 [(0, .ref (g.ad (0))), (1, .int (a1)), (2, .int (a2)), (3, .int (a3)), (4, .int (x4)), (5, .int (x5))] [] σ) (x5 : Int32) (s0 : Int32) (s1 : Int32) (σ : St)  (h : S8_beats_85 a1 a2 a3 k31 x5 s0 s1 σ = some res) : V g X (m8_beats) 85 [(0, .ref (g.ad (0))), (1, .int (a1)), (2, .int (a2)), (3, .int (a3)), (5, .int (x5))] [.int (s1), .int (s0)] σ := by
  unfold S8_beats_85 at h
  refine V_ior (q := 86) hX dX8_beats_85 rfl ?_
  refine V_istore (lv' := [(4, .int ((s0 ||| s1))), (0, .ref (g.ad (0))), (1, .int (a1)), (2, .int (a2)), (3, .int (a3)), (5, .int (x5))]) (q := 88) hX dX8_beats_86 rfl rfl rfl ?_
  refine V.pick [1, 2, 3, 4, 0, 5] rfl ?_
  exact v8_beats_88 hX hN hQ hk31 (s0 ||| s1) x5 σ h
set_option maxRecDepth 100000 in
set_option maxHeartbeats 4000000 in
theorem v8_beats_31n {g : GT} {X : XT} {a1 : Int32} {a2 : Int32} {a3 : Int32} (hX : OkX g X (m8_beats)) (hN : 75 ≤ g.N) {res : Int32 × St} (hQ : X.Q = QI g X res.1 res.2 ∧ X.cells = 0 ∧ X.slots = 0)   (n : Nat) : ∀ (x4 : Int32) (x5 : Int32) (σ : St) , S8_beats_31 a1 a2 a3 n x4 x5 σ = some res → V g X (m8_beats) 31 [(0, .ref (g.ad (0))), (1, .int (a1)), (2, .int (a2)), (3, .int (a3)), (4, .int (x4)), (5, .int (x5))] [] σ := by
  induction n with
  | zero => intro x4 x5 σ; intro h; cases h
  | succ n ih =>
    intro x4 x5 σ h
    have h : B8_beats_31 a1 a2 a3 (S8_beats_31 a1 a2 a3 n) x4 x5 σ = some res := h
    unfold B8_beats_31 at h
    refine V_iload (q := 33) hX dX8_beats_31 5 rfl rfl ?_
    refine V_aload_n (q := 34) hX dX8_beats_33 0 rfl rfl ?_
    refine V_getF (r := 1) (n := 75) (c := 8) (k := 0) (nf := 11) (C := RX8) (T := TX8) (q := 37) hX rfl rfl iG8 k2_175 rfl rfl ⟨rfl, by decide⟩ hN rfl rfl rfl rfl dX8_beats_34 rfl ?_
    refine V_getI (n := 75) (c := 5) (k := 1) (nf := 4) (C := RX5) (T := TX5) (q := 40) hX rfl rfl iG5 k1_72 rfl rfl ⟨rfl, by decide⟩ hN rfl rfl dX8_beats_37 rfl ?_
    refine V_icmp_ge (q := 43) (t := 94) hX dX8_beats_40 (by decide) rfl (fun z52 => ?_) (fun z52 => ?_)
    · have h := ite_t z52 h
      refine V_iload (q := 96) hX dX8_beats_94 4 rfl rfl ?_
      obtain ⟨f1, f2⟩ := some2 h
      rw [f1, f2] at hQ
      exact V_iret hX hQ rfl dX8_beats_96
    have h := ite_f z52 h
    refine V_iload (q := 45) hX dX8_beats_43 5 rfl rfl ?_
    refine V_iload_n (q := 46) hX dX8_beats_45 1 rfl rfl ?_
    refine V_icmp_eq (q := 49) (t := 88) hX dX8_beats_46 (by decide) rfl (fun z53 => ?_) (fun z53 => ?_)
    · have h := ite_t z53 h
      refine V.pick [0, 1, 2, 3, 4, 5] rfl ?_
      exact v8_beats_88 hX hN hQ ih x4 x5 σ h
    have h := ite_f z53 h
    refine V_aload_n (q := 50) hX dX8_beats_49 0 rfl rfl ?_
    refine V_iload_n (q := 51) hX dX8_beats_50 1 rfl rfl ?_
    refine V_iload (q := 53) hX dX8_beats_51 5 rfl rfl ?_
    obtain ⟨r55, σ54, e56, h⟩ := bnd_some h
    refine V_cvV (n := 75) (c := 8) (nf := 11) (C := RX8) (T := TX8) (As := [.int (a1), .int (x5)]) (q := 56) hX (c8_pairUp hX.2.2.2.2.1 hN e56) (goodV_of k3_211 k3_213 kp_23 k1_1 (cons_g k3_214)) (nA := 2) (by decide) rfl rfl rfl rfl rfl ⟨rfl, by decide⟩ hN rfl rfl rfl dX8_beats_53 rfl ?_
    refine V_aload_n (q := 57) hX dX8_beats_56 0 rfl rfl ?_
    refine V_getF (r := 35) (n := 75) (c := 8) (k := 8) (nf := 11) (C := RX8) (T := TX8) (q := 60) hX rfl rfl iG8 k2_183 rfl rfl ⟨rfl, by decide⟩ hN rfl rfl rfl rfl dX8_beats_57 rfl ?_
    refine V_iload_n (q := 61) hX dX8_beats_60 2 rfl rfl ?_
    refine V_iload_n (q := 62) hX dX8_beats_61 3 rfl rfl ?_
    obtain ⟨r58, σ57, e59, h⟩ := bnd_some h
    refine V_cvV (n := 75) (c := 0) (nf := 6) (C := RX0) (T := TX0) (As := [.int (a2), .int (a3)]) (q := 65) hX (c0_goThrough hX.2.2.2.2.1 hN e59) (goodV_of k3_117 k3_118 k3_119 k1_7 (cons_g k3_120)) (nA := 2) (by decide) rfl rfl rfl rfl rfl ⟨rfl, by decide⟩ hN rfl rfl rfl dX8_beats_62 rfl ?_
    refine V_iload (q := 67) hX dX8_beats_65 4 rfl rfl ?_
    refine V_aload_n (q := 68) hX dX8_beats_67 0 rfl rfl ?_
    refine V_getF (r := 35) (n := 75) (c := 8) (k := 8) (nf := 11) (C := RX8) (T := TX8) (q := 71) hX rfl rfl iG8 k2_183 rfl rfl ⟨rfl, by decide⟩ hN rfl rfl rfl rfl dX8_beats_68 rfl ?_
    refine V_getI (n := 75) (c := 0) (k := 5) (nf := 6) (C := RX0) (T := TX0) (q := 74) hX rfl rfl iG0 k1_192 rfl rfl ⟨rfl, by decide⟩ hN rfl rfl dX8_beats_71 rfl ?_
    refine V_if_le (q := 77) (t := 84) hX dX8_beats_74 (by decide) rfl (fun z60 => ?_) (fun z60 => ?_)
    · have h := ite_t z60 h
      refine V_iconst (v := 0) (q := 85) hX dX8_beats_84 (by decide) rfl ?_
      refine V.pick [0, 1, 2, 3, 5] rfl ?_
      exact v8_beats_85 hX hN hQ ih x5 x4 (0 : Int32) σ57 h
    have h := ite_f z60 h
    refine V_iconst (v := 1) (q := 78) hX dX8_beats_77 (by decide) rfl ?_
    refine V_iload (q := 80) hX dX8_beats_78 5 rfl rfl ?_
    refine V_ishl (q := 81) hX dX8_beats_80 rfl ?_
    refine V_goto hX dX8_beats_81 (q := 85) (by decide) ?_
    refine V.pick [0, 1, 2, 3, 5] rfl ?_
    exact v8_beats_85 hX hN hQ ih x5 x4 ((1 : Int32) <<< (x5 &&& 31)) σ57 h
theorem v8_beats_31 {g : GT} {X : XT} {a1 : Int32} {a2 : Int32} {a3 : Int32} (hX : OkX g X (m8_beats)) (hN : 75 ≤ g.N) {res : Int32 × St} (hQ : X.Q = QI g X res.1 res.2 ∧ X.cells = 0 ∧ X.slots = 0) (x4 : Int32) (x5 : Int32) (σ : St) (h : S8_beats_31 a1 a2 a3 4096 x4 x5 σ = some res) : V g X (m8_beats) 31 [(0, .ref (g.ad (0))), (1, .int (a1)), (2, .int (a2)), (3, .int (a3)), (4, .int (x4)), (5, .int (x5))] [] σ := v8_beats_31n hX hN hQ 4096 x4 x5 σ h
set_option maxRecDepth 100000 in
set_option maxHeartbeats 4000000 in
theorem v8_beats {g : GT} {X : XT} {a1 : Int32} {a2 : Int32} {a3 : Int32} (hX : OkX g X (m8_beats)) (hN : 75 ≤ g.N) {res : Int32 × St} (hQ : X.Q = QI g X res.1 res.2 ∧ X.cells = 0 ∧ X.slots = 0) {σ : St} (h : S8_beats a1 a2 a3 σ = some res) : V g X (m8_beats) 0 [(0, .ref (g.ad (0))), (1, .int (a1)), (2, .int (a2)), (3, .int (a3))] [] σ := by
  unfold S8_beats at h
  refine V_aload_n (q := 1) hX dX8_beats_0 0 rfl rfl ?_
  refine V_getF (r := 1) (n := 75) (c := 8) (k := 0) (nf := 11) (C := RX8) (T := TX8) (q := 4) hX rfl rfl iG8 k2_175 rfl rfl ⟨rfl, by decide⟩ hN rfl rfl rfl rfl dX8_beats_1 rfl ?_
  refine V_iload_n (q := 5) hX dX8_beats_4 1 rfl rfl ?_
  obtain ⟨r62, σ61, e63, h⟩ := bnd_some h
  refine V_cvI (n := 75) (c := 5) (nf := 4) (C := RX5) (T := TX5) (As := [.int (a1)]) (q := 8) hX (c5_has hX.2.2.2.2.1 hN ⟨rfl, by decide⟩ e63) (goodV_of k2_237 k2_238 k2_239 k1_2 (cons_g k3_0)) (nA := 1) (by decide) rfl rfl rfl rfl rfl ⟨rfl, by decide⟩ hN rfl rfl rfl dX8_beats_5 rfl ?_
  refine V_if_ne (q := 11) (t := 14) hX dX8_beats_8 (by decide) rfl (fun z64 => ?_) (fun z64 => ?_)
  · have h := ite_f z64 h
    refine V_iload_n (q := 15) hX dX8_beats_14 2 rfl rfl ?_
    refine V_iload_n (q := 16) hX dX8_beats_15 3 rfl rfl ?_
    obtain ⟨r66, σ65, e67, h⟩ := bnd_some h
    refine V_csI (As := [.int (a2), .int (a3)]) (q := 19) hX (c8_arePlans hX.2.2.2.2.1 hN e67) (goodS_of k3_75 k3_76 k1_1 (cons_g k3_77)) (nA := 2) (by decide) rfl rfl rfl rfl rfl dX8_beats_16 rfl ?_
    refine V_if_ne (q := 22) (t := 25) hX dX8_beats_19 (by decide) rfl (fun z68 => ?_) (fun z68 => ?_)
    · have h := ite_f z68 h
      refine V_iconst (v := 0) (q := 26) hX dX8_beats_25 (by decide) rfl ?_
      refine V_istore (lv' := [(4, .int ((0 : Int32))), (0, .ref (g.ad (0))), (1, .int (a1)), (2, .int (a2)), (3, .int (a3))]) (q := 28) hX dX8_beats_26 rfl rfl rfl ?_
      refine V_iconst (v := 0) (q := 29) hX dX8_beats_28 (by decide) rfl ?_
      refine V_istore (lv' := [(5, .int ((0 : Int32))), (4, .int ((0 : Int32))), (0, .ref (g.ad (0))), (1, .int (a1)), (2, .int (a2)), (3, .int (a3))]) (q := 31) hX dX8_beats_29 rfl rfl rfl ?_
      refine V.pick [2, 3, 4, 5, 1, 0] rfl ?_
      exact v8_beats_31 hX hN hQ (0 : Int32) (0 : Int32) σ65 h
    have h := ite_t z68 h
    refine V_bipush (v := -7) (q := 24) hX dX8_beats_22 (by decide) rfl ?_
    obtain ⟨f1, f2⟩ := some2 h
    rw [f1, f2] at hQ
    exact V_iret hX hQ rfl dX8_beats_24
  have h := ite_t z64 h
  refine V_bipush (v := -5) (q := 13) hX dX8_beats_11 (by decide) rfl ?_
  obtain ⟨f1, f2⟩ := some2 h
  rw [f1, f2] at hQ
  exact V_iret hX hQ rfl dX8_beats_13
set_option maxRecDepth 100000 in
set_option maxHeartbeats 4000000 in
theorem c8_beats {g : GT} {l : Launch} (hg : OkG g) (hN : 75 ≤ g.N) {a1 : Int32} {a2 : Int32} {a3 : Int32} {σ : St} {r : Int32} {σ' : St} (h : S8_beats a1 a2 a3 σ = some (r, σ')) : CtI g l m8_beats yX8_beats [.ref (g.ad (0)), .int (a1), .int (a2), .int (a3)] σ r σ' := CtI.of hg (by decide) rfl rfl (fun X h1 h2 h3 => v8_beats h1 hN (res := (r, σ')) h3 h)

abbrev m8_isSheet : MI := (cX8_isSheet, RX8, 2, some .boolean, 1)
def S8_isSheet (a1 : Int32) (σ : St) : Option (Int32 × St) := if a1 < 0 then (some ((0 : Int32), σ)) else (if (4 : Int32) ≤ a1 then (some ((0 : Int32), σ)) else (some ((1 : Int32), σ)))
set_option maxRecDepth 100000 in
set_option maxHeartbeats 4000000 in
theorem v8_isSheet {g : GT} {X : XT} {a1 : Int32} (hX : OkX g X (m8_isSheet)) (hN : 75 ≤ g.N) {res : Int32 × St} (hQ : X.Q = QI g X res.1 res.2 ∧ X.cells = 0 ∧ X.slots = 0) {σ : St} (h : S8_isSheet a1 σ = some res) : V g X (m8_isSheet) 0 [(0, .ref (g.ad (0))), (1, .int (a1))] [] σ := by
  unfold S8_isSheet at h
  refine V_iload_n (q := 1) hX dX8_isSheet_0 1 rfl rfl ?_
  refine V_if_lt (q := 4) (t := 13) hX dX8_isSheet_1 (by decide) rfl (fun z3 => ?_) (fun z3 => ?_)
  · have h := ite_t z3 h
    refine V_iconst (v := 0) (q := 14) hX dX8_isSheet_13 (by decide) rfl ?_
    obtain ⟨f1, f2⟩ := some2 h
    rw [f1, f2] at hQ
    exact V_zret (ty := .boolean) hX hQ rfl rfl dX8_isSheet_14
  have h := ite_f z3 h
  refine V_iload_n (q := 5) hX dX8_isSheet_4 1 rfl rfl ?_
  refine V_iconst (v := 4) (q := 6) hX dX8_isSheet_5 (by decide) rfl ?_
  refine V_icmp_ge (q := 9) (t := 13) hX dX8_isSheet_6 (by decide) rfl (fun z4 => ?_) (fun z4 => ?_)
  · have h := ite_t z4 h
    refine V_iconst (v := 0) (q := 14) hX dX8_isSheet_13 (by decide) rfl ?_
    obtain ⟨f1, f2⟩ := some2 h
    rw [f1, f2] at hQ
    exact V_zret (ty := .boolean) hX hQ rfl rfl dX8_isSheet_14
  have h := ite_f z4 h
  refine V_iconst (v := 1) (q := 10) hX dX8_isSheet_9 (by decide) rfl ?_
  refine V_goto hX dX8_isSheet_10 (q := 14) (by decide) ?_
  obtain ⟨f1, f2⟩ := some2 h
  rw [f1, f2] at hQ
  exact V_zret (ty := .boolean) hX hQ rfl rfl dX8_isSheet_14
set_option maxRecDepth 100000 in
set_option maxHeartbeats 4000000 in
theorem c8_isSheet {g : GT} {l : Launch} (hg : OkG g) (hN : 75 ≤ g.N) {a1 : Int32} {σ : St} {r : Int32} {σ' : St} (h : S8_isSheet a1 σ = some (r, σ')) : CtI g l m8_isSheet yX8_isSheet [.ref (g.ad (0)), .int (a1)] σ r σ' := CtI.of hg (by decide) rfl rfl (fun X h1 h2 h3 => v8_isSheet h1 hN (res := (r, σ')) h3 h)

abbrev m8_sheetAt : MI := (cX8_sheetAt, RX8, 2, some (.object "RingOfStraw$Sheet"), 1)
def S8_sheetAt_22 (a1 : Int32) (s1 : Int32) (σ : St) : Option (Nat × St) := if inb s1 4 then (some ((rf 32 (s1).toNatClampNeg), σ)) else none
def S8_sheetAt_21 (a1 : Int32) (σ : St) : Option (Nat × St) := S8_sheetAt_22 a1 (0 : Int32) σ
def S8_sheetAt (a1 : Int32) (σ : St) : Option (Nat × St) := if a1 < 0 then (S8_sheetAt_21 a1 σ) else (if (4 : Int32) ≤ a1 then (S8_sheetAt_21 a1 σ) else (S8_sheetAt_22 a1 a1 σ))
set_option maxRecDepth 100000 in
set_option maxHeartbeats 4000000 in
theorem v8_sheetAt_22 {g : GT} {X : XT} {a1 : Int32} (hX : OkX g X (m8_sheetAt)) (hN : 75 ≤ g.N) {res : Nat × St} (hQ : X.Q = QR g X res.1 res.2 ∧ X.cells = 0 ∧ X.slots = 0)   (s1 : Int32) (σ : St)  (h : S8_sheetAt_22 a1 s1 σ = some res) : V g X (m8_sheetAt) 22 [] [.int (s1), .ref (g.ad (32))] σ := by
  unfold S8_sheetAt_22 at h
  obtain ⟨z7, h⟩ := chk_t h
  refine V_aald (n := 75) (c := 13) (len := 4) (C := RX3) (q := 23) hX ⟨rfl, rfl, by decide⟩ hN rfl 3 rfl z7 dX8_sheetAt_22 rfl ?_
  obtain ⟨f1, f2⟩ := some2 h
  rw [f1, f2] at hQ
  exact V_aret (C := RX3) hX hQ rfl dX8_sheetAt_23
set_option maxRecDepth 100000 in
set_option maxHeartbeats 4000000 in
theorem v8_sheetAt_21 {g : GT} {X : XT} {a1 : Int32} (hX : OkX g X (m8_sheetAt)) (hN : 75 ≤ g.N) {res : Nat × St} (hQ : X.Q = QR g X res.1 res.2 ∧ X.cells = 0 ∧ X.slots = 0)    (σ : St)  (h : S8_sheetAt_21 a1 σ = some res) : V g X (m8_sheetAt) 21 [] [.ref (g.ad (32))] σ := by
  unfold S8_sheetAt_21 at h
  refine V_iconst (v := 0) (q := 22) hX dX8_sheetAt_21 (by decide) rfl ?_
  refine V.pick [] rfl ?_
  exact v8_sheetAt_22 hX hN hQ (0 : Int32) σ h
set_option maxRecDepth 100000 in
set_option maxHeartbeats 4000000 in
theorem v8_sheetAt {g : GT} {X : XT} {a1 : Int32} (hX : OkX g X (m8_sheetAt)) (hN : 75 ≤ g.N) {res : Nat × St} (hQ : X.Q = QR g X res.1 res.2 ∧ X.cells = 0 ∧ X.slots = 0) {σ : St} (h : S8_sheetAt a1 σ = some res) : V g X (m8_sheetAt) 0 [(0, .ref (g.ad (0))), (1, .int (a1))] [] σ := by
  unfold S8_sheetAt at h
  refine V_aload_n (q := 1) hX dX8_sheetAt_0 0 rfl rfl ?_
  refine V_getF (r := 32) (n := 75) (c := 8) (k := 6) (nf := 11) (C := RX8) (T := TX8) (q := 4) hX rfl rfl iG8 k2_181 rfl rfl ⟨rfl, by decide⟩ hN rfl rfl rfl rfl dX8_sheetAt_1 rfl ?_
  refine V_iload_n (q := 5) hX dX8_sheetAt_4 1 rfl rfl ?_
  refine V_if_lt (q := 8) (t := 21) hX dX8_sheetAt_5 (by decide) rfl (fun z8 => ?_) (fun z8 => ?_)
  · have h := ite_t z8 h
    refine V.pick [] rfl ?_
    exact v8_sheetAt_21 hX hN hQ σ h
  have h := ite_f z8 h
  refine V_iload_n (q := 9) hX dX8_sheetAt_8 1 rfl rfl ?_
  refine V_aload_n (q := 10) hX dX8_sheetAt_9 0 rfl rfl ?_
  refine V_getF (r := 32) (n := 75) (c := 8) (k := 6) (nf := 11) (C := RX8) (T := TX8) (q := 13) hX rfl rfl iG8 k2_181 rfl rfl ⟨rfl, by decide⟩ hN rfl rfl rfl rfl dX8_sheetAt_10 rfl ?_
  refine V_alenR (n := 75) (c := 13) (len := 4) (C := RX3) (v := 4) (q := 14) hX ⟨rfl, rfl, by decide⟩ hN rfl 3 rfl (by decide) dX8_sheetAt_13 rfl ?_
  refine V_icmp_ge (q := 17) (t := 21) hX dX8_sheetAt_14 (by decide) rfl (fun z9 => ?_) (fun z9 => ?_)
  · have h := ite_t z9 h
    refine V.pick [] rfl ?_
    exact v8_sheetAt_21 hX hN hQ σ h
  have h := ite_f z9 h
  refine V_iload_n (q := 18) hX dX8_sheetAt_17 1 rfl rfl ?_
  refine V_goto hX dX8_sheetAt_18 (q := 22) (by decide) ?_
  refine V.pick [] rfl ?_
  exact v8_sheetAt_22 hX hN hQ a1 σ h
set_option maxRecDepth 100000 in
set_option maxHeartbeats 4000000 in
theorem c8_sheetAt {g : GT} {l : Launch} (hg : OkG g) (hN : 75 ≤ g.N) {a1 : Int32} {σ : St} {r : Nat} {σ' : St} (h : S8_sheetAt a1 σ = some (r, σ')) : CtR g l m8_sheetAt yX8_sheetAt [.ref (g.ad (0)), .int (a1)] σ r σ' := CtR.of hg (by decide) rfl rfl (fun X h1 h2 h3 => v8_sheetAt h1 hN (res := (r, σ')) h3 h)
theorem sh8_sheetAt_22 {a1 s1 : Int32} {σ σ' : St} {r : Nat} (h : S8_sheetAt_22 a1 s1 σ = some (r, σ')) : Ob 75 3 r := by
  unfold S8_sheetAt_22 at h
  obtain ⟨z, h⟩ := chk_t h
  obtain ⟨e, -⟩ := some2 h
  have e : r = rf (32) s1.toNatClampNeg := e
  rw [e]
  exact aa13 ⟨rfl, rfl, by decide⟩ z
theorem sh8_sheetAt {a1 : Int32} {σ σ' : St} {r : Nat} (h : S8_sheetAt a1 σ = some (r, σ')) : Ob 75 3 r := by
  unfold S8_sheetAt at h
  split at h
  · exact sh8_sheetAt_22 (σ := σ) h
  · split at h
    · exact sh8_sheetAt_22 (σ := σ) h
    · exact sh8_sheetAt_22 h

abbrev m8_sheetFault : MI := (cX8_sheetFault, RX8, 2, some .int, 2)
def S8_sheetFault (a1 : Int32) (σ : St) : Option (Int32 × St) := bnd (S8_isSheet a1 σ) fun r10 σ9 => if r10 = 0 then (some ((-2 : Int32), σ9)) else (bnd (S8_sheetAt a1 σ9) fun r14 σ13 => if (gI σ13 r14 1) = (-1 : Int32) then (some ((-11 : Int32), σ13)) else (some ((0 : Int32), σ13)))
set_option maxRecDepth 100000 in
set_option maxHeartbeats 4000000 in
theorem v8_sheetFault {g : GT} {X : XT} {a1 : Int32} (hX : OkX g X (m8_sheetFault)) (hN : 75 ≤ g.N) {res : Int32 × St} (hQ : X.Q = QI g X res.1 res.2 ∧ X.cells = 0 ∧ X.slots = 0) {σ : St} (h : S8_sheetFault a1 σ = some res) : V g X (m8_sheetFault) 0 [(0, .ref (g.ad (0))), (1, .int (a1))] [] σ := by
  unfold S8_sheetFault at h
  refine V_aload_n (q := 1) hX dX8_sheetFault_0 0 rfl rfl ?_
  refine V_iload_n (q := 2) hX dX8_sheetFault_1 1 rfl rfl ?_
  obtain ⟨r10, σ9, e11, h⟩ := bnd_some h
  refine V_cvI (n := 75) (c := 8) (nf := 11) (C := RX8) (T := TX8) (As := [.int (a1)]) (q := 5) hX (c8_isSheet hX.2.2.2.2.1 hN e11) (goodV_of k3_227 k3_229 kp_26 k1_1 (cons_g k3_230)) (nA := 1) (by decide) rfl rfl rfl rfl rfl ⟨rfl, by decide⟩ hN rfl rfl rfl dX8_sheetFault_2 rfl ?_
  refine V_if_ne (q := 8) (t := 11) hX dX8_sheetFault_5 (by decide) rfl (fun z12 => ?_) (fun z12 => ?_)
  · have h := ite_f z12 h
    refine V_aload_n (q := 12) hX dX8_sheetFault_11 0 rfl rfl ?_
    refine V_iload_n (q := 13) hX dX8_sheetFault_12 1 rfl rfl ?_
    obtain ⟨r14, σ13, e15, h⟩ := bnd_some h
    refine V_cvR (n := 75) (c := 8) (nf := 11) (C := RX8) (T := TX8) (As := [.int (a1)]) (q := 16) hX (c8_sheetAt hX.2.2.2.2.1 hN e15) (goodV_of k3_231 k3_233 kp_27 k1_1 (cons_g k3_234)) (nA := 1) (by decide) rfl rfl rfl rfl rfl ⟨rfl, by decide⟩ hN rfl rfl rfl dX8_sheetFault_13 rfl ?_
    refine V_getI (n := 75) (c := 3) (k := 1) (nf := 3) (C := RX3) (T := TX3) (q := 19) hX rfl rfl iG3 k1_215 rfl rfl (sh8_sheetAt  e15) hN rfl rfl dX8_sheetFault_16 rfl ?_
    refine V_iconst (v := -1) (q := 20) hX dX8_sheetFault_19 (by decide) rfl ?_
    refine V_icmp_ne (q := 23) (t := 28) hX dX8_sheetFault_20 (by decide) rfl (fun z16 => ?_) (fun z16 => ?_)
    · have h := ite_f z16 h
      refine V_iconst (v := 0) (q := 29) hX dX8_sheetFault_28 (by decide) rfl ?_
      obtain ⟨f1, f2⟩ := some2 h
      rw [f1, f2] at hQ
      exact V_iret hX hQ rfl dX8_sheetFault_29
    have h := ite_t z16 h
    refine V_bipush (v := -11) (q := 25) hX dX8_sheetFault_23 (by decide) rfl ?_
    refine V_goto hX dX8_sheetFault_25 (q := 29) (by decide) ?_
    obtain ⟨f1, f2⟩ := some2 h
    rw [f1, f2] at hQ
    exact V_iret hX hQ rfl dX8_sheetFault_29
  have h := ite_t z12 h
  refine V_bipush (v := -2) (q := 10) hX dX8_sheetFault_8 (by decide) rfl ?_
  obtain ⟨f1, f2⟩ := some2 h
  rw [f1, f2] at hQ
  exact V_iret hX hQ rfl dX8_sheetFault_10
set_option maxRecDepth 100000 in
set_option maxHeartbeats 4000000 in
theorem c8_sheetFault {g : GT} {l : Launch} (hg : OkG g) (hN : 75 ≤ g.N) {a1 : Int32} {σ : St} {r : Int32} {σ' : St} (h : S8_sheetFault a1 σ = some (r, σ')) : CtI g l m8_sheetFault yX8_sheetFault [.ref (g.ad (0)), .int (a1)] σ r σ' := CtI.of hg (by decide) rfl rfl (fun X h1 h2 h3 => v8_sheetFault h1 hN (res := (r, σ')) h3 h)

abbrev m8_plansFault : MI := (cX8_plansFault, RX8, 5, some .int, 3)
def B8_plansFault_38 (a1 : Int32) (rec : Nat → Int32 → St → Option (Int32 × St)) (x3 : Nat) (x4 : Int32) (σ : St) : Option (Int32 × St) := if (gI σ x3 2) ≤ x4 then (some ((0 : Int32), σ)) else (bnd (S3_at x3 x4 σ) fun r35 σ34 => bnd (S8_isPlan r35 σ34) fun r38 σ37 => if r38 = 0 then (some ((-2 : Int32), σ37)) else (rec x3 (x4 + 1) σ37))
def S8_plansFault_38 (a1 : Int32) : Nat → Nat → Int32 → St → Option (Int32 × St)
  | 0, _, _, _ => none
  | n + 1, x3, x4, σ => B8_plansFault_38 a1 (S8_plansFault_38 a1 n) x3 x4 σ
def S8_plansFault (a1 : Int32) (σ : St) : Option (Int32 × St) := bnd (S8_sheetFault a1 σ) fun r42 σ41 => if r42 = 0 then (bnd (S8_sheetAt a1 σ41) fun r46 σ45 => if (gI σ45 r46 2) = (gI σ45 1 1) then (S8_plansFault_38 a1 4096 r46 (0 : Int32) σ45) else (some ((-2 : Int32), σ45))) else (some (r42, σ41))
set_option maxRecDepth 100000 in
set_option maxHeartbeats 4000000 in
theorem v8_plansFault_38n {g : GT} {X : XT} {a1 : Int32} (hX : OkX g X (m8_plansFault)) (hN : 75 ≤ g.N) {res : Int32 × St} (hQ : X.Q = QI g X res.1 res.2 ∧ X.cells = 0 ∧ X.slots = 0)   (n : Nat) : ∀ (x3 : Nat) (x4 : Int32) (σ : St) (hx3 : Ob 75 3 x3), S8_plansFault_38 a1 n x3 x4 σ = some res → V g X (m8_plansFault) 38 [(3, .ref (g.ad (x3))), (4, .int (x4))] [] σ := by
  induction n with
  | zero => intro x3 x4 σ hx3; intro h; cases h
  | succ n ih =>
    intro x3 x4 σ hx3 h
    have h : B8_plansFault_38 a1 (S8_plansFault_38 a1 n) x3 x4 σ = some res := h
    unfold B8_plansFault_38 at h
    refine V_iload (q := 40) hX dX8_plansFault_38 1 rfl rfl ?_
    refine V_aload_n (q := 41) hX dX8_plansFault_40 0 rfl rfl ?_
    refine V_getI (n := 75) (c := 3) (k := 2) (nf := 3) (C := RX3) (T := TX3) (q := 44) hX rfl rfl iG3 k1_218 rfl rfl hx3 hN rfl rfl dX8_plansFault_41 rfl ?_
    refine V_icmp_ge (q := 47) (t := 68) hX dX8_plansFault_44 (by decide) rfl (fun z33 => ?_) (fun z33 => ?_)
    · have h := ite_t z33 h
      refine V_iconst (v := 0) (q := 69) hX dX8_plansFault_68 (by decide) rfl ?_
      obtain ⟨f1, f2⟩ := some2 h
      rw [f1, f2] at hQ
      exact V_iret hX hQ rfl dX8_plansFault_69
    have h := ite_f z33 h
    refine V_aload_n (q := 48) hX dX8_plansFault_47 0 rfl rfl ?_
    refine V_iload (q := 50) hX dX8_plansFault_48 1 rfl rfl ?_
    obtain ⟨r35, σ34, e36, h⟩ := bnd_some h
    refine V_cvI (n := 75) (c := 3) (nf := 3) (C := RX3) (T := TX3) (As := [.int (x4)]) (q := 53) hX (c3_at hX.2.2.2.2.1 hN hx3 e36) (goodV_of k3_235 k3_236 k3_237 k1_9 (cons_g k3_238)) (nA := 1) (by decide) rfl rfl rfl rfl rfl hx3 hN rfl rfl rfl dX8_plansFault_50 rfl ?_
    obtain ⟨r38, σ37, e39, h⟩ := bnd_some h
    refine V_csI (As := [.int (r35)]) (q := 56) hX (c8_isPlan hX.2.2.2.2.1 hN e39) (goodS_of k3_78 k3_79 k1_1 (cons_g k3_80)) (nA := 1) (by decide) rfl rfl rfl rfl rfl dX8_plansFault_53 rfl ?_
    refine V_if_ne (q := 59) (t := 62) hX dX8_plansFault_56 (by decide) rfl (fun z40 => ?_) (fun z40 => ?_)
    · have h := ite_f z40 h
      refine V_iinc (v := (x4 + 1)) (lv' := [(4, .int ((x4 + 1))), (3, .ref (g.ad (x3)))]) (q := 65) hX dX8_plansFault_62 1 rfl (by rfl) rfl rfl rfl ?_
      refine V_goto hX dX8_plansFault_65 (q := 38) (by decide) ?_
      refine V.pick [1, 0] rfl ?_
      exact ih x3 (x4 + 1) σ37 hx3 h
    have h := ite_t z40 h
    refine V_bipush (v := -2) (q := 61) hX dX8_plansFault_59 (by decide) rfl ?_
    obtain ⟨f1, f2⟩ := some2 h
    rw [f1, f2] at hQ
    exact V_iret hX hQ rfl dX8_plansFault_61
theorem v8_plansFault_38 {g : GT} {X : XT} {a1 : Int32} (hX : OkX g X (m8_plansFault)) (hN : 75 ≤ g.N) {res : Int32 × St} (hQ : X.Q = QI g X res.1 res.2 ∧ X.cells = 0 ∧ X.slots = 0) (x3 : Nat) (x4 : Int32) (σ : St) (hx3 : Ob 75 3 x3) (h : S8_plansFault_38 a1 4096 x3 x4 σ = some res) : V g X (m8_plansFault) 38 [(3, .ref (g.ad (x3))), (4, .int (x4))] [] σ := v8_plansFault_38n hX hN hQ 4096 x3 x4 σ hx3 h
set_option maxRecDepth 100000 in
set_option maxHeartbeats 4000000 in
theorem v8_plansFault {g : GT} {X : XT} {a1 : Int32} (hX : OkX g X (m8_plansFault)) (hN : 75 ≤ g.N) {res : Int32 × St} (hQ : X.Q = QI g X res.1 res.2 ∧ X.cells = 0 ∧ X.slots = 0) {σ : St} (h : S8_plansFault a1 σ = some res) : V g X (m8_plansFault) 0 [(0, .ref (g.ad (0))), (1, .int (a1))] [] σ := by
  unfold S8_plansFault at h
  refine V_aload_n (q := 1) hX dX8_plansFault_0 0 rfl rfl ?_
  refine V_iload_n (q := 2) hX dX8_plansFault_1 1 rfl rfl ?_
  obtain ⟨r42, σ41, e43, h⟩ := bnd_some h
  refine V_cvI (n := 75) (c := 8) (nf := 11) (C := RX8) (T := TX8) (As := [.int (a1)]) (q := 5) hX (c8_sheetFault hX.2.2.2.2.1 hN e43) (goodV_of k3_223 k3_225 kp_25 k1_1 (cons_g k3_226)) (nA := 1) (by decide) rfl rfl rfl rfl rfl ⟨rfl, by decide⟩ hN rfl rfl rfl dX8_plansFault_2 rfl ?_
  refine V_istore_n (lv' := [(2, .int (r42)), (0, .ref (g.ad (0))), (1, .int (a1))]) (q := 6) hX dX8_plansFault_5 rfl rfl rfl ?_
  refine V_iload_n (q := 7) hX dX8_plansFault_6 0 rfl rfl ?_
  refine V_if_eq (q := 10) (t := 12) hX dX8_plansFault_7 (by decide) rfl (fun z44 => ?_) (fun z44 => ?_)
  · have h := ite_t z44 h
    refine V_aload_n (q := 13) hX dX8_plansFault_12 1 rfl rfl ?_
    refine V_iload_n (q := 14) hX dX8_plansFault_13 2 rfl rfl ?_
    obtain ⟨r46, σ45, e47, h⟩ := bnd_some h
    refine V_cvR (n := 75) (c := 8) (nf := 11) (C := RX8) (T := TX8) (As := [.int (a1)]) (q := 17) hX (c8_sheetAt hX.2.2.2.2.1 hN e47) (goodV_of k3_231 k3_233 kp_27 k1_1 (cons_g k3_234)) (nA := 1) (by decide) rfl rfl rfl rfl rfl ⟨rfl, by decide⟩ hN rfl rfl rfl dX8_plansFault_14 rfl ?_
    refine V_astore_n (lv' := [(3, .ref (g.ad (r46))), (2, .int (r42)), (0, .ref (g.ad (0))), (1, .int (a1))]) (q := 18) hX dX8_plansFault_17 rfl rfl rfl ?_
    refine V_aload_n (q := 19) hX dX8_plansFault_18 0 rfl rfl ?_
    refine V_getI (n := 75) (c := 3) (k := 2) (nf := 3) (C := RX3) (T := TX3) (q := 22) hX rfl rfl iG3 k1_218 rfl rfl (sh8_sheetAt  e47) hN rfl rfl dX8_plansFault_19 rfl ?_
    refine V_aload_n (q := 23) hX dX8_plansFault_22 2 rfl rfl ?_
    refine V_getF (r := 1) (n := 75) (c := 8) (k := 0) (nf := 11) (C := RX8) (T := TX8) (q := 26) hX rfl rfl iG8 k2_175 rfl rfl ⟨rfl, by decide⟩ hN rfl rfl rfl rfl dX8_plansFault_23 rfl ?_
    refine V_getI (n := 75) (c := 5) (k := 1) (nf := 4) (C := RX5) (T := TX5) (q := 29) hX rfl rfl iG5 k1_72 rfl rfl ⟨rfl, by decide⟩ hN rfl rfl dX8_plansFault_26 rfl ?_
    refine V_icmp_eq (q := 32) (t := 35) hX dX8_plansFault_29 (by decide) rfl (fun z48 => ?_) (fun z48 => ?_)
    · have h := ite_t z48 h
      refine V_iconst (v := 0) (q := 36) hX dX8_plansFault_35 (by decide) rfl ?_
      refine V_istore (lv' := [(4, .int ((0 : Int32))), (3, .ref (g.ad (r46))), (2, .int (r42)), (0, .ref (g.ad (0))), (1, .int (a1))]) (q := 38) hX dX8_plansFault_36 rfl rfl rfl ?_
      refine V.pick [1, 0] rfl ?_
      exact v8_plansFault_38 hX hN hQ r46 (0 : Int32) σ45 (sh8_sheetAt e47) h
    have h := ite_f z48 h
    refine V_bipush (v := -2) (q := 34) hX dX8_plansFault_32 (by decide) rfl ?_
    obtain ⟨f1, f2⟩ := some2 h
    rw [f1, f2] at hQ
    exact V_iret hX hQ rfl dX8_plansFault_34
  have h := ite_f z44 h
  refine V_iload_n (q := 11) hX dX8_plansFault_10 0 rfl rfl ?_
  obtain ⟨f1, f2⟩ := some2 h
  rw [f1, f2] at hQ
  exact V_iret hX hQ rfl dX8_plansFault_11
set_option maxRecDepth 100000 in
set_option maxHeartbeats 4000000 in
theorem c8_plansFault {g : GT} {l : Launch} (hg : OkG g) (hN : 75 ≤ g.N) {a1 : Int32} {σ : St} {r : Int32} {σ' : St} (h : S8_plansFault a1 σ = some (r, σ')) : CtI g l m8_plansFault yX8_plansFault [.ref (g.ad (0)), .int (a1)] σ r σ' := CtI.of hg (by decide) rfl rfl (fun X h1 h2 h3 => v8_plansFault h1 hN (res := (r, σ')) h3 h)
