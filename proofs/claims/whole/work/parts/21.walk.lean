abbrev m4_strength : MI := (cX4_strength, RX4, 6, some .int, 3)
def S4_strength_91 (o : Nat) (a1 : Int32) (a2 : Int32) (a3 : Int32) (σ : St) : Option (Int32 × St) := if inb ((((a1 * (4 : Int32)) + a2) * (9 : Int32)) + a3) 144 then (some ((gI σ (o + 1) (((((a1 * (4 : Int32)) + a2) * (9 : Int32)) + a3)).toNatClampNeg), σ)) else none
def S4_strength (o : Nat) (a1 : Int32) (a2 : Int32) (a3 : Int32) (σ : St) : Option (Int32 × St) := if ((((a1 * (4 : Int32)) + a2) * (9 : Int32)) + a3) < 0 then (some ((0 : Int32), σ)) else (if ((((a1 * (4 : Int32)) + a2) * (9 : Int32)) + a3) < (144 : Int32) then (if inb ((((a1 * (4 : Int32)) + a2) * (9 : Int32)) + a3) 144 then (if (gI σ (o + 1) (((((a1 * (4 : Int32)) + a2) * (9 : Int32)) + a3)).toNatClampNeg) = (-1 : Int32) then (if Ob 75 6 (gR σ o 3) then (if Ob 75 7 (gR σ o 2) then (bnd (S2_says (gR σ o 3) (0 : Int32) (gR σ o 2) a1 a2 a3 σ) fun r41 σ40 => if Ob 75 7 (gR σ40 o 2) then (bnd (S7_forces (gR σ40 o 2) r41 a1 a2 σ40) fun r45 σ44 => if Ob 75 7 (gR σ44 o 2) then (if inb ((((a1 * (4 : Int32)) + a2) * (9 : Int32)) + a3) 144 then (S4_strength_91 o a1 a2 a3 (sI σ44 (o + 1) (((((a1 * (4 : Int32)) + a2) * (9 : Int32)) + a3)).toNatClampNeg (jmax (0 : Int32) (r45 - (gI σ44 (gR σ44 o 2) 4))))) else none) else none) else none) else none) else none) else (S4_strength_91 o a1 a2 a3 σ)) else none) else (some ((0 : Int32), σ)))
set_option maxRecDepth 100000 in
set_option maxHeartbeats 4000000 in
theorem v4_strength_91 {g : GT} {X : XT} {o : Nat} {a1 : Int32} {a2 : Int32} {a3 : Int32} (hX : OkX g X (m4_strength)) (hN : 75 ≤ g.N) {res : Int32 × St} (hQ : X.Q = QI g X res.1 res.2 ∧ X.cells = 0 ∧ X.slots = 0) (ho : Ob 75 4 o)   (σ : St)  (h : S4_strength_91 o a1 a2 a3 σ = some res) : V g X (m4_strength) 91 [(0, .ref (g.ad (o))), (4, .int (((((a1 * (4 : Int32)) + a2) * (9 : Int32)) + a3)))] [] σ := by
  unfold S4_strength_91 at h
  refine V_aload_n (q := 92) hX dX4_strength_91 0 rfl rfl ?_
  refine V_getF (r := (o + 1)) (n := 75) (c := 4) (k := 1) (nf := 6) (C := RX4) (T := TX4) (q := 95) hX rfl rfl iG4 k1_167 rfl rfl ho hN rfl rfl rfl (rf4b ho) dX4_strength_92 rfl ?_
  refine V_iload (q := 97) hX dX4_strength_95 1 rfl rfl ?_
  obtain ⟨z33, h⟩ := chk_t h
  refine V_iald (n := 75) (len := 144) (q := 98) hX (ar4 ho) hN z33 dX4_strength_97 rfl ?_
  obtain ⟨f1, f2⟩ := some2 h
  rw [f1, f2] at hQ
  exact V_iret hX hQ rfl dX4_strength_98
set_option maxRecDepth 100000 in
set_option maxHeartbeats 4000000 in
theorem v4_strength {g : GT} {X : XT} {o : Nat} {a1 : Int32} {a2 : Int32} {a3 : Int32} (hX : OkX g X (m4_strength)) (hN : 75 ≤ g.N) {res : Int32 × St} (hQ : X.Q = QI g X res.1 res.2 ∧ X.cells = 0 ∧ X.slots = 0) (ho : Ob 75 4 o) {σ : St} (h : S4_strength o a1 a2 a3 σ = some res) : V g X (m4_strength) 0 [(0, .ref (g.ad (o))), (1, .int (a1)), (2, .int (a2)), (3, .int (a3))] [] σ := by
  unfold S4_strength at h
  refine V_iload_n (q := 1) hX dX4_strength_0 1 rfl rfl ?_
  refine V_iconst (v := 4) (q := 2) hX dX4_strength_1 (by decide) rfl ?_
  refine V_imul (q := 3) hX dX4_strength_2 rfl ?_
  refine V_iload_n (q := 4) hX dX4_strength_3 2 rfl rfl ?_
  refine V_iadd (q := 5) hX dX4_strength_4 rfl ?_
  refine V_bipush (v := 9) (q := 7) hX dX4_strength_5 (by decide) rfl ?_
  refine V_imul (q := 8) hX dX4_strength_7 rfl ?_
  refine V_iload_n (q := 9) hX dX4_strength_8 3 rfl rfl ?_
  refine V_iadd (q := 10) hX dX4_strength_9 rfl ?_
  refine V_istore (lv' := [(4, .int (((((a1 * (4 : Int32)) + a2) * (9 : Int32)) + a3))), (0, .ref (g.ad (o))), (1, .int (a1)), (2, .int (a2)), (3, .int (a3))]) (q := 12) hX dX4_strength_10 rfl rfl rfl ?_
  refine V_iload (q := 14) hX dX4_strength_12 0 rfl rfl ?_
  refine V_if_lt (q := 17) (t := 27) hX dX4_strength_14 (by decide) rfl (fun z34 => ?_) (fun z34 => ?_)
  · have h := ite_t z34 h
    refine V_iconst (v := 0) (q := 28) hX dX4_strength_27 (by decide) rfl ?_
    obtain ⟨f1, f2⟩ := some2 h
    rw [f1, f2] at hQ
    exact V_iret hX hQ rfl dX4_strength_28
  have h := ite_f z34 h
  refine V_iload (q := 19) hX dX4_strength_17 0 rfl rfl ?_
  refine V_aload_n (q := 20) hX dX4_strength_19 1 rfl rfl ?_
  refine V_getF (r := (o + 1)) (n := 75) (c := 4) (k := 1) (nf := 6) (C := RX4) (T := TX4) (q := 23) hX rfl rfl iG4 k1_167 rfl rfl ho hN rfl rfl rfl (rf4b ho) dX4_strength_20 rfl ?_
  refine V_alen (n := 75) (len := 144) (v := 144) (q := 24) hX (ar4 ho) hN (by decide) dX4_strength_23 rfl ?_
  refine V_icmp_lt (q := 27) (t := 29) hX dX4_strength_24 (by decide) rfl (fun z35 => ?_) (fun z35 => ?_)
  · have h := ite_t z35 h
    refine V_aload_n (q := 30) hX dX4_strength_29 1 rfl rfl ?_
    refine V_getF (r := (o + 1)) (n := 75) (c := 4) (k := 1) (nf := 6) (C := RX4) (T := TX4) (q := 33) hX rfl rfl iG4 k1_167 rfl rfl ho hN rfl rfl rfl (rf4b ho) dX4_strength_30 rfl ?_
    refine V_iload (q := 35) hX dX4_strength_33 0 rfl rfl ?_
    obtain ⟨z36, h⟩ := chk_t h
    refine V_iald (n := 75) (len := 144) (q := 36) hX (ar4 ho) hN z36 dX4_strength_35 rfl ?_
    refine V_iconst (v := -1) (q := 37) hX dX4_strength_36 (by decide) rfl ?_
    refine V_icmp_ne (q := 40) (t := 91) hX dX4_strength_37 (by decide) rfl (fun z37 => ?_) (fun z37 => ?_)
    · have h := ite_f z37 h
      refine V.pick [1, 0] rfl ?_
      exact v4_strength_91 hX hN hQ ho σ h
    have h := ite_t z37 h
    refine V_aload_n (q := 41) hX dX4_strength_40 1 rfl rfl ?_
    refine V_getF (r := 33) (n := 75) (c := 4) (k := 0) (nf := 6) (C := RX4) (T := TX4) (q := 44) hX rfl rfl iG4 k1_166 rfl rfl ho hN rfl rfl rfl (rf4a ho) dX4_strength_41 rfl ?_
    refine V_aload_n (q := 45) hX dX4_strength_44 1 rfl rfl ?_
    obtain ⟨hp38, h⟩ := chk_t h
    refine V_getM (n := 75) (c := 4) (k := 3) (nf := 6) (C := RX4) (T := TX4) (q := 48) hX rfl rfl iG4 k1_169 rfl rfl ho hN rfl rfl rfl dX4_strength_45 rfl ?_
    refine V_iconst (v := 0) (q := 49) hX dX4_strength_48 (by decide) rfl ?_
    refine V_aload_n (q := 50) hX dX4_strength_49 1 rfl rfl ?_
    obtain ⟨hp39, h⟩ := chk_t h
    refine V_getM (n := 75) (c := 4) (k := 2) (nf := 6) (C := RX4) (T := TX4) (q := 53) hX rfl rfl iG4 k1_168 rfl rfl ho hN rfl rfl rfl dX4_strength_50 rfl ?_
    refine V_iload_n (q := 54) hX dX4_strength_53 2 rfl rfl ?_
    refine V_iload_n (q := 55) hX dX4_strength_54 3 rfl rfl ?_
    refine V_iload_n (q := 56) hX dX4_strength_55 4 rfl rfl ?_
    obtain ⟨r41, σ40, e42, h⟩ := bnd_some h
    refine V_cvI (n := 75) (c := 2) (nf := 1) (C := RX2) (T := TX2) (As := [.ref (g.ad ((gR σ o 3))), .int ((0 : Int32)), .ref (g.ad ((gR σ o 2))), .int (a1), .int (a2), .int (a3)]) (q := 59) hX (c2_says hX.2.2.2.2.1 hN hp38 hp39 e42) (goodV_of k3_101 k3_10 k3_11 k1_6 (cons_g k3_12)) (nA := 6) (by decide) rfl rfl rfl rfl rfl ⟨rfl, by decide⟩ hN rfl rfl rfl dX4_strength_56 rfl ?_
    refine V_istore (lv' := [(5, .int (r41)), (4, .int (((((a1 * (4 : Int32)) + a2) * (9 : Int32)) + a3))), (0, .ref (g.ad (o))), (1, .int (a1)), (2, .int (a2)), (3, .int (a3))]) (q := 61) hX dX4_strength_59 rfl rfl rfl ?_
    refine V_aload_n (q := 62) hX dX4_strength_61 2 rfl rfl ?_
    refine V_getF (r := (o + 1)) (n := 75) (c := 4) (k := 1) (nf := 6) (C := RX4) (T := TX4) (q := 65) hX rfl rfl iG4 k1_167 rfl rfl ho hN rfl rfl rfl (rf4b ho) dX4_strength_62 rfl ?_
    refine V_iload (q := 67) hX dX4_strength_65 1 rfl rfl ?_
    refine V_iconst (v := 0) (q := 68) hX dX4_strength_67 (by decide) rfl ?_
    refine V_aload_n (q := 69) hX dX4_strength_68 2 rfl rfl ?_
    obtain ⟨hp43, h⟩ := chk_t h
    refine V_getM (n := 75) (c := 4) (k := 2) (nf := 6) (C := RX4) (T := TX4) (q := 72) hX rfl rfl iG4 k1_168 rfl rfl ho hN rfl rfl rfl dX4_strength_69 rfl ?_
    refine V_iload (q := 74) hX dX4_strength_72 0 rfl rfl ?_
    refine V_iload_n (q := 75) hX dX4_strength_74 3 rfl rfl ?_
    refine V_iload_n (q := 76) hX dX4_strength_75 4 rfl rfl ?_
    obtain ⟨r45, σ44, e46, h⟩ := bnd_some h
    refine V_cvI (n := 75) (c := 7) (nf := 7) (C := RX7) (T := TX7) (As := [.int (r41), .int (a1), .int (a2)]) (q := 79) hX (c7_forces hX.2.2.2.2.1 hN hp43 e46) (goodV_of k3_132 k3_133 k3_134 k1_3 (cons_g k3_135)) (nA := 3) (by decide) rfl rfl rfl rfl rfl hp43 hN rfl rfl rfl dX4_strength_76 rfl ?_
    refine V_aload_n (q := 80) hX dX4_strength_79 2 rfl rfl ?_
    obtain ⟨hp47, h⟩ := chk_t h
    refine V_getM (n := 75) (c := 4) (k := 2) (nf := 6) (C := RX4) (T := TX4) (q := 83) hX rfl rfl iG4 k1_168 rfl rfl ho hN rfl rfl rfl dX4_strength_80 rfl ?_
    refine V_getI (n := 75) (c := 7) (k := 4) (nf := 7) (C := RX7) (T := TX7) (q := 86) hX rfl rfl iG7 k1_48 rfl rfl hp47 hN rfl rfl dX4_strength_83 rfl ?_
    refine V_isub (q := 87) hX dX4_strength_86 rfl ?_
    refine V_mmax (q := 90) hX k3_140 k2_88 k1_14 k2_89 rfl dX4_strength_87 rfl ?_
    obtain ⟨z48, h⟩ := chk_t h
    refine V_iast (n := 75) (len := 144) (q := 91) hX (ar4 ho) hN z48 dX4_strength_90 rfl ?_
    refine V.pick [2, 1] rfl ?_
    exact v4_strength_91 hX hN hQ ho (sI σ44 (o + 1) (((((a1 * (4 : Int32)) + a2) * (9 : Int32)) + a3)).toNatClampNeg (jmax (0 : Int32) (r45 - (gI σ44 (gR σ44 o 2) 4)))) h
  have h := ite_f z35 h
  refine V_iconst (v := 0) (q := 28) hX dX4_strength_27 (by decide) rfl ?_
  obtain ⟨f1, f2⟩ := some2 h
  rw [f1, f2] at hQ
  exact V_iret hX hQ rfl dX4_strength_28
set_option maxRecDepth 100000 in
set_option maxHeartbeats 4000000 in
theorem c4_strength {g : GT} {l : Launch} (hg : OkG g) (hN : 75 ≤ g.N) {o : Nat} {a1 : Int32} {a2 : Int32} {a3 : Int32} (ho : Ob 75 4 o) {σ : St} {r : Int32} {σ' : St} (h : S4_strength o a1 a2 a3 σ = some (r, σ')) : CtI g l m4_strength yX4_strength [.ref (g.ad (o)), .int (a1), .int (a2), .int (a3)] σ r σ' := CtI.of hg (by decide) rfl rfl (fun X h1 h2 h3 => v4_strength h1 hN (res := (r, σ')) h3 ho h)

abbrev m0_stepsFor : MI := (cX0_stepsFor, RX0, 2, some .int, 1)
def S0_stepsFor_14 (a0 : Int32) (s0 : Int32) (σ : St) : Option (Int32 × St) := if a0 = 0 then (some ((0 : Int32), σ)) else (if 0 ≤ a0 then (some (s0, σ)) else (some ((-s0), σ)))
def S0_stepsFor (a0 : Int32) (σ : St) : Option (Int32 × St) := if (jabs a0) ≤ (20 : Int32) then (S0_stepsFor_14 a0 (1 : Int32) σ) else (S0_stepsFor_14 a0 (2 : Int32) σ)
set_option maxRecDepth 100000 in
set_option maxHeartbeats 4000000 in
theorem v0_stepsFor_14 {g : GT} {X : XT} {a0 : Int32} (hX : OkX g X (m0_stepsFor)) (hN : 75 ≤ g.N) {res : Int32 × St} (hQ : X.Q = QI g X res.1 res.2 ∧ X.cells = 0 ∧ X.slots = 0)   (s0 : Int32) (σ : St)  (h : S0_stepsFor_14 a0 s0 σ = some res) : V g X (m0_stepsFor) 14 [(0, .int (a0))] [.int (s0)] σ := by
  unfold S0_stepsFor_14 at h
  refine V_istore_n (lv' := [(1, .int (s0)), (0, .int (a0))]) (q := 15) hX dX0_stepsFor_14 rfl rfl rfl ?_
  refine V_iload_n (q := 16) hX dX0_stepsFor_15 1 rfl rfl ?_
  refine V_if_ne (q := 19) (t := 23) hX dX0_stepsFor_16 (by decide) rfl (fun z7 => ?_) (fun z7 => ?_)
  · have h := ite_f z7 h
    refine V_iload_n (q := 24) hX dX0_stepsFor_23 1 rfl rfl ?_
    refine V_if_ge (q := 27) (t := 32) hX dX0_stepsFor_24 (by decide) rfl (fun z8 => ?_) (fun z8 => ?_)
    · have h := ite_t z8 h
      refine V_iload_n (q := 33) hX dX0_stepsFor_32 0 rfl rfl ?_
      obtain ⟨f1, f2⟩ := some2 h
      rw [f1, f2] at hQ
      exact V_iret hX hQ rfl dX0_stepsFor_33
    have h := ite_f z8 h
    refine V_iload_n (q := 28) hX dX0_stepsFor_27 0 rfl rfl ?_
    refine V_ineg (q := 29) hX dX0_stepsFor_28 rfl ?_
    refine V_goto hX dX0_stepsFor_29 (q := 33) (by decide) ?_
    obtain ⟨f1, f2⟩ := some2 h
    rw [f1, f2] at hQ
    exact V_iret hX hQ rfl dX0_stepsFor_33
  have h := ite_t z7 h
  refine V_iconst (v := 0) (q := 20) hX dX0_stepsFor_19 (by decide) rfl ?_
  refine V_goto hX dX0_stepsFor_20 (q := 33) (by decide) ?_
  obtain ⟨f1, f2⟩ := some2 h
  rw [f1, f2] at hQ
  exact V_iret hX hQ rfl dX0_stepsFor_33
set_option maxRecDepth 100000 in
set_option maxHeartbeats 4000000 in
theorem v0_stepsFor {g : GT} {X : XT} {a0 : Int32} (hX : OkX g X (m0_stepsFor)) (hN : 75 ≤ g.N) {res : Int32 × St} (hQ : X.Q = QI g X res.1 res.2 ∧ X.cells = 0 ∧ X.slots = 0) {σ : St} (h : S0_stepsFor a0 σ = some res) : V g X (m0_stepsFor) 0 [(0, .int (a0))] [] σ := by
  unfold S0_stepsFor at h
  refine V_iload_n (q := 1) hX dX0_stepsFor_0 0 rfl rfl ?_
  refine V_mabs (q := 4) hX k3_144 k3_145 k1_14 k3_146 rfl dX0_stepsFor_1 rfl ?_
  refine V_bipush (v := 20) (q := 6) hX dX0_stepsFor_4 (by decide) rfl ?_
  refine V_icmp_le (q := 9) (t := 13) hX dX0_stepsFor_6 (by decide) rfl (fun z9 => ?_) (fun z9 => ?_)
  · have h := ite_t z9 h
    refine V_iconst (v := 1) (q := 14) hX dX0_stepsFor_13 (by decide) rfl ?_
    refine V.pick [0] rfl ?_
    exact v0_stepsFor_14 hX hN hQ (1 : Int32) σ h
  have h := ite_f z9 h
  refine V_iconst (v := 2) (q := 10) hX dX0_stepsFor_9 (by decide) rfl ?_
  refine V_goto hX dX0_stepsFor_10 (q := 14) (by decide) ?_
  refine V.pick [0] rfl ?_
  exact v0_stepsFor_14 hX hN hQ (2 : Int32) σ h
set_option maxRecDepth 100000 in
set_option maxHeartbeats 4000000 in
theorem c0_stepsFor {g : GT} {l : Launch} (hg : OkG g) (hN : 75 ≤ g.N) {a0 : Int32} {σ : St} {r : Int32} {σ' : St} (h : S0_stepsFor a0 σ = some (r, σ')) : CtI g l m0_stepsFor yX0_stepsFor [.int (a0)] σ r σ' := CtI.of hg (by decide) rfl rfl (fun X h1 h2 h3 => v0_stepsFor h1 hN (res := (r, σ')) h3 h)

abbrev m4_stands : MI := (cX4_stands, RX4, 1, some .boolean, 1)
def S4_stands (o : Nat) (σ : St) : Option (Int32 × St) := if (gI σ o 5) < (gI σ o 4) then (some ((1 : Int32), (sI σ o 5 ((gI σ o 5) + (1 : Int32))))) else (some ((0 : Int32), σ))
set_option maxRecDepth 100000 in
set_option maxHeartbeats 4000000 in
theorem v4_stands {g : GT} {X : XT} {o : Nat} (hX : OkX g X (m4_stands)) (hN : 75 ≤ g.N) {res : Int32 × St} (hQ : X.Q = QI g X res.1 res.2 ∧ X.cells = 0 ∧ X.slots = 0) (ho : Ob 75 4 o) {σ : St} (h : S4_stands o σ = some res) : V g X (m4_stands) 0 [(0, .ref (g.ad (o)))] [] σ := by
  unfold S4_stands at h
  refine V_aload_n (q := 1) hX dX4_stands_0 0 rfl rfl ?_
  refine V_getI (n := 75) (c := 4) (k := 5) (nf := 6) (C := RX4) (T := TX4) (q := 4) hX rfl rfl iG4 k1_171 rfl rfl ho hN rfl rfl dX4_stands_1 rfl ?_
  refine V_aload_n (q := 5) hX dX4_stands_4 0 rfl rfl ?_
  refine V_getI (n := 75) (c := 4) (k := 4) (nf := 6) (C := RX4) (T := TX4) (q := 8) hX rfl rfl iG4 k1_170 rfl rfl ho hN rfl rfl dX4_stands_5 rfl ?_
  refine V_icmp_lt (q := 11) (t := 13) hX dX4_stands_8 (by decide) rfl (fun z2 => ?_) (fun z2 => ?_)
  · have h := ite_t z2 h
    refine V_aload_n (q := 14) hX dX4_stands_13 0 rfl rfl ?_
    refine V_dup (q := 15) hX dX4_stands_14 rfl rfl ?_
    refine V_getI (n := 75) (c := 4) (k := 5) (nf := 6) (C := RX4) (T := TX4) (q := 18) hX rfl rfl iG4 k1_171 rfl rfl ho hN rfl rfl dX4_stands_15 rfl ?_
    refine V_iconst (v := 1) (q := 19) hX dX4_stands_18 (by decide) rfl ?_
    refine V_iadd (q := 20) hX dX4_stands_19 rfl ?_
    refine V_putI (n := 75) (c := 4) (k := 5) (nf := 6) (C := RX4) (T := TX4) (q := 23) hX rfl rfl iG4 k1_171 rfl rfl ho hN rfl tyX4 tyX4_ok nmX4 rfl rfl (ty := .int) (tyX4_ok 5 (by decide)) rfl rfl dX4_stands_20 rfl ?_
    refine V_iconst (v := 1) (q := 24) hX dX4_stands_23 (by decide) rfl ?_
    obtain ⟨f1, f2⟩ := some2 h
    rw [f1, f2] at hQ
    exact V_zret (ty := .boolean) hX hQ rfl rfl dX4_stands_24
  have h := ite_f z2 h
  refine V_iconst (v := 0) (q := 12) hX dX4_stands_11 (by decide) rfl ?_
  obtain ⟨f1, f2⟩ := some2 h
  rw [f1, f2] at hQ
  exact V_zret (ty := .boolean) hX hQ rfl rfl dX4_stands_12
set_option maxRecDepth 100000 in
set_option maxHeartbeats 4000000 in
theorem c4_stands {g : GT} {l : Launch} (hg : OkG g) (hN : 75 ≤ g.N) {o : Nat} (ho : Ob 75 4 o) {σ : St} {r : Int32} {σ' : St} (h : S4_stands o σ = some (r, σ')) : CtI g l m4_stands yX4_stands [.ref (g.ad (o))] σ r σ' := CtI.of hg (by decide) rfl rfl (fun X h1 h2 h3 => v4_stands h1 hN (res := (r, σ')) h3 ho h)

abbrev m0_cellAtLast : MI := (cX0_cellAtLast, RX0, 2, some .int, 2)
def S0_cellAtLast (a1 : Int32) (σ : St) : Option (Int32 × St) := if a1 < (8 : Int32) then (if 0 < a1 then (some (a1, σ)) else (bnd (S4_stands 37 σ) fun r14 σ13 => if r14 = 0 then (some ((0 : Int32), σ13)) else (some ((1 : Int32), σ13)))) else (bnd (S4_stands 43 σ) fun r18 σ17 => if r18 = 0 then (some ((8 : Int32), σ17)) else (some ((7 : Int32), σ17)))
set_option maxRecDepth 100000 in
set_option maxHeartbeats 4000000 in
theorem v0_cellAtLast {g : GT} {X : XT} {a1 : Int32} (hX : OkX g X (m0_cellAtLast)) (hN : 75 ≤ g.N) {res : Int32 × St} (hQ : X.Q = QI g X res.1 res.2 ∧ X.cells = 0 ∧ X.slots = 0) {σ : St} (h : S0_cellAtLast a1 σ = some res) : V g X (m0_cellAtLast) 0 [(0, .ref (g.ad (35))), (1, .int (a1))] [] σ := by
  unfold S0_cellAtLast at h
  refine V_iload_n (q := 1) hX dX0_cellAtLast_0 1 rfl rfl ?_
  refine V_bipush (v := 8) (q := 3) hX dX0_cellAtLast_1 (by decide) rfl ?_
  refine V_icmp_lt (q := 6) (t := 24) hX dX0_cellAtLast_3 (by decide) rfl (fun z11 => ?_) (fun z11 => ?_)
  · have h := ite_t z11 h
    refine V_iload_n (q := 25) hX dX0_cellAtLast_24 1 rfl rfl ?_
    refine V_if_gt (q := 28) (t := 44) hX dX0_cellAtLast_25 (by decide) rfl (fun z12 => ?_) (fun z12 => ?_)
    · have h := ite_t z12 h
      refine V_iload_n (q := 45) hX dX0_cellAtLast_44 1 rfl rfl ?_
      obtain ⟨f1, f2⟩ := some2 h
      rw [f1, f2] at hQ
      exact V_iret hX hQ rfl dX0_cellAtLast_45
    have h := ite_f z12 h
    refine V_aload_n (q := 29) hX dX0_cellAtLast_28 0 rfl rfl ?_
    refine V_getF (r := 37) (n := 75) (c := 0) (k := 0) (nf := 6) (C := RX0) (T := TX0) (q := 32) hX rfl rfl iG0 k1_185 rfl rfl ⟨rfl, by decide⟩ hN rfl rfl rfl rfl dX0_cellAtLast_29 rfl ?_
    obtain ⟨r14, σ13, e15, h⟩ := bnd_some h
    refine V_cvI (n := 75) (c := 4) (nf := 6) (C := RX4) (T := TX4) (As := []) (q := 35) hX (c4_stands hX.2.2.2.2.1 hN ⟨rfl, by decide⟩ e15) (goodV_of k3_151 k3_152 k3_153 k1_8 (cons_g k3_154)) (nA := 0) (by decide) rfl rfl rfl rfl rfl ⟨rfl, by decide⟩ hN rfl rfl rfl dX0_cellAtLast_32 rfl ?_
    refine V_if_eq (q := 38) (t := 42) hX dX0_cellAtLast_35 (by decide) rfl (fun z16 => ?_) (fun z16 => ?_)
    · have h := ite_t z16 h
      refine V_iconst (v := 0) (q := 43) hX dX0_cellAtLast_42 (by decide) rfl ?_
      obtain ⟨f1, f2⟩ := some2 h
      rw [f1, f2] at hQ
      exact V_iret hX hQ rfl dX0_cellAtLast_43
    have h := ite_f z16 h
    refine V_iconst (v := 1) (q := 39) hX dX0_cellAtLast_38 (by decide) rfl ?_
    refine V_goto hX dX0_cellAtLast_39 (q := 43) (by decide) ?_
    obtain ⟨f1, f2⟩ := some2 h
    rw [f1, f2] at hQ
    exact V_iret hX hQ rfl dX0_cellAtLast_43
  have h := ite_f z11 h
  refine V_aload_n (q := 7) hX dX0_cellAtLast_6 0 rfl rfl ?_
  refine V_getF (r := 43) (n := 75) (c := 0) (k := 1) (nf := 6) (C := RX0) (T := TX0) (q := 10) hX rfl rfl iG0 k1_186 rfl rfl ⟨rfl, by decide⟩ hN rfl rfl rfl rfl dX0_cellAtLast_7 rfl ?_
  obtain ⟨r18, σ17, e19, h⟩ := bnd_some h
  refine V_cvI (n := 75) (c := 4) (nf := 6) (C := RX4) (T := TX4) (As := []) (q := 13) hX (c4_stands hX.2.2.2.2.1 hN ⟨rfl, by decide⟩ e19) (goodV_of k3_151 k3_152 k3_153 k1_8 (cons_g k3_154)) (nA := 0) (by decide) rfl rfl rfl rfl rfl ⟨rfl, by decide⟩ hN rfl rfl rfl dX0_cellAtLast_10 rfl ?_
  refine V_if_eq (q := 16) (t := 21) hX dX0_cellAtLast_13 (by decide) rfl (fun z20 => ?_) (fun z20 => ?_)
  · have h := ite_t z20 h
    refine V_bipush (v := 8) (q := 23) hX dX0_cellAtLast_21 (by decide) rfl ?_
    obtain ⟨f1, f2⟩ := some2 h
    rw [f1, f2] at hQ
    exact V_iret hX hQ rfl dX0_cellAtLast_23
  have h := ite_f z20 h
  refine V_bipush (v := 7) (q := 18) hX dX0_cellAtLast_16 (by decide) rfl ?_
  refine V_goto hX dX0_cellAtLast_18 (q := 23) (by decide) ?_
  obtain ⟨f1, f2⟩ := some2 h
  rw [f1, f2] at hQ
  exact V_iret hX hQ rfl dX0_cellAtLast_23
set_option maxRecDepth 100000 in
set_option maxHeartbeats 4000000 in
theorem c0_cellAtLast {g : GT} {l : Launch} (hg : OkG g) (hN : 75 ≤ g.N) {a1 : Int32} {σ : St} {r : Int32} {σ' : St} (h : S0_cellAtLast a1 σ = some (r, σ')) : CtI g l m0_cellAtLast yX0_cellAtLast [.ref (g.ad (35)), .int (a1)] σ r σ' := CtI.of hg (by decide) rfl rfl (fun X h1 h2 h3 => v0_cellAtLast h1 hN (res := (r, σ')) h3 h)

abbrev m0_goThrough : MI := (cX0_goThrough, RX0, 9, none, 4)
def S0_goThrough_119 (a1 : Int32) (a2 : Int32) (k32 : Int32 → Int32 → St → Option (Unit × St)) (x3 : Int32) (x4 : Int32) (σ : St) : Option (Unit × St) := if inb (x4 + (1 : Int32)) 10 then (k32 x3 (x4 + 1) (sI σ 36 ((x4 + (1 : Int32))).toNatClampNeg x3)) else none
def B0_goThrough_32 (a1 : Int32) (a2 : Int32) (rec : Int32 → Int32 → St → Option (Unit × St)) (x3 : Int32) (x4 : Int32) (σ : St) : Option (Unit × St) := if (9 : Int32) ≤ x4 then (some ((), (sI σ 35 5 (x3 - (4 : Int32))))) else (if x3 ≤ 0 then (S0_goThrough_119 a1 a2 rec x3 x4 σ) else (if (8 : Int32) ≤ x3 then (S0_goThrough_119 a1 a2 rec x3 x4 σ) else (bnd (S8_actIn a1 x4 σ) fun r90 σ89 => bnd (S8_actIn a2 x4 σ89) fun r93 σ92 => bnd (S4_strength 37 r90 r93 x3 σ92) fun r96 σ95 => bnd (S4_strength 43 r93 r90 ((8 : Int32) - x3) σ95) fun r99 σ98 => bnd (S0_stepsFor (r96 - r99) σ98) fun r102 σ101 => bnd (S0_cellAtLast (x3 + r102) σ101) fun r105 σ104 => S0_goThrough_119 a1 a2 rec r105 x4 (sI σ104 35 4 (x4 + (1 : Int32))))))
def S0_goThrough_32 (a1 : Int32) (a2 : Int32) : Nat → Int32 → Int32 → St → Option (Unit × St)
  | 0, _, _, _ => none
  | n + 1, x3, x4, σ => B0_goThrough_32 a1 a2 (S0_goThrough_32 a1 a2 n) x3 x4 σ
def S0_goThrough (a1 : Int32) (a2 : Int32) (σ : St) : Option (Unit × St) := bnd (S4_begins 37 σ) fun r108 σ107 => bnd (S4_begins 43 σ107) fun r111 σ110 => S0_goThrough_32 a1 a2 4096 (gI σ110 35 3) (0 : Int32) (sI σ110 36 ((0 : Int32)).toNatClampNeg (gI σ110 35 3))
set_option maxRecDepth 100000 in
set_option maxHeartbeats 4000000 in
theorem v0_goThrough_119 {g : GT} {X : XT} {a1 : Int32} {a2 : Int32} (hX : OkX g X (m0_goThrough)) (hN : 75 ≤ g.N) {res : Unit × St} (hQ : X.Q = QV g X res.2 ∧ X.cells = 0 ∧ X.slots = 0)  {k32 : Int32 → Int32 → St → Option (Unit × St)} (hk32 : ∀ (x3 : Int32) (x4 : Int32) (σ : St), k32 x3 x4 σ = some res → V g X (m0_goThrough) 32 [(0, .ref (g.ad (35))), (1, .int (a1)), (2, .int (a2)), (3, .int (x3)), (4, .int (x4))] [] σ) (x3 : Int32) (x4 : Int32) (σ : St)  (h : S0_goThrough_119 a1 a2 k32 x3 x4 σ = some res) : V g X (m0_goThrough) 119 [(0, .ref (g.ad (35))), (1, .int (a1)), (2, .int (a2)), (3, .int (x3)), (4, .int (x4))] [] σ := by
  unfold S0_goThrough_119 at h
  refine V_aload_n (q := 120) hX dX0_goThrough_119 0 rfl rfl ?_
  refine V_getF (r := 36) (n := 75) (c := 0) (k := 2) (nf := 6) (C := RX0) (T := TX0) (q := 123) hX rfl rfl iG0 k1_187 rfl rfl ⟨rfl, by decide⟩ hN rfl rfl rfl rfl dX0_goThrough_120 rfl ?_
  refine V_iload (q := 125) hX dX0_goThrough_123 4 rfl rfl ?_
  refine V_iconst (v := 1) (q := 126) hX dX0_goThrough_125 (by decide) rfl ?_
  refine V_iadd (q := 127) hX dX0_goThrough_126 rfl ?_
  refine V_iload_n (q := 128) hX dX0_goThrough_127 3 rfl rfl ?_
  obtain ⟨z85, h⟩ := chk_t h
  refine V_iast (n := 75) (len := 10) (q := 129) hX ⟨rfl, rfl, by decide⟩ hN z85 dX0_goThrough_128 rfl ?_
  refine V_iinc (v := (x4 + 1)) (lv' := [(4, .int ((x4 + 1))), (0, .ref (g.ad (35))), (1, .int (a1)), (2, .int (a2)), (3, .int (x3))]) (q := 132) hX dX0_goThrough_129 4 rfl (by rfl) rfl rfl rfl ?_
  refine V_goto hX dX0_goThrough_132 (q := 32) (by decide) ?_
  refine V.pick [1, 2, 3, 4, 0] rfl ?_
  exact hk32 x3 (x4 + 1) (sI σ 36 ((x4 + (1 : Int32))).toNatClampNeg x3)  h
set_option maxRecDepth 100000 in
set_option maxHeartbeats 4000000 in
theorem v0_goThrough_32n {g : GT} {X : XT} {a1 : Int32} {a2 : Int32} (hX : OkX g X (m0_goThrough)) (hN : 75 ≤ g.N) {res : Unit × St} (hQ : X.Q = QV g X res.2 ∧ X.cells = 0 ∧ X.slots = 0)   (n : Nat) : ∀ (x3 : Int32) (x4 : Int32) (σ : St) , S0_goThrough_32 a1 a2 n x3 x4 σ = some res → V g X (m0_goThrough) 32 [(0, .ref (g.ad (35))), (1, .int (a1)), (2, .int (a2)), (3, .int (x3)), (4, .int (x4))] [] σ := by
  induction n with
  | zero => intro x3 x4 σ; intro h; cases h
  | succ n ih =>
    intro x3 x4 σ h
    have h : B0_goThrough_32 a1 a2 (S0_goThrough_32 a1 a2 n) x3 x4 σ = some res := h
    unfold B0_goThrough_32 at h
    refine V_iload (q := 34) hX dX0_goThrough_32 4 rfl rfl ?_
    refine V_bipush (v := 9) (q := 36) hX dX0_goThrough_34 (by decide) rfl ?_
    refine V_icmp_ge (q := 39) (t := 135) hX dX0_goThrough_36 (by decide) rfl (fun z86 => ?_) (fun z86 => ?_)
    · have h := ite_t z86 h
      refine V_aload_n (q := 136) hX dX0_goThrough_135 0 rfl rfl ?_
      refine V_iload_n (q := 137) hX dX0_goThrough_136 3 rfl rfl ?_
      refine V_iconst (v := 4) (q := 138) hX dX0_goThrough_137 (by decide) rfl ?_
      refine V_isub (q := 139) hX dX0_goThrough_138 rfl ?_
      refine V_putI (n := 75) (c := 0) (k := 5) (nf := 6) (C := RX0) (T := TX0) (q := 142) hX rfl rfl iG0 k1_191 rfl rfl ⟨rfl, by decide⟩ hN rfl tyX0 tyX0_ok nmX0 rfl rfl (ty := .int) (tyX0_ok 5 (by decide)) rfl rfl dX0_goThrough_139 rfl ?_
      obtain ⟨f1, f2⟩ := some2 h
      rw [f2] at hQ
      exact V_vret hX hQ rfl dX0_goThrough_142
    have h := ite_f z86 h
    refine V_iload_n (q := 40) hX dX0_goThrough_39 3 rfl rfl ?_
    refine V_if_le (q := 43) (t := 119) hX dX0_goThrough_40 (by decide) rfl (fun z87 => ?_) (fun z87 => ?_)
    · have h := ite_t z87 h
      refine V.pick [0, 1, 2, 3, 4] rfl ?_
      exact v0_goThrough_119 hX hN hQ ih x3 x4 σ h
    have h := ite_f z87 h
    refine V_iload_n (q := 44) hX dX0_goThrough_43 3 rfl rfl ?_
    refine V_bipush (v := 8) (q := 46) hX dX0_goThrough_44 (by decide) rfl ?_
    refine V_icmp_ge (q := 49) (t := 119) hX dX0_goThrough_46 (by decide) rfl (fun z88 => ?_) (fun z88 => ?_)
    · have h := ite_t z88 h
      refine V.pick [0, 1, 2, 3, 4] rfl ?_
      exact v0_goThrough_119 hX hN hQ ih x3 x4 σ h
    have h := ite_f z88 h
    refine V_iload_n (q := 50) hX dX0_goThrough_49 1 rfl rfl ?_
    refine V_iload (q := 52) hX dX0_goThrough_50 4 rfl rfl ?_
    obtain ⟨r90, σ89, e91, h⟩ := bnd_some h
    refine V_cnI (host := "RingOfStraw") (As := [.int (a1), .int (x4)]) (q := 55) hX (c8_actIn hX.2.2.2.2.1 hN e91) (by decide +kernel) k3_126 k1_1 (cons_g k3_127) (nA := 2) (by decide) rfl rfl rfl rfl rfl dX0_goThrough_52 rfl ?_
    refine V_istore (lv' := [(5, .int (r90)), (0, .ref (g.ad (35))), (1, .int (a1)), (2, .int (a2)), (3, .int (x3)), (4, .int (x4))]) (q := 57) hX dX0_goThrough_55 rfl rfl rfl ?_
    refine V_iload_n (q := 58) hX dX0_goThrough_57 3 rfl rfl ?_
    refine V_iload (q := 60) hX dX0_goThrough_58 5 rfl rfl ?_
    obtain ⟨r93, σ92, e94, h⟩ := bnd_some h
    refine V_cnI (host := "RingOfStraw") (As := [.int (a2), .int (x4)]) (q := 63) hX (c8_actIn hX.2.2.2.2.1 hN e94) (by decide +kernel) k3_126 k1_1 (cons_g k3_127) (nA := 2) (by decide) rfl rfl rfl rfl rfl dX0_goThrough_60 rfl ?_
    refine V_istore (lv' := [(6, .int (r93)), (5, .int (r90)), (0, .ref (g.ad (35))), (1, .int (a1)), (2, .int (a2)), (3, .int (x3)), (4, .int (x4))]) (q := 65) hX dX0_goThrough_63 rfl rfl rfl ?_
    refine V_aload_n (q := 66) hX dX0_goThrough_65 2 rfl rfl ?_
    refine V_getF (r := 37) (n := 75) (c := 0) (k := 0) (nf := 6) (C := RX0) (T := TX0) (q := 69) hX rfl rfl iG0 k1_185 rfl rfl ⟨rfl, by decide⟩ hN rfl rfl rfl rfl dX0_goThrough_66 rfl ?_
    refine V_iload (q := 71) hX dX0_goThrough_69 1 rfl rfl ?_
    refine V_iload (q := 73) hX dX0_goThrough_71 0 rfl rfl ?_
    refine V_iload_n (q := 74) hX dX0_goThrough_73 5 rfl rfl ?_
    obtain ⟨r96, σ95, e97, h⟩ := bnd_some h
    refine V_cvI (n := 75) (c := 4) (nf := 6) (C := RX4) (T := TX4) (As := [.int (r90), .int (r93), .int (x3)]) (q := 77) hX (c4_strength hX.2.2.2.2.1 hN ⟨rfl, by decide⟩ e97) (goodV_of k3_128 k3_129 k3_130 k1_8 (cons_g k3_131)) (nA := 3) (by decide) rfl rfl rfl rfl rfl ⟨rfl, by decide⟩ hN rfl rfl rfl dX0_goThrough_74 rfl ?_
    refine V_istore (lv' := [(7, .int (r96)), (6, .int (r93)), (5, .int (r90)), (0, .ref (g.ad (35))), (1, .int (a1)), (2, .int (a2)), (3, .int (x3)), (4, .int (x4))]) (q := 79) hX dX0_goThrough_77 rfl rfl rfl ?_
    refine V_aload_n (q := 80) hX dX0_goThrough_79 3 rfl rfl ?_
    refine V_getF (r := 43) (n := 75) (c := 0) (k := 1) (nf := 6) (C := RX0) (T := TX0) (q := 83) hX rfl rfl iG0 k1_186 rfl rfl ⟨rfl, by decide⟩ hN rfl rfl rfl rfl dX0_goThrough_80 rfl ?_
    refine V_iload (q := 85) hX dX0_goThrough_83 1 rfl rfl ?_
    refine V_iload (q := 87) hX dX0_goThrough_85 2 rfl rfl ?_
    refine V_bipush (v := 8) (q := 89) hX dX0_goThrough_87 (by decide) rfl ?_
    refine V_iload_n (q := 90) hX dX0_goThrough_89 6 rfl rfl ?_
    refine V_isub (q := 91) hX dX0_goThrough_90 rfl ?_
    obtain ⟨r99, σ98, e100, h⟩ := bnd_some h
    refine V_cvI (n := 75) (c := 4) (nf := 6) (C := RX4) (T := TX4) (As := [.int (r93), .int (r90), .int (((8 : Int32) - x3))]) (q := 94) hX (c4_strength hX.2.2.2.2.1 hN ⟨rfl, by decide⟩ e100) (goodV_of k3_128 k3_129 k3_130 k1_8 (cons_g k3_131)) (nA := 3) (by decide) rfl rfl rfl rfl rfl ⟨rfl, by decide⟩ hN rfl rfl rfl dX0_goThrough_91 rfl ?_
    refine V_istore (lv' := [(8, .int (r99)), (7, .int (r96)), (6, .int (r93)), (5, .int (r90)), (0, .ref (g.ad (35))), (1, .int (a1)), (2, .int (a2)), (3, .int (x3)), (4, .int (x4))]) (q := 96) hX dX0_goThrough_94 rfl rfl rfl ?_
    refine V_aload_n (q := 97) hX dX0_goThrough_96 4 rfl rfl ?_
    refine V_iload_n (q := 98) hX dX0_goThrough_97 7 rfl rfl ?_
    refine V_iload (q := 100) hX dX0_goThrough_98 1 rfl rfl ?_
    refine V_iload (q := 102) hX dX0_goThrough_100 0 rfl rfl ?_
    refine V_isub (q := 103) hX dX0_goThrough_102 rfl ?_
    obtain ⟨r102, σ101, e103, h⟩ := bnd_some h
    refine V_csI (As := [.int ((r96 - r99))]) (q := 106) hX (c0_stepsFor hX.2.2.2.2.1 hN e103) (goodS_of k3_141 k3_142 k1_7 (cons_g k3_143)) (nA := 1) (by decide) rfl rfl rfl rfl rfl dX0_goThrough_103 rfl ?_
    refine V_iadd (q := 107) hX dX0_goThrough_106 rfl ?_
    obtain ⟨r105, σ104, e106, h⟩ := bnd_some h
    refine V_cvI (n := 75) (c := 0) (nf := 6) (C := RX0) (T := TX0) (As := [.int ((x3 + r102))]) (q := 110) hX (c0_cellAtLast hX.2.2.2.2.1 hN e106) (goodV_of k3_147 k3_149 kp_19 k1_7 (cons_g k3_150)) (nA := 1) (by decide) rfl rfl rfl rfl rfl ⟨rfl, by decide⟩ hN rfl rfl rfl dX0_goThrough_107 rfl ?_
    refine V_istore_n (lv' := [(3, .int (r105)), (8, .int (r99)), (7, .int (r96)), (6, .int (r93)), (5, .int (r90)), (0, .ref (g.ad (35))), (1, .int (a1)), (2, .int (a2)), (4, .int (x4))]) (q := 111) hX dX0_goThrough_110 rfl rfl rfl ?_
    refine V_aload_n (q := 112) hX dX0_goThrough_111 5 rfl rfl ?_
    refine V_iload (q := 114) hX dX0_goThrough_112 8 rfl rfl ?_
    refine V_iconst (v := 1) (q := 115) hX dX0_goThrough_114 (by decide) rfl ?_
    refine V_iadd (q := 116) hX dX0_goThrough_115 rfl ?_
    refine V_putI (n := 75) (c := 0) (k := 4) (nf := 6) (C := RX0) (T := TX0) (q := 119) hX rfl rfl iG0 k1_189 rfl rfl ⟨rfl, by decide⟩ hN rfl tyX0 tyX0_ok nmX0 rfl rfl (ty := .int) (tyX0_ok 4 (by decide)) rfl rfl dX0_goThrough_116 rfl ?_
    refine V.pick [5, 6, 7, 0, 8] rfl ?_
    exact v0_goThrough_119 hX hN hQ ih r105 x4 (sI σ104 35 4 (x4 + (1 : Int32))) h
theorem v0_goThrough_32 {g : GT} {X : XT} {a1 : Int32} {a2 : Int32} (hX : OkX g X (m0_goThrough)) (hN : 75 ≤ g.N) {res : Unit × St} (hQ : X.Q = QV g X res.2 ∧ X.cells = 0 ∧ X.slots = 0) (x3 : Int32) (x4 : Int32) (σ : St) (h : S0_goThrough_32 a1 a2 4096 x3 x4 σ = some res) : V g X (m0_goThrough) 32 [(0, .ref (g.ad (35))), (1, .int (a1)), (2, .int (a2)), (3, .int (x3)), (4, .int (x4))] [] σ := v0_goThrough_32n hX hN hQ 4096 x3 x4 σ h
set_option maxRecDepth 100000 in
set_option maxHeartbeats 4000000 in
theorem v0_goThrough {g : GT} {X : XT} {a1 : Int32} {a2 : Int32} (hX : OkX g X (m0_goThrough)) (hN : 75 ≤ g.N) {res : Unit × St} (hQ : X.Q = QV g X res.2 ∧ X.cells = 0 ∧ X.slots = 0) {σ : St} (h : S0_goThrough a1 a2 σ = some res) : V g X (m0_goThrough) 0 [(0, .ref (g.ad (35))), (1, .int (a1)), (2, .int (a2))] [] σ := by
  unfold S0_goThrough at h
  refine V_aload_n (q := 1) hX dX0_goThrough_0 0 rfl rfl ?_
  refine V_getF (r := 37) (n := 75) (c := 0) (k := 0) (nf := 6) (C := RX0) (T := TX0) (q := 4) hX rfl rfl iG0 k1_185 rfl rfl ⟨rfl, by decide⟩ hN rfl rfl rfl rfl dX0_goThrough_1 rfl ?_
  obtain ⟨r108, σ107, e109, h⟩ := bnd_some h
  refine V_cvV (n := 75) (c := 4) (nf := 6) (C := RX4) (T := TX4) (As := []) (q := 7) hX (c4_begins hX.2.2.2.2.1 hN ⟨rfl, by decide⟩ e109) (goodV_of k3_121 k3_122 k3_123 k1_8 (cons_g k3_124)) (nA := 0) (by decide) rfl rfl rfl rfl rfl ⟨rfl, by decide⟩ hN rfl rfl rfl dX0_goThrough_4 rfl ?_
  refine V_aload_n (q := 8) hX dX0_goThrough_7 0 rfl rfl ?_
  refine V_getF (r := 43) (n := 75) (c := 0) (k := 1) (nf := 6) (C := RX0) (T := TX0) (q := 11) hX rfl rfl iG0 k1_186 rfl rfl ⟨rfl, by decide⟩ hN rfl rfl rfl rfl dX0_goThrough_8 rfl ?_
  obtain ⟨r111, σ110, e112, h⟩ := bnd_some h
  refine V_cvV (n := 75) (c := 4) (nf := 6) (C := RX4) (T := TX4) (As := []) (q := 14) hX (c4_begins hX.2.2.2.2.1 hN ⟨rfl, by decide⟩ e112) (goodV_of k3_121 k3_122 k3_123 k1_8 (cons_g k3_124)) (nA := 0) (by decide) rfl rfl rfl rfl rfl ⟨rfl, by decide⟩ hN rfl rfl rfl dX0_goThrough_11 rfl ?_
  refine V_aload_n (q := 15) hX dX0_goThrough_14 0 rfl rfl ?_
  refine V_getI (n := 75) (c := 0) (k := 3) (nf := 6) (C := RX0) (T := TX0) (q := 18) hX rfl rfl iG0 k1_188 rfl rfl ⟨rfl, by decide⟩ hN rfl rfl dX0_goThrough_15 rfl ?_
  refine V_istore_n (lv' := [(3, .int ((gI σ110 35 3))), (0, .ref (g.ad (35))), (1, .int (a1)), (2, .int (a2))]) (q := 19) hX dX0_goThrough_18 rfl rfl rfl ?_
  refine V_aload_n (q := 20) hX dX0_goThrough_19 1 rfl rfl ?_
  refine V_getF (r := 36) (n := 75) (c := 0) (k := 2) (nf := 6) (C := RX0) (T := TX0) (q := 23) hX rfl rfl iG0 k1_187 rfl rfl ⟨rfl, by decide⟩ hN rfl rfl rfl rfl dX0_goThrough_20 rfl ?_
  refine V_iconst (v := 0) (q := 24) hX dX0_goThrough_23 (by decide) rfl ?_
  refine V_aload_n (q := 25) hX dX0_goThrough_24 1 rfl rfl ?_
  refine V_getI (n := 75) (c := 0) (k := 3) (nf := 6) (C := RX0) (T := TX0) (q := 28) hX rfl rfl iG0 k1_188 rfl rfl ⟨rfl, by decide⟩ hN rfl rfl dX0_goThrough_25 rfl ?_
  refine V_iast (n := 75) (len := 10) (q := 29) hX ⟨rfl, rfl, by decide⟩ hN (by show inb _ _; decide) dX0_goThrough_28 rfl ?_
  refine V_iconst (v := 0) (q := 30) hX dX0_goThrough_29 (by decide) rfl ?_
  refine V_istore (lv' := [(4, .int ((0 : Int32))), (3, .int ((gI σ110 35 3))), (0, .ref (g.ad (35))), (1, .int (a1)), (2, .int (a2))]) (q := 32) hX dX0_goThrough_30 rfl rfl rfl ?_
  refine V.pick [2, 3, 4, 1, 0] rfl ?_
  exact v0_goThrough_32 hX hN hQ (gI σ110 35 3) (0 : Int32) (sI σ110 36 ((0 : Int32)).toNatClampNeg (gI σ110 35 3)) h
set_option maxRecDepth 100000 in
set_option maxHeartbeats 4000000 in
theorem c0_goThrough {g : GT} {l : Launch} (hg : OkG g) (hN : 75 ≤ g.N) {a1 : Int32} {a2 : Int32} {σ : St} {r : Unit} {σ' : St} (h : S0_goThrough a1 a2 σ = some (r, σ')) : CtV g l m0_goThrough yX0_goThrough [.ref (g.ad (35)), .int (a1), .int (a2)] σ σ' := CtV.of hg (by decide) rfl rfl (fun X h1 h2 h3 => v0_goThrough h1 hN (res := (r, σ')) h3 h)

abbrev m0_cellBehind : MI := (cX0_cellBehind, RX0, 2, some .int, 2)
def S0_cellBehind (a1 : Int32) (σ : St) : Option (Int32 × St) := bnd (S8_within a1 (0 : Int32) ((10 : Int32) - (1 : Int32)) σ) fun r6 σ5 => if inb r6 10 then (some ((gI σ5 36 (r6).toNatClampNeg), σ5)) else none
set_option maxRecDepth 100000 in
set_option maxHeartbeats 4000000 in
theorem v0_cellBehind {g : GT} {X : XT} {a1 : Int32} (hX : OkX g X (m0_cellBehind)) (hN : 75 ≤ g.N) {res : Int32 × St} (hQ : X.Q = QI g X res.1 res.2 ∧ X.cells = 0 ∧ X.slots = 0) {σ : St} (h : S0_cellBehind a1 σ = some res) : V g X (m0_cellBehind) 0 [(0, .ref (g.ad (35))), (1, .int (a1))] [] σ := by
  unfold S0_cellBehind at h
  refine V_aload_n (q := 1) hX dX0_cellBehind_0 0 rfl rfl ?_
  refine V_getF (r := 36) (n := 75) (c := 0) (k := 2) (nf := 6) (C := RX0) (T := TX0) (q := 4) hX rfl rfl iG0 k1_187 rfl rfl ⟨rfl, by decide⟩ hN rfl rfl rfl rfl dX0_cellBehind_1 rfl ?_
  refine V_iload_n (q := 5) hX dX0_cellBehind_4 1 rfl rfl ?_
  refine V_iconst (v := 0) (q := 6) hX dX0_cellBehind_5 (by decide) rfl ?_
  refine V_aload_n (q := 7) hX dX0_cellBehind_6 0 rfl rfl ?_
  refine V_getF (r := 36) (n := 75) (c := 0) (k := 2) (nf := 6) (C := RX0) (T := TX0) (q := 10) hX rfl rfl iG0 k1_187 rfl rfl ⟨rfl, by decide⟩ hN rfl rfl rfl rfl dX0_cellBehind_7 rfl ?_
  refine V_alen (n := 75) (len := 10) (v := 10) (q := 11) hX ⟨rfl, rfl, by decide⟩ hN (by decide) dX0_cellBehind_10 rfl ?_
  refine V_iconst (v := 1) (q := 12) hX dX0_cellBehind_11 (by decide) rfl ?_
  refine V_isub (q := 13) hX dX0_cellBehind_12 rfl ?_
  obtain ⟨r6, σ5, e7, h⟩ := bnd_some h
  refine V_cnI (host := "RingOfStraw") (As := [.int (a1), .int ((0 : Int32)), .int (((10 : Int32) - (1 : Int32)))]) (q := 16) hX (c8_within hX.2.2.2.2.1 hN e7) (by decide +kernel) k3_35 k1_1 (cons_g k3_36) (nA := 3) (by decide) rfl rfl rfl rfl rfl dX0_cellBehind_13 rfl ?_
  obtain ⟨z8, h⟩ := chk_t h
  refine V_iald (n := 75) (len := 10) (q := 17) hX ⟨rfl, rfl, by decide⟩ hN z8 dX0_cellBehind_16 rfl ?_
  obtain ⟨f1, f2⟩ := some2 h
  rw [f1, f2] at hQ
  exact V_iret hX hQ rfl dX0_cellBehind_17
set_option maxRecDepth 100000 in
set_option maxHeartbeats 4000000 in
theorem c0_cellBehind {g : GT} {l : Launch} (hg : OkG g) (hN : 75 ≤ g.N) {a1 : Int32} {σ : St} {r : Int32} {σ' : St} (h : S0_cellBehind a1 σ = some (r, σ')) : CtI g l m0_cellBehind yX0_cellBehind [.ref (g.ad (35)), .int (a1)] σ r σ' := CtI.of hg (by decide) rfl rfl (fun X h1 h2 h3 => v0_cellBehind h1 hN (res := (r, σ')) h3 h)

abbrev m3_at : MI := (cX3_at, RX3, 2, some .int, 1)
def S3_at (o : Nat) (a1 : Int32) (σ : St) : Option (Int32 × St) := if a1 < 0 then (some ((0 : Int32), σ)) else (if (40 : Int32) ≤ a1 then (some ((0 : Int32), σ)) else (if inb a1 40 then (some ((gI σ (o + 1) (a1).toNatClampNeg), σ)) else none))
set_option maxRecDepth 100000 in
set_option maxHeartbeats 4000000 in
theorem v3_at {g : GT} {X : XT} {o : Nat} {a1 : Int32} (hX : OkX g X (m3_at)) (hN : 75 ≤ g.N) {res : Int32 × St} (hQ : X.Q = QI g X res.1 res.2 ∧ X.cells = 0 ∧ X.slots = 0) (ho : Ob 75 3 o) {σ : St} (h : S3_at o a1 σ = some res) : V g X (m3_at) 0 [(0, .ref (g.ad (o))), (1, .int (a1))] [] σ := by
  unfold S3_at at h
  refine V_iload_n (q := 1) hX dX3_at_0 1 rfl rfl ?_
  refine V_if_lt (q := 4) (t := 22) hX dX3_at_1 (by decide) rfl (fun z4 => ?_) (fun z4 => ?_)
  · have h := ite_t z4 h
    refine V_iconst (v := 0) (q := 23) hX dX3_at_22 (by decide) rfl ?_
    obtain ⟨f1, f2⟩ := some2 h
    rw [f1, f2] at hQ
    exact V_iret hX hQ rfl dX3_at_23
  have h := ite_f z4 h
  refine V_iload_n (q := 5) hX dX3_at_4 1 rfl rfl ?_
  refine V_aload_n (q := 6) hX dX3_at_5 0 rfl rfl ?_
  refine V_getF (r := (o + 1)) (n := 75) (c := 3) (k := 0) (nf := 3) (C := RX3) (T := TX3) (q := 9) hX rfl rfl iG3 k1_212 rfl rfl ho hN rfl rfl rfl (rf3 ho) dX3_at_6 rfl ?_
  refine V_alen (n := 75) (len := 40) (v := 40) (q := 10) hX (ar3 ho) hN (by decide) dX3_at_9 rfl ?_
  refine V_icmp_ge (q := 13) (t := 22) hX dX3_at_10 (by decide) rfl (fun z5 => ?_) (fun z5 => ?_)
  · have h := ite_t z5 h
    refine V_iconst (v := 0) (q := 23) hX dX3_at_22 (by decide) rfl ?_
    obtain ⟨f1, f2⟩ := some2 h
    rw [f1, f2] at hQ
    exact V_iret hX hQ rfl dX3_at_23
  have h := ite_f z5 h
  refine V_aload_n (q := 14) hX dX3_at_13 0 rfl rfl ?_
  refine V_getF (r := (o + 1)) (n := 75) (c := 3) (k := 0) (nf := 3) (C := RX3) (T := TX3) (q := 17) hX rfl rfl iG3 k1_212 rfl rfl ho hN rfl rfl rfl (rf3 ho) dX3_at_14 rfl ?_
  refine V_iload_n (q := 18) hX dX3_at_17 1 rfl rfl ?_
  obtain ⟨z6, h⟩ := chk_t h
  refine V_iald (n := 75) (len := 40) (q := 19) hX (ar3 ho) hN z6 dX3_at_18 rfl ?_
  refine V_goto hX dX3_at_19 (q := 23) (by decide) ?_
  obtain ⟨f1, f2⟩ := some2 h
  rw [f1, f2] at hQ
  exact V_iret hX hQ rfl dX3_at_23
set_option maxRecDepth 100000 in
set_option maxHeartbeats 4000000 in
theorem c3_at {g : GT} {l : Launch} (hg : OkG g) (hN : 75 ≤ g.N) {o : Nat} {a1 : Int32} (ho : Ob 75 3 o) {σ : St} {r : Int32} {σ' : St} (h : S3_at o a1 σ = some (r, σ')) : CtI g l m3_at yX3_at [.ref (g.ad (o)), .int (a1)] σ r σ' := CtI.of hg (by decide) rfl rfl (fun X h1 h2 h3 => v3_at h1 hN (res := (r, σ')) h3 ho h)

abbrev m0_firstOtherwise : MI := (cX0_firstOtherwise, RX0, 3, some .int, 3)
def B0_firstOtherwise_2 (a1 : Nat) (rec : Int32 → St → Option (Int32 × St)) (x2 : Int32) (σ : St) : Option (Int32 × St) := if (gI σ a1 2) ≤ x2 then (some ((-1 : Int32), σ)) else (bnd (S3_at a1 x2 σ) fun r19 σ18 => bnd (S0_cellBehind (x2 + (1 : Int32)) σ18) fun r22 σ21 => if r19 = r22 then (rec (x2 + 1) σ21) else (some (x2, σ21)))
def S0_firstOtherwise_2 (a1 : Nat) : Nat → Int32 → St → Option (Int32 × St)
  | 0, _, _ => none
  | n + 1, x2, σ => B0_firstOtherwise_2 a1 (S0_firstOtherwise_2 a1 n) x2 σ
def S0_firstOtherwise (a1 : Nat) (σ : St) : Option (Int32 × St) := S0_firstOtherwise_2 a1 4096 (0 : Int32) σ
set_option maxRecDepth 100000 in
set_option maxHeartbeats 4000000 in
theorem v0_firstOtherwise_2n {g : GT} {X : XT} {a1 : Nat} (hX : OkX g X (m0_firstOtherwise)) (hN : 75 ≤ g.N) {res : Int32 × St} (hQ : X.Q = QI g X res.1 res.2 ∧ X.cells = 0 ∧ X.slots = 0) (ha1 : Ob 75 3 a1)  (n : Nat) : ∀ (x2 : Int32) (σ : St) , S0_firstOtherwise_2 a1 n x2 σ = some res → V g X (m0_firstOtherwise) 2 [(0, .ref (g.ad (35))), (1, .ref (g.ad (a1))), (2, .int (x2))] [] σ := by
  induction n with
  | zero => intro x2 σ; intro h; cases h
  | succ n ih =>
    intro x2 σ h
    have h : B0_firstOtherwise_2 a1 (S0_firstOtherwise_2 a1 n) x2 σ = some res := h
    unfold B0_firstOtherwise_2 at h
    refine V_iload_n (q := 3) hX dX0_firstOtherwise_2 2 rfl rfl ?_
    refine V_aload_n (q := 4) hX dX0_firstOtherwise_3 1 rfl rfl ?_
    refine V_getI (n := 75) (c := 3) (k := 2) (nf := 3) (C := RX3) (T := TX3) (q := 7) hX rfl rfl iG3 k1_217 rfl rfl ha1 hN rfl rfl dX0_firstOtherwise_4 rfl ?_
    refine V_icmp_ge (q := 10) (t := 33) hX dX0_firstOtherwise_7 (by decide) rfl (fun z17 => ?_) (fun z17 => ?_)
    · have h := ite_t z17 h
      refine V_iconst (v := -1) (q := 34) hX dX0_firstOtherwise_33 (by decide) rfl ?_
      obtain ⟨f1, f2⟩ := some2 h
      rw [f1, f2] at hQ
      exact V_iret hX hQ rfl dX0_firstOtherwise_34
    have h := ite_f z17 h
    refine V_aload_n (q := 11) hX dX0_firstOtherwise_10 1 rfl rfl ?_
    refine V_iload_n (q := 12) hX dX0_firstOtherwise_11 2 rfl rfl ?_
    obtain ⟨r19, σ18, e20, h⟩ := bnd_some h
    refine V_cvI (n := 75) (c := 3) (nf := 3) (C := RX3) (T := TX3) (As := [.int (x2)]) (q := 15) hX (c3_at hX.2.2.2.2.1 hN ha1 e20) (goodV_of k4_33 k3_236 k3_237 k1_9 (cons_g k3_238)) (nA := 1) (by decide) rfl rfl rfl rfl rfl ha1 hN rfl rfl rfl dX0_firstOtherwise_12 rfl ?_
    refine V_aload_n (q := 16) hX dX0_firstOtherwise_15 0 rfl rfl ?_
    refine V_iload_n (q := 17) hX dX0_firstOtherwise_16 2 rfl rfl ?_
    refine V_iconst (v := 1) (q := 18) hX dX0_firstOtherwise_17 (by decide) rfl ?_
    refine V_iadd (q := 19) hX dX0_firstOtherwise_18 rfl ?_
    obtain ⟨r22, σ21, e23, h⟩ := bnd_some h
    refine V_cvI (n := 75) (c := 0) (nf := 6) (C := RX0) (T := TX0) (As := [.int ((x2 + (1 : Int32)))]) (q := 22) hX (c0_cellBehind hX.2.2.2.2.1 hN e23) (goodV_of k4_34 k3_156 k3_157 k1_7 (cons_g k3_158)) (nA := 1) (by decide) rfl rfl rfl rfl rfl ⟨rfl, by decide⟩ hN rfl rfl rfl dX0_firstOtherwise_19 rfl ?_
    refine V_icmp_eq (q := 25) (t := 27) hX dX0_firstOtherwise_22 (by decide) rfl (fun z24 => ?_) (fun z24 => ?_)
    · have h := ite_t z24 h
      refine V_iinc (v := (x2 + 1)) (lv' := [(2, .int ((x2 + 1))), (0, .ref (g.ad (35))), (1, .ref (g.ad (a1)))]) (q := 30) hX dX0_firstOtherwise_27 2 rfl (by rfl) rfl rfl rfl ?_
      refine V_goto hX dX0_firstOtherwise_30 (q := 2) (by decide) ?_
      refine V.pick [1, 2, 0] rfl ?_
      exact ih (x2 + 1) σ21  h
    have h := ite_f z24 h
    refine V_iload_n (q := 26) hX dX0_firstOtherwise_25 2 rfl rfl ?_
    obtain ⟨f1, f2⟩ := some2 h
    rw [f1, f2] at hQ
    exact V_iret hX hQ rfl dX0_firstOtherwise_26
theorem v0_firstOtherwise_2 {g : GT} {X : XT} {a1 : Nat} (hX : OkX g X (m0_firstOtherwise)) (hN : 75 ≤ g.N) {res : Int32 × St} (hQ : X.Q = QI g X res.1 res.2 ∧ X.cells = 0 ∧ X.slots = 0) (ha1 : Ob 75 3 a1) (x2 : Int32) (σ : St) (h : S0_firstOtherwise_2 a1 4096 x2 σ = some res) : V g X (m0_firstOtherwise) 2 [(0, .ref (g.ad (35))), (1, .ref (g.ad (a1))), (2, .int (x2))] [] σ := v0_firstOtherwise_2n hX hN hQ ha1 4096 x2 σ h
set_option maxRecDepth 100000 in
set_option maxHeartbeats 4000000 in
theorem v0_firstOtherwise {g : GT} {X : XT} {a1 : Nat} (hX : OkX g X (m0_firstOtherwise)) (hN : 75 ≤ g.N) {res : Int32 × St} (hQ : X.Q = QI g X res.1 res.2 ∧ X.cells = 0 ∧ X.slots = 0) (ha1 : Ob 75 3 a1) {σ : St} (h : S0_firstOtherwise a1 σ = some res) : V g X (m0_firstOtherwise) 0 [(0, .ref (g.ad (35))), (1, .ref (g.ad (a1)))] [] σ := by
  unfold S0_firstOtherwise at h
  refine V_iconst (v := 0) (q := 1) hX dX0_firstOtherwise_0 (by decide) rfl ?_
  refine V_istore_n (lv' := [(2, .int ((0 : Int32))), (0, .ref (g.ad (35))), (1, .ref (g.ad (a1)))]) (q := 2) hX dX0_firstOtherwise_1 rfl rfl rfl ?_
  refine V.pick [1, 2, 0] rfl ?_
  exact v0_firstOtherwise_2 hX hN hQ ha1 (0 : Int32) σ h
set_option maxRecDepth 100000 in
set_option maxHeartbeats 4000000 in
theorem c0_firstOtherwise {g : GT} {l : Launch} (hg : OkG g) (hN : 75 ≤ g.N) {a1 : Nat} (ha1 : Ob 75 3 a1) {σ : St} {r : Int32} {σ' : St} (h : S0_firstOtherwise a1 σ = some (r, σ')) : CtI g l m0_firstOtherwise yX0_firstOtherwise [.ref (g.ad (35)), .ref (g.ad (a1))] σ r σ' := CtI.of hg (by decide) rfl rfl (fun X h1 h2 h3 => v0_firstOtherwise h1 hN (res := (r, σ')) h3 ha1 h)

abbrev m1_add : MI := (cX1_add, RX1, 2, none, 1)
def S1_add (a1 : Int32) (σ : St) : Option (Unit × St) := if (160 : Int32) ≤ (gI σ 26 1) then (some ((), σ)) else (if inb (gI σ 26 1) 160 then (some ((), (sI (sI σ 27 ((gI σ 26 1)).toNatClampNeg a1) 26 1 ((gI (sI σ 27 ((gI σ 26 1)).toNatClampNeg a1) 26 1) + (1 : Int32))))) else none)
set_option maxRecDepth 100000 in
set_option maxHeartbeats 4000000 in
theorem v1_add {g : GT} {X : XT} {a1 : Int32} (hX : OkX g X (m1_add)) (hN : 75 ≤ g.N) {res : Unit × St} (hQ : X.Q = QV g X res.2 ∧ X.cells = 0 ∧ X.slots = 0) {σ : St} (h : S1_add a1 σ = some res) : V g X (m1_add) 0 [(0, .ref (g.ad (26))), (1, .int (a1))] [] σ := by
  unfold S1_add at h
  refine V_aload_n (q := 1) hX dX1_add_0 0 rfl rfl ?_
  refine V_getI (n := 75) (c := 1) (k := 1) (nf := 7) (C := RX1) (T := TX1) (q := 4) hX rfl rfl iG1 k1_114 rfl rfl ⟨rfl, by decide⟩ hN rfl rfl dX1_add_1 rfl ?_
  refine V_aload_n (q := 5) hX dX1_add_4 0 rfl rfl ?_
  refine V_getF (r := 27) (n := 75) (c := 1) (k := 0) (nf := 7) (C := RX1) (T := TX1) (q := 8) hX rfl rfl iG1 k1_113 rfl rfl ⟨rfl, by decide⟩ hN rfl rfl rfl rfl dX1_add_5 rfl ?_
  refine V_alen (n := 75) (len := 160) (v := 160) (q := 9) hX ⟨rfl, rfl, by decide⟩ hN (by decide) dX1_add_8 rfl ?_
  refine V_icmp_ge (q := 12) (t := 32) hX dX1_add_9 (by decide) rfl (fun z3 => ?_) (fun z3 => ?_)
  · have h := ite_t z3 h
    obtain ⟨f1, f2⟩ := some2 h
    rw [f2] at hQ
    exact V_vret hX hQ rfl dX1_add_32
  have h := ite_f z3 h
  refine V_aload_n (q := 13) hX dX1_add_12 0 rfl rfl ?_
  refine V_getF (r := 27) (n := 75) (c := 1) (k := 0) (nf := 7) (C := RX1) (T := TX1) (q := 16) hX rfl rfl iG1 k1_113 rfl rfl ⟨rfl, by decide⟩ hN rfl rfl rfl rfl dX1_add_13 rfl ?_
  refine V_aload_n (q := 17) hX dX1_add_16 0 rfl rfl ?_
  refine V_getI (n := 75) (c := 1) (k := 1) (nf := 7) (C := RX1) (T := TX1) (q := 20) hX rfl rfl iG1 k1_114 rfl rfl ⟨rfl, by decide⟩ hN rfl rfl dX1_add_17 rfl ?_
  refine V_iload_n (q := 21) hX dX1_add_20 1 rfl rfl ?_
  obtain ⟨z4, h⟩ := chk_t h
  refine V_iast (n := 75) (len := 160) (q := 22) hX ⟨rfl, rfl, by decide⟩ hN z4 dX1_add_21 rfl ?_
  refine V_aload_n (q := 23) hX dX1_add_22 0 rfl rfl ?_
  refine V_dup (q := 24) hX dX1_add_23 rfl rfl ?_
  refine V_getI (n := 75) (c := 1) (k := 1) (nf := 7) (C := RX1) (T := TX1) (q := 27) hX rfl rfl iG1 k1_114 rfl rfl ⟨rfl, by decide⟩ hN rfl rfl dX1_add_24 rfl ?_
  refine V_iconst (v := 1) (q := 28) hX dX1_add_27 (by decide) rfl ?_
  refine V_iadd (q := 29) hX dX1_add_28 rfl ?_
  refine V_putI (n := 75) (c := 1) (k := 1) (nf := 7) (C := RX1) (T := TX1) (q := 32) hX rfl rfl iG1 k1_114 rfl rfl ⟨rfl, by decide⟩ hN rfl tyX1 tyX1_ok nmX1 rfl rfl (ty := .int) (tyX1_ok 1 (by decide)) rfl rfl dX1_add_29 rfl ?_
  obtain ⟨f1, f2⟩ := some2 h
  rw [f2] at hQ
  exact V_vret hX hQ rfl dX1_add_32
set_option maxRecDepth 100000 in
set_option maxHeartbeats 4000000 in
theorem c1_add {g : GT} {l : Launch} (hg : OkG g) (hN : 75 ≤ g.N) {a1 : Int32} {σ : St} {r : Unit} {σ' : St} (h : S1_add a1 σ = some (r, σ')) : CtV g l m1_add yX1_add [.ref (g.ad (26)), .int (a1)] σ σ' := CtV.of hg (by decide) rfl rfl (fun X h1 h2 h3 => v1_add h1 hN (res := (r, σ')) h3 h)

abbrev m1_clear : MI := (cX1_clear, RX1, 1, none, 1)
def S1_clear (σ : St) : Option (Unit × St) := some ((), (sI σ 26 1 (0 : Int32)))
set_option maxRecDepth 100000 in
set_option maxHeartbeats 4000000 in
theorem v1_clear {g : GT} {X : XT} (hX : OkX g X (m1_clear)) (hN : 75 ≤ g.N) {res : Unit × St} (hQ : X.Q = QV g X res.2 ∧ X.cells = 0 ∧ X.slots = 0) {σ : St} (h : S1_clear σ = some res) : V g X (m1_clear) 0 [(0, .ref (g.ad (26)))] [] σ := by
  unfold S1_clear at h
  refine V_aload_n (q := 1) hX dX1_clear_0 0 rfl rfl ?_
  refine V_iconst (v := 0) (q := 2) hX dX1_clear_1 (by decide) rfl ?_
  refine V_putI (n := 75) (c := 1) (k := 1) (nf := 7) (C := RX1) (T := TX1) (q := 5) hX rfl rfl iG1 k1_114 rfl rfl ⟨rfl, by decide⟩ hN rfl tyX1 tyX1_ok nmX1 rfl rfl (ty := .int) (tyX1_ok 1 (by decide)) rfl rfl dX1_clear_2 rfl ?_
  obtain ⟨f1, f2⟩ := some2 h
  rw [f2] at hQ
  exact V_vret hX hQ rfl dX1_clear_5
set_option maxRecDepth 100000 in
set_option maxHeartbeats 4000000 in
theorem c1_clear {g : GT} {l : Launch} (hg : OkG g) (hN : 75 ≤ g.N) {σ : St} {r : Unit} {σ' : St} (h : S1_clear σ = some (r, σ')) : CtV g l m1_clear yX1_clear [.ref (g.ad (26))] σ σ' := CtV.of hg (by decide) rfl rfl (fun X h1 h2 h3 => v1_clear h1 hN (res := (r, σ')) h3 h)

abbrev m1_byteAt : MI := (cX1_byteAt, RX1, 2, some .int, 1)
def S1_byteAt (a1 : Int32) (σ : St) : Option (Int32 × St) := if a1 < 0 then (some ((0 : Int32), σ)) else (if (160 : Int32) ≤ a1 then (some ((0 : Int32), σ)) else (if inb a1 160 then (some ((gI σ 27 (a1).toNatClampNeg), σ)) else none))
set_option maxRecDepth 100000 in
set_option maxHeartbeats 4000000 in
theorem v1_byteAt {g : GT} {X : XT} {a1 : Int32} (hX : OkX g X (m1_byteAt)) (hN : 75 ≤ g.N) {res : Int32 × St} (hQ : X.Q = QI g X res.1 res.2 ∧ X.cells = 0 ∧ X.slots = 0) {σ : St} (h : S1_byteAt a1 σ = some res) : V g X (m1_byteAt) 0 [(0, .ref (g.ad (26))), (1, .int (a1))] [] σ := by
  unfold S1_byteAt at h
  refine V_iload_n (q := 1) hX dX1_byteAt_0 1 rfl rfl ?_
  refine V_if_lt (q := 4) (t := 22) hX dX1_byteAt_1 (by decide) rfl (fun z4 => ?_) (fun z4 => ?_)
  · have h := ite_t z4 h
    refine V_iconst (v := 0) (q := 23) hX dX1_byteAt_22 (by decide) rfl ?_
    obtain ⟨f1, f2⟩ := some2 h
    rw [f1, f2] at hQ
    exact V_iret hX hQ rfl dX1_byteAt_23
  have h := ite_f z4 h
  refine V_iload_n (q := 5) hX dX1_byteAt_4 1 rfl rfl ?_
  refine V_aload_n (q := 6) hX dX1_byteAt_5 0 rfl rfl ?_
  refine V_getF (r := 27) (n := 75) (c := 1) (k := 0) (nf := 7) (C := RX1) (T := TX1) (q := 9) hX rfl rfl iG1 k1_113 rfl rfl ⟨rfl, by decide⟩ hN rfl rfl rfl rfl dX1_byteAt_6 rfl ?_
  refine V_alen (n := 75) (len := 160) (v := 160) (q := 10) hX ⟨rfl, rfl, by decide⟩ hN (by decide) dX1_byteAt_9 rfl ?_
  refine V_icmp_ge (q := 13) (t := 22) hX dX1_byteAt_10 (by decide) rfl (fun z5 => ?_) (fun z5 => ?_)
  · have h := ite_t z5 h
    refine V_iconst (v := 0) (q := 23) hX dX1_byteAt_22 (by decide) rfl ?_
    obtain ⟨f1, f2⟩ := some2 h
    rw [f1, f2] at hQ
    exact V_iret hX hQ rfl dX1_byteAt_23
  have h := ite_f z5 h
  refine V_aload_n (q := 14) hX dX1_byteAt_13 0 rfl rfl ?_
  refine V_getF (r := 27) (n := 75) (c := 1) (k := 0) (nf := 7) (C := RX1) (T := TX1) (q := 17) hX rfl rfl iG1 k1_113 rfl rfl ⟨rfl, by decide⟩ hN rfl rfl rfl rfl dX1_byteAt_14 rfl ?_
  refine V_iload_n (q := 18) hX dX1_byteAt_17 1 rfl rfl ?_
  obtain ⟨z6, h⟩ := chk_t h
  refine V_iald (n := 75) (len := 160) (q := 19) hX ⟨rfl, rfl, by decide⟩ hN z6 dX1_byteAt_18 rfl ?_
  refine V_goto hX dX1_byteAt_19 (q := 23) (by decide) ?_
  obtain ⟨f1, f2⟩ := some2 h
  rw [f1, f2] at hQ
  exact V_iret hX hQ rfl dX1_byteAt_23
set_option maxRecDepth 100000 in
set_option maxHeartbeats 4000000 in
theorem c1_byteAt {g : GT} {l : Launch} (hg : OkG g) (hN : 75 ≤ g.N) {a1 : Int32} {σ : St} {r : Int32} {σ' : St} (h : S1_byteAt a1 σ = some (r, σ')) : CtI g l m1_byteAt yX1_byteAt [.ref (g.ad (26)), .int (a1)] σ r σ' := CtI.of hg (by decide) rfl rfl (fun X h1 h2 h3 => v1_byteAt h1 hN (res := (r, σ')) h3 h)

abbrev m1_isBlank : MI := (cX1_isBlank, RX1, 1, some .boolean, 1)
def S1_isBlank_12 (a0 : Int32) (σ : St) : Option (Int32 × St) := some ((1 : Int32), σ)
def S1_isBlank (a0 : Int32) (σ : St) : Option (Int32 × St) := if a0 = (32 : Int32) then (S1_isBlank_12 a0 σ) else (if a0 = (10 : Int32) then (S1_isBlank_12 a0 σ) else (some ((0 : Int32), σ)))
set_option maxRecDepth 100000 in
set_option maxHeartbeats 4000000 in
theorem v1_isBlank_12 {g : GT} {X : XT} {a0 : Int32} (hX : OkX g X (m1_isBlank)) (hN : 75 ≤ g.N) {res : Int32 × St} (hQ : X.Q = QI g X res.1 res.2 ∧ X.cells = 0 ∧ X.slots = 0)    (σ : St)  (h : S1_isBlank_12 a0 σ = some res) : V g X (m1_isBlank) 12 [] [] σ := by
  unfold S1_isBlank_12 at h
  refine V_iconst (v := 1) (q := 13) hX dX1_isBlank_12 (by decide) rfl ?_
  refine V_goto hX dX1_isBlank_13 (q := 17) (by decide) ?_
  obtain ⟨f1, f2⟩ := some2 h
  rw [f1, f2] at hQ
  exact V_zret (ty := .boolean) hX hQ rfl rfl dX1_isBlank_17
set_option maxRecDepth 100000 in
set_option maxHeartbeats 4000000 in
theorem v1_isBlank {g : GT} {X : XT} {a0 : Int32} (hX : OkX g X (m1_isBlank)) (hN : 75 ≤ g.N) {res : Int32 × St} (hQ : X.Q = QI g X res.1 res.2 ∧ X.cells = 0 ∧ X.slots = 0) {σ : St} (h : S1_isBlank a0 σ = some res) : V g X (m1_isBlank) 0 [(0, .int (a0))] [] σ := by
  unfold S1_isBlank at h
  refine V_iload_n (q := 1) hX dX1_isBlank_0 0 rfl rfl ?_
  refine V_bipush (v := 32) (q := 3) hX dX1_isBlank_1 (by decide) rfl ?_
  refine V_icmp_eq (q := 6) (t := 12) hX dX1_isBlank_3 (by decide) rfl (fun z5 => ?_) (fun z5 => ?_)
  · have h := ite_t z5 h
    refine V.pick [] rfl ?_
    exact v1_isBlank_12 hX hN hQ σ h
  have h := ite_f z5 h
  refine V_iload_n (q := 7) hX dX1_isBlank_6 0 rfl rfl ?_
  refine V_bipush (v := 10) (q := 9) hX dX1_isBlank_7 (by decide) rfl ?_
  refine V_icmp_ne (q := 12) (t := 16) hX dX1_isBlank_9 (by decide) rfl (fun z6 => ?_) (fun z6 => ?_)
  · have h := ite_f z6 h
    refine V_iconst (v := 0) (q := 17) hX dX1_isBlank_16 (by decide) rfl ?_
    obtain ⟨f1, f2⟩ := some2 h
    rw [f1, f2] at hQ
    exact V_zret (ty := .boolean) hX hQ rfl rfl dX1_isBlank_17
  have h := ite_t z6 h
  refine V.pick [] rfl ?_
  exact v1_isBlank_12 hX hN hQ σ h
set_option maxRecDepth 100000 in
set_option maxHeartbeats 4000000 in
theorem c1_isBlank {g : GT} {l : Launch} (hg : OkG g) (hN : 75 ≤ g.N) {a0 : Int32} {σ : St} {r : Int32} {σ' : St} (h : S1_isBlank a0 σ = some (r, σ')) : CtI g l m1_isBlank yX1_isBlank [.int (a0)] σ r σ' := CtI.of hg (by decide) rfl rfl (fun X h1 h2 h3 => v1_isBlank h1 hN (res := (r, σ')) h3 h)

abbrev m1_isLetter : MI := (cX1_isLetter, RX1, 1, some .boolean, 1)
def S1_isLetter (a0 : Int32) (σ : St) : Option (Int32 × St) := if a0 < (97 : Int32) then (some ((0 : Int32), σ)) else (if (122 : Int32) < a0 then (some ((0 : Int32), σ)) else (some ((1 : Int32), σ)))
set_option maxRecDepth 100000 in
set_option maxHeartbeats 4000000 in
theorem v1_isLetter {g : GT} {X : XT} {a0 : Int32} (hX : OkX g X (m1_isLetter)) (hN : 75 ≤ g.N) {res : Int32 × St} (hQ : X.Q = QI g X res.1 res.2 ∧ X.cells = 0 ∧ X.slots = 0) {σ : St} (h : S1_isLetter a0 σ = some res) : V g X (m1_isLetter) 0 [(0, .int (a0))] [] σ := by
  unfold S1_isLetter at h
  refine V_iload_n (q := 1) hX dX1_isLetter_0 0 rfl rfl ?_
  refine V_bipush (v := 97) (q := 3) hX dX1_isLetter_1 (by decide) rfl ?_
  refine V_icmp_lt (q := 6) (t := 16) hX dX1_isLetter_3 (by decide) rfl (fun z3 => ?_) (fun z3 => ?_)
  · have h := ite_t z3 h
    refine V_iconst (v := 0) (q := 17) hX dX1_isLetter_16 (by decide) rfl ?_
    obtain ⟨f1, f2⟩ := some2 h
    rw [f1, f2] at hQ
    exact V_zret (ty := .boolean) hX hQ rfl rfl dX1_isLetter_17
  have h := ite_f z3 h
  refine V_iload_n (q := 7) hX dX1_isLetter_6 0 rfl rfl ?_
  refine V_bipush (v := 122) (q := 9) hX dX1_isLetter_7 (by decide) rfl ?_
  refine V_icmp_gt (q := 12) (t := 16) hX dX1_isLetter_9 (by decide) rfl (fun z4 => ?_) (fun z4 => ?_)
  · have h := ite_t z4 h
    refine V_iconst (v := 0) (q := 17) hX dX1_isLetter_16 (by decide) rfl ?_
    obtain ⟨f1, f2⟩ := some2 h
    rw [f1, f2] at hQ
    exact V_zret (ty := .boolean) hX hQ rfl rfl dX1_isLetter_17
  have h := ite_f z4 h
  refine V_iconst (v := 1) (q := 13) hX dX1_isLetter_12 (by decide) rfl ?_
  refine V_goto hX dX1_isLetter_13 (q := 17) (by decide) ?_
  obtain ⟨f1, f2⟩ := some2 h
  rw [f1, f2] at hQ
  exact V_zret (ty := .boolean) hX hQ rfl rfl dX1_isLetter_17
set_option maxRecDepth 100000 in
set_option maxHeartbeats 4000000 in
theorem c1_isLetter {g : GT} {l : Launch} (hg : OkG g) (hN : 75 ≤ g.N) {a0 : Int32} {σ : St} {r : Int32} {σ' : St} (h : S1_isLetter a0 σ = some (r, σ')) : CtI g l m1_isLetter yX1_isLetter [.int (a0)] σ r σ' := CtI.of hg (by decide) rfl rfl (fun X h1 h2 h3 => v1_isLetter h1 hN (res := (r, σ')) h3 h)

abbrev m1_stepOverWord : MI := (cX1_stepOverWord, RX1, 6, none, 6)
def S1_stepOverWord_159 (k50 : Int32 → Int32 → Int32 → St → Option (Unit × St)) (x1 : Int32) (x2 : Int32) (x3 : Int32) (σ : St) : Option (Unit × St) := k50 x1 x2 (x3 + 1) σ
def S1_stepOverWord_96 (k50 : Int32 → Int32 → Int32 → St → Option (Unit × St)) (x1 : Int32) (x3 : Int32) (s1 : Int32) (σ : St) : Option (Unit × St) := S1_stepOverWord_159 k50 (x1 + 1) (0 : Int32) x3 (sI σ 26 4 s1)
def S1_stepOverWord_158 (k50 : Int32 → Int32 → Int32 → St → Option (Unit × St)) (x1 : Int32) (x3 : Int32) (s0 : Int32) (σ : St) : Option (Unit × St) := S1_stepOverWord_159 k50 x1 s0 x3 σ
def S1_stepOverWord_144 (k50 : Int32 → Int32 → Int32 → St → Option (Unit × St)) (x1 : Int32) (x2 : Int32) (x3 : Int32) (s0 : Int32) (σ : St) : Option (Unit × St) := if s0 = 0 then (S1_stepOverWord_158 k50 x1 x3 (-1 : Int32) σ) else (S1_stepOverWord_158 k50 x1 x3 (x2 + (1 : Int32)) σ)
def S1_stepOverWord_143 (k50 : Int32 → Int32 → Int32 → St → Option (Unit × St)) (x1 : Int32) (x2 : Int32) (x3 : Int32) (σ : St) : Option (Unit × St) := S1_stepOverWord_144 k50 x1 x2 x3 (0 : Int32) σ
def B1_stepOverWord_50 (rec : Int32 → Int32 → Int32 → St → Option (Unit × St)) (x1 : Int32) (x2 : Int32) (x3 : Int32) (σ : St) : Option (Unit × St) := if (60 : Int32) ≤ x3 then (some ((), σ)) else (if inb x3 60 then (if (chS 1 (x3).toNatClampNeg) = (32 : Int32) then (if x2 = ((gI σ 26 3) - (gI σ 26 2)) then (S1_stepOverWord_96 rec x1 x3 x1 σ) else (S1_stepOverWord_96 rec x1 x3 (gI σ 26 4) σ)) else (if x2 < 0 then (S1_stepOverWord_143 rec x1 x2 x3 σ) else (if ((gI σ 26 3) - (gI σ 26 2)) ≤ x2 then (S1_stepOverWord_143 rec x1 x2 x3 σ) else (bnd (S1_byteAt ((gI σ 26 2) + x2) σ) fun r65 σ64 => if r65 = (chS 1 (x3).toNatClampNeg) then (S1_stepOverWord_144 rec x1 x2 x3 (1 : Int32) σ64) else (S1_stepOverWord_143 rec x1 x2 x3 σ64))))) else none)
def S1_stepOverWord_50 : Nat → Int32 → Int32 → Int32 → St → Option (Unit × St)
  | 0, _, _, _, _ => none
  | n + 1, x1, x2, x3, σ => B1_stepOverWord_50 (S1_stepOverWord_50 n) x1 x2 x3 σ
def S1_stepOverWord_37 (σ : St) : Option (Unit × St) := S1_stepOverWord_50 4096 (100 : Int32) (0 : Int32) (0 : Int32) (sI σ 26 4 (-2 : Int32))
def B1_stepOverWord_5 (rec : Int32 → St → Option (Unit × St)) (x1 : Int32) (σ : St) : Option (Unit × St) := if (gI σ 26 1) ≤ x1 then (S1_stepOverWord_37 σ) else (bnd (S1_byteAt x1 σ) fun r71 σ70 => bnd (S1_isLetter r71 σ70) fun r74 σ73 => if r74 = 0 then (S1_stepOverWord_37 σ73) else (rec (x1 + 1) (sI σ73 26 3 (x1 + (1 : Int32)))))
def S1_stepOverWord_5 : Nat → Int32 → St → Option (Unit × St)
  | 0, _, _ => none
  | n + 1, x1, σ => B1_stepOverWord_5 (S1_stepOverWord_5 n) x1 σ
def S1_stepOverWord (σ : St) : Option (Unit × St) := S1_stepOverWord_5 4096 (gI σ 26 2) σ
set_option maxRecDepth 100000 in
set_option maxHeartbeats 4000000 in
theorem v1_stepOverWord_159 {g : GT} {X : XT} (hX : OkX g X (m1_stepOverWord)) (hN : 75 ≤ g.N) {res : Unit × St} (hQ : X.Q = QV g X res.2 ∧ X.cells = 0 ∧ X.slots = 0)  {k50 : Int32 → Int32 → Int32 → St → Option (Unit × St)} (hk50 : ∀ (x1 : Int32) (x2 : Int32) (x3 : Int32) (σ : St), k50 x1 x2 x3 σ = some res → V g X (m1_stepOverWord) 50 [(0, .ref (g.ad (26))), (1, .int (x1)), (2, .int (x2)), (3, .int (x3))] [] σ) (x1 : Int32) (x2 : Int32) (x3 : Int32) (σ : St)  (h : S1_stepOverWord_159 k50 x1 x2 x3 σ = some res) : V g X (m1_stepOverWord) 159 [(0, .ref (g.ad (26))), (1, .int (x1)), (2, .int (x2)), (3, .int (x3))] [] σ := by
  unfold S1_stepOverWord_159 at h
  refine V_iinc (v := (x3 + 1)) (lv' := [(3, .int ((x3 + 1))), (0, .ref (g.ad (26))), (1, .int (x1)), (2, .int (x2))]) (q := 162) hX dX1_stepOverWord_159 3 rfl (by rfl) rfl rfl rfl ?_
  refine V_goto hX dX1_stepOverWord_162 (q := 50) (by decide) ?_
  refine V.pick [1, 2, 3, 0] rfl ?_
  exact hk50 x1 x2 (x3 + 1) σ  h
set_option maxRecDepth 100000 in
set_option maxHeartbeats 4000000 in
theorem v1_stepOverWord_96 {g : GT} {X : XT} (hX : OkX g X (m1_stepOverWord)) (hN : 75 ≤ g.N) {res : Unit × St} (hQ : X.Q = QV g X res.2 ∧ X.cells = 0 ∧ X.slots = 0)  {k50 : Int32 → Int32 → Int32 → St → Option (Unit × St)} (hk50 : ∀ (x1 : Int32) (x2 : Int32) (x3 : Int32) (σ : St), k50 x1 x2 x3 σ = some res → V g X (m1_stepOverWord) 50 [(0, .ref (g.ad (26))), (1, .int (x1)), (2, .int (x2)), (3, .int (x3))] [] σ) (x1 : Int32) (x3 : Int32) (s1 : Int32) (σ : St)  (h : S1_stepOverWord_96 k50 x1 x3 s1 σ = some res) : V g X (m1_stepOverWord) 96 [(0, .ref (g.ad (26))), (1, .int (x1)), (3, .int (x3))] [.int (s1), .ref (g.ad (26))] σ := by
  unfold S1_stepOverWord_96 at h
  refine V_putI (n := 75) (c := 1) (k := 4) (nf := 7) (C := RX1) (T := TX1) (q := 99) hX rfl rfl iG1 k1_118 rfl rfl ⟨rfl, by decide⟩ hN rfl tyX1 tyX1_ok nmX1 rfl rfl (ty := .int) (tyX1_ok 4 (by decide)) rfl rfl dX1_stepOverWord_96 rfl ?_
  refine V_iinc (v := (x1 + 1)) (lv' := [(1, .int ((x1 + 1))), (0, .ref (g.ad (26))), (3, .int (x3))]) (q := 102) hX dX1_stepOverWord_99 1 rfl (by rfl) rfl rfl rfl ?_
  refine V_iconst (v := 0) (q := 103) hX dX1_stepOverWord_102 (by decide) rfl ?_
  refine V_istore_n (lv' := [(2, .int ((0 : Int32))), (1, .int ((x1 + 1))), (0, .ref (g.ad (26))), (3, .int (x3))]) (q := 104) hX dX1_stepOverWord_103 rfl rfl rfl ?_
  refine V_goto hX dX1_stepOverWord_104 (q := 159) (by decide) ?_
  refine V.pick [2, 1, 0, 3] rfl ?_
  exact v1_stepOverWord_159 hX hN hQ hk50 (x1 + 1) (0 : Int32) x3 (sI σ 26 4 s1) h
set_option maxRecDepth 100000 in
set_option maxHeartbeats 4000000 in
theorem v1_stepOverWord_158 {g : GT} {X : XT} (hX : OkX g X (m1_stepOverWord)) (hN : 75 ≤ g.N) {res : Unit × St} (hQ : X.Q = QV g X res.2 ∧ X.cells = 0 ∧ X.slots = 0)  {k50 : Int32 → Int32 → Int32 → St → Option (Unit × St)} (hk50 : ∀ (x1 : Int32) (x2 : Int32) (x3 : Int32) (σ : St), k50 x1 x2 x3 σ = some res → V g X (m1_stepOverWord) 50 [(0, .ref (g.ad (26))), (1, .int (x1)), (2, .int (x2)), (3, .int (x3))] [] σ) (x1 : Int32) (x3 : Int32) (s0 : Int32) (σ : St)  (h : S1_stepOverWord_158 k50 x1 x3 s0 σ = some res) : V g X (m1_stepOverWord) 158 [(0, .ref (g.ad (26))), (1, .int (x1)), (3, .int (x3))] [.int (s0)] σ := by
  unfold S1_stepOverWord_158 at h
  refine V_istore_n (lv' := [(2, .int (s0)), (0, .ref (g.ad (26))), (1, .int (x1)), (3, .int (x3))]) (q := 159) hX dX1_stepOverWord_158 rfl rfl rfl ?_
  refine V.pick [1, 2, 0, 3] rfl ?_
  exact v1_stepOverWord_159 hX hN hQ hk50 x1 s0 x3 σ h
set_option maxRecDepth 100000 in
set_option maxHeartbeats 4000000 in
theorem v1_stepOverWord_144 {g : GT} {X : XT} (hX : OkX g X (m1_stepOverWord)) (hN : 75 ≤ g.N) {res : Unit × St} (hQ : X.Q = QV g X res.2 ∧ X.cells = 0 ∧ X.slots = 0)  {k50 : Int32 → Int32 → Int32 → St → Option (Unit × St)} (hk50 : ∀ (x1 : Int32) (x2 : Int32) (x3 : Int32) (σ : St), k50 x1 x2 x3 σ = some res → V g X (m1_stepOverWord) 50 [(0, .ref (g.ad (26))), (1, .int (x1)), (2, .int (x2)), (3, .int (x3))] [] σ) (x1 : Int32) (x2 : Int32) (x3 : Int32) (s0 : Int32) (σ : St)  (h : S1_stepOverWord_144 k50 x1 x2 x3 s0 σ = some res) : V g X (m1_stepOverWord) 144 [(0, .ref (g.ad (26))), (1, .int (x1)), (2, .int (x2)), (3, .int (x3))] [.int (s0)] σ := by
  unfold S1_stepOverWord_144 at h
  refine V_istore (lv' := [(5, .int (s0)), (0, .ref (g.ad (26))), (1, .int (x1)), (2, .int (x2)), (3, .int (x3))]) (q := 146) hX dX1_stepOverWord_144 rfl rfl rfl ?_
  refine V_iload (q := 148) hX dX1_stepOverWord_146 0 rfl rfl ?_
  refine V_if_eq (q := 151) (t := 157) hX dX1_stepOverWord_148 (by decide) rfl (fun z58 => ?_) (fun z58 => ?_)
  · have h := ite_t z58 h
    refine V_iconst (v := -1) (q := 158) hX dX1_stepOverWord_157 (by decide) rfl ?_
    refine V.pick [1, 2, 4] rfl ?_
    exact v1_stepOverWord_158 hX hN hQ hk50 x1 x3 (-1 : Int32) σ h
  have h := ite_f z58 h
  refine V_iload_n (q := 152) hX dX1_stepOverWord_151 3 rfl rfl ?_
  refine V_iconst (v := 1) (q := 153) hX dX1_stepOverWord_152 (by decide) rfl ?_
  refine V_iadd (q := 154) hX dX1_stepOverWord_153 rfl ?_
  refine V_goto hX dX1_stepOverWord_154 (q := 158) (by decide) ?_
  refine V.pick [1, 2, 4] rfl ?_
  exact v1_stepOverWord_158 hX hN hQ hk50 x1 x3 (x2 + (1 : Int32)) σ h
set_option maxRecDepth 100000 in
set_option maxHeartbeats 4000000 in
theorem v1_stepOverWord_143 {g : GT} {X : XT} (hX : OkX g X (m1_stepOverWord)) (hN : 75 ≤ g.N) {res : Unit × St} (hQ : X.Q = QV g X res.2 ∧ X.cells = 0 ∧ X.slots = 0)  {k50 : Int32 → Int32 → Int32 → St → Option (Unit × St)} (hk50 : ∀ (x1 : Int32) (x2 : Int32) (x3 : Int32) (σ : St), k50 x1 x2 x3 σ = some res → V g X (m1_stepOverWord) 50 [(0, .ref (g.ad (26))), (1, .int (x1)), (2, .int (x2)), (3, .int (x3))] [] σ) (x1 : Int32) (x2 : Int32) (x3 : Int32) (σ : St)  (h : S1_stepOverWord_143 k50 x1 x2 x3 σ = some res) : V g X (m1_stepOverWord) 143 [(0, .ref (g.ad (26))), (1, .int (x1)), (2, .int (x2)), (3, .int (x3))] [] σ := by
  unfold S1_stepOverWord_143 at h
  refine V_iconst (v := 0) (q := 144) hX dX1_stepOverWord_143 (by decide) rfl ?_
  refine V.pick [0, 1, 2, 3] rfl ?_
  exact v1_stepOverWord_144 hX hN hQ hk50 x1 x2 x3 (0 : Int32) σ h
set_option maxRecDepth 100000 in
set_option maxHeartbeats 4000000 in
theorem v1_stepOverWord_50n {g : GT} {X : XT} (hX : OkX g X (m1_stepOverWord)) (hN : 75 ≤ g.N) {res : Unit × St} (hQ : X.Q = QV g X res.2 ∧ X.cells = 0 ∧ X.slots = 0)   (n : Nat) : ∀ (x1 : Int32) (x2 : Int32) (x3 : Int32) (σ : St) , S1_stepOverWord_50 n x1 x2 x3 σ = some res → V g X (m1_stepOverWord) 50 [(0, .ref (g.ad (26))), (1, .int (x1)), (2, .int (x2)), (3, .int (x3))] [] σ := by
  induction n with
  | zero => intro x1 x2 x3 σ; intro h; cases h
  | succ n ih =>
    intro x1 x2 x3 σ h
    have h : B1_stepOverWord_50 (S1_stepOverWord_50 n) x1 x2 x3 σ = some res := h
    unfold B1_stepOverWord_50 at h
    refine V_iload_n (q := 51) hX dX1_stepOverWord_50 3 rfl rfl ?_
    refine V_ldcS1 (q := 53) hX rfl dX1_stepOverWord_51 rfl ?_
    refine V_slen 1 (by decide) (q := 56) hX (v := 60) (by decide) k2_62 rfl rfl dX1_stepOverWord_53 rfl ?_
    refine V_icmp_ge (q := 59) (t := 165) hX dX1_stepOverWord_56 (by decide) rfl (fun z59 => ?_) (fun z59 => ?_)
    · have h := ite_t z59 h
      obtain ⟨f1, f2⟩ := some2 h
      rw [f2] at hQ
      exact V_vret hX hQ rfl dX1_stepOverWord_165
    have h := ite_f z59 h
    refine V_ldcS1 (q := 61) hX rfl dX1_stepOverWord_59 rfl ?_
    refine V_iload_n (q := 62) hX dX1_stepOverWord_61 3 rfl rfl ?_
    obtain ⟨z60, h⟩ := chk_t h
    refine V_schar 1 (by decide) (q := 65) hX k2_63 z60 rfl rfl dX1_stepOverWord_62 rfl ?_
    refine V_istore (lv' := [(4, .int ((chS 1 (x3).toNatClampNeg))), (0, .ref (g.ad (26))), (1, .int (x1)), (2, .int (x2)), (3, .int (x3))]) (q := 67) hX dX1_stepOverWord_65 rfl rfl rfl ?_
    refine V_iload (q := 69) hX dX1_stepOverWord_67 0 rfl rfl ?_
    refine V_bipush (v := 32) (q := 71) hX dX1_stepOverWord_69 (by decide) rfl ?_
    refine V_icmp_ne (q := 74) (t := 107) hX dX1_stepOverWord_71 (by decide) rfl (fun z61 => ?_) (fun z61 => ?_)
    · have h := ite_f z61 h
      refine V_iload_n (q := 108) hX dX1_stepOverWord_107 3 rfl rfl ?_
      refine V_if_lt (q := 111) (t := 143) hX dX1_stepOverWord_108 (by decide) rfl (fun z62 => ?_) (fun z62 => ?_)
      · have h := ite_t z62 h
        refine V.pick [1, 2, 3, 4] rfl ?_
        exact v1_stepOverWord_143 hX hN hQ ih x1 x2 x3 σ h
      have h := ite_f z62 h
      refine V_iload_n (q := 112) hX dX1_stepOverWord_111 3 rfl rfl ?_
      refine V_aload_n (q := 113) hX dX1_stepOverWord_112 1 rfl rfl ?_
      refine V_getI (n := 75) (c := 1) (k := 3) (nf := 7) (C := RX1) (T := TX1) (q := 116) hX rfl rfl iG1 k1_117 rfl rfl ⟨rfl, by decide⟩ hN rfl rfl dX1_stepOverWord_113 rfl ?_
      refine V_aload_n (q := 117) hX dX1_stepOverWord_116 1 rfl rfl ?_
      refine V_getI (n := 75) (c := 1) (k := 2) (nf := 7) (C := RX1) (T := TX1) (q := 120) hX rfl rfl iG1 k1_116 rfl rfl ⟨rfl, by decide⟩ hN rfl rfl dX1_stepOverWord_117 rfl ?_
      refine V_isub (q := 121) hX dX1_stepOverWord_120 rfl ?_
      refine V_icmp_ge (q := 124) (t := 143) hX dX1_stepOverWord_121 (by decide) rfl (fun z63 => ?_) (fun z63 => ?_)
      · have h := ite_t z63 h
        refine V.pick [1, 2, 3, 4] rfl ?_
        exact v1_stepOverWord_143 hX hN hQ ih x1 x2 x3 σ h
      have h := ite_f z63 h
      refine V_aload_n (q := 125) hX dX1_stepOverWord_124 1 rfl rfl ?_
      refine V_aload_n (q := 126) hX dX1_stepOverWord_125 1 rfl rfl ?_
      refine V_getI (n := 75) (c := 1) (k := 2) (nf := 7) (C := RX1) (T := TX1) (q := 129) hX rfl rfl iG1 k1_116 rfl rfl ⟨rfl, by decide⟩ hN rfl rfl dX1_stepOverWord_126 rfl ?_
      refine V_iload_n (q := 130) hX dX1_stepOverWord_129 3 rfl rfl ?_
      refine V_iadd (q := 131) hX dX1_stepOverWord_130 rfl ?_
      obtain ⟨r65, σ64, e66, h⟩ := bnd_some h
      refine V_cvI (n := 75) (c := 1) (nf := 7) (C := RX1) (T := TX1) (As := [.int (((gI σ 26 2) + x2))]) (q := 134) hX (c1_byteAt hX.2.2.2.2.1 hN e66) (goodV_of k2_47 k2_49 kp_1 k1_4 (cons_g k2_50)) (nA := 1) (by decide) rfl rfl rfl rfl rfl ⟨rfl, by decide⟩ hN rfl rfl rfl dX1_stepOverWord_131 rfl ?_
      refine V_iload (q := 136) hX dX1_stepOverWord_134 0 rfl rfl ?_
      refine V_icmp_ne (q := 139) (t := 143) hX dX1_stepOverWord_136 (by decide) rfl (fun z67 => ?_) (fun z67 => ?_)
      · have h := ite_f z67 h
        refine V.pick [1, 2, 3, 4] rfl ?_
        exact v1_stepOverWord_143 hX hN hQ ih x1 x2 x3 σ64 h
      have h := ite_t z67 h
      refine V_iconst (v := 1) (q := 140) hX dX1_stepOverWord_139 (by decide) rfl ?_
      refine V_goto hX dX1_stepOverWord_140 (q := 144) (by decide) ?_
      refine V.pick [1, 2, 3, 4] rfl ?_
      exact v1_stepOverWord_144 hX hN hQ ih x1 x2 x3 (1 : Int32) σ64 h
    have h := ite_t z61 h
    refine V_aload_n (q := 75) hX dX1_stepOverWord_74 1 rfl rfl ?_
    refine V_iload_n (q := 76) hX dX1_stepOverWord_75 3 rfl rfl ?_
    refine V_aload_n (q := 77) hX dX1_stepOverWord_76 1 rfl rfl ?_
    refine V_getI (n := 75) (c := 1) (k := 3) (nf := 7) (C := RX1) (T := TX1) (q := 80) hX rfl rfl iG1 k1_117 rfl rfl ⟨rfl, by decide⟩ hN rfl rfl dX1_stepOverWord_77 rfl ?_
    refine V_aload_n (q := 81) hX dX1_stepOverWord_80 1 rfl rfl ?_
    refine V_getI (n := 75) (c := 1) (k := 2) (nf := 7) (C := RX1) (T := TX1) (q := 84) hX rfl rfl iG1 k1_116 rfl rfl ⟨rfl, by decide⟩ hN rfl rfl dX1_stepOverWord_81 rfl ?_
    refine V_isub (q := 85) hX dX1_stepOverWord_84 rfl ?_
    refine V_icmp_ne (q := 88) (t := 92) hX dX1_stepOverWord_85 (by decide) rfl (fun z68 => ?_) (fun z68 => ?_)
    · have h := ite_f z68 h
      refine V_aload_n (q := 93) hX dX1_stepOverWord_92 1 rfl rfl ?_
      refine V_getI (n := 75) (c := 1) (k := 4) (nf := 7) (C := RX1) (T := TX1) (q := 96) hX rfl rfl iG1 k1_118 rfl rfl ⟨rfl, by decide⟩ hN rfl rfl dX1_stepOverWord_93 rfl ?_
      refine V.pick [1, 2, 4] rfl ?_
      exact v1_stepOverWord_96 hX hN hQ ih x1 x3 (gI σ 26 4) σ h
    have h := ite_t z68 h
    refine V_iload_n (q := 89) hX dX1_stepOverWord_88 2 rfl rfl ?_
    refine V_goto hX dX1_stepOverWord_89 (q := 96) (by decide) ?_
    refine V.pick [1, 2, 4] rfl ?_
    exact v1_stepOverWord_96 hX hN hQ ih x1 x3 x1 σ h
theorem v1_stepOverWord_50 {g : GT} {X : XT} (hX : OkX g X (m1_stepOverWord)) (hN : 75 ≤ g.N) {res : Unit × St} (hQ : X.Q = QV g X res.2 ∧ X.cells = 0 ∧ X.slots = 0) (x1 : Int32) (x2 : Int32) (x3 : Int32) (σ : St) (h : S1_stepOverWord_50 4096 x1 x2 x3 σ = some res) : V g X (m1_stepOverWord) 50 [(0, .ref (g.ad (26))), (1, .int (x1)), (2, .int (x2)), (3, .int (x3))] [] σ := v1_stepOverWord_50n hX hN hQ 4096 x1 x2 x3 σ h
set_option maxRecDepth 100000 in
set_option maxHeartbeats 4000000 in
theorem v1_stepOverWord_37 {g : GT} {X : XT} (hX : OkX g X (m1_stepOverWord)) (hN : 75 ≤ g.N) {res : Unit × St} (hQ : X.Q = QV g X res.2 ∧ X.cells = 0 ∧ X.slots = 0)    (σ : St)  (h : S1_stepOverWord_37 σ = some res) : V g X (m1_stepOverWord) 37 [(0, .ref (g.ad (26)))] [] σ := by
  unfold S1_stepOverWord_37 at h
  refine V_aload_n (q := 38) hX dX1_stepOverWord_37 0 rfl rfl ?_
  refine V_bipush (v := -2) (q := 40) hX dX1_stepOverWord_38 (by decide) rfl ?_
  refine V_putI (n := 75) (c := 1) (k := 4) (nf := 7) (C := RX1) (T := TX1) (q := 43) hX rfl rfl iG1 k1_118 rfl rfl ⟨rfl, by decide⟩ hN rfl tyX1 tyX1_ok nmX1 rfl rfl (ty := .int) (tyX1_ok 4 (by decide)) rfl rfl dX1_stepOverWord_40 rfl ?_
  refine V_bipush (v := 100) (q := 45) hX dX1_stepOverWord_43 (by decide) rfl ?_
  refine V_istore_n (lv' := [(1, .int ((100 : Int32))), (0, .ref (g.ad (26)))]) (q := 46) hX dX1_stepOverWord_45 rfl rfl rfl ?_
  refine V_iconst (v := 0) (q := 47) hX dX1_stepOverWord_46 (by decide) rfl ?_
  refine V_istore_n (lv' := [(2, .int ((0 : Int32))), (1, .int ((100 : Int32))), (0, .ref (g.ad (26)))]) (q := 48) hX dX1_stepOverWord_47 rfl rfl rfl ?_
  refine V_iconst (v := 0) (q := 49) hX dX1_stepOverWord_48 (by decide) rfl ?_
  refine V_istore_n (lv' := [(3, .int ((0 : Int32))), (2, .int ((0 : Int32))), (1, .int ((100 : Int32))), (0, .ref (g.ad (26)))]) (q := 50) hX dX1_stepOverWord_49 rfl rfl rfl ?_
  refine V.pick [3, 2, 1, 0] rfl ?_
  exact v1_stepOverWord_50 hX hN hQ (100 : Int32) (0 : Int32) (0 : Int32) (sI σ 26 4 (-2 : Int32)) h
set_option maxRecDepth 100000 in
set_option maxHeartbeats 4000000 in
theorem v1_stepOverWord_5n {g : GT} {X : XT} (hX : OkX g X (m1_stepOverWord)) (hN : 75 ≤ g.N) {res : Unit × St} (hQ : X.Q = QV g X res.2 ∧ X.cells = 0 ∧ X.slots = 0)   (n : Nat) : ∀ (x1 : Int32) (σ : St) , S1_stepOverWord_5 n x1 σ = some res → V g X (m1_stepOverWord) 5 [(0, .ref (g.ad (26))), (1, .int (x1))] [] σ := by
  induction n with
  | zero => intro x1 σ; intro h; cases h
  | succ n ih =>
    intro x1 σ h
    have h : B1_stepOverWord_5 (S1_stepOverWord_5 n) x1 σ = some res := h
    unfold B1_stepOverWord_5 at h
    refine V_iload_n (q := 6) hX dX1_stepOverWord_5 1 rfl rfl ?_
    refine V_aload_n (q := 7) hX dX1_stepOverWord_6 0 rfl rfl ?_
    refine V_getI (n := 75) (c := 1) (k := 1) (nf := 7) (C := RX1) (T := TX1) (q := 10) hX rfl rfl iG1 k1_114 rfl rfl ⟨rfl, by decide⟩ hN rfl rfl dX1_stepOverWord_7 rfl ?_
    refine V_icmp_ge (q := 13) (t := 37) hX dX1_stepOverWord_10 (by decide) rfl (fun z69 => ?_) (fun z69 => ?_)
    · have h := ite_t z69 h
      refine V.pick [0] rfl ?_
      exact v1_stepOverWord_37 hX hN hQ σ h
    have h := ite_f z69 h
    refine V_aload_n (q := 14) hX dX1_stepOverWord_13 0 rfl rfl ?_
    refine V_iload_n (q := 15) hX dX1_stepOverWord_14 1 rfl rfl ?_
    obtain ⟨r71, σ70, e72, h⟩ := bnd_some h
    refine V_cvI (n := 75) (c := 1) (nf := 7) (C := RX1) (T := TX1) (As := [.int (x1)]) (q := 18) hX (c1_byteAt hX.2.2.2.2.1 hN e72) (goodV_of k2_47 k2_49 kp_1 k1_4 (cons_g k2_50)) (nA := 1) (by decide) rfl rfl rfl rfl rfl ⟨rfl, by decide⟩ hN rfl rfl rfl dX1_stepOverWord_15 rfl ?_
    obtain ⟨r74, σ73, e75, h⟩ := bnd_some h
    refine V_csI (As := [.int (r71)]) (q := 21) hX (c1_isLetter hX.2.2.2.2.1 hN e75) (goodS_of k2_54 k2_55 k1_4 (cons_g k2_56)) (nA := 1) (by decide) rfl rfl rfl rfl rfl dX1_stepOverWord_18 rfl ?_
    refine V_if_eq (q := 24) (t := 37) hX dX1_stepOverWord_21 (by decide) rfl (fun z76 => ?_) (fun z76 => ?_)
    · have h := ite_t z76 h
      refine V.pick [0] rfl ?_
      exact v1_stepOverWord_37 hX hN hQ σ73 h
    have h := ite_f z76 h
    refine V_aload_n (q := 25) hX dX1_stepOverWord_24 0 rfl rfl ?_
    refine V_iload_n (q := 26) hX dX1_stepOverWord_25 1 rfl rfl ?_
    refine V_iconst (v := 1) (q := 27) hX dX1_stepOverWord_26 (by decide) rfl ?_
    refine V_iadd (q := 28) hX dX1_stepOverWord_27 rfl ?_
    refine V_putI (n := 75) (c := 1) (k := 3) (nf := 7) (C := RX1) (T := TX1) (q := 31) hX rfl rfl iG1 k1_117 rfl rfl ⟨rfl, by decide⟩ hN rfl tyX1 tyX1_ok nmX1 rfl rfl (ty := .int) (tyX1_ok 3 (by decide)) rfl rfl dX1_stepOverWord_28 rfl ?_
    refine V_iinc (v := (x1 + 1)) (lv' := [(1, .int ((x1 + 1))), (0, .ref (g.ad (26)))]) (q := 34) hX dX1_stepOverWord_31 1 rfl (by rfl) rfl rfl rfl ?_
    refine V_goto hX dX1_stepOverWord_34 (q := 5) (by decide) ?_
    refine V.pick [1, 0] rfl ?_
    exact ih (x1 + 1) (sI σ73 26 3 (x1 + (1 : Int32)))  h
theorem v1_stepOverWord_5 {g : GT} {X : XT} (hX : OkX g X (m1_stepOverWord)) (hN : 75 ≤ g.N) {res : Unit × St} (hQ : X.Q = QV g X res.2 ∧ X.cells = 0 ∧ X.slots = 0) (x1 : Int32) (σ : St) (h : S1_stepOverWord_5 4096 x1 σ = some res) : V g X (m1_stepOverWord) 5 [(0, .ref (g.ad (26))), (1, .int (x1))] [] σ := v1_stepOverWord_5n hX hN hQ 4096 x1 σ h
set_option maxRecDepth 100000 in
set_option maxHeartbeats 4000000 in
theorem v1_stepOverWord {g : GT} {X : XT} (hX : OkX g X (m1_stepOverWord)) (hN : 75 ≤ g.N) {res : Unit × St} (hQ : X.Q = QV g X res.2 ∧ X.cells = 0 ∧ X.slots = 0) {σ : St} (h : S1_stepOverWord σ = some res) : V g X (m1_stepOverWord) 0 [(0, .ref (g.ad (26)))] [] σ := by
  unfold S1_stepOverWord at h
  refine V_aload_n (q := 1) hX dX1_stepOverWord_0 0 rfl rfl ?_
  refine V_getI (n := 75) (c := 1) (k := 2) (nf := 7) (C := RX1) (T := TX1) (q := 4) hX rfl rfl iG1 k1_116 rfl rfl ⟨rfl, by decide⟩ hN rfl rfl dX1_stepOverWord_1 rfl ?_
  refine V_istore_n (lv' := [(1, .int ((gI σ 26 2))), (0, .ref (g.ad (26)))]) (q := 5) hX dX1_stepOverWord_4 rfl rfl rfl ?_
  refine V.pick [1, 0] rfl ?_
  exact v1_stepOverWord_5 hX hN hQ (gI σ 26 2) σ h
set_option maxRecDepth 100000 in
set_option maxHeartbeats 4000000 in
theorem c1_stepOverWord {g : GT} {l : Launch} (hg : OkG g) (hN : 75 ≤ g.N) {σ : St} {r : Unit} {σ' : St} (h : S1_stepOverWord σ = some (r, σ')) : CtV g l m1_stepOverWord yX1_stepOverWord [.ref (g.ad (26))] σ σ' := CtV.of hg (by decide) rfl rfl (fun X h1 h2 h3 => v1_stepOverWord h1 hN (res := (r, σ')) h3 h)

abbrev m1_isDigit : MI := (cX1_isDigit, RX1, 1, some .boolean, 1)
def S1_isDigit (a0 : Int32) (σ : St) : Option (Int32 × St) := if a0 < (48 : Int32) then (some ((0 : Int32), σ)) else (if (57 : Int32) < a0 then (some ((0 : Int32), σ)) else (some ((1 : Int32), σ)))
set_option maxRecDepth 100000 in
set_option maxHeartbeats 4000000 in
theorem v1_isDigit {g : GT} {X : XT} {a0 : Int32} (hX : OkX g X (m1_isDigit)) (hN : 75 ≤ g.N) {res : Int32 × St} (hQ : X.Q = QI g X res.1 res.2 ∧ X.cells = 0 ∧ X.slots = 0) {σ : St} (h : S1_isDigit a0 σ = some res) : V g X (m1_isDigit) 0 [(0, .int (a0))] [] σ := by
  unfold S1_isDigit at h
  refine V_iload_n (q := 1) hX dX1_isDigit_0 0 rfl rfl ?_
  refine V_bipush (v := 48) (q := 3) hX dX1_isDigit_1 (by decide) rfl ?_
  refine V_icmp_lt (q := 6) (t := 16) hX dX1_isDigit_3 (by decide) rfl (fun z3 => ?_) (fun z3 => ?_)
  · have h := ite_t z3 h
    refine V_iconst (v := 0) (q := 17) hX dX1_isDigit_16 (by decide) rfl ?_
    obtain ⟨f1, f2⟩ := some2 h
    rw [f1, f2] at hQ
    exact V_zret (ty := .boolean) hX hQ rfl rfl dX1_isDigit_17
  have h := ite_f z3 h
  refine V_iload_n (q := 7) hX dX1_isDigit_6 0 rfl rfl ?_
  refine V_bipush (v := 57) (q := 9) hX dX1_isDigit_7 (by decide) rfl ?_
  refine V_icmp_gt (q := 12) (t := 16) hX dX1_isDigit_9 (by decide) rfl (fun z4 => ?_) (fun z4 => ?_)
  · have h := ite_t z4 h
    refine V_iconst (v := 0) (q := 17) hX dX1_isDigit_16 (by decide) rfl ?_
    obtain ⟨f1, f2⟩ := some2 h
    rw [f1, f2] at hQ
    exact V_zret (ty := .boolean) hX hQ rfl rfl dX1_isDigit_17
  have h := ite_f z4 h
  refine V_iconst (v := 1) (q := 13) hX dX1_isDigit_12 (by decide) rfl ?_
  refine V_goto hX dX1_isDigit_13 (q := 17) (by decide) ?_
  obtain ⟨f1, f2⟩ := some2 h
  rw [f1, f2] at hQ
  exact V_zret (ty := .boolean) hX hQ rfl rfl dX1_isDigit_17
set_option maxRecDepth 100000 in
set_option maxHeartbeats 4000000 in
theorem c1_isDigit {g : GT} {l : Launch} (hg : OkG g) (hN : 75 ≤ g.N) {a0 : Int32} {σ : St} {r : Int32} {σ' : St} (h : S1_isDigit a0 σ = some (r, σ')) : CtI g l m1_isDigit yX1_isDigit [.int (a0)] σ r σ' := CtI.of hg (by decide) rfl rfl (fun X h1 h2 h3 => v1_isDigit h1 hN (res := (r, σ')) h3 h)

abbrev m1_stepOverNumber : MI := (cX1_stepOverNumber, RX1, 2, none, 2)
def S1_stepOverNumber_82 (s1 : Int32) (σ : St) : Option (Unit × St) := some ((), (sI σ 26 4 s1))
def S1_stepOverNumber_62 (σ : St) : Option (Unit × St) := if (4 : Int32) < ((gI σ 26 3) - (gI σ 26 2)) then (S1_stepOverNumber_82 (-2 : Int32) σ) else (S1_stepOverNumber_82 (1 : Int32) σ)
def B1_stepOverNumber_10 (rec : Int32 → St → Option (Unit × St)) (x1 : Int32) (σ : St) : Option (Unit × St) := if (gI σ 26 1) ≤ x1 then (S1_stepOverNumber_62 σ) else (bnd (S1_byteAt x1 σ) fun r28 σ27 => bnd (S1_isDigit r28 σ27) fun r31 σ30 => if r31 = 0 then (S1_stepOverNumber_62 σ30) else (bnd (S1_byteAt x1 σ30) fun r35 σ34 => rec (x1 + 1) (sI (sI σ34 26 5 ((((10 : Int32) * (gI σ30 26 5)) + r35) - (48 : Int32))) 26 3 (x1 + (1 : Int32)))))
def S1_stepOverNumber_10 : Nat → Int32 → St → Option (Unit × St)
  | 0, _, _ => none
  | n + 1, x1, σ => B1_stepOverNumber_10 (S1_stepOverNumber_10 n) x1 σ
def S1_stepOverNumber (σ : St) : Option (Unit × St) := S1_stepOverNumber_10 4096 (gI (sI σ 26 5 (0 : Int32)) 26 2) (sI σ 26 5 (0 : Int32))
set_option maxRecDepth 100000 in
set_option maxHeartbeats 4000000 in
theorem v1_stepOverNumber_82 {g : GT} {X : XT} (hX : OkX g X (m1_stepOverNumber)) (hN : 75 ≤ g.N) {res : Unit × St} (hQ : X.Q = QV g X res.2 ∧ X.cells = 0 ∧ X.slots = 0)   (s1 : Int32) (σ : St)  (h : S1_stepOverNumber_82 s1 σ = some res) : V g X (m1_stepOverNumber) 82 [] [.int (s1), .ref (g.ad (26))] σ := by
  unfold S1_stepOverNumber_82 at h
  refine V_putI (n := 75) (c := 1) (k := 4) (nf := 7) (C := RX1) (T := TX1) (q := 85) hX rfl rfl iG1 k1_118 rfl rfl ⟨rfl, by decide⟩ hN rfl tyX1 tyX1_ok nmX1 rfl rfl (ty := .int) (tyX1_ok 4 (by decide)) rfl rfl dX1_stepOverNumber_82 rfl ?_
  obtain ⟨f1, f2⟩ := some2 h
  rw [f2] at hQ
  exact V_vret hX hQ rfl dX1_stepOverNumber_85
set_option maxRecDepth 100000 in
set_option maxHeartbeats 4000000 in
theorem v1_stepOverNumber_62 {g : GT} {X : XT} (hX : OkX g X (m1_stepOverNumber)) (hN : 75 ≤ g.N) {res : Unit × St} (hQ : X.Q = QV g X res.2 ∧ X.cells = 0 ∧ X.slots = 0)    (σ : St)  (h : S1_stepOverNumber_62 σ = some res) : V g X (m1_stepOverNumber) 62 [(0, .ref (g.ad (26)))] [] σ := by
  unfold S1_stepOverNumber_62 at h
  refine V_aload_n (q := 63) hX dX1_stepOverNumber_62 0 rfl rfl ?_
  refine V_aload_n (q := 64) hX dX1_stepOverNumber_63 0 rfl rfl ?_
  refine V_getI (n := 75) (c := 1) (k := 3) (nf := 7) (C := RX1) (T := TX1) (q := 67) hX rfl rfl iG1 k1_117 rfl rfl ⟨rfl, by decide⟩ hN rfl rfl dX1_stepOverNumber_64 rfl ?_
  refine V_aload_n (q := 68) hX dX1_stepOverNumber_67 0 rfl rfl ?_
  refine V_getI (n := 75) (c := 1) (k := 2) (nf := 7) (C := RX1) (T := TX1) (q := 71) hX rfl rfl iG1 k1_116 rfl rfl ⟨rfl, by decide⟩ hN rfl rfl dX1_stepOverNumber_68 rfl ?_
  refine V_isub (q := 72) hX dX1_stepOverNumber_71 rfl ?_
  refine V_iconst (v := 4) (q := 73) hX dX1_stepOverNumber_72 (by decide) rfl ?_
  refine V_icmp_gt (q := 76) (t := 80) hX dX1_stepOverNumber_73 (by decide) rfl (fun z25 => ?_) (fun z25 => ?_)
  · have h := ite_t z25 h
    refine V_bipush (v := -2) (q := 82) hX dX1_stepOverNumber_80 (by decide) rfl ?_
    refine V.pick [] rfl ?_
    exact v1_stepOverNumber_82 hX hN hQ (-2 : Int32) σ h
  have h := ite_f z25 h
  refine V_iconst (v := 1) (q := 77) hX dX1_stepOverNumber_76 (by decide) rfl ?_
  refine V_goto hX dX1_stepOverNumber_77 (q := 82) (by decide) ?_
  refine V.pick [] rfl ?_
  exact v1_stepOverNumber_82 hX hN hQ (1 : Int32) σ h
set_option maxRecDepth 100000 in
set_option maxHeartbeats 4000000 in
theorem v1_stepOverNumber_10n {g : GT} {X : XT} (hX : OkX g X (m1_stepOverNumber)) (hN : 75 ≤ g.N) {res : Unit × St} (hQ : X.Q = QV g X res.2 ∧ X.cells = 0 ∧ X.slots = 0)   (n : Nat) : ∀ (x1 : Int32) (σ : St) , S1_stepOverNumber_10 n x1 σ = some res → V g X (m1_stepOverNumber) 10 [(0, .ref (g.ad (26))), (1, .int (x1))] [] σ := by
  induction n with
  | zero => intro x1 σ; intro h; cases h
  | succ n ih =>
    intro x1 σ h
    have h : B1_stepOverNumber_10 (S1_stepOverNumber_10 n) x1 σ = some res := h
    unfold B1_stepOverNumber_10 at h
    refine V_iload_n (q := 11) hX dX1_stepOverNumber_10 1 rfl rfl ?_
    refine V_aload_n (q := 12) hX dX1_stepOverNumber_11 0 rfl rfl ?_
    refine V_getI (n := 75) (c := 1) (k := 1) (nf := 7) (C := RX1) (T := TX1) (q := 15) hX rfl rfl iG1 k1_114 rfl rfl ⟨rfl, by decide⟩ hN rfl rfl dX1_stepOverNumber_12 rfl ?_
    refine V_icmp_ge (q := 18) (t := 62) hX dX1_stepOverNumber_15 (by decide) rfl (fun z26 => ?_) (fun z26 => ?_)
    · have h := ite_t z26 h
      refine V.pick [0] rfl ?_
      exact v1_stepOverNumber_62 hX hN hQ σ h
    have h := ite_f z26 h
    refine V_aload_n (q := 19) hX dX1_stepOverNumber_18 0 rfl rfl ?_
    refine V_iload_n (q := 20) hX dX1_stepOverNumber_19 1 rfl rfl ?_
    obtain ⟨r28, σ27, e29, h⟩ := bnd_some h
    refine V_cvI (n := 75) (c := 1) (nf := 7) (C := RX1) (T := TX1) (As := [.int (x1)]) (q := 23) hX (c1_byteAt hX.2.2.2.2.1 hN e29) (goodV_of k2_47 k2_49 kp_1 k1_4 (cons_g k2_50)) (nA := 1) (by decide) rfl rfl rfl rfl rfl ⟨rfl, by decide⟩ hN rfl rfl rfl dX1_stepOverNumber_20 rfl ?_
    obtain ⟨r31, σ30, e32, h⟩ := bnd_some h
    refine V_csI (As := [.int (r28)]) (q := 26) hX (c1_isDigit hX.2.2.2.2.1 hN e32) (goodS_of k2_64 k2_65 k1_4 (cons_g k2_66)) (nA := 1) (by decide) rfl rfl rfl rfl rfl dX1_stepOverNumber_23 rfl ?_
    refine V_if_eq (q := 29) (t := 62) hX dX1_stepOverNumber_26 (by decide) rfl (fun z33 => ?_) (fun z33 => ?_)
    · have h := ite_t z33 h
      refine V.pick [0] rfl ?_
      exact v1_stepOverNumber_62 hX hN hQ σ30 h
    have h := ite_f z33 h
    refine V_aload_n (q := 30) hX dX1_stepOverNumber_29 0 rfl rfl ?_
    refine V_bipush (v := 10) (q := 32) hX dX1_stepOverNumber_30 (by decide) rfl ?_
    refine V_aload_n (q := 33) hX dX1_stepOverNumber_32 0 rfl rfl ?_
    refine V_getI (n := 75) (c := 1) (k := 5) (nf := 7) (C := RX1) (T := TX1) (q := 36) hX rfl rfl iG1 k1_119 rfl rfl ⟨rfl, by decide⟩ hN rfl rfl dX1_stepOverNumber_33 rfl ?_
    refine V_imul (q := 37) hX dX1_stepOverNumber_36 rfl ?_
    refine V_aload_n (q := 38) hX dX1_stepOverNumber_37 0 rfl rfl ?_
    refine V_iload_n (q := 39) hX dX1_stepOverNumber_38 1 rfl rfl ?_
    obtain ⟨r35, σ34, e36, h⟩ := bnd_some h
    refine V_cvI (n := 75) (c := 1) (nf := 7) (C := RX1) (T := TX1) (As := [.int (x1)]) (q := 42) hX (c1_byteAt hX.2.2.2.2.1 hN e36) (goodV_of k2_47 k2_49 kp_1 k1_4 (cons_g k2_50)) (nA := 1) (by decide) rfl rfl rfl rfl rfl ⟨rfl, by decide⟩ hN rfl rfl rfl dX1_stepOverNumber_39 rfl ?_
    refine V_iadd (q := 43) hX dX1_stepOverNumber_42 rfl ?_
    refine V_bipush (v := 48) (q := 45) hX dX1_stepOverNumber_43 (by decide) rfl ?_
    refine V_isub (q := 46) hX dX1_stepOverNumber_45 rfl ?_
    refine V_putI (n := 75) (c := 1) (k := 5) (nf := 7) (C := RX1) (T := TX1) (q := 49) hX rfl rfl iG1 k1_119 rfl rfl ⟨rfl, by decide⟩ hN rfl tyX1 tyX1_ok nmX1 rfl rfl (ty := .int) (tyX1_ok 5 (by decide)) rfl rfl dX1_stepOverNumber_46 rfl ?_
    refine V_aload_n (q := 50) hX dX1_stepOverNumber_49 0 rfl rfl ?_
    refine V_iload_n (q := 51) hX dX1_stepOverNumber_50 1 rfl rfl ?_
    refine V_iconst (v := 1) (q := 52) hX dX1_stepOverNumber_51 (by decide) rfl ?_
    refine V_iadd (q := 53) hX dX1_stepOverNumber_52 rfl ?_
    refine V_putI (n := 75) (c := 1) (k := 3) (nf := 7) (C := RX1) (T := TX1) (q := 56) hX rfl rfl iG1 k1_117 rfl rfl ⟨rfl, by decide⟩ hN rfl tyX1 tyX1_ok nmX1 rfl rfl (ty := .int) (tyX1_ok 3 (by decide)) rfl rfl dX1_stepOverNumber_53 rfl ?_
    refine V_iinc (v := (x1 + 1)) (lv' := [(1, .int ((x1 + 1))), (0, .ref (g.ad (26)))]) (q := 59) hX dX1_stepOverNumber_56 1 rfl (by rfl) rfl rfl rfl ?_
    refine V_goto hX dX1_stepOverNumber_59 (q := 10) (by decide) ?_
    refine V.pick [1, 0] rfl ?_
    exact ih (x1 + 1) (sI (sI σ34 26 5 ((((10 : Int32) * (gI σ30 26 5)) + r35) - (48 : Int32))) 26 3 (x1 + (1 : Int32)))  h
theorem v1_stepOverNumber_10 {g : GT} {X : XT} (hX : OkX g X (m1_stepOverNumber)) (hN : 75 ≤ g.N) {res : Unit × St} (hQ : X.Q = QV g X res.2 ∧ X.cells = 0 ∧ X.slots = 0) (x1 : Int32) (σ : St) (h : S1_stepOverNumber_10 4096 x1 σ = some res) : V g X (m1_stepOverNumber) 10 [(0, .ref (g.ad (26))), (1, .int (x1))] [] σ := v1_stepOverNumber_10n hX hN hQ 4096 x1 σ h
set_option maxRecDepth 100000 in
set_option maxHeartbeats 4000000 in
theorem v1_stepOverNumber {g : GT} {X : XT} (hX : OkX g X (m1_stepOverNumber)) (hN : 75 ≤ g.N) {res : Unit × St} (hQ : X.Q = QV g X res.2 ∧ X.cells = 0 ∧ X.slots = 0) {σ : St} (h : S1_stepOverNumber σ = some res) : V g X (m1_stepOverNumber) 0 [(0, .ref (g.ad (26)))] [] σ := by
  unfold S1_stepOverNumber at h
  refine V_aload_n (q := 1) hX dX1_stepOverNumber_0 0 rfl rfl ?_
  refine V_iconst (v := 0) (q := 2) hX dX1_stepOverNumber_1 (by decide) rfl ?_
  refine V_putI (n := 75) (c := 1) (k := 5) (nf := 7) (C := RX1) (T := TX1) (q := 5) hX rfl rfl iG1 k1_119 rfl rfl ⟨rfl, by decide⟩ hN rfl tyX1 tyX1_ok nmX1 rfl rfl (ty := .int) (tyX1_ok 5 (by decide)) rfl rfl dX1_stepOverNumber_2 rfl ?_
  refine V_aload_n (q := 6) hX dX1_stepOverNumber_5 0 rfl rfl ?_
  refine V_getI (n := 75) (c := 1) (k := 2) (nf := 7) (C := RX1) (T := TX1) (q := 9) hX rfl rfl iG1 k1_116 rfl rfl ⟨rfl, by decide⟩ hN rfl rfl dX1_stepOverNumber_6 rfl ?_
  refine V_istore_n (lv' := [(1, .int ((gI (sI σ 26 5 (0 : Int32)) 26 2))), (0, .ref (g.ad (26)))]) (q := 10) hX dX1_stepOverNumber_9 rfl rfl rfl ?_
  refine V.pick [1, 0] rfl ?_
  exact v1_stepOverNumber_10 hX hN hQ (gI (sI σ 26 5 (0 : Int32)) 26 2) (sI σ 26 5 (0 : Int32)) h
set_option maxRecDepth 100000 in
set_option maxHeartbeats 4000000 in
theorem c1_stepOverNumber {g : GT} {l : Launch} (hg : OkG g) (hN : 75 ≤ g.N) {σ : St} {r : Unit} {σ' : St} (h : S1_stepOverNumber σ = some (r, σ')) : CtV g l m1_stepOverNumber yX1_stepOverNumber [.ref (g.ad (26))] σ σ' := CtV.of hg (by decide) rfl rfl (fun X h1 h2 h3 => v1_stepOverNumber h1 hN (res := (r, σ')) h3 h)

abbrev m1_step : MI := (cX1_step, RX1, 2, none, 7)
def S1_step_128 (s1 : Int32) (σ : St) : Option (Unit × St) := some ((), (sI σ 26 4 s1))
def S1_step_37 (σ : St) : Option (Unit × St) := bnd (S1_byteAt (gI (sI σ 26 2 (gI σ 26 3)) 26 2) (sI σ 26 2 (gI σ 26 3))) fun r56 σ55 => if (gI σ55 26 2) < (gI σ55 26 1) then (bnd (S1_isLetter r56 σ55) fun r60 σ59 => if r60 = 0 then (bnd (S1_isDigit r56 σ59) fun r64 σ63 => if r64 = 0 then (if (ixS 2 (((r56).toUInt32 % 65536).toInt32)) < 0 then (S1_step_128 (-2 : Int32) (sI σ63 26 3 ((gI σ63 26 2) + (1 : Int32)))) else (S1_step_128 r56 (sI σ63 26 3 ((gI σ63 26 2) + (1 : Int32))))) else (bnd (S1_stepOverNumber σ63) fun r69 σ68 => some ((), σ68))) else (bnd (S1_stepOverWord σ59) fun r72 σ71 => some ((), σ71))) else (some ((), (sI σ55 26 4 (-1 : Int32))))
def B1_step_5 (rec : Int32 → St → Option (Unit × St)) (x1 : Int32) (σ : St) : Option (Unit × St) := if (gI σ 26 1) ≤ x1 then (S1_step_37 σ) else (bnd (S1_byteAt x1 σ) fun r76 σ75 => bnd (S1_isBlank r76 σ75) fun r79 σ78 => if r79 = 0 then (S1_step_37 σ78) else (rec (x1 + 1) (sI σ78 26 3 (x1 + (1 : Int32)))))
def S1_step_5 : Nat → Int32 → St → Option (Unit × St)
  | 0, _, _ => none
  | n + 1, x1, σ => B1_step_5 (S1_step_5 n) x1 σ
def S1_step (σ : St) : Option (Unit × St) := S1_step_5 4096 (gI σ 26 3) σ
set_option maxRecDepth 100000 in
set_option maxHeartbeats 4000000 in
theorem v1_step_128 {g : GT} {X : XT} (hX : OkX g X (m1_step)) (hN : 75 ≤ g.N) {res : Unit × St} (hQ : X.Q = QV g X res.2 ∧ X.cells = 0 ∧ X.slots = 0)   (s1 : Int32) (σ : St)  (h : S1_step_128 s1 σ = some res) : V g X (m1_step) 128 [] [.int (s1), .ref (g.ad (26))] σ := by
  unfold S1_step_128 at h
  refine V_putI (n := 75) (c := 1) (k := 4) (nf := 7) (C := RX1) (T := TX1) (q := 131) hX rfl rfl iG1 k1_118 rfl rfl ⟨rfl, by decide⟩ hN rfl tyX1 tyX1_ok nmX1 rfl rfl (ty := .int) (tyX1_ok 4 (by decide)) rfl rfl dX1_step_128 rfl ?_
  obtain ⟨f1, f2⟩ := some2 h
  rw [f2] at hQ
  exact V_vret hX hQ rfl dX1_step_131
set_option maxRecDepth 100000 in
set_option maxHeartbeats 4000000 in
theorem v1_step_37 {g : GT} {X : XT} (hX : OkX g X (m1_step)) (hN : 75 ≤ g.N) {res : Unit × St} (hQ : X.Q = QV g X res.2 ∧ X.cells = 0 ∧ X.slots = 0)    (σ : St)  (h : S1_step_37 σ = some res) : V g X (m1_step) 37 [(0, .ref (g.ad (26)))] [] σ := by
  unfold S1_step_37 at h
  refine V_aload_n (q := 38) hX dX1_step_37 0 rfl rfl ?_
  refine V_aload_n (q := 39) hX dX1_step_38 0 rfl rfl ?_
  refine V_getI (n := 75) (c := 1) (k := 3) (nf := 7) (C := RX1) (T := TX1) (q := 42) hX rfl rfl iG1 k1_117 rfl rfl ⟨rfl, by decide⟩ hN rfl rfl dX1_step_39 rfl ?_
  refine V_putI (n := 75) (c := 1) (k := 2) (nf := 7) (C := RX1) (T := TX1) (q := 45) hX rfl rfl iG1 k1_116 rfl rfl ⟨rfl, by decide⟩ hN rfl tyX1 tyX1_ok nmX1 rfl rfl (ty := .int) (tyX1_ok 2 (by decide)) rfl rfl dX1_step_42 rfl ?_
  refine V_aload_n (q := 46) hX dX1_step_45 0 rfl rfl ?_
  refine V_aload_n (q := 47) hX dX1_step_46 0 rfl rfl ?_
  refine V_getI (n := 75) (c := 1) (k := 2) (nf := 7) (C := RX1) (T := TX1) (q := 50) hX rfl rfl iG1 k1_116 rfl rfl ⟨rfl, by decide⟩ hN rfl rfl dX1_step_47 rfl ?_
  obtain ⟨r56, σ55, e57, h⟩ := bnd_some h
  refine V_cvI (n := 75) (c := 1) (nf := 7) (C := RX1) (T := TX1) (As := [.int ((gI (sI σ 26 2 (gI σ 26 3)) 26 2))]) (q := 53) hX (c1_byteAt hX.2.2.2.2.1 hN e57) (goodV_of k2_47 k2_49 kp_1 k1_4 (cons_g k2_50)) (nA := 1) (by decide) rfl rfl rfl rfl rfl ⟨rfl, by decide⟩ hN rfl rfl rfl dX1_step_50 rfl ?_
  refine V_istore_n (lv' := [(1, .int (r56)), (0, .ref (g.ad (26)))]) (q := 54) hX dX1_step_53 rfl rfl rfl ?_
  refine V_aload_n (q := 55) hX dX1_step_54 1 rfl rfl ?_
  refine V_getI (n := 75) (c := 1) (k := 2) (nf := 7) (C := RX1) (T := TX1) (q := 58) hX rfl rfl iG1 k1_116 rfl rfl ⟨rfl, by decide⟩ hN rfl rfl dX1_step_55 rfl ?_
  refine V_aload_n (q := 59) hX dX1_step_58 1 rfl rfl ?_
  refine V_getI (n := 75) (c := 1) (k := 1) (nf := 7) (C := RX1) (T := TX1) (q := 62) hX rfl rfl iG1 k1_114 rfl rfl ⟨rfl, by decide⟩ hN rfl rfl dX1_step_59 rfl ?_
  refine V_icmp_lt (q := 65) (t := 73) hX dX1_step_62 (by decide) rfl (fun z58 => ?_) (fun z58 => ?_)
  · have h := ite_t z58 h
    refine V_iload_n (q := 74) hX dX1_step_73 0 rfl rfl ?_
    obtain ⟨r60, σ59, e61, h⟩ := bnd_some h
    refine V_csI (As := [.int (r56)]) (q := 77) hX (c1_isLetter hX.2.2.2.2.1 hN e61) (goodS_of k2_54 k2_55 k1_4 (cons_g k2_56)) (nA := 1) (by decide) rfl rfl rfl rfl rfl dX1_step_74 rfl ?_
    refine V_if_eq (q := 80) (t := 87) hX dX1_step_77 (by decide) rfl (fun z62 => ?_) (fun z62 => ?_)
    · have h := ite_t z62 h
      refine V_iload_n (q := 88) hX dX1_step_87 0 rfl rfl ?_
      obtain ⟨r64, σ63, e65, h⟩ := bnd_some h
      refine V_csI (As := [.int (r56)]) (q := 91) hX (c1_isDigit hX.2.2.2.2.1 hN e65) (goodS_of k2_64 k2_65 k1_4 (cons_g k2_66)) (nA := 1) (by decide) rfl rfl rfl rfl rfl dX1_step_88 rfl ?_
      refine V_if_eq (q := 94) (t := 101) hX dX1_step_91 (by decide) rfl (fun z66 => ?_) (fun z66 => ?_)
      · have h := ite_t z66 h
        refine V_aload_n (q := 102) hX dX1_step_101 1 rfl rfl ?_
        refine V_aload_n (q := 103) hX dX1_step_102 1 rfl rfl ?_
        refine V_getI (n := 75) (c := 1) (k := 2) (nf := 7) (C := RX1) (T := TX1) (q := 106) hX rfl rfl iG1 k1_116 rfl rfl ⟨rfl, by decide⟩ hN rfl rfl dX1_step_103 rfl ?_
        refine V_iconst (v := 1) (q := 107) hX dX1_step_106 (by decide) rfl ?_
        refine V_iadd (q := 108) hX dX1_step_107 rfl ?_
        refine V_putI (n := 75) (c := 1) (k := 3) (nf := 7) (C := RX1) (T := TX1) (q := 111) hX rfl rfl iG1 k1_117 rfl rfl ⟨rfl, by decide⟩ hN rfl tyX1 tyX1_ok nmX1 rfl rfl (ty := .int) (tyX1_ok 3 (by decide)) rfl rfl dX1_step_108 rfl ?_
        refine V_aload_n (q := 112) hX dX1_step_111 1 rfl rfl ?_
        refine V_ldcS2 (q := 114) hX rfl dX1_step_112 rfl ?_
        refine V_iload_n (q := 115) hX dX1_step_114 0 rfl rfl ?_
        refine V_i2c (q := 116) hX dX1_step_115 rfl ?_
        refine V_sidx 2 (by decide) (q := 119) hX k2_72 rfl rfl dX1_step_116 rfl ?_
        refine V_if_lt (q := 122) (t := 126) hX dX1_step_119 (by decide) rfl (fun z67 => ?_) (fun z67 => ?_)
        · have h := ite_t z67 h
          refine V_bipush (v := -2) (q := 128) hX dX1_step_126 (by decide) rfl ?_
          refine V.pick [] rfl ?_
          exact v1_step_128 hX hN hQ (-2 : Int32) (sI σ63 26 3 ((gI σ63 26 2) + (1 : Int32))) h
        have h := ite_f z67 h
        refine V_iload_n (q := 123) hX dX1_step_122 0 rfl rfl ?_
        refine V_goto hX dX1_step_123 (q := 128) (by decide) ?_
        refine V.pick [] rfl ?_
        exact v1_step_128 hX hN hQ r56 (sI σ63 26 3 ((gI σ63 26 2) + (1 : Int32))) h
      have h := ite_f z66 h
      refine V_aload_n (q := 95) hX dX1_step_94 1 rfl rfl ?_
      obtain ⟨r69, σ68, e70, h⟩ := bnd_some h
      refine V_cvV (n := 75) (c := 1) (nf := 7) (C := RX1) (T := TX1) (As := []) (q := 98) hX (c1_stepOverNumber hX.2.2.2.2.1 hN e70) (goodV_of k2_67 k2_69 kp_3 k1_4 (cons_g k2_70)) (nA := 0) (by decide) rfl rfl rfl rfl rfl ⟨rfl, by decide⟩ hN rfl rfl rfl dX1_step_95 rfl ?_
      refine V_goto hX dX1_step_98 (q := 131) (by decide) ?_
      obtain ⟨f1, f2⟩ := some2 h
      rw [f2] at hQ
      exact V_vret hX hQ rfl dX1_step_131
    have h := ite_f z62 h
    refine V_aload_n (q := 81) hX dX1_step_80 1 rfl rfl ?_
    obtain ⟨r72, σ71, e73, h⟩ := bnd_some h
    refine V_cvV (n := 75) (c := 1) (nf := 7) (C := RX1) (T := TX1) (As := []) (q := 84) hX (c1_stepOverWord hX.2.2.2.2.1 hN e73) (goodV_of k2_57 k2_59 kp_2 k1_4 (cons_g k2_60)) (nA := 0) (by decide) rfl rfl rfl rfl rfl ⟨rfl, by decide⟩ hN rfl rfl rfl dX1_step_81 rfl ?_
    refine V_goto hX dX1_step_84 (q := 131) (by decide) ?_
    obtain ⟨f1, f2⟩ := some2 h
    rw [f2] at hQ
    exact V_vret hX hQ rfl dX1_step_131
  have h := ite_f z58 h
  refine V_aload_n (q := 66) hX dX1_step_65 1 rfl rfl ?_
  refine V_iconst (v := -1) (q := 67) hX dX1_step_66 (by decide) rfl ?_
  refine V_putI (n := 75) (c := 1) (k := 4) (nf := 7) (C := RX1) (T := TX1) (q := 70) hX rfl rfl iG1 k1_118 rfl rfl ⟨rfl, by decide⟩ hN rfl tyX1 tyX1_ok nmX1 rfl rfl (ty := .int) (tyX1_ok 4 (by decide)) rfl rfl dX1_step_67 rfl ?_
  refine V_goto hX dX1_step_70 (q := 131) (by decide) ?_
  obtain ⟨f1, f2⟩ := some2 h
  rw [f2] at hQ
  exact V_vret hX hQ rfl dX1_step_131
set_option maxRecDepth 100000 in
set_option maxHeartbeats 4000000 in
theorem v1_step_5n {g : GT} {X : XT} (hX : OkX g X (m1_step)) (hN : 75 ≤ g.N) {res : Unit × St} (hQ : X.Q = QV g X res.2 ∧ X.cells = 0 ∧ X.slots = 0)   (n : Nat) : ∀ (x1 : Int32) (σ : St) , S1_step_5 n x1 σ = some res → V g X (m1_step) 5 [(0, .ref (g.ad (26))), (1, .int (x1))] [] σ := by
  induction n with
  | zero => intro x1 σ; intro h; cases h
  | succ n ih =>
    intro x1 σ h
    have h : B1_step_5 (S1_step_5 n) x1 σ = some res := h
    unfold B1_step_5 at h
    refine V_iload_n (q := 6) hX dX1_step_5 1 rfl rfl ?_
    refine V_aload_n (q := 7) hX dX1_step_6 0 rfl rfl ?_
    refine V_getI (n := 75) (c := 1) (k := 1) (nf := 7) (C := RX1) (T := TX1) (q := 10) hX rfl rfl iG1 k1_114 rfl rfl ⟨rfl, by decide⟩ hN rfl rfl dX1_step_7 rfl ?_
    refine V_icmp_ge (q := 13) (t := 37) hX dX1_step_10 (by decide) rfl (fun z74 => ?_) (fun z74 => ?_)
    · have h := ite_t z74 h
      refine V.pick [0] rfl ?_
      exact v1_step_37 hX hN hQ σ h
    have h := ite_f z74 h
    refine V_aload_n (q := 14) hX dX1_step_13 0 rfl rfl ?_
    refine V_iload_n (q := 15) hX dX1_step_14 1 rfl rfl ?_
    obtain ⟨r76, σ75, e77, h⟩ := bnd_some h
    refine V_cvI (n := 75) (c := 1) (nf := 7) (C := RX1) (T := TX1) (As := [.int (x1)]) (q := 18) hX (c1_byteAt hX.2.2.2.2.1 hN e77) (goodV_of k2_47 k2_49 kp_1 k1_4 (cons_g k2_50)) (nA := 1) (by decide) rfl rfl rfl rfl rfl ⟨rfl, by decide⟩ hN rfl rfl rfl dX1_step_15 rfl ?_
    obtain ⟨r79, σ78, e80, h⟩ := bnd_some h
    refine V_csI (As := [.int (r76)]) (q := 21) hX (c1_isBlank hX.2.2.2.2.1 hN e80) (goodS_of k2_51 k2_52 k1_4 (cons_g k2_53)) (nA := 1) (by decide) rfl rfl rfl rfl rfl dX1_step_18 rfl ?_
    refine V_if_eq (q := 24) (t := 37) hX dX1_step_21 (by decide) rfl (fun z81 => ?_) (fun z81 => ?_)
    · have h := ite_t z81 h
      refine V.pick [0] rfl ?_
      exact v1_step_37 hX hN hQ σ78 h
    have h := ite_f z81 h
    refine V_aload_n (q := 25) hX dX1_step_24 0 rfl rfl ?_
    refine V_iload_n (q := 26) hX dX1_step_25 1 rfl rfl ?_
    refine V_iconst (v := 1) (q := 27) hX dX1_step_26 (by decide) rfl ?_
    refine V_iadd (q := 28) hX dX1_step_27 rfl ?_
    refine V_putI (n := 75) (c := 1) (k := 3) (nf := 7) (C := RX1) (T := TX1) (q := 31) hX rfl rfl iG1 k1_117 rfl rfl ⟨rfl, by decide⟩ hN rfl tyX1 tyX1_ok nmX1 rfl rfl (ty := .int) (tyX1_ok 3 (by decide)) rfl rfl dX1_step_28 rfl ?_
    refine V_iinc (v := (x1 + 1)) (lv' := [(1, .int ((x1 + 1))), (0, .ref (g.ad (26)))]) (q := 34) hX dX1_step_31 1 rfl (by rfl) rfl rfl rfl ?_
    refine V_goto hX dX1_step_34 (q := 5) (by decide) ?_
    refine V.pick [1, 0] rfl ?_
    exact ih (x1 + 1) (sI σ78 26 3 (x1 + (1 : Int32)))  h
theorem v1_step_5 {g : GT} {X : XT} (hX : OkX g X (m1_step)) (hN : 75 ≤ g.N) {res : Unit × St} (hQ : X.Q = QV g X res.2 ∧ X.cells = 0 ∧ X.slots = 0) (x1 : Int32) (σ : St) (h : S1_step_5 4096 x1 σ = some res) : V g X (m1_step) 5 [(0, .ref (g.ad (26))), (1, .int (x1))] [] σ := v1_step_5n hX hN hQ 4096 x1 σ h
set_option maxRecDepth 100000 in
set_option maxHeartbeats 4000000 in
theorem v1_step {g : GT} {X : XT} (hX : OkX g X (m1_step)) (hN : 75 ≤ g.N) {res : Unit × St} (hQ : X.Q = QV g X res.2 ∧ X.cells = 0 ∧ X.slots = 0) {σ : St} (h : S1_step σ = some res) : V g X (m1_step) 0 [(0, .ref (g.ad (26)))] [] σ := by
  unfold S1_step at h
  refine V_aload_n (q := 1) hX dX1_step_0 0 rfl rfl ?_
  refine V_getI (n := 75) (c := 1) (k := 3) (nf := 7) (C := RX1) (T := TX1) (q := 4) hX rfl rfl iG1 k1_117 rfl rfl ⟨rfl, by decide⟩ hN rfl rfl dX1_step_1 rfl ?_
  refine V_istore_n (lv' := [(1, .int ((gI σ 26 3))), (0, .ref (g.ad (26)))]) (q := 5) hX dX1_step_4 rfl rfl rfl ?_
  refine V.pick [1, 0] rfl ?_
  exact v1_step_5 hX hN hQ (gI σ 26 3) σ h
set_option maxRecDepth 100000 in
set_option maxHeartbeats 4000000 in
theorem c1_step {g : GT} {l : Launch} (hg : OkG g) (hN : 75 ≤ g.N) {σ : St} {r : Unit} {σ' : St} (h : S1_step σ = some (r, σ')) : CtV g l m1_step yX1_step [.ref (g.ad (26))] σ σ' := CtV.of hg (by decide) rfl rfl (fun X h1 h2 h3 => v1_step h1 hN (res := (r, σ')) h3 h)
