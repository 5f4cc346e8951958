abbrev m9_fights : MI := (cX9_fights, RX9, 7, none, 7)
def S9_fights_132 (a1 : Int32) (a2 : Int32) (a3 : Int32) (a4 : Int32) (s1 : Int32) (s2 : Int32) (s3 : Int32) (σ : St) : Option (Unit × St) := bnd (S9_within (s2 + s3) (0 : Int32) (9 : Int32) σ) fun r44 σ43 => if inb s1 30 then (some ((), (sI σ43 78 (s1).toNatClampNeg r44))) else none
def S9_fights_34 (a1 : Int32) (a2 : Int32) (a3 : Int32) (a4 : Int32) (x5 : Int32) (s0 : Int32) (σ : St) : Option (Unit × St) := if inb (((5 : Int32) * x5) + (3 : Int32)) 30 then (bnd (S9_within ((gI σ 78 ((((5 : Int32) * x5) + (3 : Int32))).toNatClampNeg) + (1 : Int32)) (0 : Int32) (999 : Int32) σ) fun r49 σ48 => if inb (((5 : Int32) * x5) + (3 : Int32)) 30 then (if inb (((5 : Int32) * s0) + (4 : Int32)) 30 then (bnd (S9_within ((gI (sI σ48 78 ((((5 : Int32) * x5) + (3 : Int32))).toNatClampNeg r49) 78 ((((5 : Int32) * s0) + (4 : Int32))).toNatClampNeg) + (1 : Int32)) (0 : Int32) (999 : Int32) (sI σ48 78 ((((5 : Int32) * x5) + (3 : Int32))).toNatClampNeg r49)) fun r54 σ53 => if inb (((5 : Int32) * s0) + (4 : Int32)) 30 then (if inb (((5 : Int32) * s0) + (2 : Int32)) 30 then (if (5 : Int32) ≤ (gI (sI σ53 78 ((((5 : Int32) * s0) + (4 : Int32))).toNatClampNeg r54) 75 36) then (S9_fights_132 a1 a2 a3 a4 (((5 : Int32) * s0) + (2 : Int32)) (gI (sI σ53 78 ((((5 : Int32) * s0) + (4 : Int32))).toNatClampNeg r54) 78 ((((5 : Int32) * s0) + (2 : Int32))).toNatClampNeg) (0 : Int32) (sI σ53 78 ((((5 : Int32) * s0) + (4 : Int32))).toNatClampNeg r54)) else (S9_fights_132 a1 a2 a3 a4 (((5 : Int32) * s0) + (2 : Int32)) (gI (sI σ53 78 ((((5 : Int32) * s0) + (4 : Int32))).toNatClampNeg r54) 78 ((((5 : Int32) * s0) + (2 : Int32))).toNatClampNeg) (1 : Int32) (sI σ53 78 ((((5 : Int32) * s0) + (4 : Int32))).toNatClampNeg r54))) else none) else none) else none) else none) else none
def S9_fights (a1 : Int32) (a2 : Int32) (a3 : Int32) (a4 : Int32) (σ : St) : Option (Unit × St) := bnd (S9_bout0 a1 a2 a3 a4 σ) fun r60 σ59 => if (gI σ59 75 35) = (-1 : Int32) then (some ((), σ59)) else (if (gI σ59 75 35) = a1 then (S9_fights_34 a1 a2 a3 a4 (gI σ59 75 35) a2 σ59) else (S9_fights_34 a1 a2 a3 a4 (gI σ59 75 35) a1 σ59))
set_option maxRecDepth 100000 in
set_option maxHeartbeats 4000000 in
theorem v9_fights_132 {g : GT} {X : XT} {a1 : Int32} {a2 : Int32} {a3 : Int32} {a4 : Int32} (hX : OkX g X (m9_fights)) (hN : 95 ≤ g.N) {res : Unit × St} (hQ : X.Q = QV g X res.2 ∧ X.cells = 0 ∧ X.slots = 0)   (s1 : Int32) (s2 : Int32) (s3 : Int32) (σ : St)  (h : S9_fights_132 a1 a2 a3 a4 s1 s2 s3 σ = some res) : V g X (m9_fights) 132 [] [.int (s3), .int (s2), .int (s1), .ref (g.ad (78))] σ := by
  unfold S9_fights_132 at h
  refine V_iadd (q := 133) hX dX9_fights_132 rfl ?_
  refine V_iconst (v := 0) (q := 134) hX dX9_fights_133 (by decide) rfl ?_
  refine V_bipush (v := 9) (q := 136) hX dX9_fights_134 (by decide) rfl ?_
  obtain ⟨r44, σ43, e45, h⟩ := bnd_some h
  refine V_csI (As := [.int ((s2 + s3)), .int ((0 : Int32)), .int ((9 : Int32))]) (q := 139) hX (c9_within hX.2.2.2.2.1 hN e45) (goodS_of k5_95 k5_96 k1_16 (cons_g k5_97)) (nA := 3) (by decide) rfl rfl rfl rfl rfl dX9_fights_136 rfl ?_
  obtain ⟨z46, h⟩ := chk_t h
  refine V_iast (n := 95) (len := 30) (q := 140) hX ⟨rfl, rfl, by decide⟩ hN z46 dX9_fights_139 rfl ?_
  obtain ⟨f1, f2⟩ := some2 h
  rw [f2] at hQ
  exact V_vret hX hQ rfl dX9_fights_140
set_option maxRecDepth 100000 in
set_option maxHeartbeats 4000000 in
theorem v9_fights_34 {g : GT} {X : XT} {a1 : Int32} {a2 : Int32} {a3 : Int32} {a4 : Int32} (hX : OkX g X (m9_fights)) (hN : 95 ≤ g.N) {res : Unit × St} (hQ : X.Q = QV g X res.2 ∧ X.cells = 0 ∧ X.slots = 0)   (x5 : Int32) (s0 : Int32) (σ : St)  (h : S9_fights_34 a1 a2 a3 a4 x5 s0 σ = some res) : V g X (m9_fights) 34 [(0, .ref (g.ad (75))), (5, .int (x5))] [.int (s0)] σ := by
  unfold S9_fights_34 at h
  refine V_istore (lv' := [(6, .int (s0)), (0, .ref (g.ad (75))), (5, .int (x5))]) (q := 36) hX dX9_fights_34 rfl rfl rfl ?_
  refine V_aload_n (q := 37) hX dX9_fights_36 1 rfl rfl ?_
  refine V_getF (r := 78) (n := 95) (c := 9) (k := 3) (nf := 39) (C := RX9) (T := TX9) (q := 40) hX rfl rfl iG9 k4_185 rfl rfl ⟨rfl, by decide⟩ hN rfl rfl rfl rfl dX9_fights_37 rfl ?_
  refine V_iconst (v := 5) (q := 41) hX dX9_fights_40 (by decide) rfl ?_
  refine V_iload (q := 43) hX dX9_fights_41 2 rfl rfl ?_
  refine V_imul (q := 44) hX dX9_fights_43 rfl ?_
  refine V_iconst (v := 3) (q := 45) hX dX9_fights_44 (by decide) rfl ?_
  refine V_iadd (q := 46) hX dX9_fights_45 rfl ?_
  refine V_aload_n (q := 47) hX dX9_fights_46 1 rfl rfl ?_
  refine V_getF (r := 78) (n := 95) (c := 9) (k := 3) (nf := 39) (C := RX9) (T := TX9) (q := 50) hX rfl rfl iG9 k4_185 rfl rfl ⟨rfl, by decide⟩ hN rfl rfl rfl rfl dX9_fights_47 rfl ?_
  refine V_iconst (v := 5) (q := 51) hX dX9_fights_50 (by decide) rfl ?_
  refine V_iload (q := 53) hX dX9_fights_51 2 rfl rfl ?_
  refine V_imul (q := 54) hX dX9_fights_53 rfl ?_
  refine V_iconst (v := 3) (q := 55) hX dX9_fights_54 (by decide) rfl ?_
  refine V_iadd (q := 56) hX dX9_fights_55 rfl ?_
  obtain ⟨z47, h⟩ := chk_t h
  refine V_iald (n := 95) (len := 30) (q := 57) hX ⟨rfl, rfl, by decide⟩ hN z47 dX9_fights_56 rfl ?_
  refine V_iconst (v := 1) (q := 58) hX dX9_fights_57 (by decide) rfl ?_
  refine V_iadd (q := 59) hX dX9_fights_58 rfl ?_
  refine V_iconst (v := 0) (q := 60) hX dX9_fights_59 (by decide) rfl ?_
  refine V_sipush (v := 999) (q := 63) hX dX9_fights_60 (by decide) rfl ?_
  obtain ⟨r49, σ48, e50, h⟩ := bnd_some h
  refine V_csI (As := [.int (((gI σ 78 ((((5 : Int32) * x5) + (3 : Int32))).toNatClampNeg) + (1 : Int32))), .int ((0 : Int32)), .int ((999 : Int32))]) (q := 66) hX (c9_within hX.2.2.2.2.1 hN e50) (goodS_of k5_95 k5_96 k1_16 (cons_g k5_97)) (nA := 3) (by decide) rfl rfl rfl rfl rfl dX9_fights_63 rfl ?_
  obtain ⟨z51, h⟩ := chk_t h
  refine V_iast (n := 95) (len := 30) (q := 67) hX ⟨rfl, rfl, by decide⟩ hN z51 dX9_fights_66 rfl ?_
  refine V_aload_n (q := 68) hX dX9_fights_67 1 rfl rfl ?_
  refine V_getF (r := 78) (n := 95) (c := 9) (k := 3) (nf := 39) (C := RX9) (T := TX9) (q := 71) hX rfl rfl iG9 k4_185 rfl rfl ⟨rfl, by decide⟩ hN rfl rfl rfl rfl dX9_fights_68 rfl ?_
  refine V_iconst (v := 5) (q := 72) hX dX9_fights_71 (by decide) rfl ?_
  refine V_iload (q := 74) hX dX9_fights_72 0 rfl rfl ?_
  refine V_imul (q := 75) hX dX9_fights_74 rfl ?_
  refine V_iconst (v := 4) (q := 76) hX dX9_fights_75 (by decide) rfl ?_
  refine V_iadd (q := 77) hX dX9_fights_76 rfl ?_
  refine V_aload_n (q := 78) hX dX9_fights_77 1 rfl rfl ?_
  refine V_getF (r := 78) (n := 95) (c := 9) (k := 3) (nf := 39) (C := RX9) (T := TX9) (q := 81) hX rfl rfl iG9 k4_185 rfl rfl ⟨rfl, by decide⟩ hN rfl rfl rfl rfl dX9_fights_78 rfl ?_
  refine V_iconst (v := 5) (q := 82) hX dX9_fights_81 (by decide) rfl ?_
  refine V_iload (q := 84) hX dX9_fights_82 0 rfl rfl ?_
  refine V_imul (q := 85) hX dX9_fights_84 rfl ?_
  refine V_iconst (v := 4) (q := 86) hX dX9_fights_85 (by decide) rfl ?_
  refine V_iadd (q := 87) hX dX9_fights_86 rfl ?_
  obtain ⟨z52, h⟩ := chk_t h
  refine V_iald (n := 95) (len := 30) (q := 88) hX ⟨rfl, rfl, by decide⟩ hN z52 dX9_fights_87 rfl ?_
  refine V_iconst (v := 1) (q := 89) hX dX9_fights_88 (by decide) rfl ?_
  refine V_iadd (q := 90) hX dX9_fights_89 rfl ?_
  refine V_iconst (v := 0) (q := 91) hX dX9_fights_90 (by decide) rfl ?_
  refine V_sipush (v := 999) (q := 94) hX dX9_fights_91 (by decide) rfl ?_
  obtain ⟨r54, σ53, e55, h⟩ := bnd_some h
  refine V_csI (As := [.int (((gI (sI σ48 78 ((((5 : Int32) * x5) + (3 : Int32))).toNatClampNeg r49) 78 ((((5 : Int32) * s0) + (4 : Int32))).toNatClampNeg) + (1 : Int32))), .int ((0 : Int32)), .int ((999 : Int32))]) (q := 97) hX (c9_within hX.2.2.2.2.1 hN e55) (goodS_of k5_95 k5_96 k1_16 (cons_g k5_97)) (nA := 3) (by decide) rfl rfl rfl rfl rfl dX9_fights_94 rfl ?_
  obtain ⟨z56, h⟩ := chk_t h
  refine V_iast (n := 95) (len := 30) (q := 98) hX ⟨rfl, rfl, by decide⟩ hN z56 dX9_fights_97 rfl ?_
  refine V_aload_n (q := 99) hX dX9_fights_98 1 rfl rfl ?_
  refine V_getF (r := 78) (n := 95) (c := 9) (k := 3) (nf := 39) (C := RX9) (T := TX9) (q := 102) hX rfl rfl iG9 k4_185 rfl rfl ⟨rfl, by decide⟩ hN rfl rfl rfl rfl dX9_fights_99 rfl ?_
  refine V_iconst (v := 5) (q := 103) hX dX9_fights_102 (by decide) rfl ?_
  refine V_iload (q := 105) hX dX9_fights_103 0 rfl rfl ?_
  refine V_imul (q := 106) hX dX9_fights_105 rfl ?_
  refine V_iconst (v := 2) (q := 107) hX dX9_fights_106 (by decide) rfl ?_
  refine V_iadd (q := 108) hX dX9_fights_107 rfl ?_
  refine V_aload_n (q := 109) hX dX9_fights_108 1 rfl rfl ?_
  refine V_getF (r := 78) (n := 95) (c := 9) (k := 3) (nf := 39) (C := RX9) (T := TX9) (q := 112) hX rfl rfl iG9 k4_185 rfl rfl ⟨rfl, by decide⟩ hN rfl rfl rfl rfl dX9_fights_109 rfl ?_
  refine V_iconst (v := 5) (q := 113) hX dX9_fights_112 (by decide) rfl ?_
  refine V_iload (q := 115) hX dX9_fights_113 0 rfl rfl ?_
  refine V_imul (q := 116) hX dX9_fights_115 rfl ?_
  refine V_iconst (v := 2) (q := 117) hX dX9_fights_116 (by decide) rfl ?_
  refine V_iadd (q := 118) hX dX9_fights_117 rfl ?_
  obtain ⟨z57, h⟩ := chk_t h
  refine V_iald (n := 95) (len := 30) (q := 119) hX ⟨rfl, rfl, by decide⟩ hN z57 dX9_fights_118 rfl ?_
  refine V_aload_n (q := 120) hX dX9_fights_119 1 rfl rfl ?_
  refine V_getI (n := 95) (c := 9) (k := 36) (nf := 39) (C := RX9) (T := TX9) (q := 123) hX rfl rfl iG9 k4_218 rfl rfl ⟨rfl, by decide⟩ hN rfl rfl dX9_fights_120 rfl ?_
  refine V_iconst (v := 5) (q := 124) hX dX9_fights_123 (by decide) rfl ?_
  refine V_icmp_ge (q := 127) (t := 131) hX dX9_fights_124 (by decide) rfl (fun z58 => ?_) (fun z58 => ?_)
  · have h := ite_t z58 h
    refine V_iconst (v := 0) (q := 132) hX dX9_fights_131 (by decide) rfl ?_
    refine V.pick [] rfl ?_
    exact v9_fights_132 hX hN hQ (((5 : Int32) * s0) + (2 : Int32)) (gI (sI σ53 78 ((((5 : Int32) * s0) + (4 : Int32))).toNatClampNeg r54) 78 ((((5 : Int32) * s0) + (2 : Int32))).toNatClampNeg) (0 : Int32) (sI σ53 78 ((((5 : Int32) * s0) + (4 : Int32))).toNatClampNeg r54) h
  have h := ite_f z58 h
  refine V_iconst (v := 1) (q := 128) hX dX9_fights_127 (by decide) rfl ?_
  refine V_goto hX dX9_fights_128 (q := 132) (by decide) ?_
  refine V.pick [] rfl ?_
  exact v9_fights_132 hX hN hQ (((5 : Int32) * s0) + (2 : Int32)) (gI (sI σ53 78 ((((5 : Int32) * s0) + (4 : Int32))).toNatClampNeg r54) 78 ((((5 : Int32) * s0) + (2 : Int32))).toNatClampNeg) (1 : Int32) (sI σ53 78 ((((5 : Int32) * s0) + (4 : Int32))).toNatClampNeg r54) h
set_option maxRecDepth 100000 in
set_option maxHeartbeats 4000000 in
theorem v9_fights {g : GT} {X : XT} {a1 : Int32} {a2 : Int32} {a3 : Int32} {a4 : Int32} (hX : OkX g X (m9_fights)) (hN : 95 ≤ g.N) {res : Unit × St} (hQ : X.Q = QV g X res.2 ∧ X.cells = 0 ∧ X.slots = 0) {σ : St} (h : S9_fights a1 a2 a3 a4 σ = some res) : V g X (m9_fights) 0 [(0, .ref (g.ad (75))), (1, .int (a1)), (2, .int (a2)), (3, .int (a3)), (4, .int (a4))] [] σ := by
  unfold S9_fights at h
  refine V_aload_n (q := 1) hX dX9_fights_0 0 rfl rfl ?_
  refine V_iload_n (q := 2) hX dX9_fights_1 1 rfl rfl ?_
  refine V_iload_n (q := 3) hX dX9_fights_2 2 rfl rfl ?_
  refine V_iload_n (q := 4) hX dX9_fights_3 3 rfl rfl ?_
  refine V_iload (q := 6) hX dX9_fights_4 4 rfl rfl ?_
  obtain ⟨r60, σ59, e61, h⟩ := bnd_some h
  refine V_cvV (n := 95) (c := 9) (nf := 39) (C := RX9) (T := TX9) (As := [.int (a1), .int (a2), .int (a3), .int (a4)]) (q := 9) hX (c9_bout0 hX.2.2.2.2.1 hN e61) (goodV_of k5_126 k5_128 kp_47 k1_16 (cons_g k5_129)) (nA := 4) (by decide) rfl rfl rfl rfl rfl ⟨rfl, by decide⟩ hN rfl rfl rfl dX9_fights_6 rfl ?_
  refine V_aload_n (q := 10) hX dX9_fights_9 0 rfl rfl ?_
  refine V_getI (n := 95) (c := 9) (k := 35) (nf := 39) (C := RX9) (T := TX9) (q := 13) hX rfl rfl iG9 k4_217 rfl rfl ⟨rfl, by decide⟩ hN rfl rfl dX9_fights_10 rfl ?_
  refine V_iconst (v := -1) (q := 14) hX dX9_fights_13 (by decide) rfl ?_
  refine V_icmp_eq (q := 17) (t := 140) hX dX9_fights_14 (by decide) rfl (fun z62 => ?_) (fun z62 => ?_)
  · have h := ite_t z62 h
    obtain ⟨f1, f2⟩ := some2 h
    rw [f2] at hQ
    exact V_vret hX hQ rfl dX9_fights_140
  have h := ite_f z62 h
  refine V_aload_n (q := 18) hX dX9_fights_17 0 rfl rfl ?_
  refine V_getI (n := 95) (c := 9) (k := 35) (nf := 39) (C := RX9) (T := TX9) (q := 21) hX rfl rfl iG9 k4_217 rfl rfl ⟨rfl, by decide⟩ hN rfl rfl dX9_fights_18 rfl ?_
  refine V_istore (lv' := [(5, .int ((gI σ59 75 35))), (0, .ref (g.ad (75))), (1, .int (a1)), (2, .int (a2)), (3, .int (a3)), (4, .int (a4))]) (q := 23) hX dX9_fights_21 rfl rfl rfl ?_
  refine V_iload (q := 25) hX dX9_fights_23 0 rfl rfl ?_
  refine V_iload_n (q := 26) hX dX9_fights_25 2 rfl rfl ?_
  refine V_icmp_ne (q := 29) (t := 33) hX dX9_fights_26 (by decide) rfl (fun z63 => ?_) (fun z63 => ?_)
  · have h := ite_f z63 h
    refine V_iload_n (q := 34) hX dX9_fights_33 2 rfl rfl ?_
    refine V.pick [1, 0] rfl ?_
    exact v9_fights_34 hX hN hQ (gI σ59 75 35) a1 σ59 h
  have h := ite_t z63 h
  refine V_iload_n (q := 30) hX dX9_fights_29 3 rfl rfl ?_
  refine V_goto hX dX9_fights_30 (q := 34) (by decide) ?_
  refine V.pick [1, 0] rfl ?_
  exact v9_fights_34 hX hN hQ (gI σ59 75 35) a2 σ59 h
set_option maxRecDepth 100000 in
set_option maxHeartbeats 4000000 in
theorem c9_fights {g : GT} {l : Launch} (hg : OkG g) (hN : 95 ≤ g.N) {a1 : Int32} {a2 : Int32} {a3 : Int32} {a4 : Int32} {σ : St} {r : Unit} {σ' : St} (h : S9_fights a1 a2 a3 a4 σ = some (r, σ')) : CtV g l m9_fights yX9_fights [.ref (g.ad (75)), .int (a1), .int (a2), .int (a3), .int (a4)] σ σ' := CtV.of hg (by decide) rfl rfl (fun X h1 h2 h3 => v9_fights h1 hN (res := (r, σ')) h3 h)

abbrev m9_fight : MI := (cX9_fight, RX9, 5, some .int, 8)
def S9_fight (a1 : Int32) (a2 : Int32) (a3 : Int32) (a4 : Int32) (σ : St) : Option (Int32 × St) := bnd (S9_areTwo a1 a2 σ) fun r17 σ16 => if r17 = 0 then (some ((-5 : Int32), σ16)) else (bnd (S9_isPlan a3 σ16) fun r21 σ20 => if r21 = 0 then (some ((-7 : Int32), σ20)) else (bnd (S9_isPlan a4 σ20) fun r25 σ24 => if r25 = 0 then (some ((-7 : Int32), σ24)) else (bnd (S9_fights a1 a2 a3 a4 σ24) fun r29 σ28 => some ((gI σ28 75 35), σ28))))
set_option maxRecDepth 100000 in
set_option maxHeartbeats 4000000 in
theorem v9_fight {g : GT} {X : XT} {a1 : Int32} {a2 : Int32} {a3 : Int32} {a4 : Int32} (hX : OkX g X (m9_fight)) (hN : 95 ≤ g.N) {res : Int32 × St} (hQ : X.Q = QI g X res.1 res.2 ∧ X.cells = 0 ∧ X.slots = 0) {σ : St} (h : S9_fight a1 a2 a3 a4 σ = some res) : V g X (m9_fight) 0 [(0, .ref (g.ad (75))), (1, .int (a1)), (2, .int (a2)), (3, .int (a3)), (4, .int (a4))] [] σ := by
  unfold S9_fight at h
  refine V_aload_n (q := 1) hX dX9_fight_0 0 rfl rfl ?_
  refine V_iload_n (q := 2) hX dX9_fight_1 1 rfl rfl ?_
  refine V_iload_n (q := 3) hX dX9_fight_2 2 rfl rfl ?_
  obtain ⟨r17, σ16, e18, h⟩ := bnd_some h
  refine V_cvI (n := 95) (c := 9) (nf := 39) (C := RX9) (T := TX9) (As := [.int (a1), .int (a2)]) (q := 6) hX (c9_areTwo hX.2.2.2.2.1 hN e18) (goodV_of k5_118 k5_120 kp_46 k1_16 (cons_g k5_121)) (nA := 2) (by decide) rfl rfl rfl rfl rfl ⟨rfl, by decide⟩ hN rfl rfl rfl dX9_fight_3 rfl ?_
  refine V_if_ne (q := 9) (t := 12) hX dX9_fight_6 (by decide) rfl (fun z19 => ?_) (fun z19 => ?_)
  · have h := ite_f z19 h
    refine V_iload_n (q := 13) hX dX9_fight_12 3 rfl rfl ?_
    obtain ⟨r21, σ20, e22, h⟩ := bnd_some h
    refine V_csI (As := [.int (a3)]) (q := 16) hX (c9_isPlan hX.2.2.2.2.1 hN e22) (goodS_of k5_122 k5_123 k1_16 (cons_g k5_124)) (nA := 1) (by decide) rfl rfl rfl rfl rfl dX9_fight_13 rfl ?_
    refine V_if_eq (q := 19) (t := 27) hX dX9_fight_16 (by decide) rfl (fun z23 => ?_) (fun z23 => ?_)
    · have h := ite_t z23 h
      refine V_bipush (v := -7) (q := 29) hX dX9_fight_27 (by decide) rfl ?_
      obtain ⟨f1, f2⟩ := some2 h
      rw [f1, f2] at hQ
      exact V_iret hX hQ rfl dX9_fight_29
    have h := ite_f z23 h
    refine V_iload (q := 21) hX dX9_fight_19 4 rfl rfl ?_
    obtain ⟨r25, σ24, e26, h⟩ := bnd_some h
    refine V_csI (As := [.int (a4)]) (q := 24) hX (c9_isPlan hX.2.2.2.2.1 hN e26) (goodS_of k5_122 k5_123 k1_16 (cons_g k5_124)) (nA := 1) (by decide) rfl rfl rfl rfl rfl dX9_fight_21 rfl ?_
    refine V_if_ne (q := 27) (t := 30) hX dX9_fight_24 (by decide) rfl (fun z27 => ?_) (fun z27 => ?_)
    · have h := ite_f z27 h
      refine V_aload_n (q := 31) hX dX9_fight_30 0 rfl rfl ?_
      refine V_iload_n (q := 32) hX dX9_fight_31 1 rfl rfl ?_
      refine V_iload_n (q := 33) hX dX9_fight_32 2 rfl rfl ?_
      refine V_iload_n (q := 34) hX dX9_fight_33 3 rfl rfl ?_
      refine V_iload (q := 36) hX dX9_fight_34 4 rfl rfl ?_
      obtain ⟨r29, σ28, e30, h⟩ := bnd_some h
      refine V_cvV (n := 95) (c := 9) (nf := 39) (C := RX9) (T := TX9) (As := [.int (a1), .int (a2), .int (a3), .int (a4)]) (q := 39) hX (c9_fights hX.2.2.2.2.1 hN e30) (goodV_of k5_162 k5_164 kp_55 k1_16 (cons_g k5_165)) (nA := 4) (by decide) rfl rfl rfl rfl rfl ⟨rfl, by decide⟩ hN rfl rfl rfl dX9_fight_36 rfl ?_
      refine V_aload_n (q := 40) hX dX9_fight_39 0 rfl rfl ?_
      refine V_getI (n := 95) (c := 9) (k := 35) (nf := 39) (C := RX9) (T := TX9) (q := 43) hX rfl rfl iG9 k4_217 rfl rfl ⟨rfl, by decide⟩ hN rfl rfl dX9_fight_40 rfl ?_
      obtain ⟨f1, f2⟩ := some2 h
      rw [f1, f2] at hQ
      exact V_iret hX hQ rfl dX9_fight_43
    have h := ite_t z27 h
    refine V_bipush (v := -7) (q := 29) hX dX9_fight_27 (by decide) rfl ?_
    obtain ⟨f1, f2⟩ := some2 h
    rw [f1, f2] at hQ
    exact V_iret hX hQ rfl dX9_fight_29
  have h := ite_t z19 h
  refine V_bipush (v := -5) (q := 11) hX dX9_fight_9 (by decide) rfl ?_
  obtain ⟨f1, f2⟩ := some2 h
  rw [f1, f2] at hQ
  exact V_iret hX hQ rfl dX9_fight_11
set_option maxRecDepth 100000 in
set_option maxHeartbeats 4000000 in
theorem c9_fight {g : GT} {l : Launch} (hg : OkG g) (hN : 95 ≤ g.N) {a1 : Int32} {a2 : Int32} {a3 : Int32} {a4 : Int32} {σ : St} {r : Int32} {σ' : St} (h : S9_fight a1 a2 a3 a4 σ = some (r, σ')) : CtI g l m9_fight yX9_fight [.ref (g.ad (75)), .int (a1), .int (a2), .int (a3), .int (a4)] σ r σ' := CtI.of hg (by decide) rfl rfl (fun X h1 h2 h3 => v9_fight h1 hN (res := (r, σ')) h3 h)

abbrev m9_wholeOf : MI := (cX9_wholeOf, RX9, 5, some .int, 1)
def B9_wholeOf_15 (a0 : Int32) (a1 : Int32) (rec : Int32 → Int32 → St → Option (Int32 × St)) (x3 : Int32) (x4 : Int32) (σ : St) : Option (Int32 × St) := if (9 : Int32) ≤ x4 then (some (x3, σ)) else (rec (x3 ||| (((a0 >>> (((2 : Int32) * (a1 - (1 : Int32))) &&& 31)) &&& (3 : Int32)) <<< (((2 : Int32) * x4) &&& 31))) (x4 + 1) σ)
def S9_wholeOf_15 (a0 : Int32) (a1 : Int32) : Nat → Int32 → Int32 → St → Option (Int32 × St)
  | 0, _, _, _ => none
  | n + 1, x3, x4, σ => B9_wholeOf_15 a0 a1 (S9_wholeOf_15 a0 a1 n) x3 x4 σ
def S9_wholeOf (a0 : Int32) (a1 : Int32) (σ : St) : Option (Int32 × St) := S9_wholeOf_15 a0 a1 4096 a0 a1 σ
set_option maxRecDepth 100000 in
set_option maxHeartbeats 4000000 in
theorem v9_wholeOf_15n {g : GT} {X : XT} {a0 : Int32} {a1 : Int32} (hX : OkX g X (m9_wholeOf)) (hN : 95 ≤ g.N) {res : Int32 × St} (hQ : X.Q = QI g X res.1 res.2 ∧ X.cells = 0 ∧ X.slots = 0)   (n : Nat) : ∀ (x3 : Int32) (x4 : Int32) (σ : St) , S9_wholeOf_15 a0 a1 n x3 x4 σ = some res → V g X (m9_wholeOf) 15 [(2, .int (((a0 >>> (((2 : Int32) * (a1 - (1 : Int32))) &&& 31)) &&& (3 : Int32)))), (3, .int (x3)), (4, .int (x4))] [] σ := by
  induction n with
  | zero => intro x3 x4 σ; intro h; cases h
  | succ n ih =>
    intro x3 x4 σ h
    have h : B9_wholeOf_15 a0 a1 (S9_wholeOf_15 a0 a1 n) x3 x4 σ = some res := h
    unfold B9_wholeOf_15 at h
    refine V_iload (q := 17) hX dX9_wholeOf_15 2 rfl rfl ?_
    refine V_bipush (v := 9) (q := 19) hX dX9_wholeOf_17 (by decide) rfl ?_
    refine V_icmp_ge (q := 22) (t := 37) hX dX9_wholeOf_19 (by decide) rfl (fun z3 => ?_) (fun z3 => ?_)
    · have h := ite_t z3 h
      refine V_iload_n (q := 38) hX dX9_wholeOf_37 1 rfl rfl ?_
      obtain ⟨f1, f2⟩ := some2 h
      rw [f1, f2] at hQ
      exact V_iret hX hQ rfl dX9_wholeOf_38
    have h := ite_f z3 h
    refine V_iload_n (q := 23) hX dX9_wholeOf_22 1 rfl rfl ?_
    refine V_iload_n (q := 24) hX dX9_wholeOf_23 0 rfl rfl ?_
    refine V_iconst (v := 2) (q := 25) hX dX9_wholeOf_24 (by decide) rfl ?_
    refine V_iload (q := 27) hX dX9_wholeOf_25 2 rfl rfl ?_
    refine V_imul (q := 28) hX dX9_wholeOf_27 rfl ?_
    refine V_ishl (q := 29) hX dX9_wholeOf_28 rfl ?_
    refine V_ior (q := 30) hX dX9_wholeOf_29 rfl ?_
    refine V_istore_n (lv' := [(3, .int ((x3 ||| (((a0 >>> (((2 : Int32) * (a1 - (1 : Int32))) &&& 31)) &&& (3 : Int32)) <<< (((2 : Int32) * x4) &&& 31))))), (2, .int (((a0 >>> (((2 : Int32) * (a1 - (1 : Int32))) &&& 31)) &&& (3 : Int32)))), (4, .int (x4))]) (q := 31) hX dX9_wholeOf_30 rfl rfl rfl ?_
    refine V_iinc (v := (x4 + 1)) (lv' := [(4, .int ((x4 + 1))), (3, .int ((x3 ||| (((a0 >>> (((2 : Int32) * (a1 - (1 : Int32))) &&& 31)) &&& (3 : Int32)) <<< (((2 : Int32) * x4) &&& 31))))), (2, .int (((a0 >>> (((2 : Int32) * (a1 - (1 : Int32))) &&& 31)) &&& (3 : Int32))))]) (q := 34) hX dX9_wholeOf_31 2 rfl (by rfl) rfl rfl rfl ?_
    refine V_goto hX dX9_wholeOf_34 (q := 15) (by decide) ?_
    refine V.pick [2, 1, 0] rfl ?_
    exact ih (x3 ||| (((a0 >>> (((2 : Int32) * (a1 - (1 : Int32))) &&& 31)) &&& (3 : Int32)) <<< (((2 : Int32) * x4) &&& 31))) (x4 + 1) σ  h
theorem v9_wholeOf_15 {g : GT} {X : XT} {a0 : Int32} {a1 : Int32} (hX : OkX g X (m9_wholeOf)) (hN : 95 ≤ g.N) {res : Int32 × St} (hQ : X.Q = QI g X res.1 res.2 ∧ X.cells = 0 ∧ X.slots = 0) (x3 : Int32) (x4 : Int32) (σ : St) (h : S9_wholeOf_15 a0 a1 4096 x3 x4 σ = some res) : V g X (m9_wholeOf) 15 [(2, .int (((a0 >>> (((2 : Int32) * (a1 - (1 : Int32))) &&& 31)) &&& (3 : Int32)))), (3, .int (x3)), (4, .int (x4))] [] σ := v9_wholeOf_15n hX hN hQ 4096 x3 x4 σ h
set_option maxRecDepth 100000 in
set_option maxHeartbeats 4000000 in
theorem v9_wholeOf {g : GT} {X : XT} {a0 : Int32} {a1 : Int32} (hX : OkX g X (m9_wholeOf)) (hN : 95 ≤ g.N) {res : Int32 × St} (hQ : X.Q = QI g X res.1 res.2 ∧ X.cells = 0 ∧ X.slots = 0) {σ : St} (h : S9_wholeOf a0 a1 σ = some res) : V g X (m9_wholeOf) 0 [(0, .int (a0)), (1, .int (a1))] [] σ := by
  unfold S9_wholeOf at h
  refine V_iload_n (q := 1) hX dX9_wholeOf_0 0 rfl rfl ?_
  refine V_iconst (v := 2) (q := 2) hX dX9_wholeOf_1 (by decide) rfl ?_
  refine V_iload_n (q := 3) hX dX9_wholeOf_2 1 rfl rfl ?_
  refine V_iconst (v := 1) (q := 4) hX dX9_wholeOf_3 (by decide) rfl ?_
  refine V_isub (q := 5) hX dX9_wholeOf_4 rfl ?_
  refine V_imul (q := 6) hX dX9_wholeOf_5 rfl ?_
  refine V_ishr (q := 7) hX dX9_wholeOf_6 rfl ?_
  refine V_iconst (v := 3) (q := 8) hX dX9_wholeOf_7 (by decide) rfl ?_
  refine V_iand (q := 9) hX dX9_wholeOf_8 rfl ?_
  refine V_istore_n (lv' := [(2, .int (((a0 >>> (((2 : Int32) * (a1 - (1 : Int32))) &&& 31)) &&& (3 : Int32)))), (0, .int (a0)), (1, .int (a1))]) (q := 10) hX dX9_wholeOf_9 rfl rfl rfl ?_
  refine V_iload_n (q := 11) hX dX9_wholeOf_10 1 rfl rfl ?_
  refine V_istore_n (lv' := [(3, .int (a0)), (2, .int (((a0 >>> (((2 : Int32) * (a1 - (1 : Int32))) &&& 31)) &&& (3 : Int32)))), (0, .int (a0)), (1, .int (a1))]) (q := 12) hX dX9_wholeOf_11 rfl rfl rfl ?_
  refine V_iload_n (q := 13) hX dX9_wholeOf_12 3 rfl rfl ?_
  refine V_istore (lv' := [(4, .int (a1)), (3, .int (a0)), (2, .int (((a0 >>> (((2 : Int32) * (a1 - (1 : Int32))) &&& 31)) &&& (3 : Int32)))), (0, .int (a0)), (1, .int (a1))]) (q := 15) hX dX9_wholeOf_13 rfl rfl rfl ?_
  refine V.pick [2, 1, 0] rfl ?_
  exact v9_wholeOf_15 hX hN hQ a0 a1 σ h
set_option maxRecDepth 100000 in
set_option maxHeartbeats 4000000 in
theorem c9_wholeOf {g : GT} {l : Launch} (hg : OkG g) (hN : 95 ≤ g.N) {a0 : Int32} {a1 : Int32} {σ : St} {r : Int32} {σ' : St} (h : S9_wholeOf a0 a1 σ = some (r, σ')) : CtI g l m9_wholeOf yX9_wholeOf [.int (a0), .int (a1)] σ r σ' := CtI.of hg (by decide) rfl rfl (fun X h1 h2 h3 => v9_wholeOf h1 hN (res := (r, σ')) h3 h)

abbrev m9_best : MI := (cX9_best, RX9, 9, some .int, 6)
def S9_best_143 (a1 : Int32) (a2 : Int32) (a3 : Int32) (a4 : Int32) (k61 : Int32 → Int32 → Int32 → St → Option (Int32 × St)) (x5 : Int32) (x7 : Int32) (s0 : Int32) (σ : St) : Option (Int32 × St) := k61 x5 s0 (x7 + 1) σ
def S9_best_127 (a1 : Int32) (a2 : Int32) (a3 : Int32) (a4 : Int32) (k61 : Int32 → Int32 → Int32 → St → Option (Int32 × St)) (x6 : Int32) (x7 : Int32) (x8 : Int32) (s0 : Int32) (σ : St) : Option (Int32 × St) := if x8 = 0 then (S9_best_143 a1 a2 a3 a4 k61 s0 x7 x6 σ) else (S9_best_143 a1 a2 a3 a4 k61 s0 x7 (gI σ 75 36) σ)
def S9_best_113 (a1 : Int32) (a2 : Int32) (a3 : Int32) (a4 : Int32) (k61 : Int32 → Int32 → Int32 → St → Option (Int32 × St)) (x5 : Int32) (x6 : Int32) (x7 : Int32) (s0 : Int32) (σ : St) : Option (Int32 × St) := if s0 = 0 then (S9_best_127 a1 a2 a3 a4 k61 x6 x7 s0 x5 σ) else (S9_best_127 a1 a2 a3 a4 k61 x6 x7 s0 x7 σ)
def S9_best_108 (a1 : Int32) (a2 : Int32) (a3 : Int32) (a4 : Int32) (k61 : Int32 → Int32 → Int32 → St → Option (Int32 × St)) (x5 : Int32) (x6 : Int32) (x7 : Int32) (σ : St) : Option (Int32 × St) := S9_best_113 a1 a2 a3 a4 k61 x5 x6 x7 (1 : Int32) σ
def S9_best_112 (a1 : Int32) (a2 : Int32) (a3 : Int32) (a4 : Int32) (k61 : Int32 → Int32 → Int32 → St → Option (Int32 × St)) (x5 : Int32) (x6 : Int32) (x7 : Int32) (σ : St) : Option (Int32 × St) := S9_best_113 a1 a2 a3 a4 k61 x5 x6 x7 (0 : Int32) σ
def B9_best_61 (a1 : Int32) (a2 : Int32) (a3 : Int32) (a4 : Int32) (rec : Int32 → Int32 → Int32 → St → Option (Int32 × St)) (x5 : Int32) (x6 : Int32) (x7 : Int32) (σ : St) : Option (Int32 × St) := if ((1 : Int32) <<< (((2 : Int32) * a3) &&& 31)) ≤ x7 then (if a4 = 0 then (some (x5, σ)) else (some (x6, σ))) else (bnd (S9_wholeOf x7 a3 σ) fun r102 σ101 => bnd (S9_bouts r102 a2 σ101) fun r105 σ104 => if (gI σ104 75 35) = (gI σ104 75 29) then (if x5 = (-1 : Int32) then (S9_best_108 a1 a2 a3 a4 rec x5 x6 x7 σ104) else (if x6 ≤ (gI σ104 75 36) then (S9_best_112 a1 a2 a3 a4 rec x5 x6 x7 σ104) else (S9_best_108 a1 a2 a3 a4 rec x5 x6 x7 σ104))) else (S9_best_112 a1 a2 a3 a4 rec x5 x6 x7 σ104))
def S9_best_61 (a1 : Int32) (a2 : Int32) (a3 : Int32) (a4 : Int32) : Nat → Int32 → Int32 → Int32 → St → Option (Int32 × St)
  | 0, _, _, _, _ => none
  | n + 1, x5, x6, x7, σ => B9_best_61 a1 a2 a3 a4 (S9_best_61 a1 a2 a3 a4 n) x5 x6 x7 σ
def S9_best (a1 : Int32) (a2 : Int32) (a3 : Int32) (a4 : Int32) (σ : St) : Option (Int32 × St) := bnd (S9_areTwoMen a1 σ) fun r111 σ110 => if r111 = 0 then (some ((-5 : Int32), σ110)) else (bnd (S9_isPlan a2 σ110) fun r115 σ114 => if r115 = 0 then (some ((-7 : Int32), σ114)) else (bnd (S9_in a3 (1 : Int32) (3 : Int32) σ114) fun r119 σ118 => if r119 = 0 then (some ((-7 : Int32), σ118)) else (bnd (S9_in a4 (0 : Int32) (1 : Int32) σ118) fun r123 σ122 => if r123 = 0 then (some ((-7 : Int32), σ122)) else (bnd (S9_begins (a1 / (10 : Int32)) (jrem a1 (10 : Int32)) σ122) fun r127 σ126 => S9_best_61 a1 a2 a3 a4 4096 (-1 : Int32) (-1 : Int32) (0 : Int32) σ126))))
set_option maxRecDepth 100000 in
set_option maxHeartbeats 4000000 in
theorem v9_best_143 {g : GT} {X : XT} {a1 : Int32} {a2 : Int32} {a3 : Int32} {a4 : Int32} (hX : OkX g X (m9_best)) (hN : 95 ≤ g.N) {res : Int32 × St} (hQ : X.Q = QI g X res.1 res.2 ∧ X.cells = 0 ∧ X.slots = 0)  {k61 : Int32 → Int32 → Int32 → St → Option (Int32 × St)} (hk61 : ∀ (x5 : Int32) (x6 : Int32) (x7 : Int32) (σ : St), k61 x5 x6 x7 σ = some res → V g X (m9_best) 61 [(0, .ref (g.ad (75))), (2, .int (a2)), (3, .int (a3)), (4, .int (a4)), (5, .int (x5)), (6, .int (x6)), (7, .int (x7))] [] σ) (x5 : Int32) (x7 : Int32) (s0 : Int32) (σ : St)  (h : S9_best_143 a1 a2 a3 a4 k61 x5 x7 s0 σ = some res) : V g X (m9_best) 143 [(0, .ref (g.ad (75))), (2, .int (a2)), (3, .int (a3)), (4, .int (a4)), (5, .int (x5)), (7, .int (x7))] [.int (s0)] σ := by
  unfold S9_best_143 at h
  refine V_istore (lv' := [(6, .int (s0)), (0, .ref (g.ad (75))), (2, .int (a2)), (3, .int (a3)), (4, .int (a4)), (5, .int (x5)), (7, .int (x7))]) (q := 145) hX dX9_best_143 rfl rfl rfl ?_
  refine V_iinc (v := (x7 + 1)) (lv' := [(7, .int ((x7 + 1))), (6, .int (s0)), (0, .ref (g.ad (75))), (2, .int (a2)), (3, .int (a3)), (4, .int (a4)), (5, .int (x5))]) (q := 148) hX dX9_best_145 6 rfl (by rfl) rfl rfl rfl ?_
  refine V_goto hX dX9_best_148 (q := 61) (by decide) ?_
  refine V.pick [2, 3, 4, 5, 6, 1, 0] rfl ?_
  exact hk61 x5 s0 (x7 + 1) σ  h
set_option maxRecDepth 100000 in
set_option maxHeartbeats 4000000 in
theorem v9_best_127 {g : GT} {X : XT} {a1 : Int32} {a2 : Int32} {a3 : Int32} {a4 : Int32} (hX : OkX g X (m9_best)) (hN : 95 ≤ g.N) {res : Int32 × St} (hQ : X.Q = QI g X res.1 res.2 ∧ X.cells = 0 ∧ X.slots = 0)  {k61 : Int32 → Int32 → Int32 → St → Option (Int32 × St)} (hk61 : ∀ (x5 : Int32) (x6 : Int32) (x7 : Int32) (σ : St), k61 x5 x6 x7 σ = some res → V g X (m9_best) 61 [(0, .ref (g.ad (75))), (2, .int (a2)), (3, .int (a3)), (4, .int (a4)), (5, .int (x5)), (6, .int (x6)), (7, .int (x7))] [] σ) (x6 : Int32) (x7 : Int32) (x8 : Int32) (s0 : Int32) (σ : St)  (h : S9_best_127 a1 a2 a3 a4 k61 x6 x7 x8 s0 σ = some res) : V g X (m9_best) 127 [(0, .ref (g.ad (75))), (2, .int (a2)), (3, .int (a3)), (4, .int (a4)), (6, .int (x6)), (7, .int (x7)), (8, .int (x8))] [.int (s0)] σ := by
  unfold S9_best_127 at h
  refine V_istore (lv' := [(5, .int (s0)), (0, .ref (g.ad (75))), (2, .int (a2)), (3, .int (a3)), (4, .int (a4)), (6, .int (x6)), (7, .int (x7)), (8, .int (x8))]) (q := 129) hX dX9_best_127 rfl rfl rfl ?_
  refine V_iload (q := 131) hX dX9_best_129 7 rfl rfl ?_
  refine V_if_eq (q := 134) (t := 141) hX dX9_best_131 (by decide) rfl (fun z97 => ?_) (fun z97 => ?_)
  · have h := ite_t z97 h
    refine V_iload (q := 143) hX dX9_best_141 5 rfl rfl ?_
    refine V.pick [1, 2, 3, 4, 0, 6] rfl ?_
    exact v9_best_143 hX hN hQ hk61 s0 x7 x6 σ h
  have h := ite_f z97 h
  refine V_aload_n (q := 135) hX dX9_best_134 1 rfl rfl ?_
  refine V_getI (n := 95) (c := 9) (k := 36) (nf := 39) (C := RX9) (T := TX9) (q := 138) hX rfl rfl iG9 k4_218 rfl rfl ⟨rfl, by decide⟩ hN rfl rfl dX9_best_135 rfl ?_
  refine V_goto hX dX9_best_138 (q := 143) (by decide) ?_
  refine V.pick [1, 2, 3, 4, 0, 6] rfl ?_
  exact v9_best_143 hX hN hQ hk61 s0 x7 (gI σ 75 36) σ h
set_option maxRecDepth 100000 in
set_option maxHeartbeats 4000000 in
theorem v9_best_113 {g : GT} {X : XT} {a1 : Int32} {a2 : Int32} {a3 : Int32} {a4 : Int32} (hX : OkX g X (m9_best)) (hN : 95 ≤ g.N) {res : Int32 × St} (hQ : X.Q = QI g X res.1 res.2 ∧ X.cells = 0 ∧ X.slots = 0)  {k61 : Int32 → Int32 → Int32 → St → Option (Int32 × St)} (hk61 : ∀ (x5 : Int32) (x6 : Int32) (x7 : Int32) (σ : St), k61 x5 x6 x7 σ = some res → V g X (m9_best) 61 [(0, .ref (g.ad (75))), (2, .int (a2)), (3, .int (a3)), (4, .int (a4)), (5, .int (x5)), (6, .int (x6)), (7, .int (x7))] [] σ) (x5 : Int32) (x6 : Int32) (x7 : Int32) (s0 : Int32) (σ : St)  (h : S9_best_113 a1 a2 a3 a4 k61 x5 x6 x7 s0 σ = some res) : V g X (m9_best) 113 [(0, .ref (g.ad (75))), (2, .int (a2)), (3, .int (a3)), (4, .int (a4)), (5, .int (x5)), (6, .int (x6)), (7, .int (x7))] [.int (s0)] σ := by
  unfold S9_best_113 at h
  refine V_istore (lv' := [(8, .int (s0)), (0, .ref (g.ad (75))), (2, .int (a2)), (3, .int (a3)), (4, .int (a4)), (5, .int (x5)), (6, .int (x6)), (7, .int (x7))]) (q := 115) hX dX9_best_113 rfl rfl rfl ?_
  refine V_iload (q := 117) hX dX9_best_115 0 rfl rfl ?_
  refine V_if_eq (q := 120) (t := 125) hX dX9_best_117 (by decide) rfl (fun z98 => ?_) (fun z98 => ?_)
  · have h := ite_t z98 h
    refine V_iload (q := 127) hX dX9_best_125 5 rfl rfl ?_
    refine V.pick [1, 2, 3, 4, 6, 7, 0] rfl ?_
    exact v9_best_127 hX hN hQ hk61 x6 x7 s0 x5 σ h
  have h := ite_f z98 h
  refine V_iload (q := 122) hX dX9_best_120 7 rfl rfl ?_
  refine V_goto hX dX9_best_122 (q := 127) (by decide) ?_
  refine V.pick [1, 2, 3, 4, 6, 7, 0] rfl ?_
  exact v9_best_127 hX hN hQ hk61 x6 x7 s0 x7 σ h
set_option maxRecDepth 100000 in
set_option maxHeartbeats 4000000 in
theorem v9_best_108 {g : GT} {X : XT} {a1 : Int32} {a2 : Int32} {a3 : Int32} {a4 : Int32} (hX : OkX g X (m9_best)) (hN : 95 ≤ g.N) {res : Int32 × St} (hQ : X.Q = QI g X res.1 res.2 ∧ X.cells = 0 ∧ X.slots = 0)  {k61 : Int32 → Int32 → Int32 → St → Option (Int32 × St)} (hk61 : ∀ (x5 : Int32) (x6 : Int32) (x7 : Int32) (σ : St), k61 x5 x6 x7 σ = some res → V g X (m9_best) 61 [(0, .ref (g.ad (75))), (2, .int (a2)), (3, .int (a3)), (4, .int (a4)), (5, .int (x5)), (6, .int (x6)), (7, .int (x7))] [] σ) (x5 : Int32) (x6 : Int32) (x7 : Int32) (σ : St)  (h : S9_best_108 a1 a2 a3 a4 k61 x5 x6 x7 σ = some res) : V g X (m9_best) 108 [(0, .ref (g.ad (75))), (2, .int (a2)), (3, .int (a3)), (4, .int (a4)), (5, .int (x5)), (6, .int (x6)), (7, .int (x7))] [] σ := by
  unfold S9_best_108 at h
  refine V_iconst (v := 1) (q := 109) hX dX9_best_108 (by decide) rfl ?_
  refine V_goto hX dX9_best_109 (q := 113) (by decide) ?_
  refine V.pick [0, 1, 2, 3, 4, 5, 6] rfl ?_
  exact v9_best_113 hX hN hQ hk61 x5 x6 x7 (1 : Int32) σ h
set_option maxRecDepth 100000 in
set_option maxHeartbeats 4000000 in
theorem v9_best_112 {g : GT} {X : XT} {a1 : Int32} {a2 : Int32} {a3 : Int32} {a4 : Int32} (hX : OkX g X (m9_best)) (hN : 95 ≤ g.N) {res : Int32 × St} (hQ : X.Q = QI g X res.1 res.2 ∧ X.cells = 0 ∧ X.slots = 0)  {k61 : Int32 → Int32 → Int32 → St → Option (Int32 × St)} (hk61 : ∀ (x5 : Int32) (x6 : Int32) (x7 : Int32) (σ : St), k61 x5 x6 x7 σ = some res → V g X (m9_best) 61 [(0, .ref (g.ad (75))), (2, .int (a2)), (3, .int (a3)), (4, .int (a4)), (5, .int (x5)), (6, .int (x6)), (7, .int (x7))] [] σ) (x5 : Int32) (x6 : Int32) (x7 : Int32) (σ : St)  (h : S9_best_112 a1 a2 a3 a4 k61 x5 x6 x7 σ = some res) : V g X (m9_best) 112 [(0, .ref (g.ad (75))), (2, .int (a2)), (3, .int (a3)), (4, .int (a4)), (5, .int (x5)), (6, .int (x6)), (7, .int (x7))] [] σ := by
  unfold S9_best_112 at h
  refine V_iconst (v := 0) (q := 113) hX dX9_best_112 (by decide) rfl ?_
  refine V.pick [0, 1, 2, 3, 4, 5, 6] rfl ?_
  exact v9_best_113 hX hN hQ hk61 x5 x6 x7 (0 : Int32) σ h
set_option maxRecDepth 100000 in
set_option maxHeartbeats 4000000 in
theorem v9_best_61n {g : GT} {X : XT} {a1 : Int32} {a2 : Int32} {a3 : Int32} {a4 : Int32} (hX : OkX g X (m9_best)) (hN : 95 ≤ g.N) {res : Int32 × St} (hQ : X.Q = QI g X res.1 res.2 ∧ X.cells = 0 ∧ X.slots = 0)   (n : Nat) : ∀ (x5 : Int32) (x6 : Int32) (x7 : Int32) (σ : St) , S9_best_61 a1 a2 a3 a4 n x5 x6 x7 σ = some res → V g X (m9_best) 61 [(0, .ref (g.ad (75))), (2, .int (a2)), (3, .int (a3)), (4, .int (a4)), (5, .int (x5)), (6, .int (x6)), (7, .int (x7))] [] σ := by
  induction n with
  | zero => intro x5 x6 x7 σ; intro h; cases h
  | succ n ih =>
    intro x5 x6 x7 σ h
    have h : B9_best_61 a1 a2 a3 a4 (S9_best_61 a1 a2 a3 a4 n) x5 x6 x7 σ = some res := h
    unfold B9_best_61 at h
    refine V_iload (q := 63) hX dX9_best_61 6 rfl rfl ?_
    refine V_iconst (v := 1) (q := 64) hX dX9_best_63 (by decide) rfl ?_
    refine V_iconst (v := 2) (q := 65) hX dX9_best_64 (by decide) rfl ?_
    refine V_iload_n (q := 66) hX dX9_best_65 2 rfl rfl ?_
    refine V_imul (q := 67) hX dX9_best_66 rfl ?_
    refine V_ishl (q := 68) hX dX9_best_67 rfl ?_
    refine V_icmp_ge (q := 71) (t := 151) hX dX9_best_68 (by decide) rfl (fun z99 => ?_) (fun z99 => ?_)
    · have h := ite_t z99 h
      refine V_iload (q := 153) hX dX9_best_151 3 rfl rfl ?_
      refine V_if_ne (q := 156) (t := 161) hX dX9_best_153 (by decide) rfl (fun z100 => ?_) (fun z100 => ?_)
      · have h := ite_f z100 h
        refine V_iload (q := 163) hX dX9_best_161 5 rfl rfl ?_
        obtain ⟨f1, f2⟩ := some2 h
        rw [f1, f2] at hQ
        exact V_iret hX hQ rfl dX9_best_163
      have h := ite_t z100 h
      refine V_iload (q := 158) hX dX9_best_156 4 rfl rfl ?_
      refine V_goto hX dX9_best_158 (q := 163) (by decide) ?_
      obtain ⟨f1, f2⟩ := some2 h
      rw [f1, f2] at hQ
      exact V_iret hX hQ rfl dX9_best_163
    have h := ite_f z99 h
    refine V_aload_n (q := 72) hX dX9_best_71 0 rfl rfl ?_
    refine V_iload (q := 74) hX dX9_best_72 6 rfl rfl ?_
    refine V_iload_n (q := 75) hX dX9_best_74 2 rfl rfl ?_
    obtain ⟨r102, σ101, e103, h⟩ := bnd_some h
    refine V_csI (As := [.int (x7), .int (a3)]) (q := 78) hX (c9_wholeOf hX.2.2.2.2.1 hN e103) (goodS_of k5_170 k5_171 k1_16 (cons_g k5_172)) (nA := 2) (by decide) rfl rfl rfl rfl rfl dX9_best_75 rfl ?_
    refine V_iload_n (q := 79) hX dX9_best_78 1 rfl rfl ?_
    obtain ⟨r105, σ104, e106, h⟩ := bnd_some h
    refine V_cvV (n := 95) (c := 9) (nf := 39) (C := RX9) (T := TX9) (As := [.int (r102), .int (a2)]) (q := 82) hX (c9_bouts hX.2.2.2.2.1 hN e106) (goodV_of k5_142 k5_144 kp_51 k1_16 (cons_g k5_145)) (nA := 2) (by decide) rfl rfl rfl rfl rfl ⟨rfl, by decide⟩ hN rfl rfl rfl dX9_best_79 rfl ?_
    refine V_aload_n (q := 83) hX dX9_best_82 0 rfl rfl ?_
    refine V_getI (n := 95) (c := 9) (k := 35) (nf := 39) (C := RX9) (T := TX9) (q := 86) hX rfl rfl iG9 k4_217 rfl rfl ⟨rfl, by decide⟩ hN rfl rfl dX9_best_83 rfl ?_
    refine V_aload_n (q := 87) hX dX9_best_86 0 rfl rfl ?_
    refine V_getI (n := 95) (c := 9) (k := 29) (nf := 39) (C := RX9) (T := TX9) (q := 90) hX rfl rfl iG9 k4_211 rfl rfl ⟨rfl, by decide⟩ hN rfl rfl dX9_best_87 rfl ?_
    refine V_icmp_ne (q := 93) (t := 112) hX dX9_best_90 (by decide) rfl (fun z107 => ?_) (fun z107 => ?_)
    · have h := ite_f z107 h
      refine V.pick [0, 1, 2, 3, 4, 5, 6] rfl ?_
      exact v9_best_112 hX hN hQ ih x5 x6 x7 σ104 h
    have h := ite_t z107 h
    refine V_iload (q := 95) hX dX9_best_93 4 rfl rfl ?_
    refine V_iconst (v := -1) (q := 96) hX dX9_best_95 (by decide) rfl ?_
    refine V_icmp_eq (q := 99) (t := 108) hX dX9_best_96 (by decide) rfl (fun z108 => ?_) (fun z108 => ?_)
    · have h := ite_t z108 h
      refine V.pick [0, 1, 2, 3, 4, 5, 6] rfl ?_
      exact v9_best_108 hX hN hQ ih x5 x6 x7 σ104 h
    have h := ite_f z108 h
    refine V_aload_n (q := 100) hX dX9_best_99 0 rfl rfl ?_
    refine V_getI (n := 95) (c := 9) (k := 36) (nf := 39) (C := RX9) (T := TX9) (q := 103) hX rfl rfl iG9 k4_218 rfl rfl ⟨rfl, by decide⟩ hN rfl rfl dX9_best_100 rfl ?_
    refine V_iload (q := 105) hX dX9_best_103 5 rfl rfl ?_
    refine V_icmp_ge (q := 108) (t := 112) hX dX9_best_105 (by decide) rfl (fun z109 => ?_) (fun z109 => ?_)
    · have h := ite_t z109 h
      refine V.pick [0, 1, 2, 3, 4, 5, 6] rfl ?_
      exact v9_best_112 hX hN hQ ih x5 x6 x7 σ104 h
    have h := ite_f z109 h
    refine V.pick [0, 1, 2, 3, 4, 5, 6] rfl ?_
    exact v9_best_108 hX hN hQ ih x5 x6 x7 σ104 h
theorem v9_best_61 {g : GT} {X : XT} {a1 : Int32} {a2 : Int32} {a3 : Int32} {a4 : Int32} (hX : OkX g X (m9_best)) (hN : 95 ≤ g.N) {res : Int32 × St} (hQ : X.Q = QI g X res.1 res.2 ∧ X.cells = 0 ∧ X.slots = 0) (x5 : Int32) (x6 : Int32) (x7 : Int32) (σ : St) (h : S9_best_61 a1 a2 a3 a4 4096 x5 x6 x7 σ = some res) : V g X (m9_best) 61 [(0, .ref (g.ad (75))), (2, .int (a2)), (3, .int (a3)), (4, .int (a4)), (5, .int (x5)), (6, .int (x6)), (7, .int (x7))] [] σ := v9_best_61n hX hN hQ 4096 x5 x6 x7 σ h
set_option maxRecDepth 100000 in
set_option maxHeartbeats 4000000 in
theorem v9_best {g : GT} {X : XT} {a1 : Int32} {a2 : Int32} {a3 : Int32} {a4 : Int32} (hX : OkX g X (m9_best)) (hN : 95 ≤ g.N) {res : Int32 × St} (hQ : X.Q = QI g X res.1 res.2 ∧ X.cells = 0 ∧ X.slots = 0) {σ : St} (h : S9_best a1 a2 a3 a4 σ = some res) : V g X (m9_best) 0 [(0, .ref (g.ad (75))), (1, .int (a1)), (2, .int (a2)), (3, .int (a3)), (4, .int (a4))] [] σ := by
  unfold S9_best at h
  refine V_aload_n (q := 1) hX dX9_best_0 0 rfl rfl ?_
  refine V_iload_n (q := 2) hX dX9_best_1 1 rfl rfl ?_
  obtain ⟨r111, σ110, e112, h⟩ := bnd_some h
  refine V_cvI (n := 95) (c := 9) (nf := 39) (C := RX9) (T := TX9) (As := [.int (a1)]) (q := 5) hX (c9_areTwoMen hX.2.2.2.2.1 hN e112) (goodV_of k5_114 k5_116 kp_45 k1_16 (cons_g k5_117)) (nA := 1) (by decide) rfl rfl rfl rfl rfl ⟨rfl, by decide⟩ hN rfl rfl rfl dX9_best_2 rfl ?_
  refine V_if_ne (q := 8) (t := 11) hX dX9_best_5 (by decide) rfl (fun z113 => ?_) (fun z113 => ?_)
  · have h := ite_f z113 h
    refine V_iload_n (q := 12) hX dX9_best_11 2 rfl rfl ?_
    obtain ⟨r115, σ114, e116, h⟩ := bnd_some h
    refine V_csI (As := [.int (a2)]) (q := 15) hX (c9_isPlan hX.2.2.2.2.1 hN e116) (goodS_of k5_122 k5_123 k1_16 (cons_g k5_124)) (nA := 1) (by decide) rfl rfl rfl rfl rfl dX9_best_12 rfl ?_
    refine V_if_eq (q := 18) (t := 37) hX dX9_best_15 (by decide) rfl (fun z117 => ?_) (fun z117 => ?_)
    · have h := ite_t z117 h
      refine V_bipush (v := -7) (q := 39) hX dX9_best_37 (by decide) rfl ?_
      obtain ⟨f1, f2⟩ := some2 h
      rw [f1, f2] at hQ
      exact V_iret hX hQ rfl dX9_best_39
    have h := ite_f z117 h
    refine V_iload_n (q := 19) hX dX9_best_18 3 rfl rfl ?_
    refine V_iconst (v := 1) (q := 20) hX dX9_best_19 (by decide) rfl ?_
    refine V_iconst (v := 3) (q := 21) hX dX9_best_20 (by decide) rfl ?_
    obtain ⟨r119, σ118, e120, h⟩ := bnd_some h
    refine V_csI (As := [.int (a3), .int ((1 : Int32)), .int ((3 : Int32))]) (q := 24) hX (c9_in hX.2.2.2.2.1 hN e120) (goodS_of k4_143 k4_144 k1_16 (cons_g k4_145)) (nA := 3) (by decide) rfl rfl rfl rfl rfl dX9_best_21 rfl ?_
    refine V_if_eq (q := 27) (t := 37) hX dX9_best_24 (by decide) rfl (fun z121 => ?_) (fun z121 => ?_)
    · have h := ite_t z121 h
      refine V_bipush (v := -7) (q := 39) hX dX9_best_37 (by decide) rfl ?_
      obtain ⟨f1, f2⟩ := some2 h
      rw [f1, f2] at hQ
      exact V_iret hX hQ rfl dX9_best_39
    have h := ite_f z121 h
    refine V_iload (q := 29) hX dX9_best_27 4 rfl rfl ?_
    refine V_iconst (v := 0) (q := 30) hX dX9_best_29 (by decide) rfl ?_
    refine V_iconst (v := 1) (q := 31) hX dX9_best_30 (by decide) rfl ?_
    obtain ⟨r123, σ122, e124, h⟩ := bnd_some h
    refine V_csI (As := [.int (a4), .int ((0 : Int32)), .int ((1 : Int32))]) (q := 34) hX (c9_in hX.2.2.2.2.1 hN e124) (goodS_of k4_143 k4_144 k1_16 (cons_g k4_145)) (nA := 3) (by decide) rfl rfl rfl rfl rfl dX9_best_31 rfl ?_
    refine V_if_ne (q := 37) (t := 40) hX dX9_best_34 (by decide) rfl (fun z125 => ?_) (fun z125 => ?_)
    · have h := ite_f z125 h
      refine V_aload_n (q := 41) hX dX9_best_40 0 rfl rfl ?_
      refine V_iload_n (q := 42) hX dX9_best_41 1 rfl rfl ?_
      refine V_bipush (v := 10) (q := 44) hX dX9_best_42 (by decide) rfl ?_
      refine V_idiv (q := 45) hX (by decide) dX9_best_44 rfl ?_
      refine V_iload_n (q := 46) hX dX9_best_45 1 rfl rfl ?_
      refine V_bipush (v := 10) (q := 48) hX dX9_best_46 (by decide) rfl ?_
      refine V_irem (q := 49) hX (by decide) dX9_best_48 rfl ?_
      obtain ⟨r127, σ126, e128, h⟩ := bnd_some h
      refine V_cvV (n := 95) (c := 9) (nf := 39) (C := RX9) (T := TX9) (As := [.int ((a1 / (10 : Int32))), .int ((jrem a1 (10 : Int32)))]) (q := 52) hX (c9_begins hX.2.2.2.2.1 hN e128) (goodV_of k5_130 k5_132 kp_48 k1_16 (cons_g k5_133)) (nA := 2) (by decide) rfl rfl rfl rfl rfl ⟨rfl, by decide⟩ hN rfl rfl rfl dX9_best_49 rfl ?_
      refine V_iconst (v := -1) (q := 53) hX dX9_best_52 (by decide) rfl ?_
      refine V_istore (lv' := [(5, .int ((-1 : Int32))), (0, .ref (g.ad (75))), (1, .int (a1)), (2, .int (a2)), (3, .int (a3)), (4, .int (a4))]) (q := 55) hX dX9_best_53 rfl rfl rfl ?_
      refine V_iconst (v := -1) (q := 56) hX dX9_best_55 (by decide) rfl ?_
      refine V_istore (lv' := [(6, .int ((-1 : Int32))), (5, .int ((-1 : Int32))), (0, .ref (g.ad (75))), (1, .int (a1)), (2, .int (a2)), (3, .int (a3)), (4, .int (a4))]) (q := 58) hX dX9_best_56 rfl rfl rfl ?_
      refine V_iconst (v := 0) (q := 59) hX dX9_best_58 (by decide) rfl ?_
      refine V_istore (lv' := [(7, .int ((0 : Int32))), (6, .int ((-1 : Int32))), (5, .int ((-1 : Int32))), (0, .ref (g.ad (75))), (1, .int (a1)), (2, .int (a2)), (3, .int (a3)), (4, .int (a4))]) (q := 61) hX dX9_best_59 rfl rfl rfl ?_
      refine V.pick [3, 5, 6, 7, 2, 1, 0] rfl ?_
      exact v9_best_61 hX hN hQ (-1 : Int32) (-1 : Int32) (0 : Int32) σ126 h
    have h := ite_t z125 h
    refine V_bipush (v := -7) (q := 39) hX dX9_best_37 (by decide) rfl ?_
    obtain ⟨f1, f2⟩ := some2 h
    rw [f1, f2] at hQ
    exact V_iret hX hQ rfl dX9_best_39
  have h := ite_t z113 h
  refine V_bipush (v := -5) (q := 10) hX dX9_best_8 (by decide) rfl ?_
  obtain ⟨f1, f2⟩ := some2 h
  rw [f1, f2] at hQ
  exact V_iret hX hQ rfl dX9_best_10
set_option maxRecDepth 100000 in
set_option maxHeartbeats 4000000 in
theorem c9_best {g : GT} {l : Launch} (hg : OkG g) (hN : 95 ≤ g.N) {a1 : Int32} {a2 : Int32} {a3 : Int32} {a4 : Int32} {σ : St} {r : Int32} {σ' : St} (h : S9_best a1 a2 a3 a4 σ = some (r, σ')) : CtI g l m9_best yX9_best [.ref (g.ad (75)), .int (a1), .int (a2), .int (a3), .int (a4)] σ r σ' := CtI.of hg (by decide) rfl rfl (fun X h1 h2 h3 => v9_best h1 hN (res := (r, σ')) h3 h)

abbrev m9_winsOf : MI := (cX9_winsOf, RX9, 5, some .int, 6)
def S9_winsOf_47 (a1 : Int32) (a2 : Int32) (k5 : Int32 → Int32 → St → Option (Int32 × St)) (x4 : Int32) (s0 : Int32) (s1 : Int32) (σ : St) : Option (Int32 × St) := k5 (s0 + s1) (x4 + 1) σ
def B9_winsOf_5 (a1 : Int32) (a2 : Int32) (rec : Int32 → Int32 → St → Option (Int32 × St)) (x3 : Int32) (x4 : Int32) (σ : St) : Option (Int32 × St) := if ((1 : Int32) <<< (((2 : Int32) * a2) &&& 31)) ≤ x4 then (some (x3, σ)) else (bnd (S9_wholeOf a1 a2 σ) fun r36 σ35 => bnd (S9_wholeOf x4 a2 σ35) fun r39 σ38 => bnd (S9_bouts r36 r39 σ38) fun r42 σ41 => if (gI σ41 75 35) = (gI σ41 75 29) then (S9_winsOf_47 a1 a2 rec x4 x3 (1 : Int32) σ41) else (S9_winsOf_47 a1 a2 rec x4 x3 (0 : Int32) σ41))
def S9_winsOf_5 (a1 : Int32) (a2 : Int32) : Nat → Int32 → Int32 → St → Option (Int32 × St)
  | 0, _, _, _ => none
  | n + 1, x3, x4, σ => B9_winsOf_5 a1 a2 (S9_winsOf_5 a1 a2 n) x3 x4 σ
def S9_winsOf (a1 : Int32) (a2 : Int32) (σ : St) : Option (Int32 × St) := S9_winsOf_5 a1 a2 4096 (0 : Int32) (0 : Int32) σ
set_option maxRecDepth 100000 in
set_option maxHeartbeats 4000000 in
theorem v9_winsOf_47 {g : GT} {X : XT} {a1 : Int32} {a2 : Int32} (hX : OkX g X (m9_winsOf)) (hN : 95 ≤ g.N) {res : Int32 × St} (hQ : X.Q = QI g X res.1 res.2 ∧ X.cells = 0 ∧ X.slots = 0)  {k5 : Int32 → Int32 → St → Option (Int32 × St)} (hk5 : ∀ (x3 : Int32) (x4 : Int32) (σ : St), k5 x3 x4 σ = some res → V g X (m9_winsOf) 5 [(0, .ref (g.ad (75))), (1, .int (a1)), (2, .int (a2)), (3, .int (x3)), (4, .int (x4))] [] σ) (x4 : Int32) (s0 : Int32) (s1 : Int32) (σ : St)  (h : S9_winsOf_47 a1 a2 k5 x4 s0 s1 σ = some res) : V g X (m9_winsOf) 47 [(0, .ref (g.ad (75))), (1, .int (a1)), (2, .int (a2)), (4, .int (x4))] [.int (s1), .int (s0)] σ := by
  unfold S9_winsOf_47 at h
  refine V_iadd (q := 48) hX dX9_winsOf_47 rfl ?_
  refine V_istore_n (lv' := [(3, .int ((s0 + s1))), (0, .ref (g.ad (75))), (1, .int (a1)), (2, .int (a2)), (4, .int (x4))]) (q := 49) hX dX9_winsOf_48 rfl rfl rfl ?_
  refine V_iinc (v := (x4 + 1)) (lv' := [(4, .int ((x4 + 1))), (3, .int ((s0 + s1))), (0, .ref (g.ad (75))), (1, .int (a1)), (2, .int (a2))]) (q := 52) hX dX9_winsOf_49 4 rfl (by rfl) rfl rfl rfl ?_
  refine V_goto hX dX9_winsOf_52 (q := 5) (by decide) ?_
  refine V.pick [2, 3, 4, 1, 0] rfl ?_
  exact hk5 (s0 + s1) (x4 + 1) σ  h
set_option maxRecDepth 100000 in
set_option maxHeartbeats 4000000 in
theorem v9_winsOf_5n {g : GT} {X : XT} {a1 : Int32} {a2 : Int32} (hX : OkX g X (m9_winsOf)) (hN : 95 ≤ g.N) {res : Int32 × St} (hQ : X.Q = QI g X res.1 res.2 ∧ X.cells = 0 ∧ X.slots = 0)   (n : Nat) : ∀ (x3 : Int32) (x4 : Int32) (σ : St) , S9_winsOf_5 a1 a2 n x3 x4 σ = some res → V g X (m9_winsOf) 5 [(0, .ref (g.ad (75))), (1, .int (a1)), (2, .int (a2)), (3, .int (x3)), (4, .int (x4))] [] σ := by
  induction n with
  | zero => intro x3 x4 σ; intro h; cases h
  | succ n ih =>
    intro x3 x4 σ h
    have h : B9_winsOf_5 a1 a2 (S9_winsOf_5 a1 a2 n) x3 x4 σ = some res := h
    unfold B9_winsOf_5 at h
    refine V_iload (q := 7) hX dX9_winsOf_5 4 rfl rfl ?_
    refine V_iconst (v := 1) (q := 8) hX dX9_winsOf_7 (by decide) rfl ?_
    refine V_iconst (v := 2) (q := 9) hX dX9_winsOf_8 (by decide) rfl ?_
    refine V_iload_n (q := 10) hX dX9_winsOf_9 2 rfl rfl ?_
    refine V_imul (q := 11) hX dX9_winsOf_10 rfl ?_
    refine V_ishl (q := 12) hX dX9_winsOf_11 rfl ?_
    refine V_icmp_ge (q := 15) (t := 55) hX dX9_winsOf_12 (by decide) rfl (fun z34 => ?_) (fun z34 => ?_)
    · have h := ite_t z34 h
      refine V_iload_n (q := 56) hX dX9_winsOf_55 3 rfl rfl ?_
      obtain ⟨f1, f2⟩ := some2 h
      rw [f1, f2] at hQ
      exact V_iret hX hQ rfl dX9_winsOf_56
    have h := ite_f z34 h
    refine V_aload_n (q := 16) hX dX9_winsOf_15 0 rfl rfl ?_
    refine V_iload_n (q := 17) hX dX9_winsOf_16 1 rfl rfl ?_
    refine V_iload_n (q := 18) hX dX9_winsOf_17 2 rfl rfl ?_
    obtain ⟨r36, σ35, e37, h⟩ := bnd_some h
    refine V_csI (As := [.int (a1), .int (a2)]) (q := 21) hX (c9_wholeOf hX.2.2.2.2.1 hN e37) (goodS_of k5_170 k5_171 k1_16 (cons_g k5_172)) (nA := 2) (by decide) rfl rfl rfl rfl rfl dX9_winsOf_18 rfl ?_
    refine V_iload (q := 23) hX dX9_winsOf_21 4 rfl rfl ?_
    refine V_iload_n (q := 24) hX dX9_winsOf_23 2 rfl rfl ?_
    obtain ⟨r39, σ38, e40, h⟩ := bnd_some h
    refine V_csI (As := [.int (x4), .int (a2)]) (q := 27) hX (c9_wholeOf hX.2.2.2.2.1 hN e40) (goodS_of k5_170 k5_171 k1_16 (cons_g k5_172)) (nA := 2) (by decide) rfl rfl rfl rfl rfl dX9_winsOf_24 rfl ?_
    obtain ⟨r42, σ41, e43, h⟩ := bnd_some h
    refine V_cvV (n := 95) (c := 9) (nf := 39) (C := RX9) (T := TX9) (As := [.int (r36), .int (r39)]) (q := 30) hX (c9_bouts hX.2.2.2.2.1 hN e43) (goodV_of k5_142 k5_144 kp_51 k1_16 (cons_g k5_145)) (nA := 2) (by decide) rfl rfl rfl rfl rfl ⟨rfl, by decide⟩ hN rfl rfl rfl dX9_winsOf_27 rfl ?_
    refine V_iload_n (q := 31) hX dX9_winsOf_30 3 rfl rfl ?_
    refine V_aload_n (q := 32) hX dX9_winsOf_31 0 rfl rfl ?_
    refine V_getI (n := 95) (c := 9) (k := 35) (nf := 39) (C := RX9) (T := TX9) (q := 35) hX rfl rfl iG9 k4_217 rfl rfl ⟨rfl, by decide⟩ hN rfl rfl dX9_winsOf_32 rfl ?_
    refine V_aload_n (q := 36) hX dX9_winsOf_35 0 rfl rfl ?_
    refine V_getI (n := 95) (c := 9) (k := 29) (nf := 39) (C := RX9) (T := TX9) (q := 39) hX rfl rfl iG9 k4_211 rfl rfl ⟨rfl, by decide⟩ hN rfl rfl dX9_winsOf_36 rfl ?_
    refine V_icmp_ne (q := 42) (t := 46) hX dX9_winsOf_39 (by decide) rfl (fun z44 => ?_) (fun z44 => ?_)
    · have h := ite_f z44 h
      refine V_iconst (v := 0) (q := 47) hX dX9_winsOf_46 (by decide) rfl ?_
      refine V.pick [0, 1, 2, 4] rfl ?_
      exact v9_winsOf_47 hX hN hQ ih x4 x3 (0 : Int32) σ41 h
    have h := ite_t z44 h
    refine V_iconst (v := 1) (q := 43) hX dX9_winsOf_42 (by decide) rfl ?_
    refine V_goto hX dX9_winsOf_43 (q := 47) (by decide) ?_
    refine V.pick [0, 1, 2, 4] rfl ?_
    exact v9_winsOf_47 hX hN hQ ih x4 x3 (1 : Int32) σ41 h
theorem v9_winsOf_5 {g : GT} {X : XT} {a1 : Int32} {a2 : Int32} (hX : OkX g X (m9_winsOf)) (hN : 95 ≤ g.N) {res : Int32 × St} (hQ : X.Q = QI g X res.1 res.2 ∧ X.cells = 0 ∧ X.slots = 0) (x3 : Int32) (x4 : Int32) (σ : St) (h : S9_winsOf_5 a1 a2 4096 x3 x4 σ = some res) : V g X (m9_winsOf) 5 [(0, .ref (g.ad (75))), (1, .int (a1)), (2, .int (a2)), (3, .int (x3)), (4, .int (x4))] [] σ := v9_winsOf_5n hX hN hQ 4096 x3 x4 σ h
set_option maxRecDepth 100000 in
set_option maxHeartbeats 4000000 in
theorem v9_winsOf {g : GT} {X : XT} {a1 : Int32} {a2 : Int32} (hX : OkX g X (m9_winsOf)) (hN : 95 ≤ g.N) {res : Int32 × St} (hQ : X.Q = QI g X res.1 res.2 ∧ X.cells = 0 ∧ X.slots = 0) {σ : St} (h : S9_winsOf a1 a2 σ = some res) : V g X (m9_winsOf) 0 [(0, .ref (g.ad (75))), (1, .int (a1)), (2, .int (a2))] [] σ := by
  unfold S9_winsOf at h
  refine V_iconst (v := 0) (q := 1) hX dX9_winsOf_0 (by decide) rfl ?_
  refine V_istore_n (lv' := [(3, .int ((0 : Int32))), (0, .ref (g.ad (75))), (1, .int (a1)), (2, .int (a2))]) (q := 2) hX dX9_winsOf_1 rfl rfl rfl ?_
  refine V_iconst (v := 0) (q := 3) hX dX9_winsOf_2 (by decide) rfl ?_
  refine V_istore (lv' := [(4, .int ((0 : Int32))), (3, .int ((0 : Int32))), (0, .ref (g.ad (75))), (1, .int (a1)), (2, .int (a2))]) (q := 5) hX dX9_winsOf_3 rfl rfl rfl ?_
  refine V.pick [2, 3, 4, 1, 0] rfl ?_
  exact v9_winsOf_5 hX hN hQ (0 : Int32) (0 : Int32) σ h
set_option maxRecDepth 100000 in
set_option maxHeartbeats 4000000 in
theorem c9_winsOf {g : GT} {l : Launch} (hg : OkG g) (hN : 95 ≤ g.N) {a1 : Int32} {a2 : Int32} {σ : St} {r : Int32} {σ' : St} (h : S9_winsOf a1 a2 σ = some (r, σ')) : CtI g l m9_winsOf yX9_winsOf [.ref (g.ad (75)), .int (a1), .int (a2)] σ r σ' := CtI.of hg (by decide) rfl rfl (fun X h1 h2 h3 => v9_winsOf h1 hN (res := (r, σ')) h3 h)

abbrev m9_sure : MI := (cX9_sure, RX9, 8, some .int, 7)
def S9_sure_102 (a1 : Int32) (a2 : Int32) (a3 : Int32) (k53 : Int32 → Int32 → Int32 → St → Option (Int32 × St)) (x4 : Int32) (x6 : Int32) (s0 : Int32) (σ : St) : Option (Int32 × St) := k53 x4 s0 (x6 + 1) σ
def S9_sure_86 (a1 : Int32) (a2 : Int32) (a3 : Int32) (k53 : Int32 → Int32 → Int32 → St → Option (Int32 × St)) (x5 : Int32) (x6 : Int32) (x7 : Int32) (s0 : Int32) (σ : St) : Option (Int32 × St) := if x7 ≤ x5 then (S9_sure_102 a1 a2 a3 k53 s0 x6 x5 σ) else (S9_sure_102 a1 a2 a3 k53 s0 x6 x7 σ)
def B9_sure_53 (a1 : Int32) (a2 : Int32) (a3 : Int32) (rec : Int32 → Int32 → Int32 → St → Option (Int32 × St)) (x4 : Int32) (x5 : Int32) (x6 : Int32) (σ : St) : Option (Int32 × St) := if ((1 : Int32) <<< (((2 : Int32) * a2) &&& 31)) ≤ x6 then (if a3 = 0 then (some (x4, σ)) else (some (x5, σ))) else (bnd (S9_winsOf x6 a2 σ) fun r71 σ70 => if r71 ≤ x5 then (S9_sure_86 a1 a2 a3 rec x5 x6 r71 x4 σ70) else (S9_sure_86 a1 a2 a3 rec x5 x6 r71 x6 σ70))
def S9_sure_53 (a1 : Int32) (a2 : Int32) (a3 : Int32) : Nat → Int32 → Int32 → Int32 → St → Option (Int32 × St)
  | 0, _, _, _, _ => none
  | n + 1, x4, x5, x6, σ => B9_sure_53 a1 a2 a3 (S9_sure_53 a1 a2 a3 n) x4 x5 x6 σ
def S9_sure (a1 : Int32) (a2 : Int32) (a3 : Int32) (σ : St) : Option (Int32 × St) := bnd (S9_areTwoMen a1 σ) fun r75 σ74 => if r75 = 0 then (some ((-5 : Int32), σ74)) else (bnd (S9_in a2 (1 : Int32) (2 : Int32) σ74) fun r79 σ78 => if r79 = 0 then (some ((-7 : Int32), σ78)) else (bnd (S9_in a3 (0 : Int32) (1 : Int32) σ78) fun r83 σ82 => if r83 = 0 then (some ((-7 : Int32), σ82)) else (bnd (S9_begins (a1 / (10 : Int32)) (jrem a1 (10 : Int32)) σ82) fun r87 σ86 => S9_sure_53 a1 a2 a3 4096 (-1 : Int32) (-1 : Int32) (0 : Int32) σ86)))
set_option maxRecDepth 100000 in
set_option maxHeartbeats 4000000 in
theorem v9_sure_102 {g : GT} {X : XT} {a1 : Int32} {a2 : Int32} {a3 : Int32} (hX : OkX g X (m9_sure)) (hN : 95 ≤ g.N) {res : Int32 × St} (hQ : X.Q = QI g X res.1 res.2 ∧ X.cells = 0 ∧ X.slots = 0)  {k53 : Int32 → Int32 → Int32 → St → Option (Int32 × St)} (hk53 : ∀ (x4 : Int32) (x5 : Int32) (x6 : Int32) (σ : St), k53 x4 x5 x6 σ = some res → V g X (m9_sure) 53 [(0, .ref (g.ad (75))), (2, .int (a2)), (3, .int (a3)), (4, .int (x4)), (5, .int (x5)), (6, .int (x6))] [] σ) (x4 : Int32) (x6 : Int32) (s0 : Int32) (σ : St)  (h : S9_sure_102 a1 a2 a3 k53 x4 x6 s0 σ = some res) : V g X (m9_sure) 102 [(0, .ref (g.ad (75))), (2, .int (a2)), (3, .int (a3)), (4, .int (x4)), (6, .int (x6))] [.int (s0)] σ := by
  unfold S9_sure_102 at h
  refine V_istore (lv' := [(5, .int (s0)), (0, .ref (g.ad (75))), (2, .int (a2)), (3, .int (a3)), (4, .int (x4)), (6, .int (x6))]) (q := 104) hX dX9_sure_102 rfl rfl rfl ?_
  refine V_iinc (v := (x6 + 1)) (lv' := [(6, .int ((x6 + 1))), (5, .int (s0)), (0, .ref (g.ad (75))), (2, .int (a2)), (3, .int (a3)), (4, .int (x4))]) (q := 107) hX dX9_sure_104 5 rfl (by rfl) rfl rfl rfl ?_
  refine V_goto hX dX9_sure_107 (q := 53) (by decide) ?_
  refine V.pick [2, 3, 4, 5, 1, 0] rfl ?_
  exact hk53 x4 s0 (x6 + 1) σ  h
set_option maxRecDepth 100000 in
set_option maxHeartbeats 4000000 in
theorem v9_sure_86 {g : GT} {X : XT} {a1 : Int32} {a2 : Int32} {a3 : Int32} (hX : OkX g X (m9_sure)) (hN : 95 ≤ g.N) {res : Int32 × St} (hQ : X.Q = QI g X res.1 res.2 ∧ X.cells = 0 ∧ X.slots = 0)  {k53 : Int32 → Int32 → Int32 → St → Option (Int32 × St)} (hk53 : ∀ (x4 : Int32) (x5 : Int32) (x6 : Int32) (σ : St), k53 x4 x5 x6 σ = some res → V g X (m9_sure) 53 [(0, .ref (g.ad (75))), (2, .int (a2)), (3, .int (a3)), (4, .int (x4)), (5, .int (x5)), (6, .int (x6))] [] σ) (x5 : Int32) (x6 : Int32) (x7 : Int32) (s0 : Int32) (σ : St)  (h : S9_sure_86 a1 a2 a3 k53 x5 x6 x7 s0 σ = some res) : V g X (m9_sure) 86 [(0, .ref (g.ad (75))), (2, .int (a2)), (3, .int (a3)), (5, .int (x5)), (6, .int (x6)), (7, .int (x7))] [.int (s0)] σ := by
  unfold S9_sure_86 at h
  refine V_istore (lv' := [(4, .int (s0)), (0, .ref (g.ad (75))), (2, .int (a2)), (3, .int (a3)), (5, .int (x5)), (6, .int (x6)), (7, .int (x7))]) (q := 88) hX dX9_sure_86 rfl rfl rfl ?_
  refine V_iload (q := 90) hX dX9_sure_88 6 rfl rfl ?_
  refine V_iload (q := 92) hX dX9_sure_90 4 rfl rfl ?_
  refine V_icmp_le (q := 95) (t := 100) hX dX9_sure_92 (by decide) rfl (fun z67 => ?_) (fun z67 => ?_)
  · have h := ite_t z67 h
    refine V_iload (q := 102) hX dX9_sure_100 4 rfl rfl ?_
    refine V.pick [1, 2, 3, 0, 5] rfl ?_
    exact v9_sure_102 hX hN hQ hk53 s0 x6 x5 σ h
  have h := ite_f z67 h
  refine V_iload (q := 97) hX dX9_sure_95 6 rfl rfl ?_
  refine V_goto hX dX9_sure_97 (q := 102) (by decide) ?_
  refine V.pick [1, 2, 3, 0, 5] rfl ?_
  exact v9_sure_102 hX hN hQ hk53 s0 x6 x7 σ h
set_option maxRecDepth 100000 in
set_option maxHeartbeats 4000000 in
theorem v9_sure_53n {g : GT} {X : XT} {a1 : Int32} {a2 : Int32} {a3 : Int32} (hX : OkX g X (m9_sure)) (hN : 95 ≤ g.N) {res : Int32 × St} (hQ : X.Q = QI g X res.1 res.2 ∧ X.cells = 0 ∧ X.slots = 0)   (n : Nat) : ∀ (x4 : Int32) (x5 : Int32) (x6 : Int32) (σ : St) , S9_sure_53 a1 a2 a3 n x4 x5 x6 σ = some res → V g X (m9_sure) 53 [(0, .ref (g.ad (75))), (2, .int (a2)), (3, .int (a3)), (4, .int (x4)), (5, .int (x5)), (6, .int (x6))] [] σ := by
  induction n with
  | zero => intro x4 x5 x6 σ; intro h; cases h
  | succ n ih =>
    intro x4 x5 x6 σ h
    have h : B9_sure_53 a1 a2 a3 (S9_sure_53 a1 a2 a3 n) x4 x5 x6 σ = some res := h
    unfold B9_sure_53 at h
    refine V_iload (q := 55) hX dX9_sure_53 5 rfl rfl ?_
    refine V_iconst (v := 1) (q := 56) hX dX9_sure_55 (by decide) rfl ?_
    refine V_iconst (v := 2) (q := 57) hX dX9_sure_56 (by decide) rfl ?_
    refine V_iload_n (q := 58) hX dX9_sure_57 1 rfl rfl ?_
    refine V_imul (q := 59) hX dX9_sure_58 rfl ?_
    refine V_ishl (q := 60) hX dX9_sure_59 rfl ?_
    refine V_icmp_ge (q := 63) (t := 110) hX dX9_sure_60 (by decide) rfl (fun z68 => ?_) (fun z68 => ?_)
    · have h := ite_t z68 h
      refine V_iload_n (q := 111) hX dX9_sure_110 2 rfl rfl ?_
      refine V_if_ne (q := 114) (t := 119) hX dX9_sure_111 (by decide) rfl (fun z69 => ?_) (fun z69 => ?_)
      · have h := ite_f z69 h
        refine V_iload (q := 121) hX dX9_sure_119 4 rfl rfl ?_
        obtain ⟨f1, f2⟩ := some2 h
        rw [f1, f2] at hQ
        exact V_iret hX hQ rfl dX9_sure_121
      have h := ite_t z69 h
      refine V_iload (q := 116) hX dX9_sure_114 3 rfl rfl ?_
      refine V_goto hX dX9_sure_116 (q := 121) (by decide) ?_
      obtain ⟨f1, f2⟩ := some2 h
      rw [f1, f2] at hQ
      exact V_iret hX hQ rfl dX9_sure_121
    have h := ite_f z68 h
    refine V_aload_n (q := 64) hX dX9_sure_63 0 rfl rfl ?_
    refine V_iload (q := 66) hX dX9_sure_64 5 rfl rfl ?_
    refine V_iload_n (q := 67) hX dX9_sure_66 1 rfl rfl ?_
    obtain ⟨r71, σ70, e72, h⟩ := bnd_some h
    refine V_cvI (n := 95) (c := 9) (nf := 39) (C := RX9) (T := TX9) (As := [.int (x6), .int (a2)]) (q := 70) hX (c9_winsOf hX.2.2.2.2.1 hN e72) (goodV_of k5_177 k5_179 kp_56 k1_16 (cons_g k5_180)) (nA := 2) (by decide) rfl rfl rfl rfl rfl ⟨rfl, by decide⟩ hN rfl rfl rfl dX9_sure_67 rfl ?_
    refine V_istore (lv' := [(7, .int (r71)), (0, .ref (g.ad (75))), (2, .int (a2)), (3, .int (a3)), (4, .int (x4)), (5, .int (x5)), (6, .int (x6))]) (q := 72) hX dX9_sure_70 rfl rfl rfl ?_
    refine V_iload (q := 74) hX dX9_sure_72 0 rfl rfl ?_
    refine V_iload (q := 76) hX dX9_sure_74 5 rfl rfl ?_
    refine V_icmp_le (q := 79) (t := 84) hX dX9_sure_76 (by decide) rfl (fun z73 => ?_) (fun z73 => ?_)
    · have h := ite_t z73 h
      refine V_iload (q := 86) hX dX9_sure_84 4 rfl rfl ?_
      refine V.pick [1, 2, 3, 5, 6, 0] rfl ?_
      exact v9_sure_86 hX hN hQ ih x5 x6 r71 x4 σ70 h
    have h := ite_f z73 h
    refine V_iload (q := 81) hX dX9_sure_79 6 rfl rfl ?_
    refine V_goto hX dX9_sure_81 (q := 86) (by decide) ?_
    refine V.pick [1, 2, 3, 5, 6, 0] rfl ?_
    exact v9_sure_86 hX hN hQ ih x5 x6 r71 x6 σ70 h
theorem v9_sure_53 {g : GT} {X : XT} {a1 : Int32} {a2 : Int32} {a3 : Int32} (hX : OkX g X (m9_sure)) (hN : 95 ≤ g.N) {res : Int32 × St} (hQ : X.Q = QI g X res.1 res.2 ∧ X.cells = 0 ∧ X.slots = 0) (x4 : Int32) (x5 : Int32) (x6 : Int32) (σ : St) (h : S9_sure_53 a1 a2 a3 4096 x4 x5 x6 σ = some res) : V g X (m9_sure) 53 [(0, .ref (g.ad (75))), (2, .int (a2)), (3, .int (a3)), (4, .int (x4)), (5, .int (x5)), (6, .int (x6))] [] σ := v9_sure_53n hX hN hQ 4096 x4 x5 x6 σ h
set_option maxRecDepth 100000 in
set_option maxHeartbeats 4000000 in
theorem v9_sure {g : GT} {X : XT} {a1 : Int32} {a2 : Int32} {a3 : Int32} (hX : OkX g X (m9_sure)) (hN : 95 ≤ g.N) {res : Int32 × St} (hQ : X.Q = QI g X res.1 res.2 ∧ X.cells = 0 ∧ X.slots = 0) {σ : St} (h : S9_sure a1 a2 a3 σ = some res) : V g X (m9_sure) 0 [(0, .ref (g.ad (75))), (1, .int (a1)), (2, .int (a2)), (3, .int (a3))] [] σ := by
  unfold S9_sure at h
  refine V_aload_n (q := 1) hX dX9_sure_0 0 rfl rfl ?_
  refine V_iload_n (q := 2) hX dX9_sure_1 1 rfl rfl ?_
  obtain ⟨r75, σ74, e76, h⟩ := bnd_some h
  refine V_cvI (n := 95) (c := 9) (nf := 39) (C := RX9) (T := TX9) (As := [.int (a1)]) (q := 5) hX (c9_areTwoMen hX.2.2.2.2.1 hN e76) (goodV_of k5_114 k5_116 kp_45 k1_16 (cons_g k5_117)) (nA := 1) (by decide) rfl rfl rfl rfl rfl ⟨rfl, by decide⟩ hN rfl rfl rfl dX9_sure_2 rfl ?_
  refine V_if_ne (q := 8) (t := 11) hX dX9_sure_5 (by decide) rfl (fun z77 => ?_) (fun z77 => ?_)
  · have h := ite_f z77 h
    refine V_iload_n (q := 12) hX dX9_sure_11 2 rfl rfl ?_
    refine V_iconst (v := 1) (q := 13) hX dX9_sure_12 (by decide) rfl ?_
    refine V_iconst (v := 2) (q := 14) hX dX9_sure_13 (by decide) rfl ?_
    obtain ⟨r79, σ78, e80, h⟩ := bnd_some h
    refine V_csI (As := [.int (a2), .int ((1 : Int32)), .int ((2 : Int32))]) (q := 17) hX (c9_in hX.2.2.2.2.1 hN e80) (goodS_of k4_143 k4_144 k1_16 (cons_g k4_145)) (nA := 3) (by decide) rfl rfl rfl rfl rfl dX9_sure_14 rfl ?_
    refine V_if_eq (q := 20) (t := 29) hX dX9_sure_17 (by decide) rfl (fun z81 => ?_) (fun z81 => ?_)
    · have h := ite_t z81 h
      refine V_bipush (v := -7) (q := 31) hX dX9_sure_29 (by decide) rfl ?_
      obtain ⟨f1, f2⟩ := some2 h
      rw [f1, f2] at hQ
      exact V_iret hX hQ rfl dX9_sure_31
    have h := ite_f z81 h
    refine V_iload_n (q := 21) hX dX9_sure_20 3 rfl rfl ?_
    refine V_iconst (v := 0) (q := 22) hX dX9_sure_21 (by decide) rfl ?_
    refine V_iconst (v := 1) (q := 23) hX dX9_sure_22 (by decide) rfl ?_
    obtain ⟨r83, σ82, e84, h⟩ := bnd_some h
    refine V_csI (As := [.int (a3), .int ((0 : Int32)), .int ((1 : Int32))]) (q := 26) hX (c9_in hX.2.2.2.2.1 hN e84) (goodS_of k4_143 k4_144 k1_16 (cons_g k4_145)) (nA := 3) (by decide) rfl rfl rfl rfl rfl dX9_sure_23 rfl ?_
    refine V_if_ne (q := 29) (t := 32) hX dX9_sure_26 (by decide) rfl (fun z85 => ?_) (fun z85 => ?_)
    · have h := ite_f z85 h
      refine V_aload_n (q := 33) hX dX9_sure_32 0 rfl rfl ?_
      refine V_iload_n (q := 34) hX dX9_sure_33 1 rfl rfl ?_
      refine V_bipush (v := 10) (q := 36) hX dX9_sure_34 (by decide) rfl ?_
      refine V_idiv (q := 37) hX (by decide) dX9_sure_36 rfl ?_
      refine V_iload_n (q := 38) hX dX9_sure_37 1 rfl rfl ?_
      refine V_bipush (v := 10) (q := 40) hX dX9_sure_38 (by decide) rfl ?_
      refine V_irem (q := 41) hX (by decide) dX9_sure_40 rfl ?_
      obtain ⟨r87, σ86, e88, h⟩ := bnd_some h
      refine V_cvV (n := 95) (c := 9) (nf := 39) (C := RX9) (T := TX9) (As := [.int ((a1 / (10 : Int32))), .int ((jrem a1 (10 : Int32)))]) (q := 44) hX (c9_begins hX.2.2.2.2.1 hN e88) (goodV_of k5_130 k5_132 kp_48 k1_16 (cons_g k5_133)) (nA := 2) (by decide) rfl rfl rfl rfl rfl ⟨rfl, by decide⟩ hN rfl rfl rfl dX9_sure_41 rfl ?_
      refine V_iconst (v := -1) (q := 45) hX dX9_sure_44 (by decide) rfl ?_
      refine V_istore (lv' := [(4, .int ((-1 : Int32))), (0, .ref (g.ad (75))), (1, .int (a1)), (2, .int (a2)), (3, .int (a3))]) (q := 47) hX dX9_sure_45 rfl rfl rfl ?_
      refine V_iconst (v := -1) (q := 48) hX dX9_sure_47 (by decide) rfl ?_
      refine V_istore (lv' := [(5, .int ((-1 : Int32))), (4, .int ((-1 : Int32))), (0, .ref (g.ad (75))), (1, .int (a1)), (2, .int (a2)), (3, .int (a3))]) (q := 50) hX dX9_sure_48 rfl rfl rfl ?_
      refine V_iconst (v := 0) (q := 51) hX dX9_sure_50 (by decide) rfl ?_
      refine V_istore (lv' := [(6, .int ((0 : Int32))), (5, .int ((-1 : Int32))), (4, .int ((-1 : Int32))), (0, .ref (g.ad (75))), (1, .int (a1)), (2, .int (a2)), (3, .int (a3))]) (q := 53) hX dX9_sure_51 rfl rfl rfl ?_
      refine V.pick [3, 5, 6, 2, 1, 0] rfl ?_
      exact v9_sure_53 hX hN hQ (-1 : Int32) (-1 : Int32) (0 : Int32) σ86 h
    have h := ite_t z85 h
    refine V_bipush (v := -7) (q := 31) hX dX9_sure_29 (by decide) rfl ?_
    obtain ⟨f1, f2⟩ := some2 h
    rw [f1, f2] at hQ
    exact V_iret hX hQ rfl dX9_sure_31
  have h := ite_t z77 h
  refine V_bipush (v := -5) (q := 10) hX dX9_sure_8 (by decide) rfl ?_
  obtain ⟨f1, f2⟩ := some2 h
  rw [f1, f2] at hQ
  exact V_iret hX hQ rfl dX9_sure_10
set_option maxRecDepth 100000 in
set_option maxHeartbeats 4000000 in
theorem c9_sure {g : GT} {l : Launch} (hg : OkG g) (hN : 95 ≤ g.N) {a1 : Int32} {a2 : Int32} {a3 : Int32} {σ : St} {r : Int32} {σ' : St} (h : S9_sure a1 a2 a3 σ = some (r, σ')) : CtI g l m9_sure yX9_sure [.ref (g.ad (75)), .int (a1), .int (a2), .int (a3)] σ r σ' := CtI.of hg (by decide) rfl rfl (fun X h1 h2 h3 => v9_sure h1 hN (res := (r, σ')) h3 h)

abbrev m9_lowest : MI := (cX9_lowest, RX9, 11, some .long, 1)
def B9_lowest_16 (a0 : Int64) (a2 : Int64) (a4 : Int32) (rec : Int64 → Int64 → St → Option (Int64 × St)) (x5 : Int64) (x7 : Int64) (σ : St) : Option (Int64 × St) := if (lg_cmp x7 (0 : Int64)) = 0 then (if a4 = 0 then (if x5 = 0 then none else (some ((a0 / x5), σ))) else (if x5 = 0 then none else (some ((a2 / x5), σ)))) else (if x7 = 0 then none else (rec x7 (jlrem x5 x7) σ))
def S9_lowest_16 (a0 : Int64) (a2 : Int64) (a4 : Int32) : Nat → Int64 → Int64 → St → Option (Int64 × St)
  | 0, _, _, _ => none
  | n + 1, x5, x7, σ => B9_lowest_16 a0 a2 a4 (S9_lowest_16 a0 a2 a4 n) x5 x7 σ
def S9_lowest (a0 : Int64) (a2 : Int64) (a4 : Int32) (σ : St) : Option (Int64 × St) := if (lg_cmp a0 (0 : Int64)) = 0 then (some (((a4).toInt64), σ)) else (S9_lowest_16 a0 a2 a4 4096 a0 a2 σ)
set_option maxRecDepth 100000 in
set_option maxHeartbeats 4000000 in
theorem v9_lowest_16n {g : GT} {X : XT} {a0 : Int64} {a2 : Int64} {a4 : Int32} (hX : OkX g X (m9_lowest)) (hN : 95 ≤ g.N) {res : Int64 × St} (hQ : X.Q = QJ g X res.1 res.2 ∧ X.cells = 0 ∧ X.slots = 0)   (n : Nat) : ∀ (x5 : Int64) (x7 : Int64) (σ : St) , S9_lowest_16 a0 a2 a4 n x5 x7 σ = some res → V g X (m9_lowest) 16 [(0, .long (a0)), (2, .long (a2)), (4, .int (a4)), (5, .long (x5)), (7, .long (x7))] [] σ := by
  induction n with
  | zero => intro x5 x7 σ; intro h; cases h
  | succ n ih =>
    intro x5 x7 σ h
    have h : B9_lowest_16 a0 a2 a4 (S9_lowest_16 a0 a2 a4 n) x5 x7 σ = some res := h
    unfold B9_lowest_16 at h
    refine V_lload (q := 18) hX dX9_lowest_16 4 rfl rfl ?_
    refine V_lconst (v := 0) (q := 19) hX dX9_lowest_18 (by decide) rfl ?_
    refine V_lcmp (q := 20) hX dX9_lowest_19 rfl ?_
    refine V_if_eq (q := 23) (t := 41) hX dX9_lowest_20 (by decide) rfl (fun z13 => ?_) (fun z13 => ?_)
    · have h := ite_t z13 h
      refine V_iload (q := 43) hX dX9_lowest_41 2 rfl rfl ?_
      refine V_if_ne (q := 46) (t := 50) hX dX9_lowest_43 (by decide) rfl (fun z14 => ?_) (fun z14 => ?_)
      · have h := ite_f z14 h
        refine V_lload_n (q := 51) hX dX9_lowest_50 1 rfl rfl ?_
        refine V_lload (q := 53) hX dX9_lowest_51 3 rfl rfl ?_
        obtain ⟨z15, h⟩ := chk_n h
        refine V_ldiv (q := 54) hX z15 dX9_lowest_53 rfl ?_
        obtain ⟨f1, f2⟩ := some2 h
        rw [f1, f2] at hQ
        exact V_lret hX hQ rfl dX9_lowest_54
      have h := ite_t z14 h
      refine V_lload_n (q := 47) hX dX9_lowest_46 0 rfl rfl ?_
      refine V_goto hX dX9_lowest_47 (q := 51) (by decide) ?_
      refine V_lload (q := 53) hX dX9_lowest_51 3 rfl rfl ?_
      obtain ⟨z16, h⟩ := chk_n h
      refine V_ldiv (q := 54) hX z16 dX9_lowest_53 rfl ?_
      obtain ⟨f1, f2⟩ := some2 h
      rw [f1, f2] at hQ
      exact V_lret hX hQ rfl dX9_lowest_54
    have h := ite_f z13 h
    refine V_lload (q := 25) hX dX9_lowest_23 3 rfl rfl ?_
    refine V_lload (q := 27) hX dX9_lowest_25 4 rfl rfl ?_
    obtain ⟨z17, h⟩ := chk_n h
    refine V_lrem (q := 28) hX z17 dX9_lowest_27 rfl ?_
    refine V_lstore (lv' := [(9, .long ((jlrem x5 x7))), (0, .long (a0)), (2, .long (a2)), (4, .int (a4)), (5, .long (x5)), (7, .long (x7))]) (q := 30) hX dX9_lowest_28 rfl rfl rfl ?_
    refine V_lload (q := 32) hX dX9_lowest_30 5 rfl rfl ?_
    refine V_lstore (lv' := [(5, .long (x7)), (9, .long ((jlrem x5 x7))), (0, .long (a0)), (2, .long (a2)), (4, .int (a4)), (7, .long (x7))]) (q := 34) hX dX9_lowest_32 rfl rfl rfl ?_
    refine V_lload (q := 36) hX dX9_lowest_34 1 rfl rfl ?_
    refine V_lstore (lv' := [(7, .long ((jlrem x5 x7))), (5, .long (x7)), (9, .long ((jlrem x5 x7))), (0, .long (a0)), (2, .long (a2)), (4, .int (a4))]) (q := 38) hX dX9_lowest_36 rfl rfl rfl ?_
    refine V_goto hX dX9_lowest_38 (q := 16) (by decide) ?_
    refine V.pick [3, 4, 5, 1, 0] rfl ?_
    exact ih x7 (jlrem x5 x7) σ  h
theorem v9_lowest_16 {g : GT} {X : XT} {a0 : Int64} {a2 : Int64} {a4 : Int32} (hX : OkX g X (m9_lowest)) (hN : 95 ≤ g.N) {res : Int64 × St} (hQ : X.Q = QJ g X res.1 res.2 ∧ X.cells = 0 ∧ X.slots = 0) (x5 : Int64) (x7 : Int64) (σ : St) (h : S9_lowest_16 a0 a2 a4 4096 x5 x7 σ = some res) : V g X (m9_lowest) 16 [(0, .long (a0)), (2, .long (a2)), (4, .int (a4)), (5, .long (x5)), (7, .long (x7))] [] σ := v9_lowest_16n hX hN hQ 4096 x5 x7 σ h
set_option maxRecDepth 100000 in
set_option maxHeartbeats 4000000 in
theorem v9_lowest {g : GT} {X : XT} {a0 : Int64} {a2 : Int64} {a4 : Int32} (hX : OkX g X (m9_lowest)) (hN : 95 ≤ g.N) {res : Int64 × St} (hQ : X.Q = QJ g X res.1 res.2 ∧ X.cells = 0 ∧ X.slots = 0) {σ : St} (h : S9_lowest a0 a2 a4 σ = some res) : V g X (m9_lowest) 0 [(0, .long (a0)), (2, .long (a2)), (4, .int (a4))] [] σ := by
  unfold S9_lowest at h
  refine V_lload_n (q := 1) hX dX9_lowest_0 0 rfl rfl ?_
  refine V_lconst (v := 0) (q := 2) hX dX9_lowest_1 (by decide) rfl ?_
  refine V_lcmp (q := 3) hX dX9_lowest_2 rfl ?_
  refine V_if_ne (q := 6) (t := 10) hX dX9_lowest_3 (by decide) rfl (fun z18 => ?_) (fun z18 => ?_)
  · have h := ite_f z18 h
    refine V_lload_n (q := 11) hX dX9_lowest_10 0 rfl rfl ?_
    refine V_lstore (lv' := [(5, .long (a0)), (0, .long (a0)), (2, .long (a2)), (4, .int (a4))]) (q := 13) hX dX9_lowest_11 rfl rfl rfl ?_
    refine V_lload_n (q := 14) hX dX9_lowest_13 2 rfl rfl ?_
    refine V_lstore (lv' := [(7, .long (a2)), (5, .long (a0)), (0, .long (a0)), (2, .long (a2)), (4, .int (a4))]) (q := 16) hX dX9_lowest_14 rfl rfl rfl ?_
    refine V.pick [2, 3, 4, 1, 0] rfl ?_
    exact v9_lowest_16 hX hN hQ a0 a2 σ h
  have h := ite_t z18 h
  refine V_iload (q := 8) hX dX9_lowest_6 2 rfl rfl ?_
  refine V_i2l (q := 9) hX dX9_lowest_8 rfl ?_
  obtain ⟨f1, f2⟩ := some2 h
  rw [f1, f2] at hQ
  exact V_lret hX hQ rfl dX9_lowest_9
set_option maxRecDepth 100000 in
set_option maxHeartbeats 4000000 in
theorem c9_lowest {g : GT} {l : Launch} (hg : OkG g) (hN : 95 ≤ g.N) {a0 : Int64} {a2 : Int64} {a4 : Int32} {σ : St} {r : Int64} {σ' : St} (h : S9_lowest a0 a2 a4 σ = some (r, σ')) : CtJ g l m9_lowest yX9_lowest [.long (a0), .long (a2), .int (a4)] σ r σ' := CtJ.of hg (by decide) rfl rfl (fun X h1 h2 h3 => v9_lowest h1 hN (res := (r, σ')) h3 h)

abbrev m9_chance : MI := (cX9_chance, RX9, 7, some .long, 7)
def B9_chance_48 (a1 : Int32) (a2 : Int32) (a3 : Int32) (rec : Int64 → Int32 → St → Option (Int64 × St)) (x4 : Int64) (x6 : Int32) (σ : St) : Option (Int64 × St) := if ((1 : Int32) <<< (((2 : Int32) * a2) &&& 31)) ≤ x6 then (bnd (S9_lowest x4 ((1 : Int64) <<< ((((4 : Int32) * a2)).toInt64 &&& 63)) a3 σ) fun r47 σ46 => some (r47, σ46)) else (bnd (S9_winsOf x6 a2 σ) fun r50 σ49 => rec (x4 + ((r50).toInt64)) (x6 + 1) σ49)
def S9_chance_48 (a1 : Int32) (a2 : Int32) (a3 : Int32) : Nat → Int64 → Int32 → St → Option (Int64 × St)
  | 0, _, _, _ => none
  | n + 1, x4, x6, σ => B9_chance_48 a1 a2 a3 (S9_chance_48 a1 a2 a3 n) x4 x6 σ
def S9_chance (a1 : Int32) (a2 : Int32) (a3 : Int32) (σ : St) : Option (Int64 × St) := bnd (S9_areTwoMen a1 σ) fun r53 σ52 => if r53 = 0 then (some ((-4611686018427387904 : Int64), σ52)) else (bnd (S9_in a2 (1 : Int32) (2 : Int32) σ52) fun r57 σ56 => if r57 = 0 then (some ((-4611686018427387904 : Int64), σ56)) else (bnd (S9_in a3 (0 : Int32) (1 : Int32) σ56) fun r61 σ60 => if r61 = 0 then (some ((-4611686018427387904 : Int64), σ60)) else (bnd (S9_begins (a1 / (10 : Int32)) (jrem a1 (10 : Int32)) σ60) fun r65 σ64 => S9_chance_48 a1 a2 a3 4096 (0 : Int64) (0 : Int32) σ64)))
set_option maxRecDepth 100000 in
set_option maxHeartbeats 4000000 in
theorem v9_chance_48n {g : GT} {X : XT} {a1 : Int32} {a2 : Int32} {a3 : Int32} (hX : OkX g X (m9_chance)) (hN : 95 ≤ g.N) {res : Int64 × St} (hQ : X.Q = QJ g X res.1 res.2 ∧ X.cells = 0 ∧ X.slots = 0)   (n : Nat) : ∀ (x4 : Int64) (x6 : Int32) (σ : St) , S9_chance_48 a1 a2 a3 n x4 x6 σ = some res → V g X (m9_chance) 48 [(0, .ref (g.ad (75))), (2, .int (a2)), (3, .int (a3)), (4, .long (x4)), (6, .int (x6))] [] σ := by
  induction n with
  | zero => intro x4 x6 σ; intro h; cases h
  | succ n ih =>
    intro x4 x6 σ h
    have h : B9_chance_48 a1 a2 a3 (S9_chance_48 a1 a2 a3 n) x4 x6 σ = some res := h
    unfold B9_chance_48 at h
    refine V_iload (q := 50) hX dX9_chance_48 4 rfl rfl ?_
    refine V_iconst (v := 1) (q := 51) hX dX9_chance_50 (by decide) rfl ?_
    refine V_iconst (v := 2) (q := 52) hX dX9_chance_51 (by decide) rfl ?_
    refine V_iload_n (q := 53) hX dX9_chance_52 1 rfl rfl ?_
    refine V_imul (q := 54) hX dX9_chance_53 rfl ?_
    refine V_ishl (q := 55) hX dX9_chance_54 rfl ?_
    refine V_icmp_ge (q := 58) (t := 77) hX dX9_chance_55 (by decide) rfl (fun z45 => ?_) (fun z45 => ?_)
    · have h := ite_t z45 h
      refine V_lload (q := 79) hX dX9_chance_77 3 rfl rfl ?_
      refine V_lconst (v := 1) (q := 80) hX dX9_chance_79 (by decide) rfl ?_
      refine V_iconst (v := 4) (q := 81) hX dX9_chance_80 (by decide) rfl ?_
      refine V_iload_n (q := 82) hX dX9_chance_81 1 rfl rfl ?_
      refine V_imul (q := 83) hX dX9_chance_82 rfl ?_
      refine V_lshl (q := 84) hX dX9_chance_83 rfl ?_
      refine V_iload_n (q := 85) hX dX9_chance_84 2 rfl rfl ?_
      obtain ⟨r47, σ46, e48, h⟩ := bnd_some h
      refine V_csJ (As := [.long (x4), .long (((1 : Int64) <<< ((((4 : Int32) * a2)).toInt64 &&& 63))), .int (a3)]) (q := 88) hX (c9_lowest hX.2.2.2.2.1 hN e48) (goodS_of k5_186 k5_187 k1_16 (cons_g k5_188)) (nA := 3) (by decide) rfl rfl rfl rfl rfl dX9_chance_85 rfl ?_
      obtain ⟨f1, f2⟩ := some2 h
      rw [f1, f2] at hQ
      exact V_lret hX hQ rfl dX9_chance_88
    have h := ite_f z45 h
    refine V_lload (q := 60) hX dX9_chance_58 3 rfl rfl ?_
    refine V_aload_n (q := 61) hX dX9_chance_60 0 rfl rfl ?_
    refine V_iload (q := 63) hX dX9_chance_61 4 rfl rfl ?_
    refine V_iload_n (q := 64) hX dX9_chance_63 1 rfl rfl ?_
    obtain ⟨r50, σ49, e51, h⟩ := bnd_some h
    refine V_cvI (n := 95) (c := 9) (nf := 39) (C := RX9) (T := TX9) (As := [.int (x6), .int (a2)]) (q := 67) hX (c9_winsOf hX.2.2.2.2.1 hN e51) (goodV_of k5_177 k5_179 kp_56 k1_16 (cons_g k5_180)) (nA := 2) (by decide) rfl rfl rfl rfl rfl ⟨rfl, by decide⟩ hN rfl rfl rfl dX9_chance_64 rfl ?_
    refine V_i2l (q := 68) hX dX9_chance_67 rfl ?_
    refine V_ladd (q := 69) hX dX9_chance_68 rfl ?_
    refine V_lstore (lv' := [(4, .long ((x4 + ((r50).toInt64)))), (0, .ref (g.ad (75))), (2, .int (a2)), (3, .int (a3)), (6, .int (x6))]) (q := 71) hX dX9_chance_69 rfl rfl rfl ?_
    refine V_iinc (v := (x6 + 1)) (lv' := [(6, .int ((x6 + 1))), (4, .long ((x4 + ((r50).toInt64)))), (0, .ref (g.ad (75))), (2, .int (a2)), (3, .int (a3))]) (q := 74) hX dX9_chance_71 4 rfl (by rfl) rfl rfl rfl ?_
    refine V_goto hX dX9_chance_74 (q := 48) (by decide) ?_
    refine V.pick [2, 3, 4, 1, 0] rfl ?_
    exact ih (x4 + ((r50).toInt64)) (x6 + 1) σ49  h
theorem v9_chance_48 {g : GT} {X : XT} {a1 : Int32} {a2 : Int32} {a3 : Int32} (hX : OkX g X (m9_chance)) (hN : 95 ≤ g.N) {res : Int64 × St} (hQ : X.Q = QJ g X res.1 res.2 ∧ X.cells = 0 ∧ X.slots = 0) (x4 : Int64) (x6 : Int32) (σ : St) (h : S9_chance_48 a1 a2 a3 4096 x4 x6 σ = some res) : V g X (m9_chance) 48 [(0, .ref (g.ad (75))), (2, .int (a2)), (3, .int (a3)), (4, .long (x4)), (6, .int (x6))] [] σ := v9_chance_48n hX hN hQ 4096 x4 x6 σ h
set_option maxRecDepth 100000 in
set_option maxHeartbeats 4000000 in
theorem v9_chance {g : GT} {X : XT} {a1 : Int32} {a2 : Int32} {a3 : Int32} (hX : OkX g X (m9_chance)) (hN : 95 ≤ g.N) {res : Int64 × St} (hQ : X.Q = QJ g X res.1 res.2 ∧ X.cells = 0 ∧ X.slots = 0) {σ : St} (h : S9_chance a1 a2 a3 σ = some res) : V g X (m9_chance) 0 [(0, .ref (g.ad (75))), (1, .int (a1)), (2, .int (a2)), (3, .int (a3))] [] σ := by
  unfold S9_chance at h
  refine V_aload_n (q := 1) hX dX9_chance_0 0 rfl rfl ?_
  refine V_iload_n (q := 2) hX dX9_chance_1 1 rfl rfl ?_
  obtain ⟨r53, σ52, e54, h⟩ := bnd_some h
  refine V_cvI (n := 95) (c := 9) (nf := 39) (C := RX9) (T := TX9) (As := [.int (a1)]) (q := 5) hX (c9_areTwoMen hX.2.2.2.2.1 hN e54) (goodV_of k5_114 k5_116 kp_45 k1_16 (cons_g k5_117)) (nA := 1) (by decide) rfl rfl rfl rfl rfl ⟨rfl, by decide⟩ hN rfl rfl rfl dX9_chance_2 rfl ?_
  refine V_if_eq (q := 8) (t := 26) hX dX9_chance_5 (by decide) rfl (fun z55 => ?_) (fun z55 => ?_)
  · have h := ite_t z55 h
    refine V_ldc2 (v := -4611686018427387904) (q := 29) hX k5_185 dX9_chance_26 rfl ?_
    obtain ⟨f1, f2⟩ := some2 h
    rw [f1, f2] at hQ
    exact V_lret hX hQ rfl dX9_chance_29
  have h := ite_f z55 h
  refine V_iload_n (q := 9) hX dX9_chance_8 2 rfl rfl ?_
  refine V_iconst (v := 1) (q := 10) hX dX9_chance_9 (by decide) rfl ?_
  refine V_iconst (v := 2) (q := 11) hX dX9_chance_10 (by decide) rfl ?_
  obtain ⟨r57, σ56, e58, h⟩ := bnd_some h
  refine V_csI (As := [.int (a2), .int ((1 : Int32)), .int ((2 : Int32))]) (q := 14) hX (c9_in hX.2.2.2.2.1 hN e58) (goodS_of k4_143 k4_144 k1_16 (cons_g k4_145)) (nA := 3) (by decide) rfl rfl rfl rfl rfl dX9_chance_11 rfl ?_
  refine V_if_eq (q := 17) (t := 26) hX dX9_chance_14 (by decide) rfl (fun z59 => ?_) (fun z59 => ?_)
  · have h := ite_t z59 h
    refine V_ldc2 (v := -4611686018427387904) (q := 29) hX k5_185 dX9_chance_26 rfl ?_
    obtain ⟨f1, f2⟩ := some2 h
    rw [f1, f2] at hQ
    exact V_lret hX hQ rfl dX9_chance_29
  have h := ite_f z59 h
  refine V_iload_n (q := 18) hX dX9_chance_17 3 rfl rfl ?_
  refine V_iconst (v := 0) (q := 19) hX dX9_chance_18 (by decide) rfl ?_
  refine V_iconst (v := 1) (q := 20) hX dX9_chance_19 (by decide) rfl ?_
  obtain ⟨r61, σ60, e62, h⟩ := bnd_some h
  refine V_csI (As := [.int (a3), .int ((0 : Int32)), .int ((1 : Int32))]) (q := 23) hX (c9_in hX.2.2.2.2.1 hN e62) (goodS_of k4_143 k4_144 k1_16 (cons_g k4_145)) (nA := 3) (by decide) rfl rfl rfl rfl rfl dX9_chance_20 rfl ?_
  refine V_if_ne (q := 26) (t := 30) hX dX9_chance_23 (by decide) rfl (fun z63 => ?_) (fun z63 => ?_)
  · have h := ite_f z63 h
    refine V_aload_n (q := 31) hX dX9_chance_30 0 rfl rfl ?_
    refine V_iload_n (q := 32) hX dX9_chance_31 1 rfl rfl ?_
    refine V_bipush (v := 10) (q := 34) hX dX9_chance_32 (by decide) rfl ?_
    refine V_idiv (q := 35) hX (by decide) dX9_chance_34 rfl ?_
    refine V_iload_n (q := 36) hX dX9_chance_35 1 rfl rfl ?_
    refine V_bipush (v := 10) (q := 38) hX dX9_chance_36 (by decide) rfl ?_
    refine V_irem (q := 39) hX (by decide) dX9_chance_38 rfl ?_
    obtain ⟨r65, σ64, e66, h⟩ := bnd_some h
    refine V_cvV (n := 95) (c := 9) (nf := 39) (C := RX9) (T := TX9) (As := [.int ((a1 / (10 : Int32))), .int ((jrem a1 (10 : Int32)))]) (q := 42) hX (c9_begins hX.2.2.2.2.1 hN e66) (goodV_of k5_130 k5_132 kp_48 k1_16 (cons_g k5_133)) (nA := 2) (by decide) rfl rfl rfl rfl rfl ⟨rfl, by decide⟩ hN rfl rfl rfl dX9_chance_39 rfl ?_
    refine V_lconst (v := 0) (q := 43) hX dX9_chance_42 (by decide) rfl ?_
    refine V_lstore (lv' := [(4, .long ((0 : Int64))), (0, .ref (g.ad (75))), (1, .int (a1)), (2, .int (a2)), (3, .int (a3))]) (q := 45) hX dX9_chance_43 rfl rfl rfl ?_
    refine V_iconst (v := 0) (q := 46) hX dX9_chance_45 (by decide) rfl ?_
    refine V_istore (lv' := [(6, .int ((0 : Int32))), (4, .long ((0 : Int64))), (0, .ref (g.ad (75))), (1, .int (a1)), (2, .int (a2)), (3, .int (a3))]) (q := 48) hX dX9_chance_46 rfl rfl rfl ?_
    refine V.pick [2, 4, 5, 1, 0] rfl ?_
    exact v9_chance_48 hX hN hQ (0 : Int64) (0 : Int32) σ64 h
  have h := ite_t z63 h
  refine V_ldc2 (v := -4611686018427387904) (q := 29) hX k5_185 dX9_chance_26 rfl ?_
  obtain ⟨f1, f2⟩ := some2 h
  rw [f1, f2] at hQ
  exact V_lret hX hQ rfl dX9_chance_29
set_option maxRecDepth 100000 in
set_option maxHeartbeats 4000000 in
theorem c9_chance {g : GT} {l : Launch} (hg : OkG g) (hN : 95 ≤ g.N) {a1 : Int32} {a2 : Int32} {a3 : Int32} {σ : St} {r : Int64} {σ' : St} (h : S9_chance a1 a2 a3 σ = some (r, σ')) : CtJ g l m9_chance yX9_chance [.ref (g.ad (75)), .int (a1), .int (a2), .int (a3)] σ r σ' := CtJ.of hg (by decide) rfl rfl (fun X h1 h2 h3 => v9_chance h1 hN (res := (r, σ')) h3 h)

abbrev m9_knees : MI := (cX9_knees, RX9, 8, some .int, 7)
def S9_knees_106 (a1 : Int32) (a2 : Int32) (a3 : Int32) (k53 : Int32 → Int32 → Int32 → St → Option (Int32 × St)) (x5 : Int32) (x7 : Int32) (s0 : Int32) (σ : St) : Option (Int32 × St) := k53 x5 s0 (x7 + 1) σ
def S9_knees_114 (a1 : Int32) (a2 : Int32) (a3 : Int32) (x5 : Int32) (x6 : Int32) (σ : St) : Option (Int32 × St) := if inb (((5 : Int32) * (a1 / (10 : Int32))) + (2 : Int32)) 30 then (some (x6, (sI σ 78 ((((5 : Int32) * (a1 / (10 : Int32))) + (2 : Int32))).toNatClampNeg x5))) else none
def B9_knees_53 (a1 : Int32) (a2 : Int32) (a3 : Int32) (rec : Int32 → Int32 → Int32 → St → Option (Int32 × St)) (x5 : Int32) (x6 : Int32) (x7 : Int32) (σ : St) : Option (Int32 × St) := if (9 : Int32) < x7 then (S9_knees_114 a1 a2 a3 x5 x6 σ) else (if x6 = (-1 : Int32) then (if inb (((5 : Int32) * (a1 / (10 : Int32))) + (2 : Int32)) 30 then (bnd (S9_bout0 (a1 / (10 : Int32)) (jrem a1 (10 : Int32)) a2 a3 (sI σ 78 ((((5 : Int32) * (a1 / (10 : Int32))) + (2 : Int32))).toNatClampNeg x7)) fun r69 σ68 => if (gI σ68 75 35) = (gI σ68 75 30) then (S9_knees_106 a1 a2 a3 rec x5 x7 x7 σ68) else (S9_knees_106 a1 a2 a3 rec x5 x7 (-1 : Int32) σ68)) else none) else (S9_knees_114 a1 a2 a3 x5 x6 σ))
def S9_knees_53 (a1 : Int32) (a2 : Int32) (a3 : Int32) : Nat → Int32 → Int32 → Int32 → St → Option (Int32 × St)
  | 0, _, _, _, _ => none
  | n + 1, x5, x6, x7, σ => B9_knees_53 a1 a2 a3 (S9_knees_53 a1 a2 a3 n) x5 x6 x7 σ
def S9_knees (a1 : Int32) (a2 : Int32) (a3 : Int32) (σ : St) : Option (Int32 × St) := bnd (S9_areTwoMen a1 σ) fun r73 σ72 => if r73 = 0 then (some ((-5 : Int32), σ72)) else (bnd (S9_isPlan a2 σ72) fun r77 σ76 => if r77 = 0 then (some ((-7 : Int32), σ76)) else (bnd (S9_isPlan a3 σ76) fun r81 σ80 => if r81 = 0 then (some ((-7 : Int32), σ80)) else (if inb (((5 : Int32) * (a1 / (10 : Int32))) + (2 : Int32)) 30 then (S9_knees_53 a1 a2 a3 4096 (gI σ80 78 ((((5 : Int32) * (a1 / (10 : Int32))) + (2 : Int32))).toNatClampNeg) (-1 : Int32) (0 : Int32) σ80) else none)))
set_option maxRecDepth 100000 in
set_option maxHeartbeats 4000000 in
theorem v9_knees_106 {g : GT} {X : XT} {a1 : Int32} {a2 : Int32} {a3 : Int32} (hX : OkX g X (m9_knees)) (hN : 95 ≤ g.N) {res : Int32 × St} (hQ : X.Q = QI g X res.1 res.2 ∧ X.cells = 0 ∧ X.slots = 0)  {k53 : Int32 → Int32 → Int32 → St → Option (Int32 × St)} (hk53 : ∀ (x5 : Int32) (x6 : Int32) (x7 : Int32) (σ : St), k53 x5 x6 x7 σ = some res → V g X (m9_knees) 53 [(0, .ref (g.ad (75))), (1, .int (a1)), (2, .int (a2)), (3, .int (a3)), (4, .int ((((5 : Int32) * (a1 / (10 : Int32))) + (2 : Int32)))), (5, .int (x5)), (6, .int (x6)), (7, .int (x7))] [] σ) (x5 : Int32) (x7 : Int32) (s0 : Int32) (σ : St)  (h : S9_knees_106 a1 a2 a3 k53 x5 x7 s0 σ = some res) : V g X (m9_knees) 106 [(0, .ref (g.ad (75))), (1, .int (a1)), (2, .int (a2)), (3, .int (a3)), (4, .int ((((5 : Int32) * (a1 / (10 : Int32))) + (2 : Int32)))), (5, .int (x5)), (7, .int (x7))] [.int (s0)] σ := by
  unfold S9_knees_106 at h
  refine V_istore (lv' := [(6, .int (s0)), (0, .ref (g.ad (75))), (1, .int (a1)), (2, .int (a2)), (3, .int (a3)), (4, .int ((((5 : Int32) * (a1 / (10 : Int32))) + (2 : Int32)))), (5, .int (x5)), (7, .int (x7))]) (q := 108) hX dX9_knees_106 rfl rfl rfl ?_
  refine V_iinc (v := (x7 + 1)) (lv' := [(7, .int ((x7 + 1))), (6, .int (s0)), (0, .ref (g.ad (75))), (1, .int (a1)), (2, .int (a2)), (3, .int (a3)), (4, .int ((((5 : Int32) * (a1 / (10 : Int32))) + (2 : Int32)))), (5, .int (x5))]) (q := 111) hX dX9_knees_108 7 rfl (by rfl) rfl rfl rfl ?_
  refine V_goto hX dX9_knees_111 (q := 53) (by decide) ?_
  refine V.pick [2, 3, 4, 5, 6, 7, 1, 0] rfl ?_
  exact hk53 x5 s0 (x7 + 1) σ  h
set_option maxRecDepth 100000 in
set_option maxHeartbeats 4000000 in
theorem v9_knees_114 {g : GT} {X : XT} {a1 : Int32} {a2 : Int32} {a3 : Int32} (hX : OkX g X (m9_knees)) (hN : 95 ≤ g.N) {res : Int32 × St} (hQ : X.Q = QI g X res.1 res.2 ∧ X.cells = 0 ∧ X.slots = 0)   (x5 : Int32) (x6 : Int32) (σ : St)  (h : S9_knees_114 a1 a2 a3 x5 x6 σ = some res) : V g X (m9_knees) 114 [(0, .ref (g.ad (75))), (4, .int ((((5 : Int32) * (a1 / (10 : Int32))) + (2 : Int32)))), (5, .int (x5)), (6, .int (x6))] [] σ := by
  unfold S9_knees_114 at h
  refine V_aload_n (q := 115) hX dX9_knees_114 0 rfl rfl ?_
  refine V_getF (r := 78) (n := 95) (c := 9) (k := 3) (nf := 39) (C := RX9) (T := TX9) (q := 118) hX rfl rfl iG9 k4_185 rfl rfl ⟨rfl, by decide⟩ hN rfl rfl rfl rfl dX9_knees_115 rfl ?_
  refine V_iload (q := 120) hX dX9_knees_118 1 rfl rfl ?_
  refine V_iload (q := 122) hX dX9_knees_120 2 rfl rfl ?_
  obtain ⟨z64, h⟩ := chk_t h
  refine V_iast (n := 95) (len := 30) (q := 123) hX ⟨rfl, rfl, by decide⟩ hN z64 dX9_knees_122 rfl ?_
  refine V_iload (q := 125) hX dX9_knees_123 3 rfl rfl ?_
  obtain ⟨f1, f2⟩ := some2 h
  rw [f1, f2] at hQ
  exact V_iret hX hQ rfl dX9_knees_125
set_option maxRecDepth 100000 in
set_option maxHeartbeats 4000000 in
theorem v9_knees_53n {g : GT} {X : XT} {a1 : Int32} {a2 : Int32} {a3 : Int32} (hX : OkX g X (m9_knees)) (hN : 95 ≤ g.N) {res : Int32 × St} (hQ : X.Q = QI g X res.1 res.2 ∧ X.cells = 0 ∧ X.slots = 0)   (n : Nat) : ∀ (x5 : Int32) (x6 : Int32) (x7 : Int32) (σ : St) , S9_knees_53 a1 a2 a3 n x5 x6 x7 σ = some res → V g X (m9_knees) 53 [(0, .ref (g.ad (75))), (1, .int (a1)), (2, .int (a2)), (3, .int (a3)), (4, .int ((((5 : Int32) * (a1 / (10 : Int32))) + (2 : Int32)))), (5, .int (x5)), (6, .int (x6)), (7, .int (x7))] [] σ := by
  induction n with
  | zero => intro x5 x6 x7 σ; intro h; cases h
  | succ n ih =>
    intro x5 x6 x7 σ h
    have h : B9_knees_53 a1 a2 a3 (S9_knees_53 a1 a2 a3 n) x5 x6 x7 σ = some res := h
    unfold B9_knees_53 at h
    refine V_iload (q := 55) hX dX9_knees_53 7 rfl rfl ?_
    refine V_bipush (v := 9) (q := 57) hX dX9_knees_55 (by decide) rfl ?_
    refine V_icmp_gt (q := 60) (t := 114) hX dX9_knees_57 (by decide) rfl (fun z65 => ?_) (fun z65 => ?_)
    · have h := ite_t z65 h
      refine V.pick [0, 4, 5, 6] rfl ?_
      exact v9_knees_114 hX hN hQ x5 x6 σ h
    have h := ite_f z65 h
    refine V_iload (q := 62) hX dX9_knees_60 6 rfl rfl ?_
    refine V_iconst (v := -1) (q := 63) hX dX9_knees_62 (by decide) rfl ?_
    refine V_icmp_ne (q := 66) (t := 114) hX dX9_knees_63 (by decide) rfl (fun z66 => ?_) (fun z66 => ?_)
    · have h := ite_f z66 h
      refine V.pick [0, 4, 5, 6] rfl ?_
      exact v9_knees_114 hX hN hQ x5 x6 σ h
    have h := ite_t z66 h
    refine V_aload_n (q := 67) hX dX9_knees_66 0 rfl rfl ?_
    refine V_getF (r := 78) (n := 95) (c := 9) (k := 3) (nf := 39) (C := RX9) (T := TX9) (q := 70) hX rfl rfl iG9 k4_185 rfl rfl ⟨rfl, by decide⟩ hN rfl rfl rfl rfl dX9_knees_67 rfl ?_
    refine V_iload (q := 72) hX dX9_knees_70 4 rfl rfl ?_
    refine V_iload (q := 74) hX dX9_knees_72 7 rfl rfl ?_
    obtain ⟨z67, h⟩ := chk_t h
    refine V_iast (n := 95) (len := 30) (q := 75) hX ⟨rfl, rfl, by decide⟩ hN z67 dX9_knees_74 rfl ?_
    refine V_aload_n (q := 76) hX dX9_knees_75 0 rfl rfl ?_
    refine V_iload_n (q := 77) hX dX9_knees_76 1 rfl rfl ?_
    refine V_bipush (v := 10) (q := 79) hX dX9_knees_77 (by decide) rfl ?_
    refine V_idiv (q := 80) hX (by decide) dX9_knees_79 rfl ?_
    refine V_iload_n (q := 81) hX dX9_knees_80 1 rfl rfl ?_
    refine V_bipush (v := 10) (q := 83) hX dX9_knees_81 (by decide) rfl ?_
    refine V_irem (q := 84) hX (by decide) dX9_knees_83 rfl ?_
    refine V_iload_n (q := 85) hX dX9_knees_84 2 rfl rfl ?_
    refine V_iload_n (q := 86) hX dX9_knees_85 3 rfl rfl ?_
    obtain ⟨r69, σ68, e70, h⟩ := bnd_some h
    refine V_cvV (n := 95) (c := 9) (nf := 39) (C := RX9) (T := TX9) (As := [.int ((a1 / (10 : Int32))), .int ((jrem a1 (10 : Int32))), .int (a2), .int (a3)]) (q := 89) hX (c9_bout0 hX.2.2.2.2.1 hN e70) (goodV_of k5_126 k5_128 kp_47 k1_16 (cons_g k5_129)) (nA := 4) (by decide) rfl rfl rfl rfl rfl ⟨rfl, by decide⟩ hN rfl rfl rfl dX9_knees_86 rfl ?_
    refine V_aload_n (q := 90) hX dX9_knees_89 0 rfl rfl ?_
    refine V_getI (n := 95) (c := 9) (k := 35) (nf := 39) (C := RX9) (T := TX9) (q := 93) hX rfl rfl iG9 k4_217 rfl rfl ⟨rfl, by decide⟩ hN rfl rfl dX9_knees_90 rfl ?_
    refine V_aload_n (q := 94) hX dX9_knees_93 0 rfl rfl ?_
    refine V_getI (n := 95) (c := 9) (k := 30) (nf := 39) (C := RX9) (T := TX9) (q := 97) hX rfl rfl iG9 k4_212 rfl rfl ⟨rfl, by decide⟩ hN rfl rfl dX9_knees_94 rfl ?_
    refine V_icmp_ne (q := 100) (t := 105) hX dX9_knees_97 (by decide) rfl (fun z71 => ?_) (fun z71 => ?_)
    · have h := ite_f z71 h
      refine V_iconst (v := -1) (q := 106) hX dX9_knees_105 (by decide) rfl ?_
      refine V.pick [0, 1, 2, 3, 4, 5, 7] rfl ?_
      exact v9_knees_106 hX hN hQ ih x5 x7 (-1 : Int32) σ68 h
    have h := ite_t z71 h
    refine V_iload (q := 102) hX dX9_knees_100 7 rfl rfl ?_
    refine V_goto hX dX9_knees_102 (q := 106) (by decide) ?_
    refine V.pick [0, 1, 2, 3, 4, 5, 7] rfl ?_
    exact v9_knees_106 hX hN hQ ih x5 x7 x7 σ68 h
theorem v9_knees_53 {g : GT} {X : XT} {a1 : Int32} {a2 : Int32} {a3 : Int32} (hX : OkX g X (m9_knees)) (hN : 95 ≤ g.N) {res : Int32 × St} (hQ : X.Q = QI g X res.1 res.2 ∧ X.cells = 0 ∧ X.slots = 0) (x5 : Int32) (x6 : Int32) (x7 : Int32) (σ : St) (h : S9_knees_53 a1 a2 a3 4096 x5 x6 x7 σ = some res) : V g X (m9_knees) 53 [(0, .ref (g.ad (75))), (1, .int (a1)), (2, .int (a2)), (3, .int (a3)), (4, .int ((((5 : Int32) * (a1 / (10 : Int32))) + (2 : Int32)))), (5, .int (x5)), (6, .int (x6)), (7, .int (x7))] [] σ := v9_knees_53n hX hN hQ 4096 x5 x6 x7 σ h
set_option maxRecDepth 100000 in
set_option maxHeartbeats 4000000 in
theorem v9_knees {g : GT} {X : XT} {a1 : Int32} {a2 : Int32} {a3 : Int32} (hX : OkX g X (m9_knees)) (hN : 95 ≤ g.N) {res : Int32 × St} (hQ : X.Q = QI g X res.1 res.2 ∧ X.cells = 0 ∧ X.slots = 0) {σ : St} (h : S9_knees a1 a2 a3 σ = some res) : V g X (m9_knees) 0 [(0, .ref (g.ad (75))), (1, .int (a1)), (2, .int (a2)), (3, .int (a3))] [] σ := by
  unfold S9_knees at h
  refine V_aload_n (q := 1) hX dX9_knees_0 0 rfl rfl ?_
  refine V_iload_n (q := 2) hX dX9_knees_1 1 rfl rfl ?_
  obtain ⟨r73, σ72, e74, h⟩ := bnd_some h
  refine V_cvI (n := 95) (c := 9) (nf := 39) (C := RX9) (T := TX9) (As := [.int (a1)]) (q := 5) hX (c9_areTwoMen hX.2.2.2.2.1 hN e74) (goodV_of k5_114 k5_116 kp_45 k1_16 (cons_g k5_117)) (nA := 1) (by decide) rfl rfl rfl rfl rfl ⟨rfl, by decide⟩ hN rfl rfl rfl dX9_knees_2 rfl ?_
  refine V_if_ne (q := 8) (t := 11) hX dX9_knees_5 (by decide) rfl (fun z75 => ?_) (fun z75 => ?_)
  · have h := ite_f z75 h
    refine V_iload_n (q := 12) hX dX9_knees_11 2 rfl rfl ?_
    obtain ⟨r77, σ76, e78, h⟩ := bnd_some h
    refine V_csI (As := [.int (a2)]) (q := 15) hX (c9_isPlan hX.2.2.2.2.1 hN e78) (goodS_of k5_122 k5_123 k1_16 (cons_g k5_124)) (nA := 1) (by decide) rfl rfl rfl rfl rfl dX9_knees_12 rfl ?_
    refine V_if_eq (q := 18) (t := 25) hX dX9_knees_15 (by decide) rfl (fun z79 => ?_) (fun z79 => ?_)
    · have h := ite_t z79 h
      refine V_bipush (v := -7) (q := 27) hX dX9_knees_25 (by decide) rfl ?_
      obtain ⟨f1, f2⟩ := some2 h
      rw [f1, f2] at hQ
      exact V_iret hX hQ rfl dX9_knees_27
    have h := ite_f z79 h
    refine V_iload_n (q := 19) hX dX9_knees_18 3 rfl rfl ?_
    obtain ⟨r81, σ80, e82, h⟩ := bnd_some h
    refine V_csI (As := [.int (a3)]) (q := 22) hX (c9_isPlan hX.2.2.2.2.1 hN e82) (goodS_of k5_122 k5_123 k1_16 (cons_g k5_124)) (nA := 1) (by decide) rfl rfl rfl rfl rfl dX9_knees_19 rfl ?_
    refine V_if_ne (q := 25) (t := 28) hX dX9_knees_22 (by decide) rfl (fun z83 => ?_) (fun z83 => ?_)
    · have h := ite_f z83 h
      refine V_iconst (v := 5) (q := 29) hX dX9_knees_28 (by decide) rfl ?_
      refine V_iload_n (q := 30) hX dX9_knees_29 1 rfl rfl ?_
      refine V_bipush (v := 10) (q := 32) hX dX9_knees_30 (by decide) rfl ?_
      refine V_idiv (q := 33) hX (by decide) dX9_knees_32 rfl ?_
      refine V_imul (q := 34) hX dX9_knees_33 rfl ?_
      refine V_iconst (v := 2) (q := 35) hX dX9_knees_34 (by decide) rfl ?_
      refine V_iadd (q := 36) hX dX9_knees_35 rfl ?_
      refine V_istore (lv' := [(4, .int ((((5 : Int32) * (a1 / (10 : Int32))) + (2 : Int32)))), (0, .ref (g.ad (75))), (1, .int (a1)), (2, .int (a2)), (3, .int (a3))]) (q := 38) hX dX9_knees_36 rfl rfl rfl ?_
      refine V_aload_n (q := 39) hX dX9_knees_38 1 rfl rfl ?_
      refine V_getF (r := 78) (n := 95) (c := 9) (k := 3) (nf := 39) (C := RX9) (T := TX9) (q := 42) hX rfl rfl iG9 k4_185 rfl rfl ⟨rfl, by decide⟩ hN rfl rfl rfl rfl dX9_knees_39 rfl ?_
      refine V_iload (q := 44) hX dX9_knees_42 0 rfl rfl ?_
      obtain ⟨z84, h⟩ := chk_t h
      refine V_iald (n := 95) (len := 30) (q := 45) hX ⟨rfl, rfl, by decide⟩ hN z84 dX9_knees_44 rfl ?_
      refine V_istore (lv' := [(5, .int ((gI σ80 78 ((((5 : Int32) * (a1 / (10 : Int32))) + (2 : Int32))).toNatClampNeg))), (4, .int ((((5 : Int32) * (a1 / (10 : Int32))) + (2 : Int32)))), (0, .ref (g.ad (75))), (1, .int (a1)), (2, .int (a2)), (3, .int (a3))]) (q := 47) hX dX9_knees_45 rfl rfl rfl ?_
      refine V_iconst (v := -1) (q := 48) hX dX9_knees_47 (by decide) rfl ?_
      refine V_istore (lv' := [(6, .int ((-1 : Int32))), (5, .int ((gI σ80 78 ((((5 : Int32) * (a1 / (10 : Int32))) + (2 : Int32))).toNatClampNeg))), (4, .int ((((5 : Int32) * (a1 / (10 : Int32))) + (2 : Int32)))), (0, .ref (g.ad (75))), (1, .int (a1)), (2, .int (a2)), (3, .int (a3))]) (q := 50) hX dX9_knees_48 rfl rfl rfl ?_
      refine V_iconst (v := 0) (q := 51) hX dX9_knees_50 (by decide) rfl ?_
      refine V_istore (lv' := [(7, .int ((0 : Int32))), (6, .int ((-1 : Int32))), (5, .int ((gI σ80 78 ((((5 : Int32) * (a1 / (10 : Int32))) + (2 : Int32))).toNatClampNeg))), (4, .int ((((5 : Int32) * (a1 / (10 : Int32))) + (2 : Int32)))), (0, .ref (g.ad (75))), (1, .int (a1)), (2, .int (a2)), (3, .int (a3))]) (q := 53) hX dX9_knees_51 rfl rfl rfl ?_
      refine V.pick [4, 5, 6, 7, 3, 2, 1, 0] rfl ?_
      exact v9_knees_53 hX hN hQ (gI σ80 78 ((((5 : Int32) * (a1 / (10 : Int32))) + (2 : Int32))).toNatClampNeg) (-1 : Int32) (0 : Int32) σ80 h
    have h := ite_t z83 h
    refine V_bipush (v := -7) (q := 27) hX dX9_knees_25 (by decide) rfl ?_
    obtain ⟨f1, f2⟩ := some2 h
    rw [f1, f2] at hQ
    exact V_iret hX hQ rfl dX9_knees_27
  have h := ite_t z75 h
  refine V_bipush (v := -5) (q := 10) hX dX9_knees_8 (by decide) rfl ?_
  obtain ⟨f1, f2⟩ := some2 h
  rw [f1, f2] at hQ
  exact V_iret hX hQ rfl dX9_knees_10
set_option maxRecDepth 100000 in
set_option maxHeartbeats 4000000 in
theorem c9_knees {g : GT} {l : Launch} (hg : OkG g) (hN : 95 ≤ g.N) {a1 : Int32} {a2 : Int32} {a3 : Int32} {σ : St} {r : Int32} {σ' : St} (h : S9_knees a1 a2 a3 σ = some (r, σ')) : CtI g l m9_knees yX9_knees [.ref (g.ad (75)), .int (a1), .int (a2), .int (a3)] σ r σ' := CtI.of hg (by decide) rfl rfl (fun X h1 h2 h3 => v9_knees h1 hN (res := (r, σ')) h3 h)
