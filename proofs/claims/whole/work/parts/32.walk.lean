abbrev m9_plainForce : MI := (cX9_plainForce, RX9, 4, some .int, 1)
def S9_plainForce (a1 : Int32) (a2 : Int32) (a3 : Int32) (σ : St) : Option (Int32 × St) := if a2 = (2 : Int32) then (if a3 = 0 then (some (((2 : Int32) * a1), σ)) else (some ((0 : Int32), σ))) else (some (a1, σ))
set_option maxRecDepth 100000 in
set_option maxHeartbeats 4000000 in
theorem v9_plainForce {g : GT} {X : XT} {a1 : Int32} {a2 : Int32} {a3 : Int32} (hX : OkX g X (m9_plainForce)) (hN : 95 ≤ g.N) {res : Int32 × St} (hQ : X.Q = QI g X res.1 res.2 ∧ X.cells = 0 ∧ X.slots = 0) {σ : St} (h : S9_plainForce a1 a2 a3 σ = some res) : V g X (m9_plainForce) 0 [(0, .ref (g.ad (75))), (1, .int (a1)), (2, .int (a2)), (3, .int (a3))] [] σ := by
  unfold S9_plainForce at h
  refine V_iload_n (q := 1) hX dX9_plainForce_0 2 rfl rfl ?_
  refine V_iconst (v := 2) (q := 2) hX dX9_plainForce_1 (by decide) rfl ?_
  refine V_icmp_ne (q := 5) (t := 19) hX dX9_plainForce_2 (by decide) rfl (fun z3 => ?_) (fun z3 => ?_)
  · have h := ite_f z3 h
    refine V_iload_n (q := 20) hX dX9_plainForce_19 1 rfl rfl ?_
    obtain ⟨f1, f2⟩ := some2 h
    rw [f1, f2] at hQ
    exact V_iret hX hQ rfl dX9_plainForce_20
  have h := ite_t z3 h
  refine V_iload_n (q := 6) hX dX9_plainForce_5 3 rfl rfl ?_
  refine V_if_ne (q := 9) (t := 15) hX dX9_plainForce_6 (by decide) rfl (fun z4 => ?_) (fun z4 => ?_)
  · have h := ite_f z4 h
    refine V_iconst (v := 0) (q := 16) hX dX9_plainForce_15 (by decide) rfl ?_
    refine V_goto hX dX9_plainForce_16 (q := 20) (by decide) ?_
    obtain ⟨f1, f2⟩ := some2 h
    rw [f1, f2] at hQ
    exact V_iret hX hQ rfl dX9_plainForce_20
  have h := ite_t z4 h
  refine V_iconst (v := 2) (q := 10) hX dX9_plainForce_9 (by decide) rfl ?_
  refine V_iload_n (q := 11) hX dX9_plainForce_10 1 rfl rfl ?_
  refine V_imul (q := 12) hX dX9_plainForce_11 rfl ?_
  refine V_goto hX dX9_plainForce_12 (q := 20) (by decide) ?_
  obtain ⟨f1, f2⟩ := some2 h
  rw [f1, f2] at hQ
  exact V_iret hX hQ rfl dX9_plainForce_20
set_option maxRecDepth 100000 in
set_option maxHeartbeats 4000000 in
theorem c9_plainForce {g : GT} {l : Launch} (hg : OkG g) (hN : 95 ≤ g.N) {a1 : Int32} {a2 : Int32} {a3 : Int32} {σ : St} {r : Int32} {σ' : St} (h : S9_plainForce a1 a2 a3 σ = some (r, σ')) : CtI g l m9_plainForce yX9_plainForce [.ref (g.ad (75)), .int (a1), .int (a2), .int (a3)] σ r σ' := CtI.of hg (by decide) rfl rfl (fun X h1 h2 h3 => v9_plainForce h1 hN (res := (r, σ')) h3 h)

abbrev m9_forcesOf : MI := (cX9_forcesOf, RX9, 7, some .int, 2)
def S9_forcesOf_77 (a1 : Int32) (a2 : Int32) (a3 : Int32) (a4 : Int32) (x5 : Int32) (σ : St) : Option (Int32 × St) := if a3 = (1 : Int32) then (some ((a2 + (5 : Int32)), σ)) else (some ((x5 / (2 : Int32)), σ))
def S9_forcesOf (a1 : Int32) (a2 : Int32) (a3 : Int32) (a4 : Int32) (σ : St) : Option (Int32 × St) := bnd (S9_plainForce a2 a3 a4 σ) fun r33 σ32 => if inb a1 6 then (if inb a1 6 then (if (gI σ32 76 (a1).toNatClampNeg) = 1 then (if a3 = 0 then (some ((r33 + ((3 : Int32) * (gI σ32 77 (a1).toNatClampNeg))), σ32)) else (some (r33, σ32))) else (if (gI σ32 76 (a1).toNatClampNeg) = 2 then (S9_forcesOf_77 a1 a2 a3 a4 r33 σ32) else (if (gI σ32 76 (a1).toNatClampNeg) = 3 then (if a4 = (2 : Int32) then (some ((0 : Int32), σ32)) else (if a3 = 0 then (some ((r33 + ((3 : Int32) * (gI σ32 77 (a1).toNatClampNeg))), σ32)) else (some (r33, σ32)))) else (if (gI σ32 76 (a1).toNatClampNeg) = 4 then (S9_forcesOf_77 a1 a2 a3 a4 r33 σ32) else (if (gI σ32 76 (a1).toNatClampNeg) = 5 then (if a3 = a4 then (some ((r33 / (2 : Int32)), σ32)) else (some ((r33 + (gI σ32 77 (a1).toNatClampNeg)), σ32))) else (some (r33, σ32))))))) else none) else none
set_option maxRecDepth 100000 in
set_option maxHeartbeats 4000000 in
theorem v9_forcesOf_77 {g : GT} {X : XT} {a1 : Int32} {a2 : Int32} {a3 : Int32} {a4 : Int32} (hX : OkX g X (m9_forcesOf)) (hN : 95 ≤ g.N) {res : Int32 × St} (hQ : X.Q = QI g X res.1 res.2 ∧ X.cells = 0 ∧ X.slots = 0)   (x5 : Int32) (σ : St)  (h : S9_forcesOf_77 a1 a2 a3 a4 x5 σ = some res) : V g X (m9_forcesOf) 77 [(2, .int (a2)), (3, .int (a3)), (5, .int (x5))] [] σ := by
  unfold S9_forcesOf_77 at h
  refine V_iload_n (q := 78) hX dX9_forcesOf_77 1 rfl rfl ?_
  refine V_iconst (v := 1) (q := 79) hX dX9_forcesOf_78 (by decide) rfl ?_
  refine V_icmp_ne (q := 82) (t := 88) hX dX9_forcesOf_79 (by decide) rfl (fun z31 => ?_) (fun z31 => ?_)
  · have h := ite_f z31 h
    refine V_iload (q := 90) hX dX9_forcesOf_88 2 rfl rfl ?_
    refine V_iconst (v := 2) (q := 91) hX dX9_forcesOf_90 (by decide) rfl ?_
    refine V_idiv (q := 92) hX (by decide) dX9_forcesOf_91 rfl ?_
    obtain ⟨f1, f2⟩ := some2 h
    rw [f1, f2] at hQ
    exact V_iret hX hQ rfl dX9_forcesOf_92
  have h := ite_t z31 h
  refine V_iload_n (q := 83) hX dX9_forcesOf_82 0 rfl rfl ?_
  refine V_iconst (v := 5) (q := 84) hX dX9_forcesOf_83 (by decide) rfl ?_
  refine V_iadd (q := 85) hX dX9_forcesOf_84 rfl ?_
  refine V_goto hX dX9_forcesOf_85 (q := 92) (by decide) ?_
  obtain ⟨f1, f2⟩ := some2 h
  rw [f1, f2] at hQ
  exact V_iret hX hQ rfl dX9_forcesOf_92
set_option maxRecDepth 100000 in
set_option maxHeartbeats 4000000 in
theorem v9_forcesOf {g : GT} {X : XT} {a1 : Int32} {a2 : Int32} {a3 : Int32} {a4 : Int32} (hX : OkX g X (m9_forcesOf)) (hN : 95 ≤ g.N) {res : Int32 × St} (hQ : X.Q = QI g X res.1 res.2 ∧ X.cells = 0 ∧ X.slots = 0) {σ : St} (h : S9_forcesOf a1 a2 a3 a4 σ = some res) : V g X (m9_forcesOf) 0 [(0, .ref (g.ad (75))), (1, .int (a1)), (2, .int (a2)), (3, .int (a3)), (4, .int (a4))] [] σ := by
  unfold S9_forcesOf at h
  refine V_aload_n (q := 1) hX dX9_forcesOf_0 0 rfl rfl ?_
  refine V_iload_n (q := 2) hX dX9_forcesOf_1 2 rfl rfl ?_
  refine V_iload_n (q := 3) hX dX9_forcesOf_2 3 rfl rfl ?_
  refine V_iload (q := 5) hX dX9_forcesOf_3 4 rfl rfl ?_
  obtain ⟨r33, σ32, e34, h⟩ := bnd_some h
  refine V_cvI (n := 95) (c := 9) (nf := 39) (C := RX9) (T := TX9) (As := [.int (a2), .int (a3), .int (a4)]) (q := 8) hX (c9_plainForce hX.2.2.2.2.1 hN e34) (goodV_of k5_154 k5_156 kp_54 k1_16 (cons_g k5_157)) (nA := 3) (by decide) rfl rfl rfl rfl rfl ⟨rfl, by decide⟩ hN rfl rfl rfl dX9_forcesOf_5 rfl ?_
  refine V_istore (lv' := [(5, .int (r33)), (0, .ref (g.ad (75))), (1, .int (a1)), (2, .int (a2)), (3, .int (a3)), (4, .int (a4))]) (q := 10) hX dX9_forcesOf_8 rfl rfl rfl ?_
  refine V_aload_n (q := 11) hX dX9_forcesOf_10 1 rfl rfl ?_
  refine V_getF (r := 77) (n := 95) (c := 9) (k := 2) (nf := 39) (C := RX9) (T := TX9) (q := 14) hX rfl rfl iG9 k4_184 rfl rfl ⟨rfl, by decide⟩ hN rfl rfl rfl rfl dX9_forcesOf_11 rfl ?_
  refine V_iload_n (q := 15) hX dX9_forcesOf_14 2 rfl rfl ?_
  obtain ⟨z35, h⟩ := chk_t h
  refine V_iald (n := 95) (len := 6) (q := 16) hX ⟨rfl, rfl, by decide⟩ hN z35 dX9_forcesOf_15 rfl ?_
  refine V_istore (lv' := [(6, .int ((gI σ32 77 (a1).toNatClampNeg))), (5, .int (r33)), (0, .ref (g.ad (75))), (1, .int (a1)), (2, .int (a2)), (3, .int (a3)), (4, .int (a4))]) (q := 18) hX dX9_forcesOf_16 rfl rfl rfl ?_
  refine V_aload_n (q := 19) hX dX9_forcesOf_18 2 rfl rfl ?_
  refine V_getF (r := 76) (n := 95) (c := 9) (k := 1) (nf := 39) (C := RX9) (T := TX9) (q := 22) hX rfl rfl iG9 k4_183 rfl rfl ⟨rfl, by decide⟩ hN rfl rfl rfl rfl dX9_forcesOf_19 rfl ?_
  refine V_iload_n (q := 23) hX dX9_forcesOf_22 3 rfl rfl ?_
  obtain ⟨z36, h⟩ := chk_t h
  refine V_iald (n := 95) (len := 6) (q := 24) hX ⟨rfl, rfl, by decide⟩ hN z36 dX9_forcesOf_23 rfl ?_
  by_cases z37 : (gI σ32 76 (a1).toNatClampNeg) = 1
  · have h := ite_t z37 h
    refine V_tsw (q := 60) (off := 36) hX dX9_forcesOf_24 (by rw [z37]; decide) (by rw [z37]; decide) (by rw [z37]; decide) (by decide) ?_
    refine V_iload_n (q := 61) hX dX9_forcesOf_60 5 rfl rfl ?_
    refine V_if_ne (q := 64) (t := 74) hX dX9_forcesOf_61 (by decide) rfl (fun z38 => ?_) (fun z38 => ?_)
    · have h := ite_f z38 h
      refine V_iload (q := 76) hX dX9_forcesOf_74 1 rfl rfl ?_
      obtain ⟨f1, f2⟩ := some2 h
      rw [f1, f2] at hQ
      exact V_iret hX hQ rfl dX9_forcesOf_76
    have h := ite_t z38 h
    refine V_iload (q := 66) hX dX9_forcesOf_64 1 rfl rfl ?_
    refine V_iconst (v := 3) (q := 67) hX dX9_forcesOf_66 (by decide) rfl ?_
    refine V_iload (q := 69) hX dX9_forcesOf_67 0 rfl rfl ?_
    refine V_imul (q := 70) hX dX9_forcesOf_69 rfl ?_
    refine V_iadd (q := 71) hX dX9_forcesOf_70 rfl ?_
    refine V_goto hX dX9_forcesOf_71 (q := 76) (by decide) ?_
    obtain ⟨f1, f2⟩ := some2 h
    rw [f1, f2] at hQ
    exact V_iret hX hQ rfl dX9_forcesOf_76
  have h := ite_f z37 h
  by_cases z39 : (gI σ32 76 (a1).toNatClampNeg) = 2
  · have h := ite_t z39 h
    refine V_tsw (q := 77) (off := 53) hX dX9_forcesOf_24 (by rw [z39]; decide) (by rw [z39]; decide) (by rw [z39]; decide) (by decide) ?_
    refine V.pick [4, 5, 1] rfl ?_
    exact v9_forcesOf_77 hX hN hQ r33 σ32 h
  have h := ite_f z39 h
  by_cases z40 : (gI σ32 76 (a1).toNatClampNeg) = 3
  · have h := ite_t z40 h
    refine V_tsw (q := 93) (off := 69) hX dX9_forcesOf_24 (by rw [z40]; decide) (by rw [z40]; decide) (by rw [z40]; decide) (by decide) ?_
    refine V_iload (q := 95) hX dX9_forcesOf_93 6 rfl rfl ?_
    refine V_iconst (v := 2) (q := 96) hX dX9_forcesOf_95 (by decide) rfl ?_
    refine V_icmp_ne (q := 99) (t := 103) hX dX9_forcesOf_96 (by decide) rfl (fun z41 => ?_) (fun z41 => ?_)
    · have h := ite_f z41 h
      refine V_iload_n (q := 104) hX dX9_forcesOf_103 5 rfl rfl ?_
      refine V_if_ne (q := 107) (t := 117) hX dX9_forcesOf_104 (by decide) rfl (fun z42 => ?_) (fun z42 => ?_)
      · have h := ite_f z42 h
        refine V_iload (q := 119) hX dX9_forcesOf_117 1 rfl rfl ?_
        obtain ⟨f1, f2⟩ := some2 h
        rw [f1, f2] at hQ
        exact V_iret hX hQ rfl dX9_forcesOf_119
      have h := ite_t z42 h
      refine V_iload (q := 109) hX dX9_forcesOf_107 1 rfl rfl ?_
      refine V_iconst (v := 3) (q := 110) hX dX9_forcesOf_109 (by decide) rfl ?_
      refine V_iload (q := 112) hX dX9_forcesOf_110 0 rfl rfl ?_
      refine V_imul (q := 113) hX dX9_forcesOf_112 rfl ?_
      refine V_iadd (q := 114) hX dX9_forcesOf_113 rfl ?_
      refine V_goto hX dX9_forcesOf_114 (q := 119) (by decide) ?_
      obtain ⟨f1, f2⟩ := some2 h
      rw [f1, f2] at hQ
      exact V_iret hX hQ rfl dX9_forcesOf_119
    have h := ite_t z41 h
    refine V_iconst (v := 0) (q := 100) hX dX9_forcesOf_99 (by decide) rfl ?_
    refine V_goto hX dX9_forcesOf_100 (q := 119) (by decide) ?_
    obtain ⟨f1, f2⟩ := some2 h
    rw [f1, f2] at hQ
    exact V_iret hX hQ rfl dX9_forcesOf_119
  have h := ite_f z40 h
  by_cases z43 : (gI σ32 76 (a1).toNatClampNeg) = 4
  · have h := ite_t z43 h
    refine V_tsw (q := 77) (off := 53) hX dX9_forcesOf_24 (by rw [z43]; decide) (by rw [z43]; decide) (by rw [z43]; decide) (by decide) ?_
    refine V.pick [4, 5, 1] rfl ?_
    exact v9_forcesOf_77 hX hN hQ r33 σ32 h
  have h := ite_f z43 h
  by_cases z44 : (gI σ32 76 (a1).toNatClampNeg) = 5
  · have h := ite_t z44 h
    refine V_tsw (q := 120) (off := 96) hX dX9_forcesOf_24 (by rw [z44]; decide) (by rw [z44]; decide) (by rw [z44]; decide) (by decide) ?_
    refine V_iload_n (q := 121) hX dX9_forcesOf_120 5 rfl rfl ?_
    refine V_iload (q := 123) hX dX9_forcesOf_121 6 rfl rfl ?_
    refine V_icmp_ne (q := 126) (t := 133) hX dX9_forcesOf_123 (by decide) rfl (fun z45 => ?_) (fun z45 => ?_)
    · have h := ite_f z45 h
      refine V_iload (q := 135) hX dX9_forcesOf_133 1 rfl rfl ?_
      refine V_iload (q := 137) hX dX9_forcesOf_135 0 rfl rfl ?_
      refine V_iadd (q := 138) hX dX9_forcesOf_137 rfl ?_
      obtain ⟨f1, f2⟩ := some2 h
      rw [f1, f2] at hQ
      exact V_iret hX hQ rfl dX9_forcesOf_138
    have h := ite_t z45 h
    refine V_iload (q := 128) hX dX9_forcesOf_126 1 rfl rfl ?_
    refine V_iconst (v := 2) (q := 129) hX dX9_forcesOf_128 (by decide) rfl ?_
    refine V_idiv (q := 130) hX (by decide) dX9_forcesOf_129 rfl ?_
    refine V_goto hX dX9_forcesOf_130 (q := 138) (by decide) ?_
    obtain ⟨f1, f2⟩ := some2 h
    rw [f1, f2] at hQ
    exact V_iret hX hQ rfl dX9_forcesOf_138
  have h := ite_f z44 h
  refine V_tswD (q := 139) hX dX9_forcesOf_24 (by have y0 := neI (v := 1) (by decide) z37; have y1 := neI (v := 2) (by decide) z39; have y2 := neI (v := 3) (by decide) z40; have y3 := neI (v := 4) (by decide) z43; have y4 := neI (v := 5) (by decide) z44; omega) (by decide) ?_
  refine V_iload (q := 141) hX dX9_forcesOf_139 1 rfl rfl ?_
  obtain ⟨f1, f2⟩ := some2 h
  rw [f1, f2] at hQ
  exact V_iret hX hQ rfl dX9_forcesOf_141
set_option maxRecDepth 100000 in
set_option maxHeartbeats 4000000 in
theorem c9_forcesOf {g : GT} {l : Launch} (hg : OkG g) (hN : 95 ≤ g.N) {a1 : Int32} {a2 : Int32} {a3 : Int32} {a4 : Int32} {σ : St} {r : Int32} {σ' : St} (h : S9_forcesOf a1 a2 a3 a4 σ = some (r, σ')) : CtI g l m9_forcesOf yX9_forcesOf [.ref (g.ad (75)), .int (a1), .int (a2), .int (a3), .int (a4)] σ r σ' := CtI.of hg (by decide) rfl rfl (fun X h1 h2 h3 => v9_forcesOf h1 hN (res := (r, σ')) h3 h)

abbrev m9_standsOf : MI := (cX9_standsOf, RX9, 4, some .int, 4)
def S9_standsOf_50 (a1 : Int32) (s0 : Int32) (σ : St) : Option (Int32 × St) := bnd (S9_within s0 (0 : Int32) (9 : Int32) σ) fun r24 σ23 => some (r24, σ23)
def S9_standsOf (a1 : Int32) (σ : St) : Option (Int32 × St) := bnd (S9_asksOf (1 : Int32) a1 (0 : Int32) (0 : Int32) (0 : Int32) σ) fun r27 σ26 => if inb a1 6 then (if (gI σ26 76 (a1).toNatClampNeg) = (2 : Int32) then (S9_standsOf_50 a1 (r27 + (1 : Int32)) σ26) else (if inb a1 6 then (if (gI σ26 76 (a1).toNatClampNeg) = (4 : Int32) then (if inb a1 6 then (S9_standsOf_50 a1 ((r27 + (1 : Int32)) + (gI σ26 77 (a1).toNatClampNeg)) σ26) else none) else (S9_standsOf_50 a1 r27 σ26)) else none)) else none
set_option maxRecDepth 100000 in
set_option maxHeartbeats 4000000 in
theorem v9_standsOf_50 {g : GT} {X : XT} {a1 : Int32} (hX : OkX g X (m9_standsOf)) (hN : 95 ≤ g.N) {res : Int32 × St} (hQ : X.Q = QI g X res.1 res.2 ∧ X.cells = 0 ∧ X.slots = 0)   (s0 : Int32) (σ : St)  (h : S9_standsOf_50 a1 s0 σ = some res) : V g X (m9_standsOf) 50 [] [.int (s0)] σ := by
  unfold S9_standsOf_50 at h
  refine V_istore_n (lv' := [(3, .int (s0))]) (q := 51) hX dX9_standsOf_50 rfl rfl rfl ?_
  refine V_iload_n (q := 52) hX dX9_standsOf_51 0 rfl rfl ?_
  refine V_iconst (v := 0) (q := 53) hX dX9_standsOf_52 (by decide) rfl ?_
  refine V_bipush (v := 9) (q := 55) hX dX9_standsOf_53 (by decide) rfl ?_
  obtain ⟨r24, σ23, e25, h⟩ := bnd_some h
  refine V_csI (As := [.int (s0), .int ((0 : Int32)), .int ((9 : Int32))]) (q := 58) hX (c9_within hX.2.2.2.2.1 hN e25) (goodS_of k5_95 k5_96 k1_16 (cons_g k5_97)) (nA := 3) (by decide) rfl rfl rfl rfl rfl dX9_standsOf_55 rfl ?_
  obtain ⟨f1, f2⟩ := some2 h
  rw [f1, f2] at hQ
  exact V_iret hX hQ rfl dX9_standsOf_58
set_option maxRecDepth 100000 in
set_option maxHeartbeats 4000000 in
theorem v9_standsOf {g : GT} {X : XT} {a1 : Int32} (hX : OkX g X (m9_standsOf)) (hN : 95 ≤ g.N) {res : Int32 × St} (hQ : X.Q = QI g X res.1 res.2 ∧ X.cells = 0 ∧ X.slots = 0) {σ : St} (h : S9_standsOf a1 σ = some res) : V g X (m9_standsOf) 0 [(0, .ref (g.ad (75))), (1, .int (a1))] [] σ := by
  unfold S9_standsOf at h
  refine V_aload_n (q := 1) hX dX9_standsOf_0 0 rfl rfl ?_
  refine V_iconst (v := 1) (q := 2) hX dX9_standsOf_1 (by decide) rfl ?_
  refine V_iload_n (q := 3) hX dX9_standsOf_2 1 rfl rfl ?_
  refine V_iconst (v := 0) (q := 4) hX dX9_standsOf_3 (by decide) rfl ?_
  refine V_iconst (v := 0) (q := 5) hX dX9_standsOf_4 (by decide) rfl ?_
  refine V_iconst (v := 0) (q := 6) hX dX9_standsOf_5 (by decide) rfl ?_
  obtain ⟨r27, σ26, e28, h⟩ := bnd_some h
  refine V_cvI (n := 95) (c := 9) (nf := 39) (C := RX9) (T := TX9) (As := [.int ((1 : Int32)), .int (a1), .int ((0 : Int32)), .int ((0 : Int32)), .int ((0 : Int32))]) (q := 9) hX (c9_asksOf hX.2.2.2.2.1 hN e28) (goodV_of k5_84 k5_86 kp_43 k1_16 (cons_g k5_87)) (nA := 5) (by decide) rfl rfl rfl rfl rfl ⟨rfl, by decide⟩ hN rfl rfl rfl dX9_standsOf_6 rfl ?_
  refine V_istore_n (lv' := [(2, .int (r27)), (0, .ref (g.ad (75))), (1, .int (a1))]) (q := 10) hX dX9_standsOf_9 rfl rfl rfl ?_
  refine V_aload_n (q := 11) hX dX9_standsOf_10 1 rfl rfl ?_
  refine V_getF (r := 76) (n := 95) (c := 9) (k := 1) (nf := 39) (C := RX9) (T := TX9) (q := 14) hX rfl rfl iG9 k4_183 rfl rfl ⟨rfl, by decide⟩ hN rfl rfl rfl rfl dX9_standsOf_11 rfl ?_
  refine V_iload_n (q := 15) hX dX9_standsOf_14 2 rfl rfl ?_
  obtain ⟨z29, h⟩ := chk_t h
  refine V_iald (n := 95) (len := 6) (q := 16) hX ⟨rfl, rfl, by decide⟩ hN z29 dX9_standsOf_15 rfl ?_
  refine V_iconst (v := 2) (q := 17) hX dX9_standsOf_16 (by decide) rfl ?_
  refine V_icmp_ne (q := 20) (t := 26) hX dX9_standsOf_17 (by decide) rfl (fun z30 => ?_) (fun z30 => ?_)
  · have h := ite_f z30 h
    refine V_aload_n (q := 27) hX dX9_standsOf_26 1 rfl rfl ?_
    refine V_getF (r := 76) (n := 95) (c := 9) (k := 1) (nf := 39) (C := RX9) (T := TX9) (q := 30) hX rfl rfl iG9 k4_183 rfl rfl ⟨rfl, by decide⟩ hN rfl rfl rfl rfl dX9_standsOf_27 rfl ?_
    refine V_iload_n (q := 31) hX dX9_standsOf_30 2 rfl rfl ?_
    obtain ⟨z31, h⟩ := chk_t h
    refine V_iald (n := 95) (len := 6) (q := 32) hX ⟨rfl, rfl, by decide⟩ hN z31 dX9_standsOf_31 rfl ?_
    refine V_iconst (v := 4) (q := 33) hX dX9_standsOf_32 (by decide) rfl ?_
    refine V_icmp_ne (q := 36) (t := 49) hX dX9_standsOf_33 (by decide) rfl (fun z32 => ?_) (fun z32 => ?_)
    · have h := ite_f z32 h
      refine V_iload_n (q := 50) hX dX9_standsOf_49 0 rfl rfl ?_
      refine V.pick [] rfl ?_
      exact v9_standsOf_50 hX hN hQ r27 σ26 h
    have h := ite_t z32 h
    refine V_iload_n (q := 37) hX dX9_standsOf_36 0 rfl rfl ?_
    refine V_iconst (v := 1) (q := 38) hX dX9_standsOf_37 (by decide) rfl ?_
    refine V_iadd (q := 39) hX dX9_standsOf_38 rfl ?_
    refine V_aload_n (q := 40) hX dX9_standsOf_39 1 rfl rfl ?_
    refine V_getF (r := 77) (n := 95) (c := 9) (k := 2) (nf := 39) (C := RX9) (T := TX9) (q := 43) hX rfl rfl iG9 k4_184 rfl rfl ⟨rfl, by decide⟩ hN rfl rfl rfl rfl dX9_standsOf_40 rfl ?_
    refine V_iload_n (q := 44) hX dX9_standsOf_43 2 rfl rfl ?_
    obtain ⟨z33, h⟩ := chk_t h
    refine V_iald (n := 95) (len := 6) (q := 45) hX ⟨rfl, rfl, by decide⟩ hN z33 dX9_standsOf_44 rfl ?_
    refine V_iadd (q := 46) hX dX9_standsOf_45 rfl ?_
    refine V_goto hX dX9_standsOf_46 (q := 50) (by decide) ?_
    refine V.pick [] rfl ?_
    exact v9_standsOf_50 hX hN hQ ((r27 + (1 : Int32)) + (gI σ26 77 (a1).toNatClampNeg)) σ26 h
  have h := ite_t z30 h
  refine V_iload_n (q := 21) hX dX9_standsOf_20 0 rfl rfl ?_
  refine V_iconst (v := 1) (q := 22) hX dX9_standsOf_21 (by decide) rfl ?_
  refine V_iadd (q := 23) hX dX9_standsOf_22 rfl ?_
  refine V_goto hX dX9_standsOf_23 (q := 50) (by decide) ?_
  refine V.pick [] rfl ?_
  exact v9_standsOf_50 hX hN hQ (r27 + (1 : Int32)) σ26 h
set_option maxRecDepth 100000 in
set_option maxHeartbeats 4000000 in
theorem c9_standsOf {g : GT} {l : Launch} (hg : OkG g) (hN : 95 ≤ g.N) {a1 : Int32} {σ : St} {r : Int32} {σ' : St} (h : S9_standsOf a1 σ = some (r, σ')) : CtI g l m9_standsOf yX9_standsOf [.ref (g.ad (75)), .int (a1)] σ r σ' := CtI.of hg (by decide) rfl rfl (fun X h1 h2 h3 => v9_standsOf h1 hN (res := (r, σ')) h3 h)

abbrev m9_startsOf : MI := (cX9_startsOf, RX9, 3, some .int, 4)
def S9_startsOf (a1 : Int32) (σ : St) : Option (Int32 × St) := bnd (S9_asksOf (2 : Int32) a1 (0 : Int32) (0 : Int32) (4 : Int32) σ) fun r10 σ9 => if inb a1 6 then (if (gI σ9 76 (a1).toNatClampNeg) = (3 : Int32) then (some ((r10 + (1 : Int32)), σ9)) else (if inb a1 6 then (if (gI σ9 76 (a1).toNatClampNeg) = (4 : Int32) then (if r10 ≤ 0 then (some (r10, σ9)) else (some ((0 : Int32), σ9))) else (some (r10, σ9))) else none)) else none
set_option maxRecDepth 100000 in
set_option maxHeartbeats 4000000 in
theorem v9_startsOf {g : GT} {X : XT} {a1 : Int32} (hX : OkX g X (m9_startsOf)) (hN : 95 ≤ g.N) {res : Int32 × St} (hQ : X.Q = QI g X res.1 res.2 ∧ X.cells = 0 ∧ X.slots = 0) {σ : St} (h : S9_startsOf a1 σ = some res) : V g X (m9_startsOf) 0 [(0, .ref (g.ad (75))), (1, .int (a1))] [] σ := by
  unfold S9_startsOf at h
  refine V_aload_n (q := 1) hX dX9_startsOf_0 0 rfl rfl ?_
  refine V_iconst (v := 2) (q := 2) hX dX9_startsOf_1 (by decide) rfl ?_
  refine V_iload_n (q := 3) hX dX9_startsOf_2 1 rfl rfl ?_
  refine V_iconst (v := 0) (q := 4) hX dX9_startsOf_3 (by decide) rfl ?_
  refine V_iconst (v := 0) (q := 5) hX dX9_startsOf_4 (by decide) rfl ?_
  refine V_iconst (v := 4) (q := 6) hX dX9_startsOf_5 (by decide) rfl ?_
  obtain ⟨r10, σ9, e11, h⟩ := bnd_some h
  refine V_cvI (n := 95) (c := 9) (nf := 39) (C := RX9) (T := TX9) (As := [.int ((2 : Int32)), .int (a1), .int ((0 : Int32)), .int ((0 : Int32)), .int ((4 : Int32))]) (q := 9) hX (c9_asksOf hX.2.2.2.2.1 hN e11) (goodV_of k5_84 k5_86 kp_43 k1_16 (cons_g k5_87)) (nA := 5) (by decide) rfl rfl rfl rfl rfl ⟨rfl, by decide⟩ hN rfl rfl rfl dX9_startsOf_6 rfl ?_
  refine V_istore_n (lv' := [(2, .int (r10)), (0, .ref (g.ad (75))), (1, .int (a1))]) (q := 10) hX dX9_startsOf_9 rfl rfl rfl ?_
  refine V_aload_n (q := 11) hX dX9_startsOf_10 1 rfl rfl ?_
  refine V_getF (r := 76) (n := 95) (c := 9) (k := 1) (nf := 39) (C := RX9) (T := TX9) (q := 14) hX rfl rfl iG9 k4_183 rfl rfl ⟨rfl, by decide⟩ hN rfl rfl rfl rfl dX9_startsOf_11 rfl ?_
  refine V_iload_n (q := 15) hX dX9_startsOf_14 2 rfl rfl ?_
  obtain ⟨z12, h⟩ := chk_t h
  refine V_iald (n := 95) (len := 6) (q := 16) hX ⟨rfl, rfl, by decide⟩ hN z12 dX9_startsOf_15 rfl ?_
  refine V_iconst (v := 3) (q := 17) hX dX9_startsOf_16 (by decide) rfl ?_
  refine V_icmp_ne (q := 20) (t := 26) hX dX9_startsOf_17 (by decide) rfl (fun z13 => ?_) (fun z13 => ?_)
  · have h := ite_f z13 h
    refine V_aload_n (q := 27) hX dX9_startsOf_26 1 rfl rfl ?_
    refine V_getF (r := 76) (n := 95) (c := 9) (k := 1) (nf := 39) (C := RX9) (T := TX9) (q := 30) hX rfl rfl iG9 k4_183 rfl rfl ⟨rfl, by decide⟩ hN rfl rfl rfl rfl dX9_startsOf_27 rfl ?_
    refine V_iload_n (q := 31) hX dX9_startsOf_30 2 rfl rfl ?_
    obtain ⟨z14, h⟩ := chk_t h
    refine V_iald (n := 95) (len := 6) (q := 32) hX ⟨rfl, rfl, by decide⟩ hN z14 dX9_startsOf_31 rfl ?_
    refine V_iconst (v := 4) (q := 33) hX dX9_startsOf_32 (by decide) rfl ?_
    refine V_icmp_ne (q := 36) (t := 44) hX dX9_startsOf_33 (by decide) rfl (fun z15 => ?_) (fun z15 => ?_)
    · have h := ite_f z15 h
      refine V_iload_n (q := 45) hX dX9_startsOf_44 0 rfl rfl ?_
      obtain ⟨f1, f2⟩ := some2 h
      rw [f1, f2] at hQ
      exact V_iret hX hQ rfl dX9_startsOf_45
    have h := ite_t z15 h
    refine V_iload_n (q := 37) hX dX9_startsOf_36 0 rfl rfl ?_
    refine V_if_le (q := 40) (t := 44) hX dX9_startsOf_37 (by decide) rfl (fun z16 => ?_) (fun z16 => ?_)
    · have h := ite_t z16 h
      refine V_iload_n (q := 45) hX dX9_startsOf_44 0 rfl rfl ?_
      obtain ⟨f1, f2⟩ := some2 h
      rw [f1, f2] at hQ
      exact V_iret hX hQ rfl dX9_startsOf_45
    have h := ite_f z16 h
    refine V_iconst (v := 0) (q := 41) hX dX9_startsOf_40 (by decide) rfl ?_
    refine V_goto hX dX9_startsOf_41 (q := 45) (by decide) ?_
    obtain ⟨f1, f2⟩ := some2 h
    rw [f1, f2] at hQ
    exact V_iret hX hQ rfl dX9_startsOf_45
  have h := ite_t z13 h
  refine V_iload_n (q := 21) hX dX9_startsOf_20 0 rfl rfl ?_
  refine V_iconst (v := 1) (q := 22) hX dX9_startsOf_21 (by decide) rfl ?_
  refine V_iadd (q := 23) hX dX9_startsOf_22 rfl ?_
  refine V_goto hX dX9_startsOf_23 (q := 45) (by decide) ?_
  obtain ⟨f1, f2⟩ := some2 h
  rw [f1, f2] at hQ
  exact V_iret hX hQ rfl dX9_startsOf_45
set_option maxRecDepth 100000 in
set_option maxHeartbeats 4000000 in
theorem c9_startsOf {g : GT} {l : Launch} (hg : OkG g) (hN : 95 ≤ g.N) {a1 : Int32} {σ : St} {r : Int32} {σ' : St} (h : S9_startsOf a1 σ = some (r, σ')) : CtI g l m9_startsOf yX9_startsOf [.ref (g.ad (75)), .int (a1)] σ r σ' := CtI.of hg (by decide) rfl rfl (fun X h1 h2 h3 => v9_startsOf h1 hN (res := (r, σ')) h3 h)

abbrev m9_begins : MI := (cX9_begins, RX9, 4, none, 5)
def B9_begins_12 (a1 : Int32) (a2 : Int32) (rec : Int32 → St → Option (Unit × St)) (x3 : Int32) (σ : St) : Option (Unit × St) := if (288 : Int32) ≤ x3 then (bnd (S9_standsOf a1 σ) fun r36 σ35 => bnd (S9_standsOf a2 (sI σ35 75 32 r36)) fun r39 σ38 => bnd (S9_startsOf a1 (sI σ38 75 33 r39)) fun r42 σ41 => bnd (S9_startsOf a2 σ41) fun r45 σ44 => bnd (S9_within (((4 : Int32) + r42) - r45) (1 : Int32) (7 : Int32) σ44) fun r48 σ47 => some ((), (sI σ47 75 34 r48))) else (if inb x3 288 then (rec (x3 + 1) (sI σ 92 (x3).toNatClampNeg (-1 : Int32))) else none)
def S9_begins_12 (a1 : Int32) (a2 : Int32) : Nat → Int32 → St → Option (Unit × St)
  | 0, _, _ => none
  | n + 1, x3, σ => B9_begins_12 a1 a2 (S9_begins_12 a1 a2 n) x3 σ
def S9_begins (a1 : Int32) (a2 : Int32) (σ : St) : Option (Unit × St) := S9_begins_12 a1 a2 4096 (0 : Int32) (sI (sI σ 75 29 a1) 75 30 a2)
set_option maxRecDepth 100000 in
set_option maxHeartbeats 4000000 in
theorem v9_begins_12n {g : GT} {X : XT} {a1 : Int32} {a2 : Int32} (hX : OkX g X (m9_begins)) (hN : 95 ≤ g.N) {res : Unit × St} (hQ : X.Q = QV g X res.2 ∧ X.cells = 0 ∧ X.slots = 0)   (n : Nat) : ∀ (x3 : Int32) (σ : St) , S9_begins_12 a1 a2 n x3 σ = some res → V g X (m9_begins) 12 [(0, .ref (g.ad (75))), (1, .int (a1)), (2, .int (a2)), (3, .int (x3))] [] σ := by
  induction n with
  | zero => intro x3 σ; intro h; cases h
  | succ n ih =>
    intro x3 σ h
    have h : B9_begins_12 a1 a2 (S9_begins_12 a1 a2 n) x3 σ = some res := h
    unfold B9_begins_12 at h
    refine V_iload_n (q := 13) hX dX9_begins_12 3 rfl rfl ?_
    refine V_sipush (v := 288) (q := 16) hX dX9_begins_13 (by decide) rfl ?_
    refine V_icmp_ge (q := 19) (t := 32) hX dX9_begins_16 (by decide) rfl (fun z34 => ?_) (fun z34 => ?_)
    · have h := ite_t z34 h
      refine V_aload_n (q := 33) hX dX9_begins_32 0 rfl rfl ?_
      refine V_aload_n (q := 34) hX dX9_begins_33 0 rfl rfl ?_
      refine V_iload_n (q := 35) hX dX9_begins_34 1 rfl rfl ?_
      obtain ⟨r36, σ35, e37, h⟩ := bnd_some h
      refine V_cvI (n := 95) (c := 9) (nf := 39) (C := RX9) (T := TX9) (As := [.int (a1)]) (q := 38) hX (c9_standsOf hX.2.2.2.2.1 hN e37) (goodV_of k5_134 k5_136 kp_49 k1_16 (cons_g k5_137)) (nA := 1) (by decide) rfl rfl rfl rfl rfl ⟨rfl, by decide⟩ hN rfl rfl rfl dX9_begins_35 rfl ?_
      refine V_putI (n := 95) (c := 9) (k := 32) (nf := 39) (C := RX9) (T := TX9) (q := 41) hX rfl rfl iG9 k4_214 rfl rfl ⟨rfl, by decide⟩ hN rfl tyX9 tyX9_ok nmX9 rfl rfl (ty := .int) (tyX9_ok 32 (by decide)) rfl rfl dX9_begins_38 rfl ?_
      refine V_aload_n (q := 42) hX dX9_begins_41 0 rfl rfl ?_
      refine V_aload_n (q := 43) hX dX9_begins_42 0 rfl rfl ?_
      refine V_iload_n (q := 44) hX dX9_begins_43 2 rfl rfl ?_
      obtain ⟨r39, σ38, e40, h⟩ := bnd_some h
      refine V_cvI (n := 95) (c := 9) (nf := 39) (C := RX9) (T := TX9) (As := [.int (a2)]) (q := 47) hX (c9_standsOf hX.2.2.2.2.1 hN e40) (goodV_of k5_134 k5_136 kp_49 k1_16 (cons_g k5_137)) (nA := 1) (by decide) rfl rfl rfl rfl rfl ⟨rfl, by decide⟩ hN rfl rfl rfl dX9_begins_44 rfl ?_
      refine V_putI (n := 95) (c := 9) (k := 33) (nf := 39) (C := RX9) (T := TX9) (q := 50) hX rfl rfl iG9 k4_215 rfl rfl ⟨rfl, by decide⟩ hN rfl tyX9 tyX9_ok nmX9 rfl rfl (ty := .int) (tyX9_ok 33 (by decide)) rfl rfl dX9_begins_47 rfl ?_
      refine V_aload_n (q := 51) hX dX9_begins_50 0 rfl rfl ?_
      refine V_iconst (v := 4) (q := 52) hX dX9_begins_51 (by decide) rfl ?_
      refine V_aload_n (q := 53) hX dX9_begins_52 0 rfl rfl ?_
      refine V_iload_n (q := 54) hX dX9_begins_53 1 rfl rfl ?_
      obtain ⟨r42, σ41, e43, h⟩ := bnd_some h
      refine V_cvI (n := 95) (c := 9) (nf := 39) (C := RX9) (T := TX9) (As := [.int (a1)]) (q := 57) hX (c9_startsOf hX.2.2.2.2.1 hN e43) (goodV_of k5_138 k5_140 kp_50 k1_16 (cons_g k5_141)) (nA := 1) (by decide) rfl rfl rfl rfl rfl ⟨rfl, by decide⟩ hN rfl rfl rfl dX9_begins_54 rfl ?_
      refine V_iadd (q := 58) hX dX9_begins_57 rfl ?_
      refine V_aload_n (q := 59) hX dX9_begins_58 0 rfl rfl ?_
      refine V_iload_n (q := 60) hX dX9_begins_59 2 rfl rfl ?_
      obtain ⟨r45, σ44, e46, h⟩ := bnd_some h
      refine V_cvI (n := 95) (c := 9) (nf := 39) (C := RX9) (T := TX9) (As := [.int (a2)]) (q := 63) hX (c9_startsOf hX.2.2.2.2.1 hN e46) (goodV_of k5_138 k5_140 kp_50 k1_16 (cons_g k5_141)) (nA := 1) (by decide) rfl rfl rfl rfl rfl ⟨rfl, by decide⟩ hN rfl rfl rfl dX9_begins_60 rfl ?_
      refine V_isub (q := 64) hX dX9_begins_63 rfl ?_
      refine V_iconst (v := 1) (q := 65) hX dX9_begins_64 (by decide) rfl ?_
      refine V_bipush (v := 7) (q := 67) hX dX9_begins_65 (by decide) rfl ?_
      obtain ⟨r48, σ47, e49, h⟩ := bnd_some h
      refine V_csI (As := [.int ((((4 : Int32) + r42) - r45)), .int ((1 : Int32)), .int ((7 : Int32))]) (q := 70) hX (c9_within hX.2.2.2.2.1 hN e49) (goodS_of k5_95 k5_96 k1_16 (cons_g k5_97)) (nA := 3) (by decide) rfl rfl rfl rfl rfl dX9_begins_67 rfl ?_
      refine V_putI (n := 95) (c := 9) (k := 34) (nf := 39) (C := RX9) (T := TX9) (q := 73) hX rfl rfl iG9 k4_216 rfl rfl ⟨rfl, by decide⟩ hN rfl tyX9 tyX9_ok nmX9 rfl rfl (ty := .int) (tyX9_ok 34 (by decide)) rfl rfl dX9_begins_70 rfl ?_
      obtain ⟨f1, f2⟩ := some2 h
      rw [f2] at hQ
      exact V_vret hX hQ rfl dX9_begins_73
    have h := ite_f z34 h
    refine V_aload_n (q := 20) hX dX9_begins_19 0 rfl rfl ?_
    refine V_getF (r := 92) (n := 95) (c := 9) (k := 31) (nf := 39) (C := RX9) (T := TX9) (q := 23) hX rfl rfl iG9 k4_213 rfl rfl ⟨rfl, by decide⟩ hN rfl rfl rfl rfl dX9_begins_20 rfl ?_
    refine V_iload_n (q := 24) hX dX9_begins_23 3 rfl rfl ?_
    refine V_iconst (v := -1) (q := 25) hX dX9_begins_24 (by decide) rfl ?_
    obtain ⟨z50, h⟩ := chk_t h
    refine V_iast (n := 95) (len := 288) (q := 26) hX ⟨rfl, rfl, by decide⟩ hN z50 dX9_begins_25 rfl ?_
    refine V_iinc (v := (x3 + 1)) (lv' := [(3, .int ((x3 + 1))), (0, .ref (g.ad (75))), (1, .int (a1)), (2, .int (a2))]) (q := 29) hX dX9_begins_26 3 rfl (by rfl) rfl rfl rfl ?_
    refine V_goto hX dX9_begins_29 (q := 12) (by decide) ?_
    refine V.pick [1, 2, 3, 0] rfl ?_
    exact ih (x3 + 1) (sI σ 92 (x3).toNatClampNeg (-1 : Int32))  h
theorem v9_begins_12 {g : GT} {X : XT} {a1 : Int32} {a2 : Int32} (hX : OkX g X (m9_begins)) (hN : 95 ≤ g.N) {res : Unit × St} (hQ : X.Q = QV g X res.2 ∧ X.cells = 0 ∧ X.slots = 0) (x3 : Int32) (σ : St) (h : S9_begins_12 a1 a2 4096 x3 σ = some res) : V g X (m9_begins) 12 [(0, .ref (g.ad (75))), (1, .int (a1)), (2, .int (a2)), (3, .int (x3))] [] σ := v9_begins_12n hX hN hQ 4096 x3 σ h
set_option maxRecDepth 100000 in
set_option maxHeartbeats 4000000 in
theorem v9_begins {g : GT} {X : XT} {a1 : Int32} {a2 : Int32} (hX : OkX g X (m9_begins)) (hN : 95 ≤ g.N) {res : Unit × St} (hQ : X.Q = QV g X res.2 ∧ X.cells = 0 ∧ X.slots = 0) {σ : St} (h : S9_begins a1 a2 σ = some res) : V g X (m9_begins) 0 [(0, .ref (g.ad (75))), (1, .int (a1)), (2, .int (a2))] [] σ := by
  unfold S9_begins at h
  refine V_aload_n (q := 1) hX dX9_begins_0 0 rfl rfl ?_
  refine V_iload_n (q := 2) hX dX9_begins_1 1 rfl rfl ?_
  refine V_putI (n := 95) (c := 9) (k := 29) (nf := 39) (C := RX9) (T := TX9) (q := 5) hX rfl rfl iG9 k4_211 rfl rfl ⟨rfl, by decide⟩ hN rfl tyX9 tyX9_ok nmX9 rfl rfl (ty := .int) (tyX9_ok 29 (by decide)) rfl rfl dX9_begins_2 rfl ?_
  refine V_aload_n (q := 6) hX dX9_begins_5 0 rfl rfl ?_
  refine V_iload_n (q := 7) hX dX9_begins_6 2 rfl rfl ?_
  refine V_putI (n := 95) (c := 9) (k := 30) (nf := 39) (C := RX9) (T := TX9) (q := 10) hX rfl rfl iG9 k4_212 rfl rfl ⟨rfl, by decide⟩ hN rfl tyX9 tyX9_ok nmX9 rfl rfl (ty := .int) (tyX9_ok 30 (by decide)) rfl rfl dX9_begins_7 rfl ?_
  refine V_iconst (v := 0) (q := 11) hX dX9_begins_10 (by decide) rfl ?_
  refine V_istore_n (lv' := [(3, .int ((0 : Int32))), (0, .ref (g.ad (75))), (1, .int (a1)), (2, .int (a2))]) (q := 12) hX dX9_begins_11 rfl rfl rfl ?_
  refine V.pick [1, 2, 3, 0] rfl ?_
  exact v9_begins_12 hX hN hQ (0 : Int32) (sI (sI σ 75 29 a1) 75 30 a2) h
set_option maxRecDepth 100000 in
set_option maxHeartbeats 4000000 in
theorem c9_begins {g : GT} {l : Launch} (hg : OkG g) (hN : 95 ≤ g.N) {a1 : Int32} {a2 : Int32} {σ : St} {r : Unit} {σ' : St} (h : S9_begins a1 a2 σ = some (r, σ')) : CtV g l m9_begins yX9_begins [.ref (g.ad (75)), .int (a1), .int (a2)] σ σ' := CtV.of hg (by decide) rfl rfl (fun X h1 h2 h3 => v9_begins h1 hN (res := (r, σ')) h3 h)

abbrev m9_strengthOf : MI := (cX9_strengthOf, RX9, 8, some .int, 4)
def S9_strengthOf_99 (a1 : Int32) (a2 : Int32) (a3 : Int32) (a4 : Int32) (σ : St) : Option (Int32 × St) := if inb (((((144 : Int32) * a1) + ((36 : Int32) * a2)) + ((9 : Int32) * a3)) + a4) 288 then (some ((gI σ 92 ((((((144 : Int32) * a1) + ((36 : Int32) * a2)) + ((9 : Int32) * a3)) + a4)).toNatClampNeg), σ)) else none
def S9_strengthOf_98 (a1 : Int32) (a2 : Int32) (a3 : Int32) (a4 : Int32) (s2 : Int32) (σ : St) : Option (Int32 × St) := if inb (((((144 : Int32) * a1) + ((36 : Int32) * a2)) + ((9 : Int32) * a3)) + a4) 288 then (S9_strengthOf_99 a1 a2 a3 a4 (sI σ 92 ((((((144 : Int32) * a1) + ((36 : Int32) * a2)) + ((9 : Int32) * a3)) + a4)).toNatClampNeg s2)) else none
def S9_strengthOf_46 (a1 : Int32) (a2 : Int32) (a3 : Int32) (a4 : Int32) (s0 : Int32) (σ : St) : Option (Int32 × St) := bnd (S9_asksOf (0 : Int32) s0 a2 a3 a4 σ) fun r30 σ29 => bnd (S9_forcesOf s0 r30 a2 a3 σ29) fun r33 σ32 => if inb (((5 : Int32) * s0) + (2 : Int32)) 30 then (if 0 ≤ (r33 - (gI σ32 78 ((((5 : Int32) * s0) + (2 : Int32))).toNatClampNeg)) then (S9_strengthOf_98 a1 a2 a3 a4 (r33 - (gI σ32 78 ((((5 : Int32) * s0) + (2 : Int32))).toNatClampNeg)) σ32) else (S9_strengthOf_98 a1 a2 a3 a4 (0 : Int32) σ32)) else none
def S9_strengthOf (a1 : Int32) (a2 : Int32) (a3 : Int32) (a4 : Int32) (σ : St) : Option (Int32 × St) := if inb (((((144 : Int32) * a1) + ((36 : Int32) * a2)) + ((9 : Int32) * a3)) + a4) 288 then (if (gI σ 92 ((((((144 : Int32) * a1) + ((36 : Int32) * a2)) + ((9 : Int32) * a3)) + a4)).toNatClampNeg) = (-1 : Int32) then (if a1 = 0 then (S9_strengthOf_46 a1 a2 a3 a4 (gI σ 75 29) σ) else (S9_strengthOf_46 a1 a2 a3 a4 (gI σ 75 30) σ)) else (S9_strengthOf_99 a1 a2 a3 a4 σ)) else none
set_option maxRecDepth 100000 in
set_option maxHeartbeats 4000000 in
theorem v9_strengthOf_99 {g : GT} {X : XT} {a1 : Int32} {a2 : Int32} {a3 : Int32} {a4 : Int32} (hX : OkX g X (m9_strengthOf)) (hN : 95 ≤ g.N) {res : Int32 × St} (hQ : X.Q = QI g X res.1 res.2 ∧ X.cells = 0 ∧ X.slots = 0)    (σ : St)  (h : S9_strengthOf_99 a1 a2 a3 a4 σ = some res) : V g X (m9_strengthOf) 99 [(0, .ref (g.ad (75))), (5, .int ((((((144 : Int32) * a1) + ((36 : Int32) * a2)) + ((9 : Int32) * a3)) + a4)))] [] σ := by
  unfold S9_strengthOf_99 at h
  refine V_aload_n (q := 100) hX dX9_strengthOf_99 0 rfl rfl ?_
  refine V_getF (r := 92) (n := 95) (c := 9) (k := 31) (nf := 39) (C := RX9) (T := TX9) (q := 103) hX rfl rfl iG9 k4_213 rfl rfl ⟨rfl, by decide⟩ hN rfl rfl rfl rfl dX9_strengthOf_100 rfl ?_
  refine V_iload (q := 105) hX dX9_strengthOf_103 1 rfl rfl ?_
  obtain ⟨z27, h⟩ := chk_t h
  refine V_iald (n := 95) (len := 288) (q := 106) hX ⟨rfl, rfl, by decide⟩ hN z27 dX9_strengthOf_105 rfl ?_
  obtain ⟨f1, f2⟩ := some2 h
  rw [f1, f2] at hQ
  exact V_iret hX hQ rfl dX9_strengthOf_106
set_option maxRecDepth 100000 in
set_option maxHeartbeats 4000000 in
theorem v9_strengthOf_98 {g : GT} {X : XT} {a1 : Int32} {a2 : Int32} {a3 : Int32} {a4 : Int32} (hX : OkX g X (m9_strengthOf)) (hN : 95 ≤ g.N) {res : Int32 × St} (hQ : X.Q = QI g X res.1 res.2 ∧ X.cells = 0 ∧ X.slots = 0)   (s2 : Int32) (σ : St)  (h : S9_strengthOf_98 a1 a2 a3 a4 s2 σ = some res) : V g X (m9_strengthOf) 98 [(0, .ref (g.ad (75))), (5, .int ((((((144 : Int32) * a1) + ((36 : Int32) * a2)) + ((9 : Int32) * a3)) + a4)))] [.int (s2), .int ((((((144 : Int32) * a1) + ((36 : Int32) * a2)) + ((9 : Int32) * a3)) + a4)), .ref (g.ad (92))] σ := by
  unfold S9_strengthOf_98 at h
  obtain ⟨z28, h⟩ := chk_t h
  refine V_iast (n := 95) (len := 288) (q := 99) hX ⟨rfl, rfl, by decide⟩ hN z28 dX9_strengthOf_98 rfl ?_
  refine V.pick [0, 1] rfl ?_
  exact v9_strengthOf_99 hX hN hQ (sI σ 92 ((((((144 : Int32) * a1) + ((36 : Int32) * a2)) + ((9 : Int32) * a3)) + a4)).toNatClampNeg s2) h
set_option maxRecDepth 100000 in
set_option maxHeartbeats 4000000 in
theorem v9_strengthOf_46 {g : GT} {X : XT} {a1 : Int32} {a2 : Int32} {a3 : Int32} {a4 : Int32} (hX : OkX g X (m9_strengthOf)) (hN : 95 ≤ g.N) {res : Int32 × St} (hQ : X.Q = QI g X res.1 res.2 ∧ X.cells = 0 ∧ X.slots = 0)   (s0 : Int32) (σ : St)  (h : S9_strengthOf_46 a1 a2 a3 a4 s0 σ = some res) : V g X (m9_strengthOf) 46 [(0, .ref (g.ad (75))), (2, .int (a2)), (3, .int (a3)), (4, .int (a4)), (5, .int ((((((144 : Int32) * a1) + ((36 : Int32) * a2)) + ((9 : Int32) * a3)) + a4)))] [.int (s0)] σ := by
  unfold S9_strengthOf_46 at h
  refine V_istore (lv' := [(6, .int (s0)), (0, .ref (g.ad (75))), (2, .int (a2)), (3, .int (a3)), (4, .int (a4)), (5, .int ((((((144 : Int32) * a1) + ((36 : Int32) * a2)) + ((9 : Int32) * a3)) + a4)))]) (q := 48) hX dX9_strengthOf_46 rfl rfl rfl ?_
  refine V_aload_n (q := 49) hX dX9_strengthOf_48 1 rfl rfl ?_
  refine V_iload (q := 51) hX dX9_strengthOf_49 0 rfl rfl ?_
  refine V_aload_n (q := 52) hX dX9_strengthOf_51 1 rfl rfl ?_
  refine V_iconst (v := 0) (q := 53) hX dX9_strengthOf_52 (by decide) rfl ?_
  refine V_iload (q := 55) hX dX9_strengthOf_53 0 rfl rfl ?_
  refine V_iload_n (q := 56) hX dX9_strengthOf_55 2 rfl rfl ?_
  refine V_iload_n (q := 57) hX dX9_strengthOf_56 3 rfl rfl ?_
  refine V_iload (q := 59) hX dX9_strengthOf_57 4 rfl rfl ?_
  obtain ⟨r30, σ29, e31, h⟩ := bnd_some h
  refine V_cvI (n := 95) (c := 9) (nf := 39) (C := RX9) (T := TX9) (As := [.int ((0 : Int32)), .int (s0), .int (a2), .int (a3), .int (a4)]) (q := 62) hX (c9_asksOf hX.2.2.2.2.1 hN e31) (goodV_of k5_84 k5_86 kp_43 k1_16 (cons_g k5_87)) (nA := 5) (by decide) rfl rfl rfl rfl rfl ⟨rfl, by decide⟩ hN rfl rfl rfl dX9_strengthOf_59 rfl ?_
  refine V_iload_n (q := 63) hX dX9_strengthOf_62 2 rfl rfl ?_
  refine V_iload_n (q := 64) hX dX9_strengthOf_63 3 rfl rfl ?_
  obtain ⟨r33, σ32, e34, h⟩ := bnd_some h
  refine V_cvI (n := 95) (c := 9) (nf := 39) (C := RX9) (T := TX9) (As := [.int (s0), .int (r30), .int (a2), .int (a3)]) (q := 67) hX (c9_forcesOf hX.2.2.2.2.1 hN e34) (goodV_of k5_150 k5_152 kp_53 k1_16 (cons_g k5_153)) (nA := 4) (by decide) rfl rfl rfl rfl rfl ⟨rfl, by decide⟩ hN rfl rfl rfl dX9_strengthOf_64 rfl ?_
  refine V_aload_n (q := 68) hX dX9_strengthOf_67 1 rfl rfl ?_
  refine V_getF (r := 78) (n := 95) (c := 9) (k := 3) (nf := 39) (C := RX9) (T := TX9) (q := 71) hX rfl rfl iG9 k4_185 rfl rfl ⟨rfl, by decide⟩ hN rfl rfl rfl rfl dX9_strengthOf_68 rfl ?_
  refine V_iconst (v := 5) (q := 72) hX dX9_strengthOf_71 (by decide) rfl ?_
  refine V_iload (q := 74) hX dX9_strengthOf_72 0 rfl rfl ?_
  refine V_imul (q := 75) hX dX9_strengthOf_74 rfl ?_
  refine V_iconst (v := 2) (q := 76) hX dX9_strengthOf_75 (by decide) rfl ?_
  refine V_iadd (q := 77) hX dX9_strengthOf_76 rfl ?_
  obtain ⟨z35, h⟩ := chk_t h
  refine V_iald (n := 95) (len := 30) (q := 78) hX ⟨rfl, rfl, by decide⟩ hN z35 dX9_strengthOf_77 rfl ?_
  refine V_isub (q := 79) hX dX9_strengthOf_78 rfl ?_
  refine V_istore (lv' := [(7, .int ((r33 - (gI σ32 78 ((((5 : Int32) * s0) + (2 : Int32))).toNatClampNeg)))), (6, .int (s0)), (0, .ref (g.ad (75))), (2, .int (a2)), (3, .int (a3)), (4, .int (a4)), (5, .int ((((((144 : Int32) * a1) + ((36 : Int32) * a2)) + ((9 : Int32) * a3)) + a4)))]) (q := 81) hX dX9_strengthOf_79 rfl rfl rfl ?_
  refine V_aload_n (q := 82) hX dX9_strengthOf_81 2 rfl rfl ?_
  refine V_getF (r := 92) (n := 95) (c := 9) (k := 31) (nf := 39) (C := RX9) (T := TX9) (q := 85) hX rfl rfl iG9 k4_213 rfl rfl ⟨rfl, by decide⟩ hN rfl rfl rfl rfl dX9_strengthOf_82 rfl ?_
  refine V_iload (q := 87) hX dX9_strengthOf_85 6 rfl rfl ?_
  refine V_iload (q := 89) hX dX9_strengthOf_87 0 rfl rfl ?_
  refine V_if_ge (q := 92) (t := 96) hX dX9_strengthOf_89 (by decide) rfl (fun z36 => ?_) (fun z36 => ?_)
  · have h := ite_t z36 h
    refine V_iload (q := 98) hX dX9_strengthOf_96 0 rfl rfl ?_
    refine V.pick [2, 6] rfl ?_
    exact v9_strengthOf_98 hX hN hQ (r33 - (gI σ32 78 ((((5 : Int32) * s0) + (2 : Int32))).toNatClampNeg)) σ32 h
  have h := ite_f z36 h
  refine V_iconst (v := 0) (q := 93) hX dX9_strengthOf_92 (by decide) rfl ?_
  refine V_goto hX dX9_strengthOf_93 (q := 98) (by decide) ?_
  refine V.pick [2, 6] rfl ?_
  exact v9_strengthOf_98 hX hN hQ (0 : Int32) σ32 h
set_option maxRecDepth 100000 in
set_option maxHeartbeats 4000000 in
theorem v9_strengthOf {g : GT} {X : XT} {a1 : Int32} {a2 : Int32} {a3 : Int32} {a4 : Int32} (hX : OkX g X (m9_strengthOf)) (hN : 95 ≤ g.N) {res : Int32 × St} (hQ : X.Q = QI g X res.1 res.2 ∧ X.cells = 0 ∧ X.slots = 0) {σ : St} (h : S9_strengthOf a1 a2 a3 a4 σ = some res) : V g X (m9_strengthOf) 0 [(0, .ref (g.ad (75))), (1, .int (a1)), (2, .int (a2)), (3, .int (a3)), (4, .int (a4))] [] σ := by
  unfold S9_strengthOf at h
  refine V_sipush (v := 144) (q := 3) hX dX9_strengthOf_0 (by decide) rfl ?_
  refine V_iload_n (q := 4) hX dX9_strengthOf_3 1 rfl rfl ?_
  refine V_imul (q := 5) hX dX9_strengthOf_4 rfl ?_
  refine V_bipush (v := 36) (q := 7) hX dX9_strengthOf_5 (by decide) rfl ?_
  refine V_iload_n (q := 8) hX dX9_strengthOf_7 2 rfl rfl ?_
  refine V_imul (q := 9) hX dX9_strengthOf_8 rfl ?_
  refine V_iadd (q := 10) hX dX9_strengthOf_9 rfl ?_
  refine V_bipush (v := 9) (q := 12) hX dX9_strengthOf_10 (by decide) rfl ?_
  refine V_iload_n (q := 13) hX dX9_strengthOf_12 3 rfl rfl ?_
  refine V_imul (q := 14) hX dX9_strengthOf_13 rfl ?_
  refine V_iadd (q := 15) hX dX9_strengthOf_14 rfl ?_
  refine V_iload (q := 17) hX dX9_strengthOf_15 4 rfl rfl ?_
  refine V_iadd (q := 18) hX dX9_strengthOf_17 rfl ?_
  refine V_istore (lv' := [(5, .int ((((((144 : Int32) * a1) + ((36 : Int32) * a2)) + ((9 : Int32) * a3)) + a4))), (0, .ref (g.ad (75))), (1, .int (a1)), (2, .int (a2)), (3, .int (a3)), (4, .int (a4))]) (q := 20) hX dX9_strengthOf_18 rfl rfl rfl ?_
  refine V_aload_n (q := 21) hX dX9_strengthOf_20 1 rfl rfl ?_
  refine V_getF (r := 92) (n := 95) (c := 9) (k := 31) (nf := 39) (C := RX9) (T := TX9) (q := 24) hX rfl rfl iG9 k4_213 rfl rfl ⟨rfl, by decide⟩ hN rfl rfl rfl rfl dX9_strengthOf_21 rfl ?_
  refine V_iload (q := 26) hX dX9_strengthOf_24 0 rfl rfl ?_
  obtain ⟨z37, h⟩ := chk_t h
  refine V_iald (n := 95) (len := 288) (q := 27) hX ⟨rfl, rfl, by decide⟩ hN z37 dX9_strengthOf_26 rfl ?_
  refine V_iconst (v := -1) (q := 28) hX dX9_strengthOf_27 (by decide) rfl ?_
  refine V_icmp_ne (q := 31) (t := 99) hX dX9_strengthOf_28 (by decide) rfl (fun z38 => ?_) (fun z38 => ?_)
  · have h := ite_f z38 h
    refine V.pick [1, 0] rfl ?_
    exact v9_strengthOf_99 hX hN hQ σ h
  have h := ite_t z38 h
  refine V_iload_n (q := 32) hX dX9_strengthOf_31 2 rfl rfl ?_
  refine V_if_ne (q := 35) (t := 42) hX dX9_strengthOf_32 (by decide) rfl (fun z39 => ?_) (fun z39 => ?_)
  · have h := ite_f z39 h
    refine V_aload_n (q := 43) hX dX9_strengthOf_42 1 rfl rfl ?_
    refine V_getI (n := 95) (c := 9) (k := 30) (nf := 39) (C := RX9) (T := TX9) (q := 46) hX rfl rfl iG9 k4_212 rfl rfl ⟨rfl, by decide⟩ hN rfl rfl dX9_strengthOf_43 rfl ?_
    refine V.pick [1, 3, 4, 5, 0] rfl ?_
    exact v9_strengthOf_46 hX hN hQ (gI σ 75 30) σ h
  have h := ite_t z39 h
  refine V_aload_n (q := 36) hX dX9_strengthOf_35 1 rfl rfl ?_
  refine V_getI (n := 95) (c := 9) (k := 29) (nf := 39) (C := RX9) (T := TX9) (q := 39) hX rfl rfl iG9 k4_211 rfl rfl ⟨rfl, by decide⟩ hN rfl rfl dX9_strengthOf_36 rfl ?_
  refine V_goto hX dX9_strengthOf_39 (q := 46) (by decide) ?_
  refine V.pick [1, 3, 4, 5, 0] rfl ?_
  exact v9_strengthOf_46 hX hN hQ (gI σ 75 29) σ h
set_option maxRecDepth 100000 in
set_option maxHeartbeats 4000000 in
theorem c9_strengthOf {g : GT} {l : Launch} (hg : OkG g) (hN : 95 ≤ g.N) {a1 : Int32} {a2 : Int32} {a3 : Int32} {a4 : Int32} {σ : St} {r : Int32} {σ' : St} (h : S9_strengthOf a1 a2 a3 a4 σ = some (r, σ')) : CtI g l m9_strengthOf yX9_strengthOf [.ref (g.ad (75)), .int (a1), .int (a2), .int (a3), .int (a4)] σ r σ' := CtI.of hg (by decide) rfl rfl (fun X h1 h2 h3 => v9_strengthOf h1 hN (res := (r, σ')) h3 h)

abbrev m9_bouts : MI := (cX9_bouts, RX9, 11, none, 5)
def S9_bouts_256 (a1 : Int32) (a2 : Int32) (k34 : Int32 → Int32 → Int32 → Int32 → Int32 → St → Option (Unit × St)) (x3 : Int32) (x4 : Int32) (x5 : Int32) (x6 : Int32) (x7 : Int32) (σ : St) : Option (Unit × St) := if inb (x7 + (1 : Int32)) 10 then (k34 x3 x4 x5 x6 (x7 + 1) (sI σ 93 ((x7 + (1 : Int32))).toNatClampNeg x3)) else none
def S9_bouts_196 (a1 : Int32) (a2 : Int32) (k34 : Int32 → Int32 → Int32 → Int32 → Int32 → St → Option (Unit × St)) (x3 : Int32) (x4 : Int32) (x5 : Int32) (x6 : Int32) (x7 : Int32) (s1 : Int32) (σ : St) : Option (Unit × St) := S9_bouts_256 a1 a2 k34 x3 x4 (x5 + 1) x6 x7 (sI σ 75 35 s1)
def S9_bouts_181 (a1 : Int32) (a2 : Int32) (k34 : Int32 → Int32 → Int32 → Int32 → Int32 → St → Option (Unit × St)) (x4 : Int32) (x5 : Int32) (x6 : Int32) (x7 : Int32) (s0 : Int32) (σ : St) : Option (Unit × St) := if x6 = 0 then (S9_bouts_196 a1 a2 k34 s0 x4 x5 x6 x7 (-1 : Int32) σ) else (S9_bouts_196 a1 a2 k34 s0 x4 x5 x6 x7 (gI σ 75 29) σ)
def S9_bouts_167 (a1 : Int32) (a2 : Int32) (k34 : Int32 → Int32 → Int32 → Int32 → Int32 → St → Option (Unit × St)) (x4 : Int32) (x5 : Int32) (x7 : Int32) (s0 : Int32) (σ : St) : Option (Unit × St) := if s0 = 0 then (S9_bouts_181 a1 a2 k34 x4 x5 s0 x7 (7 : Int32) σ) else (S9_bouts_181 a1 a2 k34 x4 x5 s0 x7 (8 : Int32) σ)
def S9_bouts_250 (a1 : Int32) (a2 : Int32) (k34 : Int32 → Int32 → Int32 → Int32 → Int32 → St → Option (Unit × St)) (x3 : Int32) (x4 : Int32) (x5 : Int32) (x6 : Int32) (x7 : Int32) (s1 : Int32) (σ : St) : Option (Unit × St) := S9_bouts_256 a1 a2 k34 x3 (x4 + 1) x5 x6 x7 (sI σ 75 35 s1)
def S9_bouts_235 (a1 : Int32) (a2 : Int32) (k34 : Int32 → Int32 → Int32 → Int32 → Int32 → St → Option (Unit × St)) (x4 : Int32) (x5 : Int32) (x6 : Int32) (x7 : Int32) (s0 : Int32) (σ : St) : Option (Unit × St) := if x6 = 0 then (S9_bouts_250 a1 a2 k34 s0 x4 x5 x6 x7 (-1 : Int32) σ) else (S9_bouts_250 a1 a2 k34 s0 x4 x5 x6 x7 (gI σ 75 30) σ)
def S9_bouts_223 (a1 : Int32) (a2 : Int32) (k34 : Int32 → Int32 → Int32 → Int32 → Int32 → St → Option (Unit × St)) (x4 : Int32) (x5 : Int32) (x7 : Int32) (s0 : Int32) (σ : St) : Option (Unit × St) := if s0 = 0 then (S9_bouts_235 a1 a2 k34 x4 x5 s0 x7 (1 : Int32) σ) else (S9_bouts_235 a1 a2 k34 x4 x5 s0 x7 (0 : Int32) σ)
def S9_bouts_135 (a1 : Int32) (a2 : Int32) (k34 : Int32 → Int32 → Int32 → Int32 → Int32 → St → Option (Unit × St)) (x4 : Int32) (x5 : Int32) (x6 : Int32) (x7 : Int32) (s0 : Int32) (s1 : Int32) (σ : St) : Option (Unit × St) := if (s0 + s1) < (8 : Int32) then (if 0 < (s0 + s1) then (S9_bouts_256 a1 a2 k34 (s0 + s1) x4 x5 x6 x7 (sI σ 75 36 ((gI σ 75 36) + (1 : Int32)))) else (if x4 < (gI (sI σ 75 36 ((gI σ 75 36) + (1 : Int32))) 75 32) then (S9_bouts_223 a1 a2 k34 x4 x5 x7 (0 : Int32) (sI σ 75 36 ((gI σ 75 36) + (1 : Int32)))) else (S9_bouts_223 a1 a2 k34 x4 x5 x7 (1 : Int32) (sI σ 75 36 ((gI σ 75 36) + (1 : Int32)))))) else (if x5 < (gI (sI σ 75 36 ((gI σ 75 36) + (1 : Int32))) 75 33) then (S9_bouts_167 a1 a2 k34 x4 x5 x7 (0 : Int32) (sI σ 75 36 ((gI σ 75 36) + (1 : Int32)))) else (S9_bouts_167 a1 a2 k34 x4 x5 x7 (1 : Int32) (sI σ 75 36 ((gI σ 75 36) + (1 : Int32)))))
def S9_bouts_303 (a1 : Int32) (a2 : Int32) (s1 : Int32) (σ : St) : Option (Unit × St) := some ((), (sI σ 75 35 s1))
def B9_bouts_34 (a1 : Int32) (a2 : Int32) (rec : Int32 → Int32 → Int32 → Int32 → Int32 → St → Option (Unit × St)) (x3 : Int32) (x4 : Int32) (x5 : Int32) (x6 : Int32) (x7 : Int32) (σ : St) : Option (Unit × St) := if (9 : Int32) ≤ x7 then (if x6 = 0 then (if x3 ≤ (4 : Int32) then (if (4 : Int32) ≤ x3 then (S9_bouts_303 a1 a2 (-1 : Int32) σ) else (S9_bouts_303 a1 a2 (gI σ 75 30) σ)) else (S9_bouts_303 a1 a2 (gI σ 75 29) σ)) else (some ((), σ))) else (if x6 = 0 then (bnd (S9_strengthOf (0 : Int32) ((a1 >>> (((2 : Int32) * x7) &&& 31)) &&& (3 : Int32)) ((a2 >>> (((2 : Int32) * x7) &&& 31)) &&& (3 : Int32)) x3 σ) fun r112 σ111 => bnd (S9_strengthOf (1 : Int32) ((a2 >>> (((2 : Int32) * x7) &&& 31)) &&& (3 : Int32)) ((a1 >>> (((2 : Int32) * x7) &&& 31)) &&& (3 : Int32)) ((8 : Int32) - x3) σ111) fun r115 σ114 => if (r112 - r115) ≤ (20 : Int32) then (if (r112 - r115) ≤ 0 then (if (-20 : Int32) ≤ (r112 - r115) then (if 0 ≤ (r112 - r115) then (S9_bouts_135 a1 a2 rec x4 x5 x6 x7 x3 (0 : Int32) σ114) else (S9_bouts_135 a1 a2 rec x4 x5 x6 x7 x3 (-1 : Int32) σ114)) else (S9_bouts_135 a1 a2 rec x4 x5 x6 x7 x3 (-2 : Int32) σ114)) else (S9_bouts_135 a1 a2 rec x4 x5 x6 x7 x3 (1 : Int32) σ114)) else (S9_bouts_135 a1 a2 rec x4 x5 x6 x7 x3 (2 : Int32) σ114)) else (S9_bouts_256 a1 a2 rec x3 x4 x5 x6 x7 σ))
def S9_bouts_34 (a1 : Int32) (a2 : Int32) : Nat → Int32 → Int32 → Int32 → Int32 → Int32 → St → Option (Unit × St)
  | 0, _, _, _, _, _, _ => none
  | n + 1, x3, x4, x5, x6, x7, σ => B9_bouts_34 a1 a2 (S9_bouts_34 a1 a2 n) x3 x4 x5 x6 x7 σ
def S9_bouts (a1 : Int32) (a2 : Int32) (σ : St) : Option (Unit × St) := S9_bouts_34 a1 a2 4096 (gI σ 75 34) (0 : Int32) (0 : Int32) (0 : Int32) (0 : Int32) (sI (sI (sI σ 75 35 (-1 : Int32)) 75 36 (0 : Int32)) 93 ((0 : Int32)).toNatClampNeg (gI σ 75 34))
set_option maxRecDepth 100000 in
set_option maxHeartbeats 4000000 in
theorem v9_bouts_256 {g : GT} {X : XT} {a1 : Int32} {a2 : Int32} (hX : OkX g X (m9_bouts)) (hN : 95 ≤ g.N) {res : Unit × St} (hQ : X.Q = QV g X res.2 ∧ X.cells = 0 ∧ X.slots = 0)  {k34 : Int32 → Int32 → Int32 → Int32 → Int32 → St → Option (Unit × St)} (hk34 : ∀ (x3 : Int32) (x4 : Int32) (x5 : Int32) (x6 : Int32) (x7 : Int32) (σ : St), k34 x3 x4 x5 x6 x7 σ = some res → V g X (m9_bouts) 34 [(0, .ref (g.ad (75))), (1, .int (a1)), (2, .int (a2)), (3, .int (x3)), (4, .int (x4)), (5, .int (x5)), (6, .int (x6)), (7, .int (x7))] [] σ) (x3 : Int32) (x4 : Int32) (x5 : Int32) (x6 : Int32) (x7 : Int32) (σ : St)  (h : S9_bouts_256 a1 a2 k34 x3 x4 x5 x6 x7 σ = some res) : V g X (m9_bouts) 256 [(0, .ref (g.ad (75))), (1, .int (a1)), (2, .int (a2)), (3, .int (x3)), (4, .int (x4)), (5, .int (x5)), (6, .int (x6)), (7, .int (x7))] [] σ := by
  unfold S9_bouts_256 at h
  refine V_aload_n (q := 257) hX dX9_bouts_256 0 rfl rfl ?_
  refine V_getF (r := 93) (n := 95) (c := 9) (k := 37) (nf := 39) (C := RX9) (T := TX9) (q := 260) hX rfl rfl iG9 k4_219 rfl rfl ⟨rfl, by decide⟩ hN rfl rfl rfl rfl dX9_bouts_257 rfl ?_
  refine V_iload (q := 262) hX dX9_bouts_260 7 rfl rfl ?_
  refine V_iconst (v := 1) (q := 263) hX dX9_bouts_262 (by decide) rfl ?_
  refine V_iadd (q := 264) hX dX9_bouts_263 rfl ?_
  refine V_iload_n (q := 265) hX dX9_bouts_264 3 rfl rfl ?_
  obtain ⟨z97, h⟩ := chk_t h
  refine V_iast (n := 95) (len := 10) (q := 266) hX ⟨rfl, rfl, by decide⟩ hN z97 dX9_bouts_265 rfl ?_
  refine V_iinc (v := (x7 + 1)) (lv' := [(7, .int ((x7 + 1))), (0, .ref (g.ad (75))), (1, .int (a1)), (2, .int (a2)), (3, .int (x3)), (4, .int (x4)), (5, .int (x5)), (6, .int (x6))]) (q := 269) hX dX9_bouts_266 7 rfl (by rfl) rfl rfl rfl ?_
  refine V_goto hX dX9_bouts_269 (q := 34) (by decide) ?_
  refine V.pick [1, 2, 3, 4, 5, 6, 7, 0] rfl ?_
  exact hk34 x3 x4 x5 x6 (x7 + 1) (sI σ 93 ((x7 + (1 : Int32))).toNatClampNeg x3)  h
set_option maxRecDepth 100000 in
set_option maxHeartbeats 4000000 in
theorem v9_bouts_196 {g : GT} {X : XT} {a1 : Int32} {a2 : Int32} (hX : OkX g X (m9_bouts)) (hN : 95 ≤ g.N) {res : Unit × St} (hQ : X.Q = QV g X res.2 ∧ X.cells = 0 ∧ X.slots = 0)  {k34 : Int32 → Int32 → Int32 → Int32 → Int32 → St → Option (Unit × St)} (hk34 : ∀ (x3 : Int32) (x4 : Int32) (x5 : Int32) (x6 : Int32) (x7 : Int32) (σ : St), k34 x3 x4 x5 x6 x7 σ = some res → V g X (m9_bouts) 34 [(0, .ref (g.ad (75))), (1, .int (a1)), (2, .int (a2)), (3, .int (x3)), (4, .int (x4)), (5, .int (x5)), (6, .int (x6)), (7, .int (x7))] [] σ) (x3 : Int32) (x4 : Int32) (x5 : Int32) (x6 : Int32) (x7 : Int32) (s1 : Int32) (σ : St)  (h : S9_bouts_196 a1 a2 k34 x3 x4 x5 x6 x7 s1 σ = some res) : V g X (m9_bouts) 196 [(0, .ref (g.ad (75))), (1, .int (a1)), (2, .int (a2)), (3, .int (x3)), (4, .int (x4)), (5, .int (x5)), (6, .int (x6)), (7, .int (x7))] [.int (s1), .ref (g.ad (75))] σ := by
  unfold S9_bouts_196 at h
  refine V_putI (n := 95) (c := 9) (k := 35) (nf := 39) (C := RX9) (T := TX9) (q := 199) hX rfl rfl iG9 k4_217 rfl rfl ⟨rfl, by decide⟩ hN rfl tyX9 tyX9_ok nmX9 rfl rfl (ty := .int) (tyX9_ok 35 (by decide)) rfl rfl dX9_bouts_196 rfl ?_
  refine V_iinc (v := (x5 + 1)) (lv' := [(5, .int ((x5 + 1))), (0, .ref (g.ad (75))), (1, .int (a1)), (2, .int (a2)), (3, .int (x3)), (4, .int (x4)), (6, .int (x6)), (7, .int (x7))]) (q := 202) hX dX9_bouts_199 5 rfl (by rfl) rfl rfl rfl ?_
  refine V_goto hX dX9_bouts_202 (q := 256) (by decide) ?_
  refine V.pick [1, 2, 3, 4, 5, 0, 6, 7] rfl ?_
  exact v9_bouts_256 hX hN hQ hk34 x3 x4 (x5 + 1) x6 x7 (sI σ 75 35 s1) h
set_option maxRecDepth 100000 in
set_option maxHeartbeats 4000000 in
theorem v9_bouts_181 {g : GT} {X : XT} {a1 : Int32} {a2 : Int32} (hX : OkX g X (m9_bouts)) (hN : 95 ≤ g.N) {res : Unit × St} (hQ : X.Q = QV g X res.2 ∧ X.cells = 0 ∧ X.slots = 0)  {k34 : Int32 → Int32 → Int32 → Int32 → Int32 → St → Option (Unit × St)} (hk34 : ∀ (x3 : Int32) (x4 : Int32) (x5 : Int32) (x6 : Int32) (x7 : Int32) (σ : St), k34 x3 x4 x5 x6 x7 σ = some res → V g X (m9_bouts) 34 [(0, .ref (g.ad (75))), (1, .int (a1)), (2, .int (a2)), (3, .int (x3)), (4, .int (x4)), (5, .int (x5)), (6, .int (x6)), (7, .int (x7))] [] σ) (x4 : Int32) (x5 : Int32) (x6 : Int32) (x7 : Int32) (s0 : Int32) (σ : St)  (h : S9_bouts_181 a1 a2 k34 x4 x5 x6 x7 s0 σ = some res) : V g X (m9_bouts) 181 [(0, .ref (g.ad (75))), (1, .int (a1)), (2, .int (a2)), (4, .int (x4)), (5, .int (x5)), (6, .int (x6)), (7, .int (x7))] [.int (s0)] σ := by
  unfold S9_bouts_181 at h
  refine V_istore_n (lv' := [(3, .int (s0)), (0, .ref (g.ad (75))), (1, .int (a1)), (2, .int (a2)), (4, .int (x4)), (5, .int (x5)), (6, .int (x6)), (7, .int (x7))]) (q := 182) hX dX9_bouts_181 rfl rfl rfl ?_
  refine V_aload_n (q := 183) hX dX9_bouts_182 1 rfl rfl ?_
  refine V_iload (q := 185) hX dX9_bouts_183 6 rfl rfl ?_
  refine V_if_eq (q := 188) (t := 195) hX dX9_bouts_185 (by decide) rfl (fun z98 => ?_) (fun z98 => ?_)
  · have h := ite_t z98 h
    refine V_iconst (v := -1) (q := 196) hX dX9_bouts_195 (by decide) rfl ?_
    refine V.pick [1, 2, 3, 0, 4, 5, 6, 7] rfl ?_
    exact v9_bouts_196 hX hN hQ hk34 s0 x4 x5 x6 x7 (-1 : Int32) σ h
  have h := ite_f z98 h
  refine V_aload_n (q := 189) hX dX9_bouts_188 1 rfl rfl ?_
  refine V_getI (n := 95) (c := 9) (k := 29) (nf := 39) (C := RX9) (T := TX9) (q := 192) hX rfl rfl iG9 k4_211 rfl rfl ⟨rfl, by decide⟩ hN rfl rfl dX9_bouts_189 rfl ?_
  refine V_goto hX dX9_bouts_192 (q := 196) (by decide) ?_
  refine V.pick [1, 2, 3, 0, 4, 5, 6, 7] rfl ?_
  exact v9_bouts_196 hX hN hQ hk34 s0 x4 x5 x6 x7 (gI σ 75 29) σ h
set_option maxRecDepth 100000 in
set_option maxHeartbeats 4000000 in
theorem v9_bouts_167 {g : GT} {X : XT} {a1 : Int32} {a2 : Int32} (hX : OkX g X (m9_bouts)) (hN : 95 ≤ g.N) {res : Unit × St} (hQ : X.Q = QV g X res.2 ∧ X.cells = 0 ∧ X.slots = 0)  {k34 : Int32 → Int32 → Int32 → Int32 → Int32 → St → Option (Unit × St)} (hk34 : ∀ (x3 : Int32) (x4 : Int32) (x5 : Int32) (x6 : Int32) (x7 : Int32) (σ : St), k34 x3 x4 x5 x6 x7 σ = some res → V g X (m9_bouts) 34 [(0, .ref (g.ad (75))), (1, .int (a1)), (2, .int (a2)), (3, .int (x3)), (4, .int (x4)), (5, .int (x5)), (6, .int (x6)), (7, .int (x7))] [] σ) (x4 : Int32) (x5 : Int32) (x7 : Int32) (s0 : Int32) (σ : St)  (h : S9_bouts_167 a1 a2 k34 x4 x5 x7 s0 σ = some res) : V g X (m9_bouts) 167 [(0, .ref (g.ad (75))), (1, .int (a1)), (2, .int (a2)), (4, .int (x4)), (5, .int (x5)), (7, .int (x7))] [.int (s0)] σ := by
  unfold S9_bouts_167 at h
  refine V_istore (lv' := [(6, .int (s0)), (0, .ref (g.ad (75))), (1, .int (a1)), (2, .int (a2)), (4, .int (x4)), (5, .int (x5)), (7, .int (x7))]) (q := 169) hX dX9_bouts_167 rfl rfl rfl ?_
  refine V_iload (q := 171) hX dX9_bouts_169 0 rfl rfl ?_
  refine V_if_eq (q := 174) (t := 179) hX dX9_bouts_171 (by decide) rfl (fun z99 => ?_) (fun z99 => ?_)
  · have h := ite_t z99 h
    refine V_bipush (v := 7) (q := 181) hX dX9_bouts_179 (by decide) rfl ?_
    refine V.pick [1, 2, 3, 4, 5, 0, 6] rfl ?_
    exact v9_bouts_181 hX hN hQ hk34 x4 x5 s0 x7 (7 : Int32) σ h
  have h := ite_f z99 h
  refine V_bipush (v := 8) (q := 176) hX dX9_bouts_174 (by decide) rfl ?_
  refine V_goto hX dX9_bouts_176 (q := 181) (by decide) ?_
  refine V.pick [1, 2, 3, 4, 5, 0, 6] rfl ?_
  exact v9_bouts_181 hX hN hQ hk34 x4 x5 s0 x7 (8 : Int32) σ h
set_option maxRecDepth 100000 in
set_option maxHeartbeats 4000000 in
theorem v9_bouts_250 {g : GT} {X : XT} {a1 : Int32} {a2 : Int32} (hX : OkX g X (m9_bouts)) (hN : 95 ≤ g.N) {res : Unit × St} (hQ : X.Q = QV g X res.2 ∧ X.cells = 0 ∧ X.slots = 0)  {k34 : Int32 → Int32 → Int32 → Int32 → Int32 → St → Option (Unit × St)} (hk34 : ∀ (x3 : Int32) (x4 : Int32) (x5 : Int32) (x6 : Int32) (x7 : Int32) (σ : St), k34 x3 x4 x5 x6 x7 σ = some res → V g X (m9_bouts) 34 [(0, .ref (g.ad (75))), (1, .int (a1)), (2, .int (a2)), (3, .int (x3)), (4, .int (x4)), (5, .int (x5)), (6, .int (x6)), (7, .int (x7))] [] σ) (x3 : Int32) (x4 : Int32) (x5 : Int32) (x6 : Int32) (x7 : Int32) (s1 : Int32) (σ : St)  (h : S9_bouts_250 a1 a2 k34 x3 x4 x5 x6 x7 s1 σ = some res) : V g X (m9_bouts) 250 [(0, .ref (g.ad (75))), (1, .int (a1)), (2, .int (a2)), (3, .int (x3)), (4, .int (x4)), (5, .int (x5)), (6, .int (x6)), (7, .int (x7))] [.int (s1), .ref (g.ad (75))] σ := by
  unfold S9_bouts_250 at h
  refine V_putI (n := 95) (c := 9) (k := 35) (nf := 39) (C := RX9) (T := TX9) (q := 253) hX rfl rfl iG9 k4_217 rfl rfl ⟨rfl, by decide⟩ hN rfl tyX9 tyX9_ok nmX9 rfl rfl (ty := .int) (tyX9_ok 35 (by decide)) rfl rfl dX9_bouts_250 rfl ?_
  refine V_iinc (v := (x4 + 1)) (lv' := [(4, .int ((x4 + 1))), (0, .ref (g.ad (75))), (1, .int (a1)), (2, .int (a2)), (3, .int (x3)), (5, .int (x5)), (6, .int (x6)), (7, .int (x7))]) (q := 256) hX dX9_bouts_253 4 rfl (by rfl) rfl rfl rfl ?_
  refine V.pick [1, 2, 3, 4, 0, 5, 6, 7] rfl ?_
  exact v9_bouts_256 hX hN hQ hk34 x3 (x4 + 1) x5 x6 x7 (sI σ 75 35 s1) h
set_option maxRecDepth 100000 in
set_option maxHeartbeats 4000000 in
theorem v9_bouts_235 {g : GT} {X : XT} {a1 : Int32} {a2 : Int32} (hX : OkX g X (m9_bouts)) (hN : 95 ≤ g.N) {res : Unit × St} (hQ : X.Q = QV g X res.2 ∧ X.cells = 0 ∧ X.slots = 0)  {k34 : Int32 → Int32 → Int32 → Int32 → Int32 → St → Option (Unit × St)} (hk34 : ∀ (x3 : Int32) (x4 : Int32) (x5 : Int32) (x6 : Int32) (x7 : Int32) (σ : St), k34 x3 x4 x5 x6 x7 σ = some res → V g X (m9_bouts) 34 [(0, .ref (g.ad (75))), (1, .int (a1)), (2, .int (a2)), (3, .int (x3)), (4, .int (x4)), (5, .int (x5)), (6, .int (x6)), (7, .int (x7))] [] σ) (x4 : Int32) (x5 : Int32) (x6 : Int32) (x7 : Int32) (s0 : Int32) (σ : St)  (h : S9_bouts_235 a1 a2 k34 x4 x5 x6 x7 s0 σ = some res) : V g X (m9_bouts) 235 [(0, .ref (g.ad (75))), (1, .int (a1)), (2, .int (a2)), (4, .int (x4)), (5, .int (x5)), (6, .int (x6)), (7, .int (x7))] [.int (s0)] σ := by
  unfold S9_bouts_235 at h
  refine V_istore_n (lv' := [(3, .int (s0)), (0, .ref (g.ad (75))), (1, .int (a1)), (2, .int (a2)), (4, .int (x4)), (5, .int (x5)), (6, .int (x6)), (7, .int (x7))]) (q := 236) hX dX9_bouts_235 rfl rfl rfl ?_
  refine V_aload_n (q := 237) hX dX9_bouts_236 1 rfl rfl ?_
  refine V_iload (q := 239) hX dX9_bouts_237 6 rfl rfl ?_
  refine V_if_eq (q := 242) (t := 249) hX dX9_bouts_239 (by decide) rfl (fun z100 => ?_) (fun z100 => ?_)
  · have h := ite_t z100 h
    refine V_iconst (v := -1) (q := 250) hX dX9_bouts_249 (by decide) rfl ?_
    refine V.pick [1, 2, 3, 0, 4, 5, 6, 7] rfl ?_
    exact v9_bouts_250 hX hN hQ hk34 s0 x4 x5 x6 x7 (-1 : Int32) σ h
  have h := ite_f z100 h
  refine V_aload_n (q := 243) hX dX9_bouts_242 1 rfl rfl ?_
  refine V_getI (n := 95) (c := 9) (k := 30) (nf := 39) (C := RX9) (T := TX9) (q := 246) hX rfl rfl iG9 k4_212 rfl rfl ⟨rfl, by decide⟩ hN rfl rfl dX9_bouts_243 rfl ?_
  refine V_goto hX dX9_bouts_246 (q := 250) (by decide) ?_
  refine V.pick [1, 2, 3, 0, 4, 5, 6, 7] rfl ?_
  exact v9_bouts_250 hX hN hQ hk34 s0 x4 x5 x6 x7 (gI σ 75 30) σ h
set_option maxRecDepth 100000 in
set_option maxHeartbeats 4000000 in
theorem v9_bouts_223 {g : GT} {X : XT} {a1 : Int32} {a2 : Int32} (hX : OkX g X (m9_bouts)) (hN : 95 ≤ g.N) {res : Unit × St} (hQ : X.Q = QV g X res.2 ∧ X.cells = 0 ∧ X.slots = 0)  {k34 : Int32 → Int32 → Int32 → Int32 → Int32 → St → Option (Unit × St)} (hk34 : ∀ (x3 : Int32) (x4 : Int32) (x5 : Int32) (x6 : Int32) (x7 : Int32) (σ : St), k34 x3 x4 x5 x6 x7 σ = some res → V g X (m9_bouts) 34 [(0, .ref (g.ad (75))), (1, .int (a1)), (2, .int (a2)), (3, .int (x3)), (4, .int (x4)), (5, .int (x5)), (6, .int (x6)), (7, .int (x7))] [] σ) (x4 : Int32) (x5 : Int32) (x7 : Int32) (s0 : Int32) (σ : St)  (h : S9_bouts_223 a1 a2 k34 x4 x5 x7 s0 σ = some res) : V g X (m9_bouts) 223 [(0, .ref (g.ad (75))), (1, .int (a1)), (2, .int (a2)), (4, .int (x4)), (5, .int (x5)), (7, .int (x7))] [.int (s0)] σ := by
  unfold S9_bouts_223 at h
  refine V_istore (lv' := [(6, .int (s0)), (0, .ref (g.ad (75))), (1, .int (a1)), (2, .int (a2)), (4, .int (x4)), (5, .int (x5)), (7, .int (x7))]) (q := 225) hX dX9_bouts_223 rfl rfl rfl ?_
  refine V_iload (q := 227) hX dX9_bouts_225 0 rfl rfl ?_
  refine V_if_eq (q := 230) (t := 234) hX dX9_bouts_227 (by decide) rfl (fun z101 => ?_) (fun z101 => ?_)
  · have h := ite_t z101 h
    refine V_iconst (v := 1) (q := 235) hX dX9_bouts_234 (by decide) rfl ?_
    refine V.pick [1, 2, 3, 4, 5, 0, 6] rfl ?_
    exact v9_bouts_235 hX hN hQ hk34 x4 x5 s0 x7 (1 : Int32) σ h
  have h := ite_f z101 h
  refine V_iconst (v := 0) (q := 231) hX dX9_bouts_230 (by decide) rfl ?_
  refine V_goto hX dX9_bouts_231 (q := 235) (by decide) ?_
  refine V.pick [1, 2, 3, 4, 5, 0, 6] rfl ?_
  exact v9_bouts_235 hX hN hQ hk34 x4 x5 s0 x7 (0 : Int32) σ h
set_option maxRecDepth 100000 in
set_option maxHeartbeats 4000000 in
theorem v9_bouts_135 {g : GT} {X : XT} {a1 : Int32} {a2 : Int32} (hX : OkX g X (m9_bouts)) (hN : 95 ≤ g.N) {res : Unit × St} (hQ : X.Q = QV g X res.2 ∧ X.cells = 0 ∧ X.slots = 0)  {k34 : Int32 → Int32 → Int32 → Int32 → Int32 → St → Option (Unit × St)} (hk34 : ∀ (x3 : Int32) (x4 : Int32) (x5 : Int32) (x6 : Int32) (x7 : Int32) (σ : St), k34 x3 x4 x5 x6 x7 σ = some res → V g X (m9_bouts) 34 [(0, .ref (g.ad (75))), (1, .int (a1)), (2, .int (a2)), (3, .int (x3)), (4, .int (x4)), (5, .int (x5)), (6, .int (x6)), (7, .int (x7))] [] σ) (x4 : Int32) (x5 : Int32) (x6 : Int32) (x7 : Int32) (s0 : Int32) (s1 : Int32) (σ : St)  (h : S9_bouts_135 a1 a2 k34 x4 x5 x6 x7 s0 s1 σ = some res) : V g X (m9_bouts) 135 [(0, .ref (g.ad (75))), (1, .int (a1)), (2, .int (a2)), (4, .int (x4)), (5, .int (x5)), (6, .int (x6)), (7, .int (x7))] [.int (s1), .int (s0)] σ := by
  unfold S9_bouts_135 at h
  refine V_iadd (q := 136) hX dX9_bouts_135 rfl ?_
  refine V_istore_n (lv' := [(3, .int ((s0 + s1))), (0, .ref (g.ad (75))), (1, .int (a1)), (2, .int (a2)), (4, .int (x4)), (5, .int (x5)), (6, .int (x6)), (7, .int (x7))]) (q := 137) hX dX9_bouts_136 rfl rfl rfl ?_
  refine V_aload_n (q := 138) hX dX9_bouts_137 1 rfl rfl ?_
  refine V_dup (q := 139) hX dX9_bouts_138 rfl rfl ?_
  refine V_getI (n := 95) (c := 9) (k := 36) (nf := 39) (C := RX9) (T := TX9) (q := 142) hX rfl rfl iG9 k4_218 rfl rfl ⟨rfl, by decide⟩ hN rfl rfl dX9_bouts_139 rfl ?_
  refine V_iconst (v := 1) (q := 143) hX dX9_bouts_142 (by decide) rfl ?_
  refine V_iadd (q := 144) hX dX9_bouts_143 rfl ?_
  refine V_putI (n := 95) (c := 9) (k := 36) (nf := 39) (C := RX9) (T := TX9) (q := 147) hX rfl rfl iG9 k4_218 rfl rfl ⟨rfl, by decide⟩ hN rfl tyX9 tyX9_ok nmX9 rfl rfl (ty := .int) (tyX9_ok 36 (by decide)) rfl rfl dX9_bouts_144 rfl ?_
  refine V_iload_n (q := 148) hX dX9_bouts_147 0 rfl rfl ?_
  refine V_bipush (v := 8) (q := 150) hX dX9_bouts_148 (by decide) rfl ?_
  refine V_icmp_lt (q := 153) (t := 205) hX dX9_bouts_150 (by decide) rfl (fun z102 => ?_) (fun z102 => ?_)
  · have h := ite_t z102 h
    refine V_iload_n (q := 206) hX dX9_bouts_205 0 rfl rfl ?_
    refine V_if_gt (q := 209) (t := 256) hX dX9_bouts_206 (by decide) rfl (fun z103 => ?_) (fun z103 => ?_)
    · have h := ite_t z103 h
      refine V.pick [1, 2, 3, 0, 4, 5, 6, 7] rfl ?_
      exact v9_bouts_256 hX hN hQ hk34 (s0 + s1) x4 x5 x6 x7 (sI σ 75 36 ((gI σ 75 36) + (1 : Int32))) h
    have h := ite_f z103 h
    refine V_iload (q := 211) hX dX9_bouts_209 4 rfl rfl ?_
    refine V_aload_n (q := 212) hX dX9_bouts_211 1 rfl rfl ?_
    refine V_getI (n := 95) (c := 9) (k := 32) (nf := 39) (C := RX9) (T := TX9) (q := 215) hX rfl rfl iG9 k4_214 rfl rfl ⟨rfl, by decide⟩ hN rfl rfl dX9_bouts_212 rfl ?_
    refine V_icmp_lt (q := 218) (t := 222) hX dX9_bouts_215 (by decide) rfl (fun z104 => ?_) (fun z104 => ?_)
    · have h := ite_t z104 h
      refine V_iconst (v := 0) (q := 223) hX dX9_bouts_222 (by decide) rfl ?_
      refine V.pick [1, 2, 3, 4, 5, 7] rfl ?_
      exact v9_bouts_223 hX hN hQ hk34 x4 x5 x7 (0 : Int32) (sI σ 75 36 ((gI σ 75 36) + (1 : Int32))) h
    have h := ite_f z104 h
    refine V_iconst (v := 1) (q := 219) hX dX9_bouts_218 (by decide) rfl ?_
    refine V_goto hX dX9_bouts_219 (q := 223) (by decide) ?_
    refine V.pick [1, 2, 3, 4, 5, 7] rfl ?_
    exact v9_bouts_223 hX hN hQ hk34 x4 x5 x7 (1 : Int32) (sI σ 75 36 ((gI σ 75 36) + (1 : Int32))) h
  have h := ite_f z102 h
  refine V_iload (q := 155) hX dX9_bouts_153 5 rfl rfl ?_
  refine V_aload_n (q := 156) hX dX9_bouts_155 1 rfl rfl ?_
  refine V_getI (n := 95) (c := 9) (k := 33) (nf := 39) (C := RX9) (T := TX9) (q := 159) hX rfl rfl iG9 k4_215 rfl rfl ⟨rfl, by decide⟩ hN rfl rfl dX9_bouts_156 rfl ?_
  refine V_icmp_lt (q := 162) (t := 166) hX dX9_bouts_159 (by decide) rfl (fun z105 => ?_) (fun z105 => ?_)
  · have h := ite_t z105 h
    refine V_iconst (v := 0) (q := 167) hX dX9_bouts_166 (by decide) rfl ?_
    refine V.pick [1, 2, 3, 4, 5, 7] rfl ?_
    exact v9_bouts_167 hX hN hQ hk34 x4 x5 x7 (0 : Int32) (sI σ 75 36 ((gI σ 75 36) + (1 : Int32))) h
  have h := ite_f z105 h
  refine V_iconst (v := 1) (q := 163) hX dX9_bouts_162 (by decide) rfl ?_
  refine V_goto hX dX9_bouts_163 (q := 167) (by decide) ?_
  refine V.pick [1, 2, 3, 4, 5, 7] rfl ?_
  exact v9_bouts_167 hX hN hQ hk34 x4 x5 x7 (1 : Int32) (sI σ 75 36 ((gI σ 75 36) + (1 : Int32))) h
set_option maxRecDepth 100000 in
set_option maxHeartbeats 4000000 in
theorem v9_bouts_303 {g : GT} {X : XT} {a1 : Int32} {a2 : Int32} (hX : OkX g X (m9_bouts)) (hN : 95 ≤ g.N) {res : Unit × St} (hQ : X.Q = QV g X res.2 ∧ X.cells = 0 ∧ X.slots = 0)   (s1 : Int32) (σ : St)  (h : S9_bouts_303 a1 a2 s1 σ = some res) : V g X (m9_bouts) 303 [] [.int (s1), .ref (g.ad (75))] σ := by
  unfold S9_bouts_303 at h
  refine V_putI (n := 95) (c := 9) (k := 35) (nf := 39) (C := RX9) (T := TX9) (q := 306) hX rfl rfl iG9 k4_217 rfl rfl ⟨rfl, by decide⟩ hN rfl tyX9 tyX9_ok nmX9 rfl rfl (ty := .int) (tyX9_ok 35 (by decide)) rfl rfl dX9_bouts_303 rfl ?_
  obtain ⟨f1, f2⟩ := some2 h
  rw [f2] at hQ
  exact V_vret hX hQ rfl dX9_bouts_306
set_option maxRecDepth 100000 in
set_option maxHeartbeats 4000000 in
theorem v9_bouts_34n {g : GT} {X : XT} {a1 : Int32} {a2 : Int32} (hX : OkX g X (m9_bouts)) (hN : 95 ≤ g.N) {res : Unit × St} (hQ : X.Q = QV g X res.2 ∧ X.cells = 0 ∧ X.slots = 0)   (n : Nat) : ∀ (x3 : Int32) (x4 : Int32) (x5 : Int32) (x6 : Int32) (x7 : Int32) (σ : St) , S9_bouts_34 a1 a2 n x3 x4 x5 x6 x7 σ = some res → V g X (m9_bouts) 34 [(0, .ref (g.ad (75))), (1, .int (a1)), (2, .int (a2)), (3, .int (x3)), (4, .int (x4)), (5, .int (x5)), (6, .int (x6)), (7, .int (x7))] [] σ := by
  induction n with
  | zero => intro x3 x4 x5 x6 x7 σ; intro h; cases h
  | succ n ih =>
    intro x3 x4 x5 x6 x7 σ h
    have h : B9_bouts_34 a1 a2 (S9_bouts_34 a1 a2 n) x3 x4 x5 x6 x7 σ = some res := h
    unfold B9_bouts_34 at h
    refine V_iload (q := 36) hX dX9_bouts_34 7 rfl rfl ?_
    refine V_bipush (v := 9) (q := 38) hX dX9_bouts_36 (by decide) rfl ?_
    refine V_icmp_ge (q := 41) (t := 272) hX dX9_bouts_38 (by decide) rfl (fun z106 => ?_) (fun z106 => ?_)
    · have h := ite_t z106 h
      refine V_iload (q := 274) hX dX9_bouts_272 6 rfl rfl ?_
      refine V_if_ne (q := 277) (t := 306) hX dX9_bouts_274 (by decide) rfl (fun z107 => ?_) (fun z107 => ?_)
      · have h := ite_f z107 h
        obtain ⟨f1, f2⟩ := some2 h
        rw [f2] at hQ
        exact V_vret hX hQ rfl dX9_bouts_306
      have h := ite_t z107 h
      refine V_aload_n (q := 278) hX dX9_bouts_277 0 rfl rfl ?_
      refine V_iload_n (q := 279) hX dX9_bouts_278 3 rfl rfl ?_
      refine V_iconst (v := 4) (q := 280) hX dX9_bouts_279 (by decide) rfl ?_
      refine V_icmp_le (q := 283) (t := 290) hX dX9_bouts_280 (by decide) rfl (fun z108 => ?_) (fun z108 => ?_)
      · have h := ite_t z108 h
        refine V_iload_n (q := 291) hX dX9_bouts_290 3 rfl rfl ?_
        refine V_iconst (v := 4) (q := 292) hX dX9_bouts_291 (by decide) rfl ?_
        refine V_icmp_ge (q := 295) (t := 302) hX dX9_bouts_292 (by decide) rfl (fun z109 => ?_) (fun z109 => ?_)
        · have h := ite_t z109 h
          refine V_iconst (v := -1) (q := 303) hX dX9_bouts_302 (by decide) rfl ?_
          refine V.pick [] rfl ?_
          exact v9_bouts_303 hX hN hQ (-1 : Int32) σ h
        have h := ite_f z109 h
        refine V_aload_n (q := 296) hX dX9_bouts_295 0 rfl rfl ?_
        refine V_getI (n := 95) (c := 9) (k := 30) (nf := 39) (C := RX9) (T := TX9) (q := 299) hX rfl rfl iG9 k4_212 rfl rfl ⟨rfl, by decide⟩ hN rfl rfl dX9_bouts_296 rfl ?_
        refine V_goto hX dX9_bouts_299 (q := 303) (by decide) ?_
        refine V.pick [] rfl ?_
        exact v9_bouts_303 hX hN hQ (gI σ 75 30) σ h
      have h := ite_f z108 h
      refine V_aload_n (q := 284) hX dX9_bouts_283 0 rfl rfl ?_
      refine V_getI (n := 95) (c := 9) (k := 29) (nf := 39) (C := RX9) (T := TX9) (q := 287) hX rfl rfl iG9 k4_211 rfl rfl ⟨rfl, by decide⟩ hN rfl rfl dX9_bouts_284 rfl ?_
      refine V_goto hX dX9_bouts_287 (q := 303) (by decide) ?_
      refine V.pick [] rfl ?_
      exact v9_bouts_303 hX hN hQ (gI σ 75 29) σ h
    have h := ite_f z106 h
    refine V_iload (q := 43) hX dX9_bouts_41 6 rfl rfl ?_
    refine V_if_ne (q := 46) (t := 256) hX dX9_bouts_43 (by decide) rfl (fun z110 => ?_) (fun z110 => ?_)
    · have h := ite_f z110 h
      refine V.pick [0, 1, 2, 3, 4, 5, 6, 7] rfl ?_
      exact v9_bouts_256 hX hN hQ ih x3 x4 x5 x6 x7 σ h
    have h := ite_t z110 h
    refine V_iload_n (q := 47) hX dX9_bouts_46 1 rfl rfl ?_
    refine V_iconst (v := 2) (q := 48) hX dX9_bouts_47 (by decide) rfl ?_
    refine V_iload (q := 50) hX dX9_bouts_48 7 rfl rfl ?_
    refine V_imul (q := 51) hX dX9_bouts_50 rfl ?_
    refine V_ishr (q := 52) hX dX9_bouts_51 rfl ?_
    refine V_iconst (v := 3) (q := 53) hX dX9_bouts_52 (by decide) rfl ?_
    refine V_iand (q := 54) hX dX9_bouts_53 rfl ?_
    refine V_istore (lv' := [(8, .int (((a1 >>> (((2 : Int32) * x7) &&& 31)) &&& (3 : Int32)))), (0, .ref (g.ad (75))), (1, .int (a1)), (2, .int (a2)), (3, .int (x3)), (4, .int (x4)), (5, .int (x5)), (6, .int (x6)), (7, .int (x7))]) (q := 56) hX dX9_bouts_54 rfl rfl rfl ?_
    refine V_iload_n (q := 57) hX dX9_bouts_56 3 rfl rfl ?_
    refine V_iconst (v := 2) (q := 58) hX dX9_bouts_57 (by decide) rfl ?_
    refine V_iload (q := 60) hX dX9_bouts_58 8 rfl rfl ?_
    refine V_imul (q := 61) hX dX9_bouts_60 rfl ?_
    refine V_ishr (q := 62) hX dX9_bouts_61 rfl ?_
    refine V_iconst (v := 3) (q := 63) hX dX9_bouts_62 (by decide) rfl ?_
    refine V_iand (q := 64) hX dX9_bouts_63 rfl ?_
    refine V_istore (lv' := [(9, .int (((a2 >>> (((2 : Int32) * x7) &&& 31)) &&& (3 : Int32)))), (8, .int (((a1 >>> (((2 : Int32) * x7) &&& 31)) &&& (3 : Int32)))), (0, .ref (g.ad (75))), (1, .int (a1)), (2, .int (a2)), (3, .int (x3)), (4, .int (x4)), (5, .int (x5)), (6, .int (x6)), (7, .int (x7))]) (q := 66) hX dX9_bouts_64 rfl rfl rfl ?_
    refine V_aload_n (q := 67) hX dX9_bouts_66 2 rfl rfl ?_
    refine V_iconst (v := 0) (q := 68) hX dX9_bouts_67 (by decide) rfl ?_
    refine V_iload (q := 70) hX dX9_bouts_68 1 rfl rfl ?_
    refine V_iload (q := 72) hX dX9_bouts_70 0 rfl rfl ?_
    refine V_iload_n (q := 73) hX dX9_bouts_72 5 rfl rfl ?_
    obtain ⟨r112, σ111, e113, h⟩ := bnd_some h
    refine V_cvI (n := 95) (c := 9) (nf := 39) (C := RX9) (T := TX9) (As := [.int ((0 : Int32)), .int (((a1 >>> (((2 : Int32) * x7) &&& 31)) &&& (3 : Int32))), .int (((a2 >>> (((2 : Int32) * x7) &&& 31)) &&& (3 : Int32))), .int (x3)]) (q := 76) hX (c9_strengthOf hX.2.2.2.2.1 hN e113) (goodV_of k5_146 k5_148 kp_52 k1_16 (cons_g k5_149)) (nA := 4) (by decide) rfl rfl rfl rfl rfl ⟨rfl, by decide⟩ hN rfl rfl rfl dX9_bouts_73 rfl ?_
    refine V_aload_n (q := 77) hX dX9_bouts_76 2 rfl rfl ?_
    refine V_iconst (v := 1) (q := 78) hX dX9_bouts_77 (by decide) rfl ?_
    refine V_iload (q := 80) hX dX9_bouts_78 0 rfl rfl ?_
    refine V_iload (q := 82) hX dX9_bouts_80 1 rfl rfl ?_
    refine V_bipush (v := 8) (q := 84) hX dX9_bouts_82 (by decide) rfl ?_
    refine V_iload_n (q := 85) hX dX9_bouts_84 5 rfl rfl ?_
    refine V_isub (q := 86) hX dX9_bouts_85 rfl ?_
    obtain ⟨r115, σ114, e116, h⟩ := bnd_some h
    refine V_cvI (n := 95) (c := 9) (nf := 39) (C := RX9) (T := TX9) (As := [.int ((1 : Int32)), .int (((a2 >>> (((2 : Int32) * x7) &&& 31)) &&& (3 : Int32))), .int (((a1 >>> (((2 : Int32) * x7) &&& 31)) &&& (3 : Int32))), .int (((8 : Int32) - x3))]) (q := 89) hX (c9_strengthOf hX.2.2.2.2.1 hN e116) (goodV_of k5_146 k5_148 kp_52 k1_16 (cons_g k5_149)) (nA := 4) (by decide) rfl rfl rfl rfl rfl ⟨rfl, by decide⟩ hN rfl rfl rfl dX9_bouts_86 rfl ?_
    refine V_isub (q := 90) hX dX9_bouts_89 rfl ?_
    refine V_istore (lv' := [(10, .int ((r112 - r115))), (9, .int (((a2 >>> (((2 : Int32) * x7) &&& 31)) &&& (3 : Int32)))), (8, .int (((a1 >>> (((2 : Int32) * x7) &&& 31)) &&& (3 : Int32)))), (0, .ref (g.ad (75))), (1, .int (a1)), (2, .int (a2)), (3, .int (x3)), (4, .int (x4)), (5, .int (x5)), (6, .int (x6)), (7, .int (x7))]) (q := 92) hX dX9_bouts_90 rfl rfl rfl ?_
    refine V_iload_n (q := 93) hX dX9_bouts_92 6 rfl rfl ?_
    refine V_iload (q := 95) hX dX9_bouts_93 0 rfl rfl ?_
    refine V_bipush (v := 20) (q := 97) hX dX9_bouts_95 (by decide) rfl ?_
    refine V_icmp_le (q := 100) (t := 104) hX dX9_bouts_97 (by decide) rfl (fun z117 => ?_) (fun z117 => ?_)
    · have h := ite_t z117 h
      refine V_iload (q := 106) hX dX9_bouts_104 0 rfl rfl ?_
      refine V_if_le (q := 109) (t := 113) hX dX9_bouts_106 (by decide) rfl (fun z118 => ?_) (fun z118 => ?_)
      · have h := ite_t z118 h
        refine V_iload (q := 115) hX dX9_bouts_113 0 rfl rfl ?_
        refine V_bipush (v := -20) (q := 117) hX dX9_bouts_115 (by decide) rfl ?_
        refine V_icmp_ge (q := 120) (t := 125) hX dX9_bouts_117 (by decide) rfl (fun z119 => ?_) (fun z119 => ?_)
        · have h := ite_t z119 h
          refine V_iload (q := 127) hX dX9_bouts_125 0 rfl rfl ?_
          refine V_if_ge (q := 130) (t := 134) hX dX9_bouts_127 (by decide) rfl (fun z120 => ?_) (fun z120 => ?_)
          · have h := ite_t z120 h
            refine V_iconst (v := 0) (q := 135) hX dX9_bouts_134 (by decide) rfl ?_
            refine V.pick [3, 4, 5, 7, 8, 9, 10] rfl ?_
            exact v9_bouts_135 hX hN hQ ih x4 x5 x6 x7 x3 (0 : Int32) σ114 h
          have h := ite_f z120 h
          refine V_iconst (v := -1) (q := 131) hX dX9_bouts_130 (by decide) rfl ?_
          refine V_goto hX dX9_bouts_131 (q := 135) (by decide) ?_
          refine V.pick [3, 4, 5, 7, 8, 9, 10] rfl ?_
          exact v9_bouts_135 hX hN hQ ih x4 x5 x6 x7 x3 (-1 : Int32) σ114 h
        have h := ite_f z119 h
        refine V_bipush (v := -2) (q := 122) hX dX9_bouts_120 (by decide) rfl ?_
        refine V_goto hX dX9_bouts_122 (q := 135) (by decide) ?_
        refine V.pick [3, 4, 5, 7, 8, 9, 10] rfl ?_
        exact v9_bouts_135 hX hN hQ ih x4 x5 x6 x7 x3 (-2 : Int32) σ114 h
      have h := ite_f z118 h
      refine V_iconst (v := 1) (q := 110) hX dX9_bouts_109 (by decide) rfl ?_
      refine V_goto hX dX9_bouts_110 (q := 135) (by decide) ?_
      refine V.pick [3, 4, 5, 7, 8, 9, 10] rfl ?_
      exact v9_bouts_135 hX hN hQ ih x4 x5 x6 x7 x3 (1 : Int32) σ114 h
    have h := ite_f z117 h
    refine V_iconst (v := 2) (q := 101) hX dX9_bouts_100 (by decide) rfl ?_
    refine V_goto hX dX9_bouts_101 (q := 135) (by decide) ?_
    refine V.pick [3, 4, 5, 7, 8, 9, 10] rfl ?_
    exact v9_bouts_135 hX hN hQ ih x4 x5 x6 x7 x3 (2 : Int32) σ114 h
theorem v9_bouts_34 {g : GT} {X : XT} {a1 : Int32} {a2 : Int32} (hX : OkX g X (m9_bouts)) (hN : 95 ≤ g.N) {res : Unit × St} (hQ : X.Q = QV g X res.2 ∧ X.cells = 0 ∧ X.slots = 0) (x3 : Int32) (x4 : Int32) (x5 : Int32) (x6 : Int32) (x7 : Int32) (σ : St) (h : S9_bouts_34 a1 a2 4096 x3 x4 x5 x6 x7 σ = some res) : V g X (m9_bouts) 34 [(0, .ref (g.ad (75))), (1, .int (a1)), (2, .int (a2)), (3, .int (x3)), (4, .int (x4)), (5, .int (x5)), (6, .int (x6)), (7, .int (x7))] [] σ := v9_bouts_34n hX hN hQ 4096 x3 x4 x5 x6 x7 σ h
set_option maxRecDepth 100000 in
set_option maxHeartbeats 4000000 in
theorem v9_bouts {g : GT} {X : XT} {a1 : Int32} {a2 : Int32} (hX : OkX g X (m9_bouts)) (hN : 95 ≤ g.N) {res : Unit × St} (hQ : X.Q = QV g X res.2 ∧ X.cells = 0 ∧ X.slots = 0) {σ : St} (h : S9_bouts a1 a2 σ = some res) : V g X (m9_bouts) 0 [(0, .ref (g.ad (75))), (1, .int (a1)), (2, .int (a2))] [] σ := by
  unfold S9_bouts at h
  refine V_aload_n (q := 1) hX dX9_bouts_0 0 rfl rfl ?_
  refine V_getI (n := 95) (c := 9) (k := 34) (nf := 39) (C := RX9) (T := TX9) (q := 4) hX rfl rfl iG9 k4_216 rfl rfl ⟨rfl, by decide⟩ hN rfl rfl dX9_bouts_1 rfl ?_
  refine V_istore_n (lv' := [(3, .int ((gI σ 75 34))), (0, .ref (g.ad (75))), (1, .int (a1)), (2, .int (a2))]) (q := 5) hX dX9_bouts_4 rfl rfl rfl ?_
  refine V_iconst (v := 0) (q := 6) hX dX9_bouts_5 (by decide) rfl ?_
  refine V_istore (lv' := [(4, .int ((0 : Int32))), (3, .int ((gI σ 75 34))), (0, .ref (g.ad (75))), (1, .int (a1)), (2, .int (a2))]) (q := 8) hX dX9_bouts_6 rfl rfl rfl ?_
  refine V_iconst (v := 0) (q := 9) hX dX9_bouts_8 (by decide) rfl ?_
  refine V_istore (lv' := [(5, .int ((0 : Int32))), (4, .int ((0 : Int32))), (3, .int ((gI σ 75 34))), (0, .ref (g.ad (75))), (1, .int (a1)), (2, .int (a2))]) (q := 11) hX dX9_bouts_9 rfl rfl rfl ?_
  refine V_iconst (v := 0) (q := 12) hX dX9_bouts_11 (by decide) rfl ?_
  refine V_istore (lv' := [(6, .int ((0 : Int32))), (5, .int ((0 : Int32))), (4, .int ((0 : Int32))), (3, .int ((gI σ 75 34))), (0, .ref (g.ad (75))), (1, .int (a1)), (2, .int (a2))]) (q := 14) hX dX9_bouts_12 rfl rfl rfl ?_
  refine V_aload_n (q := 15) hX dX9_bouts_14 4 rfl rfl ?_
  refine V_iconst (v := -1) (q := 16) hX dX9_bouts_15 (by decide) rfl ?_
  refine V_putI (n := 95) (c := 9) (k := 35) (nf := 39) (C := RX9) (T := TX9) (q := 19) hX rfl rfl iG9 k4_217 rfl rfl ⟨rfl, by decide⟩ hN rfl tyX9 tyX9_ok nmX9 rfl rfl (ty := .int) (tyX9_ok 35 (by decide)) rfl rfl dX9_bouts_16 rfl ?_
  refine V_aload_n (q := 20) hX dX9_bouts_19 4 rfl rfl ?_
  refine V_iconst (v := 0) (q := 21) hX dX9_bouts_20 (by decide) rfl ?_
  refine V_putI (n := 95) (c := 9) (k := 36) (nf := 39) (C := RX9) (T := TX9) (q := 24) hX rfl rfl iG9 k4_218 rfl rfl ⟨rfl, by decide⟩ hN rfl tyX9 tyX9_ok nmX9 rfl rfl (ty := .int) (tyX9_ok 36 (by decide)) rfl rfl dX9_bouts_21 rfl ?_
  refine V_aload_n (q := 25) hX dX9_bouts_24 4 rfl rfl ?_
  refine V_getF (r := 93) (n := 95) (c := 9) (k := 37) (nf := 39) (C := RX9) (T := TX9) (q := 28) hX rfl rfl iG9 k4_219 rfl rfl ⟨rfl, by decide⟩ hN rfl rfl rfl rfl dX9_bouts_25 rfl ?_
  refine V_iconst (v := 0) (q := 29) hX dX9_bouts_28 (by decide) rfl ?_
  refine V_iload_n (q := 30) hX dX9_bouts_29 3 rfl rfl ?_
  refine V_iast (n := 95) (len := 10) (q := 31) hX ⟨rfl, rfl, by decide⟩ hN (by show inb _ _; decide) dX9_bouts_30 rfl ?_
  refine V_iconst (v := 0) (q := 32) hX dX9_bouts_31 (by decide) rfl ?_
  refine V_istore (lv' := [(7, .int ((0 : Int32))), (6, .int ((0 : Int32))), (5, .int ((0 : Int32))), (4, .int ((0 : Int32))), (3, .int ((gI σ 75 34))), (0, .ref (g.ad (75))), (1, .int (a1)), (2, .int (a2))]) (q := 34) hX dX9_bouts_32 rfl rfl rfl ?_
  refine V.pick [5, 6, 7, 4, 3, 2, 1, 0] rfl ?_
  exact v9_bouts_34 hX hN hQ (gI σ 75 34) (0 : Int32) (0 : Int32) (0 : Int32) (0 : Int32) (sI (sI (sI σ 75 35 (-1 : Int32)) 75 36 (0 : Int32)) 93 ((0 : Int32)).toNatClampNeg (gI σ 75 34)) h
set_option maxRecDepth 100000 in
set_option maxHeartbeats 4000000 in
theorem c9_bouts {g : GT} {l : Launch} (hg : OkG g) (hN : 95 ≤ g.N) {a1 : Int32} {a2 : Int32} {σ : St} {r : Unit} {σ' : St} (h : S9_bouts a1 a2 σ = some (r, σ')) : CtV g l m9_bouts yX9_bouts [.ref (g.ad (75)), .int (a1), .int (a2)] σ σ' := CtV.of hg (by decide) rfl rfl (fun X h1 h2 h3 => v9_bouts h1 hN (res := (r, σ')) h3 h)

abbrev m9_bout0 : MI := (cX9_bout0, RX9, 5, none, 6)
def S9_bout0 (a1 : Int32) (a2 : Int32) (a3 : Int32) (a4 : Int32) (σ : St) : Option (Unit × St) := bnd (S9_begins a1 a2 σ) fun r8 σ7 => bnd (S9_bouts a3 a4 σ7) fun r11 σ10 => some ((), σ10)
set_option maxRecDepth 100000 in
set_option maxHeartbeats 4000000 in
theorem v9_bout0 {g : GT} {X : XT} {a1 : Int32} {a2 : Int32} {a3 : Int32} {a4 : Int32} (hX : OkX g X (m9_bout0)) (hN : 95 ≤ g.N) {res : Unit × St} (hQ : X.Q = QV g X res.2 ∧ X.cells = 0 ∧ X.slots = 0) {σ : St} (h : S9_bout0 a1 a2 a3 a4 σ = some res) : V g X (m9_bout0) 0 [(0, .ref (g.ad (75))), (1, .int (a1)), (2, .int (a2)), (3, .int (a3)), (4, .int (a4))] [] σ := by
  unfold S9_bout0 at h
  refine V_aload_n (q := 1) hX dX9_bout0_0 0 rfl rfl ?_
  refine V_iload_n (q := 2) hX dX9_bout0_1 1 rfl rfl ?_
  refine V_iload_n (q := 3) hX dX9_bout0_2 2 rfl rfl ?_
  obtain ⟨r8, σ7, e9, h⟩ := bnd_some h
  refine V_cvV (n := 95) (c := 9) (nf := 39) (C := RX9) (T := TX9) (As := [.int (a1), .int (a2)]) (q := 6) hX (c9_begins hX.2.2.2.2.1 hN e9) (goodV_of k5_130 k5_132 kp_48 k1_16 (cons_g k5_133)) (nA := 2) (by decide) rfl rfl rfl rfl rfl ⟨rfl, by decide⟩ hN rfl rfl rfl dX9_bout0_3 rfl ?_
  refine V_aload_n (q := 7) hX dX9_bout0_6 0 rfl rfl ?_
  refine V_iload_n (q := 8) hX dX9_bout0_7 3 rfl rfl ?_
  refine V_iload (q := 10) hX dX9_bout0_8 4 rfl rfl ?_
  obtain ⟨r11, σ10, e12, h⟩ := bnd_some h
  refine V_cvV (n := 95) (c := 9) (nf := 39) (C := RX9) (T := TX9) (As := [.int (a3), .int (a4)]) (q := 13) hX (c9_bouts hX.2.2.2.2.1 hN e12) (goodV_of k5_142 k5_144 kp_51 k1_16 (cons_g k5_145)) (nA := 2) (by decide) rfl rfl rfl rfl rfl ⟨rfl, by decide⟩ hN rfl rfl rfl dX9_bout0_10 rfl ?_
  obtain ⟨f1, f2⟩ := some2 h
  rw [f2] at hQ
  exact V_vret hX hQ rfl dX9_bout0_13
set_option maxRecDepth 100000 in
set_option maxHeartbeats 4000000 in
theorem c9_bout0 {g : GT} {l : Launch} (hg : OkG g) (hN : 95 ≤ g.N) {a1 : Int32} {a2 : Int32} {a3 : Int32} {a4 : Int32} {σ : St} {r : Unit} {σ' : St} (h : S9_bout0 a1 a2 a3 a4 σ = some (r, σ')) : CtV g l m9_bout0 yX9_bout0 [.ref (g.ad (75)), .int (a1), .int (a2), .int (a3), .int (a4)] σ σ' := CtV.of hg (by decide) rfl rfl (fun X h1 h2 h3 => v9_bout0 h1 hN (res := (r, σ')) h3 h)

abbrev m9_bout : MI := (cX9_bout, RX9, 5, some .int, 7)
def S9_bout_50 (a1 : Int32) (a2 : Int32) (a3 : Int32) (a4 : Int32) (σ : St) : Option (Int32 × St) := bnd (S9_bout0 (a1 / (10 : Int32)) (jrem a1 (10 : Int32)) a2 a3 σ) fun r54 σ53 => if a4 = 0 then (some ((gI σ53 75 35), σ53)) else (if a4 = (1 : Int32) then (some ((gI σ53 75 36), σ53)) else (if inb (a4 - (10 : Int32)) 10 then (some ((gI σ53 93 ((a4 - (10 : Int32))).toNatClampNeg), σ53)) else none))
def S9_bout (a1 : Int32) (a2 : Int32) (a3 : Int32) (a4 : Int32) (σ : St) : Option (Int32 × St) := bnd (S9_areTwoMen a1 σ) fun r60 σ59 => if r60 = 0 then (some ((-5 : Int32), σ59)) else (bnd (S9_isPlan a2 σ59) fun r64 σ63 => if r64 = 0 then (some ((-7 : Int32), σ63)) else (bnd (S9_isPlan a3 σ63) fun r68 σ67 => if r68 = 0 then (some ((-7 : Int32), σ67)) else (bnd (S9_in a4 (0 : Int32) (1 : Int32) σ67) fun r72 σ71 => if r72 = 0 then (bnd (S9_in a4 (10 : Int32) (19 : Int32) σ71) fun r76 σ75 => if r76 = 0 then (some ((-7 : Int32), σ75)) else (S9_bout_50 a1 a2 a3 a4 σ75)) else (S9_bout_50 a1 a2 a3 a4 σ71))))
set_option maxRecDepth 100000 in
set_option maxHeartbeats 4000000 in
theorem v9_bout_50 {g : GT} {X : XT} {a1 : Int32} {a2 : Int32} {a3 : Int32} {a4 : Int32} (hX : OkX g X (m9_bout)) (hN : 95 ≤ g.N) {res : Int32 × St} (hQ : X.Q = QI g X res.1 res.2 ∧ X.cells = 0 ∧ X.slots = 0)    (σ : St)  (h : S9_bout_50 a1 a2 a3 a4 σ = some res) : V g X (m9_bout) 50 [(0, .ref (g.ad (75))), (1, .int (a1)), (2, .int (a2)), (3, .int (a3)), (4, .int (a4))] [] σ := by
  unfold S9_bout_50 at h
  refine V_aload_n (q := 51) hX dX9_bout_50 0 rfl rfl ?_
  refine V_iload_n (q := 52) hX dX9_bout_51 1 rfl rfl ?_
  refine V_bipush (v := 10) (q := 54) hX dX9_bout_52 (by decide) rfl ?_
  refine V_idiv (q := 55) hX (by decide) dX9_bout_54 rfl ?_
  refine V_iload_n (q := 56) hX dX9_bout_55 1 rfl rfl ?_
  refine V_bipush (v := 10) (q := 58) hX dX9_bout_56 (by decide) rfl ?_
  refine V_irem (q := 59) hX (by decide) dX9_bout_58 rfl ?_
  refine V_iload_n (q := 60) hX dX9_bout_59 2 rfl rfl ?_
  refine V_iload_n (q := 61) hX dX9_bout_60 3 rfl rfl ?_
  obtain ⟨r54, σ53, e55, h⟩ := bnd_some h
  refine V_cvV (n := 95) (c := 9) (nf := 39) (C := RX9) (T := TX9) (As := [.int ((a1 / (10 : Int32))), .int ((jrem a1 (10 : Int32))), .int (a2), .int (a3)]) (q := 64) hX (c9_bout0 hX.2.2.2.2.1 hN e55) (goodV_of k5_126 k5_128 kp_47 k1_16 (cons_g k5_129)) (nA := 4) (by decide) rfl rfl rfl rfl rfl ⟨rfl, by decide⟩ hN rfl rfl rfl dX9_bout_61 rfl ?_
  refine V_iload (q := 66) hX dX9_bout_64 4 rfl rfl ?_
  refine V_if_ne (q := 69) (t := 76) hX dX9_bout_66 (by decide) rfl (fun z56 => ?_) (fun z56 => ?_)
  · have h := ite_f z56 h
    refine V_iload (q := 78) hX dX9_bout_76 4 rfl rfl ?_
    refine V_iconst (v := 1) (q := 79) hX dX9_bout_78 (by decide) rfl ?_
    refine V_icmp_ne (q := 82) (t := 89) hX dX9_bout_79 (by decide) rfl (fun z57 => ?_) (fun z57 => ?_)
    · have h := ite_f z57 h
      refine V_aload_n (q := 90) hX dX9_bout_89 0 rfl rfl ?_
      refine V_getF (r := 93) (n := 95) (c := 9) (k := 37) (nf := 39) (C := RX9) (T := TX9) (q := 93) hX rfl rfl iG9 k4_219 rfl rfl ⟨rfl, by decide⟩ hN rfl rfl rfl rfl dX9_bout_90 rfl ?_
      refine V_iload (q := 95) hX dX9_bout_93 4 rfl rfl ?_
      refine V_bipush (v := 10) (q := 97) hX dX9_bout_95 (by decide) rfl ?_
      refine V_isub (q := 98) hX dX9_bout_97 rfl ?_
      obtain ⟨z58, h⟩ := chk_t h
      refine V_iald (n := 95) (len := 10) (q := 99) hX ⟨rfl, rfl, by decide⟩ hN z58 dX9_bout_98 rfl ?_
      obtain ⟨f1, f2⟩ := some2 h
      rw [f1, f2] at hQ
      exact V_iret hX hQ rfl dX9_bout_99
    have h := ite_t z57 h
    refine V_aload_n (q := 83) hX dX9_bout_82 0 rfl rfl ?_
    refine V_getI (n := 95) (c := 9) (k := 36) (nf := 39) (C := RX9) (T := TX9) (q := 86) hX rfl rfl iG9 k4_218 rfl rfl ⟨rfl, by decide⟩ hN rfl rfl dX9_bout_83 rfl ?_
    refine V_goto hX dX9_bout_86 (q := 99) (by decide) ?_
    obtain ⟨f1, f2⟩ := some2 h
    rw [f1, f2] at hQ
    exact V_iret hX hQ rfl dX9_bout_99
  have h := ite_t z56 h
  refine V_aload_n (q := 70) hX dX9_bout_69 0 rfl rfl ?_
  refine V_getI (n := 95) (c := 9) (k := 35) (nf := 39) (C := RX9) (T := TX9) (q := 73) hX rfl rfl iG9 k4_217 rfl rfl ⟨rfl, by decide⟩ hN rfl rfl dX9_bout_70 rfl ?_
  refine V_goto hX dX9_bout_73 (q := 99) (by decide) ?_
  obtain ⟨f1, f2⟩ := some2 h
  rw [f1, f2] at hQ
  exact V_iret hX hQ rfl dX9_bout_99
set_option maxRecDepth 100000 in
set_option maxHeartbeats 4000000 in
theorem v9_bout {g : GT} {X : XT} {a1 : Int32} {a2 : Int32} {a3 : Int32} {a4 : Int32} (hX : OkX g X (m9_bout)) (hN : 95 ≤ g.N) {res : Int32 × St} (hQ : X.Q = QI g X res.1 res.2 ∧ X.cells = 0 ∧ X.slots = 0) {σ : St} (h : S9_bout a1 a2 a3 a4 σ = some res) : V g X (m9_bout) 0 [(0, .ref (g.ad (75))), (1, .int (a1)), (2, .int (a2)), (3, .int (a3)), (4, .int (a4))] [] σ := by
  unfold S9_bout at h
  refine V_aload_n (q := 1) hX dX9_bout_0 0 rfl rfl ?_
  refine V_iload_n (q := 2) hX dX9_bout_1 1 rfl rfl ?_
  obtain ⟨r60, σ59, e61, h⟩ := bnd_some h
  refine V_cvI (n := 95) (c := 9) (nf := 39) (C := RX9) (T := TX9) (As := [.int (a1)]) (q := 5) hX (c9_areTwoMen hX.2.2.2.2.1 hN e61) (goodV_of k5_114 k5_116 kp_45 k1_16 (cons_g k5_117)) (nA := 1) (by decide) rfl rfl rfl rfl rfl ⟨rfl, by decide⟩ hN rfl rfl rfl dX9_bout_2 rfl ?_
  refine V_if_ne (q := 8) (t := 11) hX dX9_bout_5 (by decide) rfl (fun z62 => ?_) (fun z62 => ?_)
  · have h := ite_f z62 h
    refine V_iload_n (q := 12) hX dX9_bout_11 2 rfl rfl ?_
    obtain ⟨r64, σ63, e65, h⟩ := bnd_some h
    refine V_csI (As := [.int (a2)]) (q := 15) hX (c9_isPlan hX.2.2.2.2.1 hN e65) (goodS_of k5_122 k5_123 k1_16 (cons_g k5_124)) (nA := 1) (by decide) rfl rfl rfl rfl rfl dX9_bout_12 rfl ?_
    refine V_if_eq (q := 18) (t := 47) hX dX9_bout_15 (by decide) rfl (fun z66 => ?_) (fun z66 => ?_)
    · have h := ite_t z66 h
      refine V_bipush (v := -7) (q := 49) hX dX9_bout_47 (by decide) rfl ?_
      obtain ⟨f1, f2⟩ := some2 h
      rw [f1, f2] at hQ
      exact V_iret hX hQ rfl dX9_bout_49
    have h := ite_f z66 h
    refine V_iload_n (q := 19) hX dX9_bout_18 3 rfl rfl ?_
    obtain ⟨r68, σ67, e69, h⟩ := bnd_some h
    refine V_csI (As := [.int (a3)]) (q := 22) hX (c9_isPlan hX.2.2.2.2.1 hN e69) (goodS_of k5_122 k5_123 k1_16 (cons_g k5_124)) (nA := 1) (by decide) rfl rfl rfl rfl rfl dX9_bout_19 rfl ?_
    refine V_if_eq (q := 25) (t := 47) hX dX9_bout_22 (by decide) rfl (fun z70 => ?_) (fun z70 => ?_)
    · have h := ite_t z70 h
      refine V_bipush (v := -7) (q := 49) hX dX9_bout_47 (by decide) rfl ?_
      obtain ⟨f1, f2⟩ := some2 h
      rw [f1, f2] at hQ
      exact V_iret hX hQ rfl dX9_bout_49
    have h := ite_f z70 h
    refine V_iload (q := 27) hX dX9_bout_25 4 rfl rfl ?_
    refine V_iconst (v := 0) (q := 28) hX dX9_bout_27 (by decide) rfl ?_
    refine V_iconst (v := 1) (q := 29) hX dX9_bout_28 (by decide) rfl ?_
    obtain ⟨r72, σ71, e73, h⟩ := bnd_some h
    refine V_csI (As := [.int (a4), .int ((0 : Int32)), .int ((1 : Int32))]) (q := 32) hX (c9_in hX.2.2.2.2.1 hN e73) (goodS_of k4_143 k4_144 k1_16 (cons_g k4_145)) (nA := 3) (by decide) rfl rfl rfl rfl rfl dX9_bout_29 rfl ?_
    refine V_if_ne (q := 35) (t := 50) hX dX9_bout_32 (by decide) rfl (fun z74 => ?_) (fun z74 => ?_)
    · have h := ite_f z74 h
      refine V.pick [0, 1, 2, 3, 4] rfl ?_
      exact v9_bout_50 hX hN hQ σ71 h
    have h := ite_t z74 h
    refine V_iload (q := 37) hX dX9_bout_35 4 rfl rfl ?_
    refine V_bipush (v := 10) (q := 39) hX dX9_bout_37 (by decide) rfl ?_
    refine V_bipush (v := 19) (q := 41) hX dX9_bout_39 (by decide) rfl ?_
    obtain ⟨r76, σ75, e77, h⟩ := bnd_some h
    refine V_csI (As := [.int (a4), .int ((10 : Int32)), .int ((19 : Int32))]) (q := 44) hX (c9_in hX.2.2.2.2.1 hN e77) (goodS_of k4_143 k4_144 k1_16 (cons_g k4_145)) (nA := 3) (by decide) rfl rfl rfl rfl rfl dX9_bout_41 rfl ?_
    refine V_if_ne (q := 47) (t := 50) hX dX9_bout_44 (by decide) rfl (fun z78 => ?_) (fun z78 => ?_)
    · have h := ite_f z78 h
      refine V.pick [0, 1, 2, 3, 4] rfl ?_
      exact v9_bout_50 hX hN hQ σ75 h
    have h := ite_t z78 h
    refine V_bipush (v := -7) (q := 49) hX dX9_bout_47 (by decide) rfl ?_
    obtain ⟨f1, f2⟩ := some2 h
    rw [f1, f2] at hQ
    exact V_iret hX hQ rfl dX9_bout_49
  have h := ite_t z62 h
  refine V_bipush (v := -5) (q := 10) hX dX9_bout_8 (by decide) rfl ?_
  obtain ⟨f1, f2⟩ := some2 h
  rw [f1, f2] at hQ
  exact V_iret hX hQ rfl dX9_bout_10
set_option maxRecDepth 100000 in
set_option maxHeartbeats 4000000 in
theorem c9_bout {g : GT} {l : Launch} (hg : OkG g) (hN : 95 ≤ g.N) {a1 : Int32} {a2 : Int32} {a3 : Int32} {a4 : Int32} {σ : St} {r : Int32} {σ' : St} (h : S9_bout a1 a2 a3 a4 σ = some (r, σ')) : CtI g l m9_bout yX9_bout [.ref (g.ad (75)), .int (a1), .int (a2), .int (a3), .int (a4)] σ r σ' := CtI.of hg (by decide) rfl rfl (fun X h1 h2 h3 => v9_bout h1 hN (res := (r, σ')) h3 h)
