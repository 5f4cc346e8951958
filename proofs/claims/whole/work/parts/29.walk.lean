abbrev m8_menBy : MI := (cX8_menBy, RX8, 10, some .int, 3)
def S8_menBy_131 (a1 : Int32) (a2 : Int32) (a3 : Int32) (a4 : Int32) (k72 : Nat → Int32 → Int32 → St → Option (Int32 × St)) (x6 : Nat) (x8 : Int32) (s0 : Int32) (s1 : Int32) (σ : St) : Option (Int32 × St) := k72 x6 (s0 + s1) (x8 + 1) σ
def B8_menBy_72 (a1 : Int32) (a2 : Int32) (a3 : Int32) (a4 : Int32) (rec : Nat → Int32 → Int32 → St → Option (Int32 × St)) (x6 : Nat) (x7 : Int32) (x8 : Int32) (σ : St) : Option (Int32 × St) := if a4 ≤ x8 then (some (x7, σ)) else (bnd (S3_hasFrom x6 (a3 + ((2 : Int32) * x8)) (2 : Int32) σ) fun r96 σ95 => if r96 = 0 then (some ((-12 : Int32), σ95)) else (bnd (S3_at x6 (a3 + ((2 : Int32) * x8)) σ95) fun r100 σ99 => bnd (S3_at x6 ((a3 + ((2 : Int32) * x8)) + (1 : Int32)) σ99) fun r103 σ102 => bnd (S8_man r100 r103 σ102) fun r106 σ105 => if r106 < 0 then (S8_menBy_131 a1 a2 a3 a4 rec x6 x8 x7 (0 : Int32) σ105) else (S8_menBy_131 a1 a2 a3 a4 rec x6 x8 x7 (1 : Int32) σ105)))
def S8_menBy_72 (a1 : Int32) (a2 : Int32) (a3 : Int32) (a4 : Int32) : Nat → Nat → Int32 → Int32 → St → Option (Int32 × St)
  | 0, _, _, _, _ => none
  | n + 1, x6, x7, x8, σ => B8_menBy_72 a1 a2 a3 a4 (S8_menBy_72 a1 a2 a3 a4 n) x6 x7 x8 σ
def S8_menBy (a1 : Int32) (a2 : Int32) (a3 : Int32) (a4 : Int32) (σ : St) : Option (Int32 × St) := bnd (S8_isSheet a1 σ) fun r110 σ109 => if r110 = 0 then (some ((-2 : Int32), σ109)) else (if a2 < 0 then (some ((-2 : Int32), σ109)) else (if (2 : Int32) < a2 then (some ((-2 : Int32), σ109)) else (if a4 < 0 then (some ((-2 : Int32), σ109)) else (if a4 ≤ (6 : Int32) then (bnd (S8_sheetFault a1 σ109) fun r118 σ117 => if r118 = 0 then (bnd (S8_sheetAt a1 σ117) fun r122 σ121 => if (gI σ121 r122 1) = a2 then (S8_menBy_72 a1 a2 a3 a4 4096 r122 (0 : Int32) (0 : Int32) σ121) else (some ((-13 : Int32), σ121))) else (some (r118, σ117))) else (some ((-2 : Int32), σ109))))))
set_option maxRecDepth 100000 in
set_option maxHeartbeats 4000000 in
theorem v8_menBy_131 {g : GT} {X : XT} {a1 : Int32} {a2 : Int32} {a3 : Int32} {a4 : Int32} (hX : OkX g X (m8_menBy)) (hN : 75 ≤ g.N) {res : Int32 × St} (hQ : X.Q = QI g X res.1 res.2 ∧ X.cells = 0 ∧ X.slots = 0)  {k72 : Nat → Int32 → Int32 → St → Option (Int32 × St)} (hk72 : ∀ (x6 : Nat) (x7 : Int32) (x8 : Int32) (σ : St) (hx6 : Ob 75 3 x6), k72 x6 x7 x8 σ = some res → V g X (m8_menBy) 72 [(0, .ref (g.ad (0))), (3, .int (a3)), (4, .int (a4)), (6, .ref (g.ad (x6))), (7, .int (x7)), (8, .int (x8))] [] σ) (x6 : Nat) (x8 : Int32) (s0 : Int32) (s1 : Int32) (σ : St) (hx6 : Ob 75 3 x6) (h : S8_menBy_131 a1 a2 a3 a4 k72 x6 x8 s0 s1 σ = some res) : V g X (m8_menBy) 131 [(0, .ref (g.ad (0))), (3, .int (a3)), (4, .int (a4)), (6, .ref (g.ad (x6))), (8, .int (x8))] [.int (s1), .int (s0)] σ := by
  unfold S8_menBy_131 at h
  refine V_iadd (q := 132) hX dX8_menBy_131 rfl ?_
  refine V_istore (lv' := [(7, .int ((s0 + s1))), (0, .ref (g.ad (0))), (3, .int (a3)), (4, .int (a4)), (6, .ref (g.ad (x6))), (8, .int (x8))]) (q := 134) hX dX8_menBy_132 rfl rfl rfl ?_
  refine V_iinc (v := (x8 + 1)) (lv' := [(8, .int ((x8 + 1))), (7, .int ((s0 + s1))), (0, .ref (g.ad (0))), (3, .int (a3)), (4, .int (a4)), (6, .ref (g.ad (x6)))]) (q := 137) hX dX8_menBy_134 5 rfl (by rfl) rfl rfl rfl ?_
  refine V_goto hX dX8_menBy_137 (q := 72) (by decide) ?_
  refine V.pick [2, 3, 4, 5, 1, 0] rfl ?_
  exact hk72 x6 (s0 + s1) (x8 + 1) σ hx6 h
set_option maxRecDepth 100000 in
set_option maxHeartbeats 4000000 in
theorem v8_menBy_72n {g : GT} {X : XT} {a1 : Int32} {a2 : Int32} {a3 : Int32} {a4 : Int32} (hX : OkX g X (m8_menBy)) (hN : 75 ≤ g.N) {res : Int32 × St} (hQ : X.Q = QI g X res.1 res.2 ∧ X.cells = 0 ∧ X.slots = 0)   (n : Nat) : ∀ (x6 : Nat) (x7 : Int32) (x8 : Int32) (σ : St) (hx6 : Ob 75 3 x6), S8_menBy_72 a1 a2 a3 a4 n x6 x7 x8 σ = some res → V g X (m8_menBy) 72 [(0, .ref (g.ad (0))), (3, .int (a3)), (4, .int (a4)), (6, .ref (g.ad (x6))), (7, .int (x7)), (8, .int (x8))] [] σ := by
  induction n with
  | zero => intro x6 x7 x8 σ hx6; intro h; cases h
  | succ n ih =>
    intro x6 x7 x8 σ hx6 h
    have h : B8_menBy_72 a1 a2 a3 a4 (S8_menBy_72 a1 a2 a3 a4 n) x6 x7 x8 σ = some res := h
    unfold B8_menBy_72 at h
    refine V_iload (q := 74) hX dX8_menBy_72 5 rfl rfl ?_
    refine V_iload (q := 76) hX dX8_menBy_74 2 rfl rfl ?_
    refine V_icmp_ge (q := 79) (t := 140) hX dX8_menBy_76 (by decide) rfl (fun z94 => ?_) (fun z94 => ?_)
    · have h := ite_t z94 h
      refine V_iload (q := 142) hX dX8_menBy_140 4 rfl rfl ?_
      obtain ⟨f1, f2⟩ := some2 h
      rw [f1, f2] at hQ
      exact V_iret hX hQ rfl dX8_menBy_142
    have h := ite_f z94 h
    refine V_iload_n (q := 80) hX dX8_menBy_79 1 rfl rfl ?_
    refine V_iconst (v := 2) (q := 81) hX dX8_menBy_80 (by decide) rfl ?_
    refine V_iload (q := 83) hX dX8_menBy_81 5 rfl rfl ?_
    refine V_imul (q := 84) hX dX8_menBy_83 rfl ?_
    refine V_iadd (q := 85) hX dX8_menBy_84 rfl ?_
    refine V_istore (lv' := [(9, .int ((a3 + ((2 : Int32) * x8)))), (0, .ref (g.ad (0))), (3, .int (a3)), (4, .int (a4)), (6, .ref (g.ad (x6))), (7, .int (x7)), (8, .int (x8))]) (q := 87) hX dX8_menBy_85 rfl rfl rfl ?_
    refine V_aload (q := 89) hX dX8_menBy_87 4 rfl rfl ?_
    refine V_iload (q := 91) hX dX8_menBy_89 0 rfl rfl ?_
    refine V_iconst (v := 2) (q := 92) hX dX8_menBy_91 (by decide) rfl ?_
    obtain ⟨r96, σ95, e97, h⟩ := bnd_some h
    refine V_cvI (n := 75) (c := 3) (nf := 3) (C := RX3) (T := TX3) (As := [.int ((a3 + ((2 : Int32) * x8))), .int ((2 : Int32))]) (q := 95) hX (c3_hasFrom hX.2.2.2.2.1 hN hx6 e97) (goodV_of k4_108 k4_109 k4_110 k1_9 (cons_g k4_111)) (nA := 2) (by decide) rfl rfl rfl rfl rfl hx6 hN rfl rfl rfl dX8_menBy_92 rfl ?_
    refine V_if_ne (q := 98) (t := 101) hX dX8_menBy_95 (by decide) rfl (fun z98 => ?_) (fun z98 => ?_)
    · have h := ite_f z98 h
      refine V_iload (q := 103) hX dX8_menBy_101 5 rfl rfl ?_
      refine V_aload_n (q := 104) hX dX8_menBy_103 1 rfl rfl ?_
      refine V_aload (q := 106) hX dX8_menBy_104 4 rfl rfl ?_
      refine V_iload (q := 108) hX dX8_menBy_106 0 rfl rfl ?_
      obtain ⟨r100, σ99, e101, h⟩ := bnd_some h
      refine V_cvI (n := 75) (c := 3) (nf := 3) (C := RX3) (T := TX3) (As := [.int ((a3 + ((2 : Int32) * x8)))]) (q := 111) hX (c3_at hX.2.2.2.2.1 hN hx6 e101) (goodV_of k3_235 k3_236 k3_237 k1_9 (cons_g k3_238)) (nA := 1) (by decide) rfl rfl rfl rfl rfl hx6 hN rfl rfl rfl dX8_menBy_108 rfl ?_
      refine V_aload (q := 113) hX dX8_menBy_111 4 rfl rfl ?_
      refine V_iload (q := 115) hX dX8_menBy_113 0 rfl rfl ?_
      refine V_iconst (v := 1) (q := 116) hX dX8_menBy_115 (by decide) rfl ?_
      refine V_iadd (q := 117) hX dX8_menBy_116 rfl ?_
      obtain ⟨r103, σ102, e104, h⟩ := bnd_some h
      refine V_cvI (n := 75) (c := 3) (nf := 3) (C := RX3) (T := TX3) (As := [.int (((a3 + ((2 : Int32) * x8)) + (1 : Int32)))]) (q := 120) hX (c3_at hX.2.2.2.2.1 hN hx6 e104) (goodV_of k3_235 k3_236 k3_237 k1_9 (cons_g k3_238)) (nA := 1) (by decide) rfl rfl rfl rfl rfl hx6 hN rfl rfl rfl dX8_menBy_117 rfl ?_
      obtain ⟨r106, σ105, e107, h⟩ := bnd_some h
      refine V_cvI (n := 75) (c := 8) (nf := 11) (C := RX8) (T := TX8) (As := [.int (r100), .int (r103)]) (q := 123) hX (c8_man hX.2.2.2.2.1 hN e107) (goodV_of k4_123 k3_40 k3_41 k1_1 (cons_g k3_42)) (nA := 2) (by decide) rfl rfl rfl rfl rfl ⟨rfl, by decide⟩ hN rfl rfl rfl dX8_menBy_120 rfl ?_
      refine V_if_lt (q := 126) (t := 130) hX dX8_menBy_123 (by decide) rfl (fun z108 => ?_) (fun z108 => ?_)
      · have h := ite_t z108 h
        refine V_iconst (v := 0) (q := 131) hX dX8_menBy_130 (by decide) rfl ?_
        refine V.pick [1, 2, 3, 4, 6] rfl ?_
        exact v8_menBy_131 hX hN hQ ih x6 x8 x7 (0 : Int32) σ105 hx6 h
      have h := ite_f z108 h
      refine V_iconst (v := 1) (q := 127) hX dX8_menBy_126 (by decide) rfl ?_
      refine V_goto hX dX8_menBy_127 (q := 131) (by decide) ?_
      refine V.pick [1, 2, 3, 4, 6] rfl ?_
      exact v8_menBy_131 hX hN hQ ih x6 x8 x7 (1 : Int32) σ105 hx6 h
    have h := ite_t z98 h
    refine V_bipush (v := -12) (q := 100) hX dX8_menBy_98 (by decide) rfl ?_
    obtain ⟨f1, f2⟩ := some2 h
    rw [f1, f2] at hQ
    exact V_iret hX hQ rfl dX8_menBy_100
theorem v8_menBy_72 {g : GT} {X : XT} {a1 : Int32} {a2 : Int32} {a3 : Int32} {a4 : Int32} (hX : OkX g X (m8_menBy)) (hN : 75 ≤ g.N) {res : Int32 × St} (hQ : X.Q = QI g X res.1 res.2 ∧ X.cells = 0 ∧ X.slots = 0) (x6 : Nat) (x7 : Int32) (x8 : Int32) (σ : St) (hx6 : Ob 75 3 x6) (h : S8_menBy_72 a1 a2 a3 a4 4096 x6 x7 x8 σ = some res) : V g X (m8_menBy) 72 [(0, .ref (g.ad (0))), (3, .int (a3)), (4, .int (a4)), (6, .ref (g.ad (x6))), (7, .int (x7)), (8, .int (x8))] [] σ := v8_menBy_72n hX hN hQ 4096 x6 x7 x8 σ hx6 h
set_option maxRecDepth 100000 in
set_option maxHeartbeats 4000000 in
theorem v8_menBy {g : GT} {X : XT} {a1 : Int32} {a2 : Int32} {a3 : Int32} {a4 : Int32} (hX : OkX g X (m8_menBy)) (hN : 75 ≤ g.N) {res : Int32 × St} (hQ : X.Q = QI g X res.1 res.2 ∧ X.cells = 0 ∧ X.slots = 0) {σ : St} (h : S8_menBy a1 a2 a3 a4 σ = some res) : V g X (m8_menBy) 0 [(0, .ref (g.ad (0))), (1, .int (a1)), (2, .int (a2)), (3, .int (a3)), (4, .int (a4))] [] σ := by
  unfold S8_menBy at h
  refine V_aload_n (q := 1) hX dX8_menBy_0 0 rfl rfl ?_
  refine V_iload_n (q := 2) hX dX8_menBy_1 1 rfl rfl ?_
  obtain ⟨r110, σ109, e111, h⟩ := bnd_some h
  refine V_cvI (n := 75) (c := 8) (nf := 11) (C := RX8) (T := TX8) (As := [.int (a1)]) (q := 5) hX (c8_isSheet hX.2.2.2.2.1 hN e111) (goodV_of k3_227 k3_229 kp_26 k1_1 (cons_g k3_230)) (nA := 1) (by decide) rfl rfl rfl rfl rfl ⟨rfl, by decide⟩ hN rfl rfl rfl dX8_menBy_2 rfl ?_
  refine V_if_eq (q := 8) (t := 29) hX dX8_menBy_5 (by decide) rfl (fun z112 => ?_) (fun z112 => ?_)
  · have h := ite_t z112 h
    refine V_bipush (v := -2) (q := 31) hX dX8_menBy_29 (by decide) rfl ?_
    obtain ⟨f1, f2⟩ := some2 h
    rw [f1, f2] at hQ
    exact V_iret hX hQ rfl dX8_menBy_31
  have h := ite_f z112 h
  refine V_iload_n (q := 9) hX dX8_menBy_8 2 rfl rfl ?_
  refine V_if_lt (q := 12) (t := 29) hX dX8_menBy_9 (by decide) rfl (fun z113 => ?_) (fun z113 => ?_)
  · have h := ite_t z113 h
    refine V_bipush (v := -2) (q := 31) hX dX8_menBy_29 (by decide) rfl ?_
    obtain ⟨f1, f2⟩ := some2 h
    rw [f1, f2] at hQ
    exact V_iret hX hQ rfl dX8_menBy_31
  have h := ite_f z113 h
  refine V_iload_n (q := 13) hX dX8_menBy_12 2 rfl rfl ?_
  refine V_iconst (v := 2) (q := 14) hX dX8_menBy_13 (by decide) rfl ?_
  refine V_icmp_gt (q := 17) (t := 29) hX dX8_menBy_14 (by decide) rfl (fun z114 => ?_) (fun z114 => ?_)
  · have h := ite_t z114 h
    refine V_bipush (v := -2) (q := 31) hX dX8_menBy_29 (by decide) rfl ?_
    obtain ⟨f1, f2⟩ := some2 h
    rw [f1, f2] at hQ
    exact V_iret hX hQ rfl dX8_menBy_31
  have h := ite_f z114 h
  refine V_iload (q := 19) hX dX8_menBy_17 4 rfl rfl ?_
  refine V_if_lt (q := 22) (t := 29) hX dX8_menBy_19 (by decide) rfl (fun z115 => ?_) (fun z115 => ?_)
  · have h := ite_t z115 h
    refine V_bipush (v := -2) (q := 31) hX dX8_menBy_29 (by decide) rfl ?_
    obtain ⟨f1, f2⟩ := some2 h
    rw [f1, f2] at hQ
    exact V_iret hX hQ rfl dX8_menBy_31
  have h := ite_f z115 h
  refine V_iload (q := 24) hX dX8_menBy_22 4 rfl rfl ?_
  refine V_bipush (v := 6) (q := 26) hX dX8_menBy_24 (by decide) rfl ?_
  refine V_icmp_le (q := 29) (t := 32) hX dX8_menBy_26 (by decide) rfl (fun z116 => ?_) (fun z116 => ?_)
  · have h := ite_t z116 h
    refine V_aload_n (q := 33) hX dX8_menBy_32 0 rfl rfl ?_
    refine V_iload_n (q := 34) hX dX8_menBy_33 1 rfl rfl ?_
    obtain ⟨r118, σ117, e119, h⟩ := bnd_some h
    refine V_cvI (n := 75) (c := 8) (nf := 11) (C := RX8) (T := TX8) (As := [.int (a1)]) (q := 37) hX (c8_sheetFault hX.2.2.2.2.1 hN e119) (goodV_of k3_223 k3_225 kp_25 k1_1 (cons_g k3_226)) (nA := 1) (by decide) rfl rfl rfl rfl rfl ⟨rfl, by decide⟩ hN rfl rfl rfl dX8_menBy_34 rfl ?_
    refine V_istore (lv' := [(5, .int (r118)), (0, .ref (g.ad (0))), (1, .int (a1)), (2, .int (a2)), (3, .int (a3)), (4, .int (a4))]) (q := 39) hX dX8_menBy_37 rfl rfl rfl ?_
    refine V_iload (q := 41) hX dX8_menBy_39 0 rfl rfl ?_
    refine V_if_eq (q := 44) (t := 47) hX dX8_menBy_41 (by decide) rfl (fun z120 => ?_) (fun z120 => ?_)
    · have h := ite_t z120 h
      refine V_aload_n (q := 48) hX dX8_menBy_47 1 rfl rfl ?_
      refine V_iload_n (q := 49) hX dX8_menBy_48 2 rfl rfl ?_
      obtain ⟨r122, σ121, e123, h⟩ := bnd_some h
      refine V_cvR (n := 75) (c := 8) (nf := 11) (C := RX8) (T := TX8) (As := [.int (a1)]) (q := 52) hX (c8_sheetAt hX.2.2.2.2.1 hN e123) (goodV_of k3_231 k3_233 kp_27 k1_1 (cons_g k3_234)) (nA := 1) (by decide) rfl rfl rfl rfl rfl ⟨rfl, by decide⟩ hN rfl rfl rfl dX8_menBy_49 rfl ?_
      refine V_astore (lv' := [(6, .ref (g.ad (r122))), (5, .int (r118)), (0, .ref (g.ad (0))), (1, .int (a1)), (2, .int (a2)), (3, .int (a3)), (4, .int (a4))]) (q := 54) hX dX8_menBy_52 rfl rfl rfl ?_
      refine V_aload (q := 56) hX dX8_menBy_54 0 rfl rfl ?_
      refine V_getI (n := 75) (c := 3) (k := 1) (nf := 3) (C := RX3) (T := TX3) (q := 59) hX rfl rfl iG3 k1_215 rfl rfl (sh8_sheetAt  e123) hN rfl rfl dX8_menBy_56 rfl ?_
      refine V_iload_n (q := 60) hX dX8_menBy_59 4 rfl rfl ?_
      refine V_icmp_eq (q := 63) (t := 66) hX dX8_menBy_60 (by decide) rfl (fun z124 => ?_) (fun z124 => ?_)
      · have h := ite_t z124 h
        refine V_iconst (v := 0) (q := 67) hX dX8_menBy_66 (by decide) rfl ?_
        refine V_istore (lv' := [(7, .int ((0 : Int32))), (6, .ref (g.ad (r122))), (5, .int (r118)), (0, .ref (g.ad (0))), (1, .int (a1)), (2, .int (a2)), (3, .int (a3)), (4, .int (a4))]) (q := 69) hX dX8_menBy_67 rfl rfl rfl ?_
        refine V_iconst (v := 0) (q := 70) hX dX8_menBy_69 (by decide) rfl ?_
        refine V_istore (lv' := [(8, .int ((0 : Int32))), (7, .int ((0 : Int32))), (6, .ref (g.ad (r122))), (5, .int (r118)), (0, .ref (g.ad (0))), (1, .int (a1)), (2, .int (a2)), (3, .int (a3)), (4, .int (a4))]) (q := 72) hX dX8_menBy_70 rfl rfl rfl ?_
        refine V.pick [4, 7, 8, 2, 1, 0] rfl ?_
        exact v8_menBy_72 hX hN hQ r122 (0 : Int32) (0 : Int32) σ121 (sh8_sheetAt e123) h
      have h := ite_f z124 h
      refine V_bipush (v := -13) (q := 65) hX dX8_menBy_63 (by decide) rfl ?_
      obtain ⟨f1, f2⟩ := some2 h
      rw [f1, f2] at hQ
      exact V_iret hX hQ rfl dX8_menBy_65
    have h := ite_f z120 h
    refine V_iload (q := 46) hX dX8_menBy_44 0 rfl rfl ?_
    obtain ⟨f1, f2⟩ := some2 h
    rw [f1, f2] at hQ
    exact V_iret hX hQ rfl dX8_menBy_46
  have h := ite_f z116 h
  refine V_bipush (v := -2) (q := 31) hX dX8_menBy_29 (by decide) rfl ?_
  obtain ⟨f1, f2⟩ := some2 h
  rw [f1, f2] at hQ
  exact V_iret hX hQ rfl dX8_menBy_31
set_option maxRecDepth 100000 in
set_option maxHeartbeats 4000000 in
theorem c8_menBy {g : GT} {l : Launch} (hg : OkG g) (hN : 75 ≤ g.N) {a1 : Int32} {a2 : Int32} {a3 : Int32} {a4 : Int32} {σ : St} {r : Int32} {σ' : St} (h : S8_menBy a1 a2 a3 a4 σ = some (r, σ')) : CtI g l m8_menBy yX8_menBy [.ref (g.ad (0)), .int (a1), .int (a2), .int (a3), .int (a4)] σ r σ' := CtI.of hg (by decide) rfl rfl (fun X h1 h2 h3 => v8_menBy h1 hN (res := (r, σ')) h3 h)

abbrev m8_taken : MI := (cX8_taken, RX8, 5, some .int, 2)
def S8_taken_96 (a1 : Int32) (a2 : Int32) (x3 : Int32) (σ : St) : Option (Int32 × St) := if x3 = 0 then (bnd (S5_at 1 (jrem a1 (6 : Int32)) σ) fun r49 σ48 => some ((gI σ48 r49 5), σ48)) else (some (a1, σ))
def S8_taken_66 (a1 : Int32) (a2 : Int32) (x3 : Int32) (s0 : Int32) (σ : St) : Option (Int32 × St) := if x3 = s0 then (if x3 = 0 then (S8_taken_96 a1 a2 x3 σ) else (bnd (S5_at 1 a1 σ) fun r54 σ53 => bnd (S7_isOf r54 a2 σ53) fun r57 σ56 => if r57 = 0 then (some ((-13 : Int32), σ56)) else (S8_taken_96 a1 a2 x3 σ56))) else (some ((-13 : Int32), σ))
def S8_taken_54 (a1 : Int32) (a2 : Int32) (s0 : Int32) (σ : St) : Option (Int32 × St) := if (6 : Int32) ≤ a2 then (S8_taken_66 a1 a2 s0 (0 : Int32) σ) else (S8_taken_66 a1 a2 s0 (1 : Int32) σ)
def S8_taken (a1 : Int32) (a2 : Int32) (σ : St) : Option (Int32 × St) := if a2 < 0 then (some ((-2 : Int32), σ)) else (if a2 ≤ (6 : Int32) then (if a1 < 0 then (some ((-12 : Int32), σ)) else (if a1 < (12 : Int32) then (bnd (S5_has 1 (jrem a1 (6 : Int32)) σ) fun r66 σ65 => if r66 = 0 then (some ((-11 : Int32), σ65)) else (if (6 : Int32) ≤ a1 then (S8_taken_54 a1 a2 (0 : Int32) σ65) else (S8_taken_54 a1 a2 (1 : Int32) σ65))) else (some ((-12 : Int32), σ)))) else (some ((-2 : Int32), σ)))
set_option maxRecDepth 100000 in
set_option maxHeartbeats 4000000 in
theorem v8_taken_96 {g : GT} {X : XT} {a1 : Int32} {a2 : Int32} (hX : OkX g X (m8_taken)) (hN : 75 ≤ g.N) {res : Int32 × St} (hQ : X.Q = QI g X res.1 res.2 ∧ X.cells = 0 ∧ X.slots = 0)   (x3 : Int32) (σ : St)  (h : S8_taken_96 a1 a2 x3 σ = some res) : V g X (m8_taken) 96 [(0, .ref (g.ad (0))), (1, .int (a1)), (3, .int (x3))] [] σ := by
  unfold S8_taken_96 at h
  refine V_iload_n (q := 97) hX dX8_taken_96 2 rfl rfl ?_
  refine V_if_eq (q := 100) (t := 104) hX dX8_taken_97 (by decide) rfl (fun z47 => ?_) (fun z47 => ?_)
  · have h := ite_t z47 h
    refine V_aload_n (q := 105) hX dX8_taken_104 0 rfl rfl ?_
    refine V_getF (r := 1) (n := 75) (c := 8) (k := 0) (nf := 11) (C := RX8) (T := TX8) (q := 108) hX rfl rfl iG8 k2_175 rfl rfl ⟨rfl, by decide⟩ hN rfl rfl rfl rfl dX8_taken_105 rfl ?_
    refine V_iload_n (q := 109) hX dX8_taken_108 1 rfl rfl ?_
    refine V_bipush (v := 6) (q := 111) hX dX8_taken_109 (by decide) rfl ?_
    refine V_irem (q := 112) hX (by decide) dX8_taken_111 rfl ?_
    obtain ⟨r49, σ48, e50, h⟩ := bnd_some h
    refine V_cvR (n := 75) (c := 5) (nf := 4) (C := RX5) (T := TX5) (As := [.int ((jrem a1 (6 : Int32)))]) (q := 115) hX (c5_at hX.2.2.2.2.1 hN ⟨rfl, by decide⟩ e50) (goodV_of k3_5 k3_6 k3_7 k1_2 (cons_g k3_8)) (nA := 1) (by decide) rfl rfl rfl rfl rfl ⟨rfl, by decide⟩ hN rfl rfl rfl dX8_taken_112 rfl ?_
    refine V_getI (n := 75) (c := 7) (k := 5) (nf := 7) (C := RX7) (T := TX7) (q := 118) hX rfl rfl iG7 k1_52 rfl rfl (sh5_at ⟨rfl, by decide⟩ e50) hN rfl rfl dX8_taken_115 rfl ?_
    obtain ⟨f1, f2⟩ := some2 h
    rw [f1, f2] at hQ
    exact V_iret hX hQ rfl dX8_taken_118
  have h := ite_f z47 h
  refine V_iload_n (q := 101) hX dX8_taken_100 1 rfl rfl ?_
  refine V_goto hX dX8_taken_101 (q := 118) (by decide) ?_
  obtain ⟨f1, f2⟩ := some2 h
  rw [f1, f2] at hQ
  exact V_iret hX hQ rfl dX8_taken_118
set_option maxRecDepth 100000 in
set_option maxHeartbeats 4000000 in
theorem v8_taken_66 {g : GT} {X : XT} {a1 : Int32} {a2 : Int32} (hX : OkX g X (m8_taken)) (hN : 75 ≤ g.N) {res : Int32 × St} (hQ : X.Q = QI g X res.1 res.2 ∧ X.cells = 0 ∧ X.slots = 0)   (x3 : Int32) (s0 : Int32) (σ : St)  (h : S8_taken_66 a1 a2 x3 s0 σ = some res) : V g X (m8_taken) 66 [(0, .ref (g.ad (0))), (1, .int (a1)), (2, .int (a2)), (3, .int (x3))] [.int (s0)] σ := by
  unfold S8_taken_66 at h
  refine V_istore (lv' := [(4, .int (s0)), (0, .ref (g.ad (0))), (1, .int (a1)), (2, .int (a2)), (3, .int (x3))]) (q := 68) hX dX8_taken_66 rfl rfl rfl ?_
  refine V_iload_n (q := 69) hX dX8_taken_68 4 rfl rfl ?_
  refine V_iload (q := 71) hX dX8_taken_69 0 rfl rfl ?_
  refine V_icmp_ne (q := 74) (t := 93) hX dX8_taken_71 (by decide) rfl (fun z51 => ?_) (fun z51 => ?_)
  · have h := ite_f z51 h
    refine V_bipush (v := -13) (q := 95) hX dX8_taken_93 (by decide) rfl ?_
    obtain ⟨f1, f2⟩ := some2 h
    rw [f1, f2] at hQ
    exact V_iret hX hQ rfl dX8_taken_95
  have h := ite_t z51 h
  refine V_iload_n (q := 75) hX dX8_taken_74 4 rfl rfl ?_
  refine V_if_eq (q := 78) (t := 96) hX dX8_taken_75 (by decide) rfl (fun z52 => ?_) (fun z52 => ?_)
  · have h := ite_t z52 h
    refine V.pick [1, 2, 4] rfl ?_
    exact v8_taken_96 hX hN hQ x3 σ h
  have h := ite_f z52 h
  refine V_aload_n (q := 79) hX dX8_taken_78 1 rfl rfl ?_
  refine V_getF (r := 1) (n := 75) (c := 8) (k := 0) (nf := 11) (C := RX8) (T := TX8) (q := 82) hX rfl rfl iG8 k2_175 rfl rfl ⟨rfl, by decide⟩ hN rfl rfl rfl rfl dX8_taken_79 rfl ?_
  refine V_iload_n (q := 83) hX dX8_taken_82 2 rfl rfl ?_
  obtain ⟨r54, σ53, e55, h⟩ := bnd_some h
  refine V_cvR (n := 75) (c := 5) (nf := 4) (C := RX5) (T := TX5) (As := [.int (a1)]) (q := 86) hX (c5_at hX.2.2.2.2.1 hN ⟨rfl, by decide⟩ e55) (goodV_of k3_5 k3_6 k3_7 k1_2 (cons_g k3_8)) (nA := 1) (by decide) rfl rfl rfl rfl rfl ⟨rfl, by decide⟩ hN rfl rfl rfl dX8_taken_83 rfl ?_
  refine V_iload_n (q := 87) hX dX8_taken_86 3 rfl rfl ?_
  obtain ⟨r57, σ56, e58, h⟩ := bnd_some h
  refine V_cvI (n := 75) (c := 7) (nf := 7) (C := RX7) (T := TX7) (As := [.int (a2)]) (q := 90) hX (c7_isOf hX.2.2.2.2.1 hN (sh5_at ⟨rfl, by decide⟩ e55) e58) (goodV_of k4_128 k3_107 k3_108 k1_3 (cons_g k3_109)) (nA := 1) (by decide) rfl rfl rfl rfl rfl (sh5_at ⟨rfl, by decide⟩ e55) hN rfl rfl rfl dX8_taken_87 rfl ?_
  refine V_if_ne (q := 93) (t := 96) hX dX8_taken_90 (by decide) rfl (fun z59 => ?_) (fun z59 => ?_)
  · have h := ite_f z59 h
    refine V.pick [1, 2, 4] rfl ?_
    exact v8_taken_96 hX hN hQ x3 σ56 h
  have h := ite_t z59 h
  refine V_bipush (v := -13) (q := 95) hX dX8_taken_93 (by decide) rfl ?_
  obtain ⟨f1, f2⟩ := some2 h
  rw [f1, f2] at hQ
  exact V_iret hX hQ rfl dX8_taken_95
set_option maxRecDepth 100000 in
set_option maxHeartbeats 4000000 in
theorem v8_taken_54 {g : GT} {X : XT} {a1 : Int32} {a2 : Int32} (hX : OkX g X (m8_taken)) (hN : 75 ≤ g.N) {res : Int32 × St} (hQ : X.Q = QI g X res.1 res.2 ∧ X.cells = 0 ∧ X.slots = 0)   (s0 : Int32) (σ : St)  (h : S8_taken_54 a1 a2 s0 σ = some res) : V g X (m8_taken) 54 [(0, .ref (g.ad (0))), (1, .int (a1)), (2, .int (a2))] [.int (s0)] σ := by
  unfold S8_taken_54 at h
  refine V_istore_n (lv' := [(3, .int (s0)), (0, .ref (g.ad (0))), (1, .int (a1)), (2, .int (a2))]) (q := 55) hX dX8_taken_54 rfl rfl rfl ?_
  refine V_iload_n (q := 56) hX dX8_taken_55 3 rfl rfl ?_
  refine V_bipush (v := 6) (q := 58) hX dX8_taken_56 (by decide) rfl ?_
  refine V_icmp_ge (q := 61) (t := 65) hX dX8_taken_58 (by decide) rfl (fun z60 => ?_) (fun z60 => ?_)
  · have h := ite_t z60 h
    refine V_iconst (v := 0) (q := 66) hX dX8_taken_65 (by decide) rfl ?_
    refine V.pick [1, 2, 3, 0] rfl ?_
    exact v8_taken_66 hX hN hQ s0 (0 : Int32) σ h
  have h := ite_f z60 h
  refine V_iconst (v := 1) (q := 62) hX dX8_taken_61 (by decide) rfl ?_
  refine V_goto hX dX8_taken_62 (q := 66) (by decide) ?_
  refine V.pick [1, 2, 3, 0] rfl ?_
  exact v8_taken_66 hX hN hQ s0 (1 : Int32) σ h
set_option maxRecDepth 100000 in
set_option maxHeartbeats 4000000 in
theorem v8_taken {g : GT} {X : XT} {a1 : Int32} {a2 : Int32} (hX : OkX g X (m8_taken)) (hN : 75 ≤ g.N) {res : Int32 × St} (hQ : X.Q = QI g X res.1 res.2 ∧ X.cells = 0 ∧ X.slots = 0) {σ : St} (h : S8_taken a1 a2 σ = some res) : V g X (m8_taken) 0 [(0, .ref (g.ad (0))), (1, .int (a1)), (2, .int (a2))] [] σ := by
  unfold S8_taken at h
  refine V_iload_n (q := 1) hX dX8_taken_0 2 rfl rfl ?_
  refine V_if_lt (q := 4) (t := 10) hX dX8_taken_1 (by decide) rfl (fun z61 => ?_) (fun z61 => ?_)
  · have h := ite_t z61 h
    refine V_bipush (v := -2) (q := 12) hX dX8_taken_10 (by decide) rfl ?_
    obtain ⟨f1, f2⟩ := some2 h
    rw [f1, f2] at hQ
    exact V_iret hX hQ rfl dX8_taken_12
  have h := ite_f z61 h
  refine V_iload_n (q := 5) hX dX8_taken_4 2 rfl rfl ?_
  refine V_bipush (v := 6) (q := 7) hX dX8_taken_5 (by decide) rfl ?_
  refine V_icmp_le (q := 10) (t := 13) hX dX8_taken_7 (by decide) rfl (fun z62 => ?_) (fun z62 => ?_)
  · have h := ite_t z62 h
    refine V_iload_n (q := 14) hX dX8_taken_13 1 rfl rfl ?_
    refine V_if_lt (q := 17) (t := 23) hX dX8_taken_14 (by decide) rfl (fun z63 => ?_) (fun z63 => ?_)
    · have h := ite_t z63 h
      refine V_bipush (v := -12) (q := 25) hX dX8_taken_23 (by decide) rfl ?_
      obtain ⟨f1, f2⟩ := some2 h
      rw [f1, f2] at hQ
      exact V_iret hX hQ rfl dX8_taken_25
    have h := ite_f z63 h
    refine V_iload_n (q := 18) hX dX8_taken_17 1 rfl rfl ?_
    refine V_bipush (v := 12) (q := 20) hX dX8_taken_18 (by decide) rfl ?_
    refine V_icmp_lt (q := 23) (t := 26) hX dX8_taken_20 (by decide) rfl (fun z64 => ?_) (fun z64 => ?_)
    · have h := ite_t z64 h
      refine V_aload_n (q := 27) hX dX8_taken_26 0 rfl rfl ?_
      refine V_getF (r := 1) (n := 75) (c := 8) (k := 0) (nf := 11) (C := RX8) (T := TX8) (q := 30) hX rfl rfl iG8 k2_175 rfl rfl ⟨rfl, by decide⟩ hN rfl rfl rfl rfl dX8_taken_27 rfl ?_
      refine V_iload_n (q := 31) hX dX8_taken_30 1 rfl rfl ?_
      refine V_bipush (v := 6) (q := 33) hX dX8_taken_31 (by decide) rfl ?_
      refine V_irem (q := 34) hX (by decide) dX8_taken_33 rfl ?_
      obtain ⟨r66, σ65, e67, h⟩ := bnd_some h
      refine V_cvI (n := 75) (c := 5) (nf := 4) (C := RX5) (T := TX5) (As := [.int ((jrem a1 (6 : Int32)))]) (q := 37) hX (c5_has hX.2.2.2.2.1 hN ⟨rfl, by decide⟩ e67) (goodV_of k2_237 k2_238 k2_239 k1_2 (cons_g k3_0)) (nA := 1) (by decide) rfl rfl rfl rfl rfl ⟨rfl, by decide⟩ hN rfl rfl rfl dX8_taken_34 rfl ?_
      refine V_if_ne (q := 40) (t := 43) hX dX8_taken_37 (by decide) rfl (fun z68 => ?_) (fun z68 => ?_)
      · have h := ite_f z68 h
        refine V_iload_n (q := 44) hX dX8_taken_43 1 rfl rfl ?_
        refine V_bipush (v := 6) (q := 46) hX dX8_taken_44 (by decide) rfl ?_
        refine V_icmp_ge (q := 49) (t := 53) hX dX8_taken_46 (by decide) rfl (fun z69 => ?_) (fun z69 => ?_)
        · have h := ite_t z69 h
          refine V_iconst (v := 0) (q := 54) hX dX8_taken_53 (by decide) rfl ?_
          refine V.pick [0, 1, 2] rfl ?_
          exact v8_taken_54 hX hN hQ (0 : Int32) σ65 h
        have h := ite_f z69 h
        refine V_iconst (v := 1) (q := 50) hX dX8_taken_49 (by decide) rfl ?_
        refine V_goto hX dX8_taken_50 (q := 54) (by decide) ?_
        refine V.pick [0, 1, 2] rfl ?_
        exact v8_taken_54 hX hN hQ (1 : Int32) σ65 h
      have h := ite_t z68 h
      refine V_bipush (v := -11) (q := 42) hX dX8_taken_40 (by decide) rfl ?_
      obtain ⟨f1, f2⟩ := some2 h
      rw [f1, f2] at hQ
      exact V_iret hX hQ rfl dX8_taken_42
    have h := ite_f z64 h
    refine V_bipush (v := -12) (q := 25) hX dX8_taken_23 (by decide) rfl ?_
    obtain ⟨f1, f2⟩ := some2 h
    rw [f1, f2] at hQ
    exact V_iret hX hQ rfl dX8_taken_25
  have h := ite_f z62 h
  refine V_bipush (v := -2) (q := 12) hX dX8_taken_10 (by decide) rfl ?_
  obtain ⟨f1, f2⟩ := some2 h
  rw [f1, f2] at hQ
  exact V_iret hX hQ rfl dX8_taken_12
set_option maxRecDepth 100000 in
set_option maxHeartbeats 4000000 in
theorem c8_taken {g : GT} {l : Launch} (hg : OkG g) (hN : 75 ≤ g.N) {a1 : Int32} {a2 : Int32} {σ : St} {r : Int32} {σ' : St} (h : S8_taken a1 a2 σ = some (r, σ')) : CtI g l m8_taken yX8_taken [.ref (g.ad (0)), .int (a1), .int (a2)] σ r σ' := CtI.of hg (by decide) rfl rfl (fun X h1 h2 h3 => v8_taken h1 hN (res := (r, σ')) h3 h)

abbrev m9_in : MI := (cX9_in, RX9, 3, some .boolean, 1)
def S9_in (a0 : Int32) (a1 : Int32) (a2 : Int32) (σ : St) : Option (Int32 × St) := if a0 < a1 then (some ((0 : Int32), σ)) else (if a2 < a0 then (some ((0 : Int32), σ)) else (some ((1 : Int32), σ)))
set_option maxRecDepth 100000 in
set_option maxHeartbeats 4000000 in
theorem v9_in {g : GT} {X : XT} {a0 : Int32} {a1 : Int32} {a2 : Int32} (hX : OkX g X (m9_in)) (hN : 95 ≤ g.N) {res : Int32 × St} (hQ : X.Q = QI g X res.1 res.2 ∧ X.cells = 0 ∧ X.slots = 0) {σ : St} (h : S9_in a0 a1 a2 σ = some res) : V g X (m9_in) 0 [(0, .int (a0)), (1, .int (a1)), (2, .int (a2))] [] σ := by
  unfold S9_in at h
  refine V_iload_n (q := 1) hX dX9_in_0 0 rfl rfl ?_
  refine V_iload_n (q := 2) hX dX9_in_1 1 rfl rfl ?_
  refine V_icmp_lt (q := 5) (t := 14) hX dX9_in_2 (by decide) rfl (fun z3 => ?_) (fun z3 => ?_)
  · have h := ite_t z3 h
    refine V_iconst (v := 0) (q := 15) hX dX9_in_14 (by decide) rfl ?_
    obtain ⟨f1, f2⟩ := some2 h
    rw [f1, f2] at hQ
    exact V_zret (ty := .boolean) hX hQ rfl rfl dX9_in_15
  have h := ite_f z3 h
  refine V_iload_n (q := 6) hX dX9_in_5 0 rfl rfl ?_
  refine V_iload_n (q := 7) hX dX9_in_6 2 rfl rfl ?_
  refine V_icmp_gt (q := 10) (t := 14) hX dX9_in_7 (by decide) rfl (fun z4 => ?_) (fun z4 => ?_)
  · have h := ite_t z4 h
    refine V_iconst (v := 0) (q := 15) hX dX9_in_14 (by decide) rfl ?_
    obtain ⟨f1, f2⟩ := some2 h
    rw [f1, f2] at hQ
    exact V_zret (ty := .boolean) hX hQ rfl rfl dX9_in_15
  have h := ite_f z4 h
  refine V_iconst (v := 1) (q := 11) hX dX9_in_10 (by decide) rfl ?_
  refine V_goto hX dX9_in_11 (q := 15) (by decide) ?_
  obtain ⟨f1, f2⟩ := some2 h
  rw [f1, f2] at hQ
  exact V_zret (ty := .boolean) hX hQ rfl rfl dX9_in_15
set_option maxRecDepth 100000 in
set_option maxHeartbeats 4000000 in
theorem c9_in {g : GT} {l : Launch} (hg : OkG g) (hN : 95 ≤ g.N) {a0 : Int32} {a1 : Int32} {a2 : Int32} {σ : St} {r : Int32} {σ' : St} (h : S9_in a0 a1 a2 σ = some (r, σ')) : CtI g l m9_in yX9_in [.int (a0), .int (a1), .int (a2)] σ r σ' := CtI.of hg (by decide) rfl rfl (fun X h1 h2 h3 => v9_in h1 hN (res := (r, σ')) h3 h)

abbrev m9_within : MI := (cX9_within, RX9, 3, some .int, 1)
def S9_within (a0 : Int32) (a1 : Int32) (a2 : Int32) (σ : St) : Option (Int32 × St) := if a1 ≤ a0 then (if a0 ≤ a2 then (some (a0, σ)) else (some (a2, σ))) else (some (a1, σ))
set_option maxRecDepth 100000 in
set_option maxHeartbeats 4000000 in
theorem v9_within {g : GT} {X : XT} {a0 : Int32} {a1 : Int32} {a2 : Int32} (hX : OkX g X (m9_within)) (hN : 95 ≤ g.N) {res : Int32 × St} (hQ : X.Q = QI g X res.1 res.2 ∧ X.cells = 0 ∧ X.slots = 0) {σ : St} (h : S9_within a0 a1 a2 σ = some res) : V g X (m9_within) 0 [(0, .int (a0)), (1, .int (a1)), (2, .int (a2))] [] σ := by
  unfold S9_within at h
  refine V_iload_n (q := 1) hX dX9_within_0 0 rfl rfl ?_
  refine V_iload_n (q := 2) hX dX9_within_1 1 rfl rfl ?_
  refine V_icmp_ge (q := 5) (t := 9) hX dX9_within_2 (by decide) rfl (fun z3 => ?_) (fun z3 => ?_)
  · have h := ite_t z3 h
    refine V_iload_n (q := 10) hX dX9_within_9 0 rfl rfl ?_
    refine V_iload_n (q := 11) hX dX9_within_10 2 rfl rfl ?_
    refine V_icmp_le (q := 14) (t := 18) hX dX9_within_11 (by decide) rfl (fun z4 => ?_) (fun z4 => ?_)
    · have h := ite_t z4 h
      refine V_iload_n (q := 19) hX dX9_within_18 0 rfl rfl ?_
      obtain ⟨f1, f2⟩ := some2 h
      rw [f1, f2] at hQ
      exact V_iret hX hQ rfl dX9_within_19
    have h := ite_f z4 h
    refine V_iload_n (q := 15) hX dX9_within_14 2 rfl rfl ?_
    refine V_goto hX dX9_within_15 (q := 19) (by decide) ?_
    obtain ⟨f1, f2⟩ := some2 h
    rw [f1, f2] at hQ
    exact V_iret hX hQ rfl dX9_within_19
  have h := ite_f z3 h
  refine V_iload_n (q := 6) hX dX9_within_5 1 rfl rfl ?_
  refine V_goto hX dX9_within_6 (q := 19) (by decide) ?_
  obtain ⟨f1, f2⟩ := some2 h
  rw [f1, f2] at hQ
  exact V_iret hX hQ rfl dX9_within_19
set_option maxRecDepth 100000 in
set_option maxHeartbeats 4000000 in
theorem c9_within {g : GT} {l : Launch} (hg : OkG g) (hN : 95 ≤ g.N) {a0 : Int32} {a1 : Int32} {a2 : Int32} {σ : St} {r : Int32} {σ' : St} (h : S9_within a0 a1 a2 σ = some (r, σ')) : CtI g l m9_within yX9_within [.int (a0), .int (a1), .int (a2)] σ r σ' := CtI.of hg (by decide) rfl rfl (fun X h1 h2 h3 => v9_within h1 hN (res := (r, σ')) h3 h)

abbrev m9_isMan : MI := (cX9_isMan, RX9, 2, some .boolean, 2)
def S9_isMan (a1 : Int32) (σ : St) : Option (Int32 × St) := bnd (S9_in a1 (0 : Int32) ((gI σ 75 0) - (1 : Int32)) σ) fun r6 σ5 => if r6 = 0 ∨ r6 = 1 then (some (r6, σ5)) else none
set_option maxRecDepth 100000 in
set_option maxHeartbeats 4000000 in
theorem v9_isMan {g : GT} {X : XT} {a1 : Int32} (hX : OkX g X (m9_isMan)) (hN : 95 ≤ g.N) {res : Int32 × St} (hQ : X.Q = QI g X res.1 res.2 ∧ X.cells = 0 ∧ X.slots = 0) {σ : St} (h : S9_isMan a1 σ = some res) : V g X (m9_isMan) 0 [(0, .ref (g.ad (75))), (1, .int (a1))] [] σ := by
  unfold S9_isMan at h
  refine V_iload_n (q := 1) hX dX9_isMan_0 1 rfl rfl ?_
  refine V_iconst (v := 0) (q := 2) hX dX9_isMan_1 (by decide) rfl ?_
  refine V_aload_n (q := 3) hX dX9_isMan_2 0 rfl rfl ?_
  refine V_getI (n := 95) (c := 9) (k := 0) (nf := 39) (C := RX9) (T := TX9) (q := 6) hX rfl rfl iG9 k4_182 rfl rfl ⟨rfl, by decide⟩ hN rfl rfl dX9_isMan_3 rfl ?_
  refine V_iconst (v := 1) (q := 7) hX dX9_isMan_6 (by decide) rfl ?_
  refine V_isub (q := 8) hX dX9_isMan_7 rfl ?_
  obtain ⟨r6, σ5, e7, h⟩ := bnd_some h
  refine V_csI (As := [.int (a1), .int ((0 : Int32)), .int (((gI σ 75 0) - (1 : Int32)))]) (q := 11) hX (c9_in hX.2.2.2.2.1 hN e7) (goodS_of k4_143 k4_144 k1_16 (cons_g k4_145)) (nA := 3) (by decide) rfl rfl rfl rfl rfl dX9_isMan_8 rfl ?_
  obtain ⟨z8, h⟩ := chk_t h
  obtain ⟨f1, f2⟩ := some2 h
  rw [f1, f2] at hQ
  exact V_zret (ty := .boolean) hX hQ rfl (nar_z z8) dX9_isMan_11
set_option maxRecDepth 100000 in
set_option maxHeartbeats 4000000 in
theorem c9_isMan {g : GT} {l : Launch} (hg : OkG g) (hN : 95 ≤ g.N) {a1 : Int32} {σ : St} {r : Int32} {σ' : St} (h : S9_isMan a1 σ = some (r, σ')) : CtI g l m9_isMan yX9_isMan [.ref (g.ad (75)), .int (a1)] σ r σ' := CtI.of hg (by decide) rfl rfl (fun X h1 h2 h3 => v9_isMan h1 hN (res := (r, σ')) h3 h)

abbrev m9_areTwo : MI := (cX9_areTwo, RX9, 3, some .boolean, 3)
def S9_areTwo (a1 : Int32) (a2 : Int32) (σ : St) : Option (Int32 × St) := bnd (S9_isMan a1 σ) fun r11 σ10 => if r11 = 0 then (some ((0 : Int32), σ10)) else (bnd (S9_isMan a2 σ10) fun r15 σ14 => if r15 = 0 then (some ((0 : Int32), σ14)) else (if a1 = a2 then (some ((0 : Int32), σ14)) else (some ((1 : Int32), σ14))))
set_option maxRecDepth 100000 in
set_option maxHeartbeats 4000000 in
theorem v9_areTwo {g : GT} {X : XT} {a1 : Int32} {a2 : Int32} (hX : OkX g X (m9_areTwo)) (hN : 95 ≤ g.N) {res : Int32 × St} (hQ : X.Q = QI g X res.1 res.2 ∧ X.cells = 0 ∧ X.slots = 0) {σ : St} (h : S9_areTwo a1 a2 σ = some res) : V g X (m9_areTwo) 0 [(0, .ref (g.ad (75))), (1, .int (a1)), (2, .int (a2))] [] σ := by
  unfold S9_areTwo at h
  refine V_aload_n (q := 1) hX dX9_areTwo_0 0 rfl rfl ?_
  refine V_iload_n (q := 2) hX dX9_areTwo_1 1 rfl rfl ?_
  obtain ⟨r11, σ10, e12, h⟩ := bnd_some h
  refine V_cvI (n := 95) (c := 9) (nf := 39) (C := RX9) (T := TX9) (As := [.int (a1)]) (q := 5) hX (c9_isMan hX.2.2.2.2.1 hN e12) (goodV_of k5_80 k5_82 kp_42 k1_16 (cons_g k5_83)) (nA := 1) (by decide) rfl rfl rfl rfl rfl ⟨rfl, by decide⟩ hN rfl rfl rfl dX9_areTwo_2 rfl ?_
  refine V_if_eq (q := 8) (t := 25) hX dX9_areTwo_5 (by decide) rfl (fun z13 => ?_) (fun z13 => ?_)
  · have h := ite_t z13 h
    refine V_iconst (v := 0) (q := 26) hX dX9_areTwo_25 (by decide) rfl ?_
    obtain ⟨f1, f2⟩ := some2 h
    rw [f1, f2] at hQ
    exact V_zret (ty := .boolean) hX hQ rfl rfl dX9_areTwo_26
  have h := ite_f z13 h
  refine V_aload_n (q := 9) hX dX9_areTwo_8 0 rfl rfl ?_
  refine V_iload_n (q := 10) hX dX9_areTwo_9 2 rfl rfl ?_
  obtain ⟨r15, σ14, e16, h⟩ := bnd_some h
  refine V_cvI (n := 95) (c := 9) (nf := 39) (C := RX9) (T := TX9) (As := [.int (a2)]) (q := 13) hX (c9_isMan hX.2.2.2.2.1 hN e16) (goodV_of k5_80 k5_82 kp_42 k1_16 (cons_g k5_83)) (nA := 1) (by decide) rfl rfl rfl rfl rfl ⟨rfl, by decide⟩ hN rfl rfl rfl dX9_areTwo_10 rfl ?_
  refine V_if_eq (q := 16) (t := 25) hX dX9_areTwo_13 (by decide) rfl (fun z17 => ?_) (fun z17 => ?_)
  · have h := ite_t z17 h
    refine V_iconst (v := 0) (q := 26) hX dX9_areTwo_25 (by decide) rfl ?_
    obtain ⟨f1, f2⟩ := some2 h
    rw [f1, f2] at hQ
    exact V_zret (ty := .boolean) hX hQ rfl rfl dX9_areTwo_26
  have h := ite_f z17 h
  refine V_iload_n (q := 17) hX dX9_areTwo_16 1 rfl rfl ?_
  refine V_iload_n (q := 18) hX dX9_areTwo_17 2 rfl rfl ?_
  refine V_icmp_eq (q := 21) (t := 25) hX dX9_areTwo_18 (by decide) rfl (fun z18 => ?_) (fun z18 => ?_)
  · have h := ite_t z18 h
    refine V_iconst (v := 0) (q := 26) hX dX9_areTwo_25 (by decide) rfl ?_
    obtain ⟨f1, f2⟩ := some2 h
    rw [f1, f2] at hQ
    exact V_zret (ty := .boolean) hX hQ rfl rfl dX9_areTwo_26
  have h := ite_f z18 h
  refine V_iconst (v := 1) (q := 22) hX dX9_areTwo_21 (by decide) rfl ?_
  refine V_goto hX dX9_areTwo_22 (q := 26) (by decide) ?_
  obtain ⟨f1, f2⟩ := some2 h
  rw [f1, f2] at hQ
  exact V_zret (ty := .boolean) hX hQ rfl rfl dX9_areTwo_26
set_option maxRecDepth 100000 in
set_option maxHeartbeats 4000000 in
theorem c9_areTwo {g : GT} {l : Launch} (hg : OkG g) (hN : 95 ≤ g.N) {a1 : Int32} {a2 : Int32} {σ : St} {r : Int32} {σ' : St} (h : S9_areTwo a1 a2 σ = some (r, σ')) : CtI g l m9_areTwo yX9_areTwo [.ref (g.ad (75)), .int (a1), .int (a2)] σ r σ' := CtI.of hg (by decide) rfl rfl (fun X h1 h2 h3 => v9_areTwo h1 hN (res := (r, σ')) h3 h)

abbrev m9_areTwoMen : MI := (cX9_areTwoMen, RX9, 2, some .boolean, 4)
def S9_areTwoMen (a1 : Int32) (σ : St) : Option (Int32 × St) := bnd (S9_in a1 (0 : Int32) (55 : Int32) σ) fun r10 σ9 => if r10 = 0 then (some ((0 : Int32), σ9)) else (bnd (S9_areTwo (a1 / (10 : Int32)) (jrem a1 (10 : Int32)) σ9) fun r14 σ13 => if r14 = 0 then (some ((0 : Int32), σ13)) else (some ((1 : Int32), σ13)))
set_option maxRecDepth 100000 in
set_option maxHeartbeats 4000000 in
theorem v9_areTwoMen {g : GT} {X : XT} {a1 : Int32} (hX : OkX g X (m9_areTwoMen)) (hN : 95 ≤ g.N) {res : Int32 × St} (hQ : X.Q = QI g X res.1 res.2 ∧ X.cells = 0 ∧ X.slots = 0) {σ : St} (h : S9_areTwoMen a1 σ = some res) : V g X (m9_areTwoMen) 0 [(0, .ref (g.ad (75))), (1, .int (a1))] [] σ := by
  unfold S9_areTwoMen at h
  refine V_iload_n (q := 1) hX dX9_areTwoMen_0 1 rfl rfl ?_
  refine V_iconst (v := 0) (q := 2) hX dX9_areTwoMen_1 (by decide) rfl ?_
  refine V_bipush (v := 55) (q := 4) hX dX9_areTwoMen_2 (by decide) rfl ?_
  obtain ⟨r10, σ9, e11, h⟩ := bnd_some h
  refine V_csI (As := [.int (a1), .int ((0 : Int32)), .int ((55 : Int32))]) (q := 7) hX (c9_in hX.2.2.2.2.1 hN e11) (goodS_of k4_143 k4_144 k1_16 (cons_g k4_145)) (nA := 3) (by decide) rfl rfl rfl rfl rfl dX9_areTwoMen_4 rfl ?_
  refine V_if_eq (q := 10) (t := 29) hX dX9_areTwoMen_7 (by decide) rfl (fun z12 => ?_) (fun z12 => ?_)
  · have h := ite_t z12 h
    refine V_iconst (v := 0) (q := 30) hX dX9_areTwoMen_29 (by decide) rfl ?_
    obtain ⟨f1, f2⟩ := some2 h
    rw [f1, f2] at hQ
    exact V_zret (ty := .boolean) hX hQ rfl rfl dX9_areTwoMen_30
  have h := ite_f z12 h
  refine V_aload_n (q := 11) hX dX9_areTwoMen_10 0 rfl rfl ?_
  refine V_iload_n (q := 12) hX dX9_areTwoMen_11 1 rfl rfl ?_
  refine V_bipush (v := 10) (q := 14) hX dX9_areTwoMen_12 (by decide) rfl ?_
  refine V_idiv (q := 15) hX (by decide) dX9_areTwoMen_14 rfl ?_
  refine V_iload_n (q := 16) hX dX9_areTwoMen_15 1 rfl rfl ?_
  refine V_bipush (v := 10) (q := 18) hX dX9_areTwoMen_16 (by decide) rfl ?_
  refine V_irem (q := 19) hX (by decide) dX9_areTwoMen_18 rfl ?_
  obtain ⟨r14, σ13, e15, h⟩ := bnd_some h
  refine V_cvI (n := 95) (c := 9) (nf := 39) (C := RX9) (T := TX9) (As := [.int ((a1 / (10 : Int32))), .int ((jrem a1 (10 : Int32)))]) (q := 22) hX (c9_areTwo hX.2.2.2.2.1 hN e15) (goodV_of k5_118 k5_120 kp_46 k1_16 (cons_g k5_121)) (nA := 2) (by decide) rfl rfl rfl rfl rfl ⟨rfl, by decide⟩ hN rfl rfl rfl dX9_areTwoMen_19 rfl ?_
  refine V_if_eq (q := 25) (t := 29) hX dX9_areTwoMen_22 (by decide) rfl (fun z16 => ?_) (fun z16 => ?_)
  · have h := ite_t z16 h
    refine V_iconst (v := 0) (q := 30) hX dX9_areTwoMen_29 (by decide) rfl ?_
    obtain ⟨f1, f2⟩ := some2 h
    rw [f1, f2] at hQ
    exact V_zret (ty := .boolean) hX hQ rfl rfl dX9_areTwoMen_30
  have h := ite_f z16 h
  refine V_iconst (v := 1) (q := 26) hX dX9_areTwoMen_25 (by decide) rfl ?_
  refine V_goto hX dX9_areTwoMen_26 (q := 30) (by decide) ?_
  obtain ⟨f1, f2⟩ := some2 h
  rw [f1, f2] at hQ
  exact V_zret (ty := .boolean) hX hQ rfl rfl dX9_areTwoMen_30
set_option maxRecDepth 100000 in
set_option maxHeartbeats 4000000 in
theorem c9_areTwoMen {g : GT} {l : Launch} (hg : OkG g) (hN : 95 ≤ g.N) {a1 : Int32} {σ : St} {r : Int32} {σ' : St} (h : S9_areTwoMen a1 σ = some (r, σ')) : CtI g l m9_areTwoMen yX9_areTwoMen [.ref (g.ad (75)), .int (a1)] σ r σ' := CtI.of hg (by decide) rfl rfl (fun X h1 h2 h3 => v9_areTwoMen h1 hN (res := (r, σ')) h3 h)

abbrev m9_isPlan : MI := (cX9_isPlan, RX9, 1, some .boolean, 2)
def S9_isPlan (a0 : Int32) (σ : St) : Option (Int32 × St) := bnd (S9_in a0 (0 : Int32) (262143 : Int32) σ) fun r6 σ5 => if r6 = 0 ∨ r6 = 1 then (some (r6, σ5)) else none
set_option maxRecDepth 100000 in
set_option maxHeartbeats 4000000 in
theorem v9_isPlan {g : GT} {X : XT} {a0 : Int32} (hX : OkX g X (m9_isPlan)) (hN : 95 ≤ g.N) {res : Int32 × St} (hQ : X.Q = QI g X res.1 res.2 ∧ X.cells = 0 ∧ X.slots = 0) {σ : St} (h : S9_isPlan a0 σ = some res) : V g X (m9_isPlan) 0 [(0, .int (a0))] [] σ := by
  unfold S9_isPlan at h
  refine V_iload_n (q := 1) hX dX9_isPlan_0 0 rfl rfl ?_
  refine V_iconst (v := 0) (q := 2) hX dX9_isPlan_1 (by decide) rfl ?_
  refine V_ldc (v := 262143) (q := 4) hX k5_125 dX9_isPlan_2 rfl ?_
  obtain ⟨r6, σ5, e7, h⟩ := bnd_some h
  refine V_csI (As := [.int (a0), .int ((0 : Int32)), .int ((262143 : Int32))]) (q := 7) hX (c9_in hX.2.2.2.2.1 hN e7) (goodS_of k4_143 k4_144 k1_16 (cons_g k4_145)) (nA := 3) (by decide) rfl rfl rfl rfl rfl dX9_isPlan_4 rfl ?_
  obtain ⟨z8, h⟩ := chk_t h
  obtain ⟨f1, f2⟩ := some2 h
  rw [f1, f2] at hQ
  exact V_zret (ty := .boolean) hX hQ rfl (nar_z z8) dX9_isPlan_7
set_option maxRecDepth 100000 in
set_option maxHeartbeats 4000000 in
theorem c9_isPlan {g : GT} {l : Launch} (hg : OkG g) (hN : 95 ≤ g.N) {a0 : Int32} {σ : St} {r : Int32} {σ' : St} (h : S9_isPlan a0 σ = some (r, σ')) : CtI g l m9_isPlan yX9_isPlan [.int (a0)] σ r σ' := CtI.of hg (by decide) rfl rfl (fun X h1 h2 h3 => v9_isPlan h1 hN (res := (r, σ')) h3 h)

abbrev m9_count : MI := (cX9_count, RX9, 2, some .int, 1)
def S9_count (a1 : Int32) (σ : St) : Option (Int32 × St) := if a1 = 0 then (some ((gI σ 75 0), σ)) else (if a1 = 1 then (some ((gI σ 75 4), σ)) else (if a1 = 2 then (some ((gI σ 75 9), σ)) else (if a1 = 3 then (some ((gI σ 75 10), σ)) else (if a1 = 4 then (some ((gI σ 75 6), σ)) else (some ((-2 : Int32), σ))))))
set_option maxRecDepth 100000 in
set_option maxHeartbeats 4000000 in
theorem v9_count {g : GT} {X : XT} {a1 : Int32} (hX : OkX g X (m9_count)) (hN : 95 ≤ g.N) {res : Int32 × St} (hQ : X.Q = QI g X res.1 res.2 ∧ X.cells = 0 ∧ X.slots = 0) {σ : St} (h : S9_count a1 σ = some res) : V g X (m9_count) 0 [(0, .ref (g.ad (75))), (1, .int (a1))] [] σ := by
  unfold S9_count at h
  refine V_iload_n (q := 1) hX dX9_count_0 1 rfl rfl ?_
  by_cases z6 : a1 = 0
  · have h := ite_t z6 h
    refine V_tsw (q := 36) (off := 35) hX dX9_count_1 (by rw [z6]; decide) (by rw [z6]; decide) (by rw [z6]; decide) (by decide) ?_
    refine V_aload_n (q := 37) hX dX9_count_36 0 rfl rfl ?_
    refine V_getI (n := 95) (c := 9) (k := 0) (nf := 39) (C := RX9) (T := TX9) (q := 40) hX rfl rfl iG9 k4_182 rfl rfl ⟨rfl, by decide⟩ hN rfl rfl dX9_count_37 rfl ?_
    obtain ⟨f1, f2⟩ := some2 h
    rw [f1, f2] at hQ
    exact V_iret hX hQ rfl dX9_count_40
  have h := ite_f z6 h
  by_cases z7 : a1 = 1
  · have h := ite_t z7 h
    refine V_tsw (q := 41) (off := 40) hX dX9_count_1 (by rw [z7]; decide) (by rw [z7]; decide) (by rw [z7]; decide) (by decide) ?_
    refine V_aload_n (q := 42) hX dX9_count_41 0 rfl rfl ?_
    refine V_getI (n := 95) (c := 9) (k := 4) (nf := 39) (C := RX9) (T := TX9) (q := 45) hX rfl rfl iG9 k4_186 rfl rfl ⟨rfl, by decide⟩ hN rfl rfl dX9_count_42 rfl ?_
    obtain ⟨f1, f2⟩ := some2 h
    rw [f1, f2] at hQ
    exact V_iret hX hQ rfl dX9_count_45
  have h := ite_f z7 h
  by_cases z8 : a1 = 2
  · have h := ite_t z8 h
    refine V_tsw (q := 46) (off := 45) hX dX9_count_1 (by rw [z8]; decide) (by rw [z8]; decide) (by rw [z8]; decide) (by decide) ?_
    refine V_aload_n (q := 47) hX dX9_count_46 0 rfl rfl ?_
    refine V_getI (n := 95) (c := 9) (k := 9) (nf := 39) (C := RX9) (T := TX9) (q := 50) hX rfl rfl iG9 k4_191 rfl rfl ⟨rfl, by decide⟩ hN rfl rfl dX9_count_47 rfl ?_
    obtain ⟨f1, f2⟩ := some2 h
    rw [f1, f2] at hQ
    exact V_iret hX hQ rfl dX9_count_50
  have h := ite_f z8 h
  by_cases z9 : a1 = 3
  · have h := ite_t z9 h
    refine V_tsw (q := 51) (off := 50) hX dX9_count_1 (by rw [z9]; decide) (by rw [z9]; decide) (by rw [z9]; decide) (by decide) ?_
    refine V_aload_n (q := 52) hX dX9_count_51 0 rfl rfl ?_
    refine V_getI (n := 95) (c := 9) (k := 10) (nf := 39) (C := RX9) (T := TX9) (q := 55) hX rfl rfl iG9 k4_192 rfl rfl ⟨rfl, by decide⟩ hN rfl rfl dX9_count_52 rfl ?_
    obtain ⟨f1, f2⟩ := some2 h
    rw [f1, f2] at hQ
    exact V_iret hX hQ rfl dX9_count_55
  have h := ite_f z9 h
  by_cases z10 : a1 = 4
  · have h := ite_t z10 h
    refine V_tsw (q := 56) (off := 55) hX dX9_count_1 (by rw [z10]; decide) (by rw [z10]; decide) (by rw [z10]; decide) (by decide) ?_
    refine V_aload_n (q := 57) hX dX9_count_56 0 rfl rfl ?_
    refine V_getI (n := 95) (c := 9) (k := 6) (nf := 39) (C := RX9) (T := TX9) (q := 60) hX rfl rfl iG9 k4_188 rfl rfl ⟨rfl, by decide⟩ hN rfl rfl dX9_count_57 rfl ?_
    obtain ⟨f1, f2⟩ := some2 h
    rw [f1, f2] at hQ
    exact V_iret hX hQ rfl dX9_count_60
  have h := ite_f z10 h
  refine V_tswD (q := 61) hX dX9_count_1 (by have y0 := neI (v := 0) (by decide) z6; have y1 := neI (v := 1) (by decide) z7; have y2 := neI (v := 2) (by decide) z8; have y3 := neI (v := 3) (by decide) z9; have y4 := neI (v := 4) (by decide) z10; omega) (by decide) ?_
  refine V_bipush (v := -2) (q := 63) hX dX9_count_61 (by decide) rfl ?_
  obtain ⟨f1, f2⟩ := some2 h
  rw [f1, f2] at hQ
  exact V_iret hX hQ rfl dX9_count_63
set_option maxRecDepth 100000 in
set_option maxHeartbeats 4000000 in
theorem c9_count {g : GT} {l : Launch} (hg : OkG g) (hN : 95 ≤ g.N) {a1 : Int32} {σ : St} {r : Int32} {σ' : St} (h : S9_count a1 σ = some (r, σ')) : CtI g l m9_count yX9_count [.ref (g.ad (75)), .int (a1)] σ r σ' := CtI.of hg (by decide) rfl rfl (fun X h1 h2 h3 => v9_count h1 hN (res := (r, σ')) h3 h)

abbrev m9_isByte : MI := (cX9_isByte, RX9, 1, some .boolean, 2)
def S9_isByte (a0 : Int32) (σ : St) : Option (Int32 × St) := bnd (S9_in a0 (0 : Int32) (255 : Int32) σ) fun r6 σ5 => if r6 = 0 ∨ r6 = 1 then (some (r6, σ5)) else none
set_option maxRecDepth 100000 in
set_option maxHeartbeats 4000000 in
theorem v9_isByte {g : GT} {X : XT} {a0 : Int32} (hX : OkX g X (m9_isByte)) (hN : 95 ≤ g.N) {res : Int32 × St} (hQ : X.Q = QI g X res.1 res.2 ∧ X.cells = 0 ∧ X.slots = 0) {σ : St} (h : S9_isByte a0 σ = some res) : V g X (m9_isByte) 0 [(0, .int (a0))] [] σ := by
  unfold S9_isByte at h
  refine V_iload_n (q := 1) hX dX9_isByte_0 0 rfl rfl ?_
  refine V_iconst (v := 0) (q := 2) hX dX9_isByte_1 (by decide) rfl ?_
  refine V_sipush (v := 255) (q := 5) hX dX9_isByte_2 (by decide) rfl ?_
  obtain ⟨r6, σ5, e7, h⟩ := bnd_some h
  refine V_csI (As := [.int (a0), .int ((0 : Int32)), .int ((255 : Int32))]) (q := 8) hX (c9_in hX.2.2.2.2.1 hN e7) (goodS_of k4_143 k4_144 k1_16 (cons_g k4_145)) (nA := 3) (by decide) rfl rfl rfl rfl rfl dX9_isByte_5 rfl ?_
  obtain ⟨z8, h⟩ := chk_t h
  obtain ⟨f1, f2⟩ := some2 h
  rw [f1, f2] at hQ
  exact V_zret (ty := .boolean) hX hQ rfl (nar_z z8) dX9_isByte_8
set_option maxRecDepth 100000 in
set_option maxHeartbeats 4000000 in
theorem c9_isByte {g : GT} {l : Launch} (hg : OkG g) (hN : 95 ≤ g.N) {a0 : Int32} {σ : St} {r : Int32} {σ' : St} (h : S9_isByte a0 σ = some (r, σ')) : CtI g l m9_isByte yX9_isByte [.int (a0)] σ r σ' := CtI.of hg (by decide) rfl rfl (fun X h1 h2 h3 => v9_isByte h1 hN (res := (r, σ')) h3 h)

abbrev m9_feed : MI := (cX9_feed, RX9, 8, some .int, 3)
def S9_feed_125 (a1 : Int32) (a2 : Int32) (a3 : Int32) (a4 : Int32) (a5 : Int32) (a6 : Int32) (k68 : Int32 → St → Option (Int32 × St)) (x7 : Int32) (s1 : Int32) (s2 : Int32) (σ : St) : Option (Int32 × St) := if inb s1 160 then (k68 (x7 + 1) (sI (sI σ 79 (s1).toNatClampNeg s2) 75 6 ((gI (sI σ 79 (s1).toNatClampNeg s2) 75 6) + (1 : Int32)))) else none
def B9_feed_68 (a1 : Int32) (a2 : Int32) (a3 : Int32) (a4 : Int32) (a5 : Int32) (a6 : Int32) (rec : Int32 → St → Option (Int32 × St)) (x7 : Int32) (σ : St) : Option (Int32 × St) := if a1 ≤ x7 then (some ((gI σ 75 6), σ)) else (if x7 = 0 then (S9_feed_125 a1 a2 a3 a4 a5 a6 rec x7 (gI σ 75 6) a2 σ) else (if x7 = (1 : Int32) then (S9_feed_125 a1 a2 a3 a4 a5 a6 rec x7 (gI σ 75 6) a3 σ) else (if x7 = (2 : Int32) then (S9_feed_125 a1 a2 a3 a4 a5 a6 rec x7 (gI σ 75 6) a4 σ) else (if x7 = (3 : Int32) then (S9_feed_125 a1 a2 a3 a4 a5 a6 rec x7 (gI σ 75 6) a5 σ) else (S9_feed_125 a1 a2 a3 a4 a5 a6 rec x7 (gI σ 75 6) a6 σ)))))
def S9_feed_68 (a1 : Int32) (a2 : Int32) (a3 : Int32) (a4 : Int32) (a5 : Int32) (a6 : Int32) : Nat → Int32 → St → Option (Int32 × St)
  | 0, _, _ => none
  | n + 1, x7, σ => B9_feed_68 a1 a2 a3 a4 a5 a6 (S9_feed_68 a1 a2 a3 a4 a5 a6 n) x7 σ
def S9_feed (a1 : Int32) (a2 : Int32) (a3 : Int32) (a4 : Int32) (a5 : Int32) (a6 : Int32) (σ : St) : Option (Int32 × St) := bnd (S9_in a1 (1 : Int32) (5 : Int32) σ) fun r101 σ100 => if r101 = 0 then (some ((-2 : Int32), σ100)) else (bnd (S9_isByte a2 σ100) fun r105 σ104 => if r105 = 0 then (some ((-2 : Int32), σ104)) else (bnd (S9_isByte a3 σ104) fun r109 σ108 => if r109 = 0 then (some ((-2 : Int32), σ108)) else (bnd (S9_isByte a4 σ108) fun r113 σ112 => if r113 = 0 then (some ((-2 : Int32), σ112)) else (bnd (S9_isByte a5 σ112) fun r117 σ116 => if r117 = 0 then (some ((-2 : Int32), σ116)) else (bnd (S9_isByte a6 σ116) fun r121 σ120 => if r121 = 0 then (some ((-2 : Int32), σ120)) else (if ((gI σ120 75 6) + a1) ≤ (160 : Int32) then (S9_feed_68 a1 a2 a3 a4 a5 a6 4096 (0 : Int32) σ120) else (some ((-4 : Int32), σ120))))))))
set_option maxRecDepth 100000 in
set_option maxHeartbeats 4000000 in
theorem v9_feed_125 {g : GT} {X : XT} {a1 : Int32} {a2 : Int32} {a3 : Int32} {a4 : Int32} {a5 : Int32} {a6 : Int32} (hX : OkX g X (m9_feed)) (hN : 95 ≤ g.N) {res : Int32 × St} (hQ : X.Q = QI g X res.1 res.2 ∧ X.cells = 0 ∧ X.slots = 0)  {k68 : Int32 → St → Option (Int32 × St)} (hk68 : ∀ (x7 : Int32) (σ : St), k68 x7 σ = some res → V g X (m9_feed) 68 [(0, .ref (g.ad (75))), (1, .int (a1)), (2, .int (a2)), (3, .int (a3)), (4, .int (a4)), (5, .int (a5)), (6, .int (a6)), (7, .int (x7))] [] σ) (x7 : Int32) (s1 : Int32) (s2 : Int32) (σ : St)  (h : S9_feed_125 a1 a2 a3 a4 a5 a6 k68 x7 s1 s2 σ = some res) : V g X (m9_feed) 125 [(0, .ref (g.ad (75))), (1, .int (a1)), (2, .int (a2)), (3, .int (a3)), (4, .int (a4)), (5, .int (a5)), (6, .int (a6)), (7, .int (x7))] [.int (s2), .int (s1), .ref (g.ad (79))] σ := by
  unfold S9_feed_125 at h
  obtain ⟨z94, h⟩ := chk_t h
  refine V_iast (n := 95) (len := 160) (q := 126) hX ⟨rfl, rfl, by decide⟩ hN z94 dX9_feed_125 rfl ?_
  refine V_aload_n (q := 127) hX dX9_feed_126 0 rfl rfl ?_
  refine V_dup (q := 128) hX dX9_feed_127 rfl rfl ?_
  refine V_getI (n := 95) (c := 9) (k := 6) (nf := 39) (C := RX9) (T := TX9) (q := 131) hX rfl rfl iG9 k4_188 rfl rfl ⟨rfl, by decide⟩ hN rfl rfl dX9_feed_128 rfl ?_
  refine V_iconst (v := 1) (q := 132) hX dX9_feed_131 (by decide) rfl ?_
  refine V_iadd (q := 133) hX dX9_feed_132 rfl ?_
  refine V_putI (n := 95) (c := 9) (k := 6) (nf := 39) (C := RX9) (T := TX9) (q := 136) hX rfl rfl iG9 k4_188 rfl rfl ⟨rfl, by decide⟩ hN rfl tyX9 tyX9_ok nmX9 rfl rfl (ty := .int) (tyX9_ok 6 (by decide)) rfl rfl dX9_feed_133 rfl ?_
  refine V_iinc (v := (x7 + 1)) (lv' := [(7, .int ((x7 + 1))), (0, .ref (g.ad (75))), (1, .int (a1)), (2, .int (a2)), (3, .int (a3)), (4, .int (a4)), (5, .int (a5)), (6, .int (a6))]) (q := 139) hX dX9_feed_136 7 rfl (by rfl) rfl rfl rfl ?_
  refine V_goto hX dX9_feed_139 (q := 68) (by decide) ?_
  refine V.pick [1, 2, 3, 4, 5, 6, 7, 0] rfl ?_
  exact hk68 (x7 + 1) (sI (sI σ 79 (s1).toNatClampNeg s2) 75 6 ((gI (sI σ 79 (s1).toNatClampNeg s2) 75 6) + (1 : Int32)))  h
set_option maxRecDepth 100000 in
set_option maxHeartbeats 4000000 in
theorem v9_feed_68n {g : GT} {X : XT} {a1 : Int32} {a2 : Int32} {a3 : Int32} {a4 : Int32} {a5 : Int32} {a6 : Int32} (hX : OkX g X (m9_feed)) (hN : 95 ≤ g.N) {res : Int32 × St} (hQ : X.Q = QI g X res.1 res.2 ∧ X.cells = 0 ∧ X.slots = 0)   (n : Nat) : ∀ (x7 : Int32) (σ : St) , S9_feed_68 a1 a2 a3 a4 a5 a6 n x7 σ = some res → V g X (m9_feed) 68 [(0, .ref (g.ad (75))), (1, .int (a1)), (2, .int (a2)), (3, .int (a3)), (4, .int (a4)), (5, .int (a5)), (6, .int (a6)), (7, .int (x7))] [] σ := by
  induction n with
  | zero => intro x7 σ; intro h; cases h
  | succ n ih =>
    intro x7 σ h
    have h : B9_feed_68 a1 a2 a3 a4 a5 a6 (S9_feed_68 a1 a2 a3 a4 a5 a6 n) x7 σ = some res := h
    unfold B9_feed_68 at h
    refine V_iload (q := 70) hX dX9_feed_68 7 rfl rfl ?_
    refine V_iload_n (q := 71) hX dX9_feed_70 1 rfl rfl ?_
    refine V_icmp_ge (q := 74) (t := 142) hX dX9_feed_71 (by decide) rfl (fun z95 => ?_) (fun z95 => ?_)
    · have h := ite_t z95 h
      refine V_aload_n (q := 143) hX dX9_feed_142 0 rfl rfl ?_
      refine V_getI (n := 95) (c := 9) (k := 6) (nf := 39) (C := RX9) (T := TX9) (q := 146) hX rfl rfl iG9 k4_188 rfl rfl ⟨rfl, by decide⟩ hN rfl rfl dX9_feed_143 rfl ?_
      obtain ⟨f1, f2⟩ := some2 h
      rw [f1, f2] at hQ
      exact V_iret hX hQ rfl dX9_feed_146
    have h := ite_f z95 h
    refine V_aload_n (q := 75) hX dX9_feed_74 0 rfl rfl ?_
    refine V_getF (r := 79) (n := 95) (c := 9) (k := 5) (nf := 39) (C := RX9) (T := TX9) (q := 78) hX rfl rfl iG9 k4_187 rfl rfl ⟨rfl, by decide⟩ hN rfl rfl rfl rfl dX9_feed_75 rfl ?_
    refine V_aload_n (q := 79) hX dX9_feed_78 0 rfl rfl ?_
    refine V_getI (n := 95) (c := 9) (k := 6) (nf := 39) (C := RX9) (T := TX9) (q := 82) hX rfl rfl iG9 k4_188 rfl rfl ⟨rfl, by decide⟩ hN rfl rfl dX9_feed_79 rfl ?_
    refine V_iload (q := 84) hX dX9_feed_82 7 rfl rfl ?_
    refine V_if_ne (q := 87) (t := 91) hX dX9_feed_84 (by decide) rfl (fun z96 => ?_) (fun z96 => ?_)
    · have h := ite_f z96 h
      refine V_iload (q := 93) hX dX9_feed_91 7 rfl rfl ?_
      refine V_iconst (v := 1) (q := 94) hX dX9_feed_93 (by decide) rfl ?_
      refine V_icmp_ne (q := 97) (t := 101) hX dX9_feed_94 (by decide) rfl (fun z97 => ?_) (fun z97 => ?_)
      · have h := ite_f z97 h
        refine V_iload (q := 103) hX dX9_feed_101 7 rfl rfl ?_
        refine V_iconst (v := 2) (q := 104) hX dX9_feed_103 (by decide) rfl ?_
        refine V_icmp_ne (q := 107) (t := 112) hX dX9_feed_104 (by decide) rfl (fun z98 => ?_) (fun z98 => ?_)
        · have h := ite_f z98 h
          refine V_iload (q := 114) hX dX9_feed_112 7 rfl rfl ?_
          refine V_iconst (v := 3) (q := 115) hX dX9_feed_114 (by decide) rfl ?_
          refine V_icmp_ne (q := 118) (t := 123) hX dX9_feed_115 (by decide) rfl (fun z99 => ?_) (fun z99 => ?_)
          · have h := ite_f z99 h
            refine V_iload (q := 125) hX dX9_feed_123 6 rfl rfl ?_
            refine V.pick [0, 1, 2, 3, 4, 5, 6, 7] rfl ?_
            exact v9_feed_125 hX hN hQ ih x7 (gI σ 75 6) a6 σ h
          have h := ite_t z99 h
          refine V_iload (q := 120) hX dX9_feed_118 5 rfl rfl ?_
          refine V_goto hX dX9_feed_120 (q := 125) (by decide) ?_
          refine V.pick [0, 1, 2, 3, 4, 5, 6, 7] rfl ?_
          exact v9_feed_125 hX hN hQ ih x7 (gI σ 75 6) a5 σ h
        have h := ite_t z98 h
        refine V_iload (q := 109) hX dX9_feed_107 4 rfl rfl ?_
        refine V_goto hX dX9_feed_109 (q := 125) (by decide) ?_
        refine V.pick [0, 1, 2, 3, 4, 5, 6, 7] rfl ?_
        exact v9_feed_125 hX hN hQ ih x7 (gI σ 75 6) a4 σ h
      have h := ite_t z97 h
      refine V_iload_n (q := 98) hX dX9_feed_97 3 rfl rfl ?_
      refine V_goto hX dX9_feed_98 (q := 125) (by decide) ?_
      refine V.pick [0, 1, 2, 3, 4, 5, 6, 7] rfl ?_
      exact v9_feed_125 hX hN hQ ih x7 (gI σ 75 6) a3 σ h
    have h := ite_t z96 h
    refine V_iload_n (q := 88) hX dX9_feed_87 2 rfl rfl ?_
    refine V_goto hX dX9_feed_88 (q := 125) (by decide) ?_
    refine V.pick [0, 1, 2, 3, 4, 5, 6, 7] rfl ?_
    exact v9_feed_125 hX hN hQ ih x7 (gI σ 75 6) a2 σ h
theorem v9_feed_68 {g : GT} {X : XT} {a1 : Int32} {a2 : Int32} {a3 : Int32} {a4 : Int32} {a5 : Int32} {a6 : Int32} (hX : OkX g X (m9_feed)) (hN : 95 ≤ g.N) {res : Int32 × St} (hQ : X.Q = QI g X res.1 res.2 ∧ X.cells = 0 ∧ X.slots = 0) (x7 : Int32) (σ : St) (h : S9_feed_68 a1 a2 a3 a4 a5 a6 4096 x7 σ = some res) : V g X (m9_feed) 68 [(0, .ref (g.ad (75))), (1, .int (a1)), (2, .int (a2)), (3, .int (a3)), (4, .int (a4)), (5, .int (a5)), (6, .int (a6)), (7, .int (x7))] [] σ := v9_feed_68n hX hN hQ 4096 x7 σ h
set_option maxRecDepth 100000 in
set_option maxHeartbeats 4000000 in
theorem v9_feed {g : GT} {X : XT} {a1 : Int32} {a2 : Int32} {a3 : Int32} {a4 : Int32} {a5 : Int32} {a6 : Int32} (hX : OkX g X (m9_feed)) (hN : 95 ≤ g.N) {res : Int32 × St} (hQ : X.Q = QI g X res.1 res.2 ∧ X.cells = 0 ∧ X.slots = 0) {σ : St} (h : S9_feed a1 a2 a3 a4 a5 a6 σ = some res) : V g X (m9_feed) 0 [(0, .ref (g.ad (75))), (1, .int (a1)), (2, .int (a2)), (3, .int (a3)), (4, .int (a4)), (5, .int (a5)), (6, .int (a6))] [] σ := by
  unfold S9_feed at h
  refine V_iload_n (q := 1) hX dX9_feed_0 1 rfl rfl ?_
  refine V_iconst (v := 1) (q := 2) hX dX9_feed_1 (by decide) rfl ?_
  refine V_iconst (v := 5) (q := 3) hX dX9_feed_2 (by decide) rfl ?_
  obtain ⟨r101, σ100, e102, h⟩ := bnd_some h
  refine V_csI (As := [.int (a1), .int ((1 : Int32)), .int ((5 : Int32))]) (q := 6) hX (c9_in hX.2.2.2.2.1 hN e102) (goodS_of k4_143 k4_144 k1_16 (cons_g k4_145)) (nA := 3) (by decide) rfl rfl rfl rfl rfl dX9_feed_3 rfl ?_
  refine V_if_eq (q := 9) (t := 47) hX dX9_feed_6 (by decide) rfl (fun z103 => ?_) (fun z103 => ?_)
  · have h := ite_t z103 h
    refine V_bipush (v := -2) (q := 49) hX dX9_feed_47 (by decide) rfl ?_
    obtain ⟨f1, f2⟩ := some2 h
    rw [f1, f2] at hQ
    exact V_iret hX hQ rfl dX9_feed_49
  have h := ite_f z103 h
  refine V_iload_n (q := 10) hX dX9_feed_9 2 rfl rfl ?_
  obtain ⟨r105, σ104, e106, h⟩ := bnd_some h
  refine V_csI (As := [.int (a2)]) (q := 13) hX (c9_isByte hX.2.2.2.2.1 hN e106) (goodS_of k5_68 k5_69 k1_16 (cons_g k5_70)) (nA := 1) (by decide) rfl rfl rfl rfl rfl dX9_feed_10 rfl ?_
  refine V_if_eq (q := 16) (t := 47) hX dX9_feed_13 (by decide) rfl (fun z107 => ?_) (fun z107 => ?_)
  · have h := ite_t z107 h
    refine V_bipush (v := -2) (q := 49) hX dX9_feed_47 (by decide) rfl ?_
    obtain ⟨f1, f2⟩ := some2 h
    rw [f1, f2] at hQ
    exact V_iret hX hQ rfl dX9_feed_49
  have h := ite_f z107 h
  refine V_iload_n (q := 17) hX dX9_feed_16 3 rfl rfl ?_
  obtain ⟨r109, σ108, e110, h⟩ := bnd_some h
  refine V_csI (As := [.int (a3)]) (q := 20) hX (c9_isByte hX.2.2.2.2.1 hN e110) (goodS_of k5_68 k5_69 k1_16 (cons_g k5_70)) (nA := 1) (by decide) rfl rfl rfl rfl rfl dX9_feed_17 rfl ?_
  refine V_if_eq (q := 23) (t := 47) hX dX9_feed_20 (by decide) rfl (fun z111 => ?_) (fun z111 => ?_)
  · have h := ite_t z111 h
    refine V_bipush (v := -2) (q := 49) hX dX9_feed_47 (by decide) rfl ?_
    obtain ⟨f1, f2⟩ := some2 h
    rw [f1, f2] at hQ
    exact V_iret hX hQ rfl dX9_feed_49
  have h := ite_f z111 h
  refine V_iload (q := 25) hX dX9_feed_23 4 rfl rfl ?_
  obtain ⟨r113, σ112, e114, h⟩ := bnd_some h
  refine V_csI (As := [.int (a4)]) (q := 28) hX (c9_isByte hX.2.2.2.2.1 hN e114) (goodS_of k5_68 k5_69 k1_16 (cons_g k5_70)) (nA := 1) (by decide) rfl rfl rfl rfl rfl dX9_feed_25 rfl ?_
  refine V_if_eq (q := 31) (t := 47) hX dX9_feed_28 (by decide) rfl (fun z115 => ?_) (fun z115 => ?_)
  · have h := ite_t z115 h
    refine V_bipush (v := -2) (q := 49) hX dX9_feed_47 (by decide) rfl ?_
    obtain ⟨f1, f2⟩ := some2 h
    rw [f1, f2] at hQ
    exact V_iret hX hQ rfl dX9_feed_49
  have h := ite_f z115 h
  refine V_iload (q := 33) hX dX9_feed_31 5 rfl rfl ?_
  obtain ⟨r117, σ116, e118, h⟩ := bnd_some h
  refine V_csI (As := [.int (a5)]) (q := 36) hX (c9_isByte hX.2.2.2.2.1 hN e118) (goodS_of k5_68 k5_69 k1_16 (cons_g k5_70)) (nA := 1) (by decide) rfl rfl rfl rfl rfl dX9_feed_33 rfl ?_
  refine V_if_eq (q := 39) (t := 47) hX dX9_feed_36 (by decide) rfl (fun z119 => ?_) (fun z119 => ?_)
  · have h := ite_t z119 h
    refine V_bipush (v := -2) (q := 49) hX dX9_feed_47 (by decide) rfl ?_
    obtain ⟨f1, f2⟩ := some2 h
    rw [f1, f2] at hQ
    exact V_iret hX hQ rfl dX9_feed_49
  have h := ite_f z119 h
  refine V_iload (q := 41) hX dX9_feed_39 6 rfl rfl ?_
  obtain ⟨r121, σ120, e122, h⟩ := bnd_some h
  refine V_csI (As := [.int (a6)]) (q := 44) hX (c9_isByte hX.2.2.2.2.1 hN e122) (goodS_of k5_68 k5_69 k1_16 (cons_g k5_70)) (nA := 1) (by decide) rfl rfl rfl rfl rfl dX9_feed_41 rfl ?_
  refine V_if_ne (q := 47) (t := 50) hX dX9_feed_44 (by decide) rfl (fun z123 => ?_) (fun z123 => ?_)
  · have h := ite_f z123 h
    refine V_aload_n (q := 51) hX dX9_feed_50 0 rfl rfl ?_
    refine V_getI (n := 95) (c := 9) (k := 6) (nf := 39) (C := RX9) (T := TX9) (q := 54) hX rfl rfl iG9 k4_188 rfl rfl ⟨rfl, by decide⟩ hN rfl rfl dX9_feed_51 rfl ?_
    refine V_iload_n (q := 55) hX dX9_feed_54 1 rfl rfl ?_
    refine V_iadd (q := 56) hX dX9_feed_55 rfl ?_
    refine V_sipush (v := 160) (q := 59) hX dX9_feed_56 (by decide) rfl ?_
    refine V_icmp_le (q := 62) (t := 65) hX dX9_feed_59 (by decide) rfl (fun z124 => ?_) (fun z124 => ?_)
    · have h := ite_t z124 h
      refine V_iconst (v := 0) (q := 66) hX dX9_feed_65 (by decide) rfl ?_
      refine V_istore (lv' := [(7, .int ((0 : Int32))), (0, .ref (g.ad (75))), (1, .int (a1)), (2, .int (a2)), (3, .int (a3)), (4, .int (a4)), (5, .int (a5)), (6, .int (a6))]) (q := 68) hX dX9_feed_66 rfl rfl rfl ?_
      refine V.pick [1, 2, 3, 4, 5, 6, 7, 0] rfl ?_
      exact v9_feed_68 hX hN hQ (0 : Int32) σ120 h
    have h := ite_f z124 h
    refine V_bipush (v := -4) (q := 64) hX dX9_feed_62 (by decide) rfl ?_
    obtain ⟨f1, f2⟩ := some2 h
    rw [f1, f2] at hQ
    exact V_iret hX hQ rfl dX9_feed_64
  have h := ite_t z123 h
  refine V_bipush (v := -2) (q := 49) hX dX9_feed_47 (by decide) rfl ?_
  obtain ⟨f1, f2⟩ := some2 h
  rw [f1, f2] at hQ
  exact V_iret hX hQ rfl dX9_feed_49
set_option maxRecDepth 100000 in
set_option maxHeartbeats 4000000 in
theorem c9_feed {g : GT} {l : Launch} (hg : OkG g) (hN : 95 ≤ g.N) {a1 : Int32} {a2 : Int32} {a3 : Int32} {a4 : Int32} {a5 : Int32} {a6 : Int32} {σ : St} {r : Int32} {σ' : St} (h : S9_feed a1 a2 a3 a4 a5 a6 σ = some (r, σ')) : CtI g l m9_feed yX9_feed [.ref (g.ad (75)), .int (a1), .int (a2), .int (a3), .int (a4), .int (a5), .int (a6)] σ r σ' := CtI.of hg (by decide) rfl rfl (fun X h1 h2 h3 => v9_feed h1 hN (res := (r, σ')) h3 h)

abbrev m9_wordFrom : MI := (cX9_wordFrom, RX9, 6, some .int, 1)
def S9_wordFrom_80 (a1 : Int32) (a2 : Int32) (k2 : Int32 → St → Option (Int32 × St)) (k26 : Int32 → Int32 → Int32 → St → Option (Int32 × St)) (x3 : Int32) (x5 : Int32) (s0 : Int32) (σ : St) : Option (Int32 × St) := k26 x3 s0 (x5 + 1) σ
def S9_wordFrom_72 (a1 : Int32) (a2 : Int32) (k2 : Int32 → St → Option (Int32 × St)) (k26 : Int32 → Int32 → Int32 → St → Option (Int32 × St)) (x3 : Int32) (x5 : Int32) (s0 : Int32) (s1 : Int32) (σ : St) : Option (Int32 × St) := if s0 = s1 then (S9_wordFrom_80 a1 a2 k2 k26 x3 x5 (1 : Int32) σ) else (S9_wordFrom_80 a1 a2 k2 k26 x3 x5 (0 : Int32) σ)
def S9_wordFrom_88 (a1 : Int32) (a2 : Int32) (k2 : Int32 → St → Option (Int32 × St)) (x3 : Int32) (x4 : Int32) (σ : St) : Option (Int32 × St) := if x4 = 0 then (k2 (x3 + 1) σ) else (some (x3, σ))
def B9_wordFrom_26 (a1 : Int32) (a2 : Int32) (rec : Int32 → Int32 → Int32 → St → Option (Int32 × St)) (k2 : Int32 → St → Option (Int32 × St)) (x3 : Int32) (x4 : Int32) (x5 : Int32) (σ : St) : Option (Int32 × St) := if (8 : Int32) ≤ x5 then (S9_wordFrom_88 a1 a2 k2 x3 x4 σ) else (if x4 = 0 then (S9_wordFrom_88 a1 a2 k2 x3 x4 σ) else (if inb (((8 : Int32) * x3) + x5) 96 then (if a2 ≤ (a1 + x5) then (S9_wordFrom_72 a1 a2 k2 rec x3 x5 (gI σ 88 ((((8 : Int32) * x3) + x5)).toNatClampNeg) (32 : Int32) σ) else (if inb (a1 + x5) 160 then (S9_wordFrom_72 a1 a2 k2 rec x3 x5 (gI σ 88 ((((8 : Int32) * x3) + x5)).toNatClampNeg) (gI σ 79 ((a1 + x5)).toNatClampNeg) σ) else none)) else none))
def S9_wordFrom_26 (a1 : Int32) (a2 : Int32) (k2 : Int32 → St → Option (Int32 × St)) : Nat → Int32 → Int32 → Int32 → St → Option (Int32 × St)
  | 0, _, _, _, _ => none
  | n + 1, x3, x4, x5, σ => B9_wordFrom_26 a1 a2 (S9_wordFrom_26 a1 a2 k2 n) k2 x3 x4 x5 σ
def S9_wordFrom_21 (a1 : Int32) (a2 : Int32) (k2 : Int32 → St → Option (Int32 × St)) (x3 : Int32) (s0 : Int32) (σ : St) : Option (Int32 × St) := S9_wordFrom_26 a1 a2 k2 4096 x3 s0 (0 : Int32) σ
def B9_wordFrom_2 (a1 : Int32) (a2 : Int32) (rec : Int32 → St → Option (Int32 × St)) (x3 : Int32) (σ : St) : Option (Int32 × St) := if (12 : Int32) ≤ x3 then (some ((12 : Int32), σ)) else (if (8 : Int32) < (a2 - a1) then (S9_wordFrom_21 a1 a2 rec x3 (0 : Int32) σ) else (S9_wordFrom_21 a1 a2 rec x3 (1 : Int32) σ))
def S9_wordFrom_2 (a1 : Int32) (a2 : Int32) : Nat → Int32 → St → Option (Int32 × St)
  | 0, _, _ => none
  | n + 1, x3, σ => B9_wordFrom_2 a1 a2 (S9_wordFrom_2 a1 a2 n) x3 σ
def S9_wordFrom (a1 : Int32) (a2 : Int32) (σ : St) : Option (Int32 × St) := S9_wordFrom_2 a1 a2 4096 (0 : Int32) σ
set_option maxRecDepth 100000 in
set_option maxHeartbeats 4000000 in
theorem v9_wordFrom_80 {g : GT} {X : XT} {a1 : Int32} {a2 : Int32} (hX : OkX g X (m9_wordFrom)) (hN : 95 ≤ g.N) {res : Int32 × St} (hQ : X.Q = QI g X res.1 res.2 ∧ X.cells = 0 ∧ X.slots = 0)  {k2 : Int32 → St → Option (Int32 × St)} (hk2 : ∀ (x3 : Int32) (σ : St), k2 x3 σ = some res → V g X (m9_wordFrom) 2 [(0, .ref (g.ad (75))), (1, .int (a1)), (2, .int (a2)), (3, .int (x3))] [] σ) {k26 : Int32 → Int32 → Int32 → St → Option (Int32 × St)} (hk26 : ∀ (x3 : Int32) (x4 : Int32) (x5 : Int32) (σ : St), k26 x3 x4 x5 σ = some res → V g X (m9_wordFrom) 26 [(0, .ref (g.ad (75))), (1, .int (a1)), (2, .int (a2)), (3, .int (x3)), (4, .int (x4)), (5, .int (x5))] [] σ) (x3 : Int32) (x5 : Int32) (s0 : Int32) (σ : St)  (h : S9_wordFrom_80 a1 a2 k2 k26 x3 x5 s0 σ = some res) : V g X (m9_wordFrom) 80 [(0, .ref (g.ad (75))), (1, .int (a1)), (2, .int (a2)), (3, .int (x3)), (5, .int (x5))] [.int (s0)] σ := by
  unfold S9_wordFrom_80 at h
  refine V_istore (lv' := [(4, .int (s0)), (0, .ref (g.ad (75))), (1, .int (a1)), (2, .int (a2)), (3, .int (x3)), (5, .int (x5))]) (q := 82) hX dX9_wordFrom_80 rfl rfl rfl ?_
  refine V_iinc (v := (x5 + 1)) (lv' := [(5, .int ((x5 + 1))), (4, .int (s0)), (0, .ref (g.ad (75))), (1, .int (a1)), (2, .int (a2)), (3, .int (x3))]) (q := 85) hX dX9_wordFrom_82 5 rfl (by rfl) rfl rfl rfl ?_
  refine V_goto hX dX9_wordFrom_85 (q := 26) (by decide) ?_
  refine V.pick [2, 3, 4, 5, 1, 0] rfl ?_
  exact hk26 x3 s0 (x5 + 1) σ  h
set_option maxRecDepth 100000 in
set_option maxHeartbeats 4000000 in
theorem v9_wordFrom_72 {g : GT} {X : XT} {a1 : Int32} {a2 : Int32} (hX : OkX g X (m9_wordFrom)) (hN : 95 ≤ g.N) {res : Int32 × St} (hQ : X.Q = QI g X res.1 res.2 ∧ X.cells = 0 ∧ X.slots = 0)  {k2 : Int32 → St → Option (Int32 × St)} (hk2 : ∀ (x3 : Int32) (σ : St), k2 x3 σ = some res → V g X (m9_wordFrom) 2 [(0, .ref (g.ad (75))), (1, .int (a1)), (2, .int (a2)), (3, .int (x3))] [] σ) {k26 : Int32 → Int32 → Int32 → St → Option (Int32 × St)} (hk26 : ∀ (x3 : Int32) (x4 : Int32) (x5 : Int32) (σ : St), k26 x3 x4 x5 σ = some res → V g X (m9_wordFrom) 26 [(0, .ref (g.ad (75))), (1, .int (a1)), (2, .int (a2)), (3, .int (x3)), (4, .int (x4)), (5, .int (x5))] [] σ) (x3 : Int32) (x5 : Int32) (s0 : Int32) (s1 : Int32) (σ : St)  (h : S9_wordFrom_72 a1 a2 k2 k26 x3 x5 s0 s1 σ = some res) : V g X (m9_wordFrom) 72 [(0, .ref (g.ad (75))), (1, .int (a1)), (2, .int (a2)), (3, .int (x3)), (5, .int (x5))] [.int (s1), .int (s0)] σ := by
  unfold S9_wordFrom_72 at h
  refine V_icmp_ne (q := 75) (t := 79) hX dX9_wordFrom_72 (by decide) rfl (fun z28 => ?_) (fun z28 => ?_)
  · have h := ite_f z28 h
    refine V_iconst (v := 0) (q := 80) hX dX9_wordFrom_79 (by decide) rfl ?_
    refine V.pick [0, 1, 2, 3, 4] rfl ?_
    exact v9_wordFrom_80 hX hN hQ hk2 hk26 x3 x5 (0 : Int32) σ h
  have h := ite_t z28 h
  refine V_iconst (v := 1) (q := 76) hX dX9_wordFrom_75 (by decide) rfl ?_
  refine V_goto hX dX9_wordFrom_76 (q := 80) (by decide) ?_
  refine V.pick [0, 1, 2, 3, 4] rfl ?_
  exact v9_wordFrom_80 hX hN hQ hk2 hk26 x3 x5 (1 : Int32) σ h
set_option maxRecDepth 100000 in
set_option maxHeartbeats 4000000 in
theorem v9_wordFrom_88 {g : GT} {X : XT} {a1 : Int32} {a2 : Int32} (hX : OkX g X (m9_wordFrom)) (hN : 95 ≤ g.N) {res : Int32 × St} (hQ : X.Q = QI g X res.1 res.2 ∧ X.cells = 0 ∧ X.slots = 0)  {k2 : Int32 → St → Option (Int32 × St)} (hk2 : ∀ (x3 : Int32) (σ : St), k2 x3 σ = some res → V g X (m9_wordFrom) 2 [(0, .ref (g.ad (75))), (1, .int (a1)), (2, .int (a2)), (3, .int (x3))] [] σ) (x3 : Int32) (x4 : Int32) (σ : St)  (h : S9_wordFrom_88 a1 a2 k2 x3 x4 σ = some res) : V g X (m9_wordFrom) 88 [(0, .ref (g.ad (75))), (1, .int (a1)), (2, .int (a2)), (3, .int (x3)), (4, .int (x4))] [] σ := by
  unfold S9_wordFrom_88 at h
  refine V_iload (q := 90) hX dX9_wordFrom_88 4 rfl rfl ?_
  refine V_if_eq (q := 93) (t := 95) hX dX9_wordFrom_90 (by decide) rfl (fun z29 => ?_) (fun z29 => ?_)
  · have h := ite_t z29 h
    refine V_iinc (v := (x3 + 1)) (lv' := [(3, .int ((x3 + 1))), (0, .ref (g.ad (75))), (1, .int (a1)), (2, .int (a2)), (4, .int (x4))]) (q := 98) hX dX9_wordFrom_95 3 rfl (by rfl) rfl rfl rfl ?_
    refine V_goto hX dX9_wordFrom_98 (q := 2) (by decide) ?_
    refine V.pick [1, 2, 3, 0] rfl ?_
    exact hk2 (x3 + 1) σ  h
  have h := ite_f z29 h
  refine V_iload_n (q := 94) hX dX9_wordFrom_93 3 rfl rfl ?_
  obtain ⟨f1, f2⟩ := some2 h
  rw [f1, f2] at hQ
  exact V_iret hX hQ rfl dX9_wordFrom_94
set_option maxRecDepth 100000 in
set_option maxHeartbeats 4000000 in
theorem v9_wordFrom_26n {g : GT} {X : XT} {a1 : Int32} {a2 : Int32} (hX : OkX g X (m9_wordFrom)) (hN : 95 ≤ g.N) {res : Int32 × St} (hQ : X.Q = QI g X res.1 res.2 ∧ X.cells = 0 ∧ X.slots = 0)  {k2 : Int32 → St → Option (Int32 × St)} (hk2 : ∀ (x3 : Int32) (σ : St), k2 x3 σ = some res → V g X (m9_wordFrom) 2 [(0, .ref (g.ad (75))), (1, .int (a1)), (2, .int (a2)), (3, .int (x3))] [] σ) (n : Nat) : ∀ (x3 : Int32) (x4 : Int32) (x5 : Int32) (σ : St) , S9_wordFrom_26 a1 a2 k2 n x3 x4 x5 σ = some res → V g X (m9_wordFrom) 26 [(0, .ref (g.ad (75))), (1, .int (a1)), (2, .int (a2)), (3, .int (x3)), (4, .int (x4)), (5, .int (x5))] [] σ := by
  induction n with
  | zero => intro x3 x4 x5 σ; intro h; cases h
  | succ n ih =>
    intro x3 x4 x5 σ h
    have h : B9_wordFrom_26 a1 a2 (S9_wordFrom_26 a1 a2 k2 n) k2 x3 x4 x5 σ = some res := h
    unfold B9_wordFrom_26 at h
    refine V_iload (q := 28) hX dX9_wordFrom_26 5 rfl rfl ?_
    refine V_bipush (v := 8) (q := 30) hX dX9_wordFrom_28 (by decide) rfl ?_
    refine V_icmp_ge (q := 33) (t := 88) hX dX9_wordFrom_30 (by decide) rfl (fun z30 => ?_) (fun z30 => ?_)
    · have h := ite_t z30 h
      refine V.pick [0, 1, 2, 3, 4] rfl ?_
      exact v9_wordFrom_88 hX hN hQ hk2 x3 x4 σ h
    have h := ite_f z30 h
    refine V_iload (q := 35) hX dX9_wordFrom_33 4 rfl rfl ?_
    refine V_if_eq (q := 38) (t := 88) hX dX9_wordFrom_35 (by decide) rfl (fun z31 => ?_) (fun z31 => ?_)
    · have h := ite_t z31 h
      refine V.pick [0, 1, 2, 3, 4] rfl ?_
      exact v9_wordFrom_88 hX hN hQ hk2 x3 x4 σ h
    have h := ite_f z31 h
    refine V_aload_n (q := 39) hX dX9_wordFrom_38 0 rfl rfl ?_
    refine V_getF (r := 88) (n := 95) (c := 9) (k := 22) (nf := 39) (C := RX9) (T := TX9) (q := 42) hX rfl rfl iG9 k4_204 rfl rfl ⟨rfl, by decide⟩ hN rfl rfl rfl rfl dX9_wordFrom_39 rfl ?_
    refine V_bipush (v := 8) (q := 44) hX dX9_wordFrom_42 (by decide) rfl ?_
    refine V_iload_n (q := 45) hX dX9_wordFrom_44 3 rfl rfl ?_
    refine V_imul (q := 46) hX dX9_wordFrom_45 rfl ?_
    refine V_iload (q := 48) hX dX9_wordFrom_46 5 rfl rfl ?_
    refine V_iadd (q := 49) hX dX9_wordFrom_48 rfl ?_
    obtain ⟨z32, h⟩ := chk_t h
    refine V_iald (n := 95) (len := 96) (q := 50) hX ⟨rfl, rfl, by decide⟩ hN z32 dX9_wordFrom_49 rfl ?_
    refine V_iload_n (q := 51) hX dX9_wordFrom_50 1 rfl rfl ?_
    refine V_iload (q := 53) hX dX9_wordFrom_51 5 rfl rfl ?_
    refine V_iadd (q := 54) hX dX9_wordFrom_53 rfl ?_
    refine V_iload_n (q := 55) hX dX9_wordFrom_54 2 rfl rfl ?_
    refine V_icmp_ge (q := 58) (t := 70) hX dX9_wordFrom_55 (by decide) rfl (fun z33 => ?_) (fun z33 => ?_)
    · have h := ite_t z33 h
      refine V_bipush (v := 32) (q := 72) hX dX9_wordFrom_70 (by decide) rfl ?_
      refine V.pick [0, 1, 2, 3, 5] rfl ?_
      exact v9_wordFrom_72 hX hN hQ hk2 ih x3 x5 (gI σ 88 ((((8 : Int32) * x3) + x5)).toNatClampNeg) (32 : Int32) σ h
    have h := ite_f z33 h
    refine V_aload_n (q := 59) hX dX9_wordFrom_58 0 rfl rfl ?_
    refine V_getF (r := 79) (n := 95) (c := 9) (k := 5) (nf := 39) (C := RX9) (T := TX9) (q := 62) hX rfl rfl iG9 k4_187 rfl rfl ⟨rfl, by decide⟩ hN rfl rfl rfl rfl dX9_wordFrom_59 rfl ?_
    refine V_iload_n (q := 63) hX dX9_wordFrom_62 1 rfl rfl ?_
    refine V_iload (q := 65) hX dX9_wordFrom_63 5 rfl rfl ?_
    refine V_iadd (q := 66) hX dX9_wordFrom_65 rfl ?_
    obtain ⟨z34, h⟩ := chk_t h
    refine V_iald (n := 95) (len := 160) (q := 67) hX ⟨rfl, rfl, by decide⟩ hN z34 dX9_wordFrom_66 rfl ?_
    refine V_goto hX dX9_wordFrom_67 (q := 72) (by decide) ?_
    refine V.pick [0, 1, 2, 3, 5] rfl ?_
    exact v9_wordFrom_72 hX hN hQ hk2 ih x3 x5 (gI σ 88 ((((8 : Int32) * x3) + x5)).toNatClampNeg) (gI σ 79 ((a1 + x5)).toNatClampNeg) σ h
theorem v9_wordFrom_26 {g : GT} {X : XT} {a1 : Int32} {a2 : Int32} (hX : OkX g X (m9_wordFrom)) (hN : 95 ≤ g.N) {res : Int32 × St} (hQ : X.Q = QI g X res.1 res.2 ∧ X.cells = 0 ∧ X.slots = 0) {k2 : Int32 → St → Option (Int32 × St)} (hk2 : ∀ (x3 : Int32) (σ : St), k2 x3 σ = some res → V g X (m9_wordFrom) 2 [(0, .ref (g.ad (75))), (1, .int (a1)), (2, .int (a2)), (3, .int (x3))] [] σ) (x3 : Int32) (x4 : Int32) (x5 : Int32) (σ : St) (h : S9_wordFrom_26 a1 a2 k2 4096 x3 x4 x5 σ = some res) : V g X (m9_wordFrom) 26 [(0, .ref (g.ad (75))), (1, .int (a1)), (2, .int (a2)), (3, .int (x3)), (4, .int (x4)), (5, .int (x5))] [] σ := v9_wordFrom_26n hX hN hQ hk2 4096 x3 x4 x5 σ h
set_option maxRecDepth 100000 in
set_option maxHeartbeats 4000000 in
theorem v9_wordFrom_21 {g : GT} {X : XT} {a1 : Int32} {a2 : Int32} (hX : OkX g X (m9_wordFrom)) (hN : 95 ≤ g.N) {res : Int32 × St} (hQ : X.Q = QI g X res.1 res.2 ∧ X.cells = 0 ∧ X.slots = 0)  {k2 : Int32 → St → Option (Int32 × St)} (hk2 : ∀ (x3 : Int32) (σ : St), k2 x3 σ = some res → V g X (m9_wordFrom) 2 [(0, .ref (g.ad (75))), (1, .int (a1)), (2, .int (a2)), (3, .int (x3))] [] σ) (x3 : Int32) (s0 : Int32) (σ : St)  (h : S9_wordFrom_21 a1 a2 k2 x3 s0 σ = some res) : V g X (m9_wordFrom) 21 [(0, .ref (g.ad (75))), (1, .int (a1)), (2, .int (a2)), (3, .int (x3))] [.int (s0)] σ := by
  unfold S9_wordFrom_21 at h
  refine V_istore (lv' := [(4, .int (s0)), (0, .ref (g.ad (75))), (1, .int (a1)), (2, .int (a2)), (3, .int (x3))]) (q := 23) hX dX9_wordFrom_21 rfl rfl rfl ?_
  refine V_iconst (v := 0) (q := 24) hX dX9_wordFrom_23 (by decide) rfl ?_
  refine V_istore (lv' := [(5, .int ((0 : Int32))), (4, .int (s0)), (0, .ref (g.ad (75))), (1, .int (a1)), (2, .int (a2)), (3, .int (x3))]) (q := 26) hX dX9_wordFrom_24 rfl rfl rfl ?_
  refine V.pick [2, 3, 4, 5, 1, 0] rfl ?_
  exact v9_wordFrom_26 hX hN hQ hk2 x3 s0 (0 : Int32) σ h
set_option maxRecDepth 100000 in
set_option maxHeartbeats 4000000 in
theorem v9_wordFrom_2n {g : GT} {X : XT} {a1 : Int32} {a2 : Int32} (hX : OkX g X (m9_wordFrom)) (hN : 95 ≤ g.N) {res : Int32 × St} (hQ : X.Q = QI g X res.1 res.2 ∧ X.cells = 0 ∧ X.slots = 0)   (n : Nat) : ∀ (x3 : Int32) (σ : St) , S9_wordFrom_2 a1 a2 n x3 σ = some res → V g X (m9_wordFrom) 2 [(0, .ref (g.ad (75))), (1, .int (a1)), (2, .int (a2)), (3, .int (x3))] [] σ := by
  induction n with
  | zero => intro x3 σ; intro h; cases h
  | succ n ih =>
    intro x3 σ h
    have h : B9_wordFrom_2 a1 a2 (S9_wordFrom_2 a1 a2 n) x3 σ = some res := h
    unfold B9_wordFrom_2 at h
    refine V_iload_n (q := 3) hX dX9_wordFrom_2 3 rfl rfl ?_
    refine V_bipush (v := 12) (q := 5) hX dX9_wordFrom_3 (by decide) rfl ?_
    refine V_icmp_ge (q := 8) (t := 101) hX dX9_wordFrom_5 (by decide) rfl (fun z35 => ?_) (fun z35 => ?_)
    · have h := ite_t z35 h
      refine V_bipush (v := 12) (q := 103) hX dX9_wordFrom_101 (by decide) rfl ?_
      obtain ⟨f1, f2⟩ := some2 h
      rw [f1, f2] at hQ
      exact V_iret hX hQ rfl dX9_wordFrom_103
    have h := ite_f z35 h
    refine V_iload_n (q := 9) hX dX9_wordFrom_8 2 rfl rfl ?_
    refine V_iload_n (q := 10) hX dX9_wordFrom_9 1 rfl rfl ?_
    refine V_isub (q := 11) hX dX9_wordFrom_10 rfl ?_
    refine V_bipush (v := 8) (q := 13) hX dX9_wordFrom_11 (by decide) rfl ?_
    refine V_icmp_gt (q := 16) (t := 20) hX dX9_wordFrom_13 (by decide) rfl (fun z36 => ?_) (fun z36 => ?_)
    · have h := ite_t z36 h
      refine V_iconst (v := 0) (q := 21) hX dX9_wordFrom_20 (by decide) rfl ?_
      refine V.pick [0, 1, 2, 3] rfl ?_
      exact v9_wordFrom_21 hX hN hQ ih x3 (0 : Int32) σ h
    have h := ite_f z36 h
    refine V_iconst (v := 1) (q := 17) hX dX9_wordFrom_16 (by decide) rfl ?_
    refine V_goto hX dX9_wordFrom_17 (q := 21) (by decide) ?_
    refine V.pick [0, 1, 2, 3] rfl ?_
    exact v9_wordFrom_21 hX hN hQ ih x3 (1 : Int32) σ h
theorem v9_wordFrom_2 {g : GT} {X : XT} {a1 : Int32} {a2 : Int32} (hX : OkX g X (m9_wordFrom)) (hN : 95 ≤ g.N) {res : Int32 × St} (hQ : X.Q = QI g X res.1 res.2 ∧ X.cells = 0 ∧ X.slots = 0) (x3 : Int32) (σ : St) (h : S9_wordFrom_2 a1 a2 4096 x3 σ = some res) : V g X (m9_wordFrom) 2 [(0, .ref (g.ad (75))), (1, .int (a1)), (2, .int (a2)), (3, .int (x3))] [] σ := v9_wordFrom_2n hX hN hQ 4096 x3 σ h
set_option maxRecDepth 100000 in
set_option maxHeartbeats 4000000 in
theorem v9_wordFrom {g : GT} {X : XT} {a1 : Int32} {a2 : Int32} (hX : OkX g X (m9_wordFrom)) (hN : 95 ≤ g.N) {res : Int32 × St} (hQ : X.Q = QI g X res.1 res.2 ∧ X.cells = 0 ∧ X.slots = 0) {σ : St} (h : S9_wordFrom a1 a2 σ = some res) : V g X (m9_wordFrom) 0 [(0, .ref (g.ad (75))), (1, .int (a1)), (2, .int (a2))] [] σ := by
  unfold S9_wordFrom at h
  refine V_iconst (v := 0) (q := 1) hX dX9_wordFrom_0 (by decide) rfl ?_
  refine V_istore_n (lv' := [(3, .int ((0 : Int32))), (0, .ref (g.ad (75))), (1, .int (a1)), (2, .int (a2))]) (q := 2) hX dX9_wordFrom_1 rfl rfl rfl ?_
  refine V.pick [1, 2, 3, 0] rfl ?_
  exact v9_wordFrom_2 hX hN hQ (0 : Int32) σ h
set_option maxRecDepth 100000 in
set_option maxHeartbeats 4000000 in
theorem c9_wordFrom {g : GT} {l : Launch} (hg : OkG g) (hN : 95 ≤ g.N) {a1 : Int32} {a2 : Int32} {σ : St} {r : Int32} {σ' : St} (h : S9_wordFrom a1 a2 σ = some (r, σ')) : CtI g l m9_wordFrom yX9_wordFrom [.ref (g.ad (75)), .int (a1), .int (a2)] σ r σ' := CtI.of hg (by decide) rfl rfl (fun X h1 h2 h3 => v9_wordFrom h1 hN (res := (r, σ')) h3 h)

abbrev m9_next : MI := (cX9_next, RX9, 3, none, 2)
def S9_next_39 (k0 : St → Option (Unit × St)) (σ : St) : Option (Unit × St) := k0 (sI σ 75 18 ((gI σ 75 18) + (1 : Int32)))
def S9_next_211 (s1 : Int32) (σ : St) : Option (Unit × St) := some ((), (sI σ 75 21 s1))
def S9_next_195 (x2 : Int32) (s1 : Int32) (σ : St) : Option (Unit × St) := if (3 : Int32) ≤ x2 then (S9_next_211 (x2 - (3 : Int32)) (sI σ 75 20 s1)) else (S9_next_211 x2 (sI σ 75 20 s1))
def S9_next_146 (σ : St) : Option (Unit × St) := bnd (S9_wordFrom (gI σ 75 19) (gI σ 75 18) σ) fun r141 σ140 => if (3 : Int32) ≤ r141 then (if (9 : Int32) ≤ r141 then (if r141 = (12 : Int32) then (S9_next_195 r141 (-1 : Int32) σ140) else (S9_next_195 r141 (((4 : Int32) + r141) - (9 : Int32)) σ140)) else (S9_next_195 r141 (2 : Int32) σ140)) else (S9_next_195 r141 (3 : Int32) σ140)
def B9_next_103 (rec : St → Option (Unit × St)) (σ : St) : Option (Unit × St) := if (gI σ 75 6) ≤ (gI σ 75 18) then (S9_next_146 σ) else (if inb (gI σ 75 18) 160 then (bnd (S9_in (gI σ 79 ((gI σ 75 18)).toNatClampNeg) (97 : Int32) (122 : Int32) σ) fun r149 σ148 => if r149 = 0 then (S9_next_146 σ148) else (rec (sI σ148 75 18 ((gI σ148 75 18) + (1 : Int32))))) else none)
def S9_next_103 : Nat → St → Option (Unit × St)
  | 0, _ => none
  | n + 1, σ => B9_next_103 (S9_next_103 n) σ
def S9_next_290 (k230 : Int32 → St → Option (Unit × St)) (x2 : Int32) (s1 : Int32) (σ : St) : Option (Unit × St) := k230 (x2 + 1) (sI (sI σ 75 21 s1) 75 18 ((gI (sI σ 75 21 s1) 75 18) + (1 : Int32)))
def S9_next_320 (s1 : Int32) (σ : St) : Option (Unit × St) := some ((), (sI σ 75 20 s1))
def S9_next_309 (x2 : Int32) (σ : St) : Option (Unit × St) := if x2 ≤ (4 : Int32) then (S9_next_320 (1 : Int32) σ) else (S9_next_320 (-1 : Int32) σ)
def B9_next_230 (rec : Int32 → St → Option (Unit × St)) (x2 : Int32) (σ : St) : Option (Unit × St) := if (gI σ 75 6) ≤ (gI σ 75 18) then (S9_next_309 x2 σ) else (if inb (gI σ 75 18) 160 then (bnd (S9_in (gI σ 79 ((gI σ 75 18)).toNatClampNeg) (48 : Int32) (57 : Int32) σ) fun r156 σ155 => if r156 = 0 then (S9_next_309 x2 σ155) else (if (4 : Int32) ≤ x2 then (S9_next_290 rec x2 (0 : Int32) σ155) else (if inb (gI σ155 75 18) 160 then (S9_next_290 rec x2 ((((10 : Int32) * (gI σ155 75 21)) + (gI σ155 79 ((gI σ155 75 18)).toNatClampNeg)) - (48 : Int32)) σ155) else none))) else none)
def S9_next_230 : Nat → Int32 → St → Option (Unit × St)
  | 0, _, _ => none
  | n + 1, x2, σ => B9_next_230 (S9_next_230 n) x2 σ
def S9_next_390 (s1 : Int32) (σ : St) : Option (Unit × St) := some ((), (sI (sI σ 75 20 s1) 75 18 ((gI (sI σ 75 20 s1) 75 18) + (1 : Int32))))
def S9_next_379 (x1 : Int32) (s0 : Int32) (σ : St) : Option (Unit × St) := if s0 = 0 then (S9_next_390 (-1 : Int32) σ) else (S9_next_390 x1 σ)
def S9_next_374 (x1 : Int32) (σ : St) : Option (Unit × St) := S9_next_379 x1 (1 : Int32) σ
def S9_next_52 (σ : St) : Option (Unit × St) := if (gI (sI (sI (sI σ 75 19 (gI σ 75 18)) 75 20 (0 : Int32)) 75 21 (0 : Int32)) 75 18) = (gI (sI (sI (sI σ 75 19 (gI σ 75 18)) 75 20 (0 : Int32)) 75 21 (0 : Int32)) 75 6) then (some ((), (sI (sI (sI σ 75 19 (gI σ 75 18)) 75 20 (0 : Int32)) 75 21 (0 : Int32)))) else (if inb (gI (sI (sI (sI σ 75 19 (gI σ 75 18)) 75 20 (0 : Int32)) 75 21 (0 : Int32)) 75 18) 160 then (bnd (S9_in (gI (sI (sI (sI σ 75 19 (gI σ 75 18)) 75 20 (0 : Int32)) 75 21 (0 : Int32)) 79 ((gI (sI (sI (sI σ 75 19 (gI σ 75 18)) 75 20 (0 : Int32)) 75 21 (0 : Int32)) 75 18)).toNatClampNeg) (97 : Int32) (122 : Int32) (sI (sI (sI σ 75 19 (gI σ 75 18)) 75 20 (0 : Int32)) 75 21 (0 : Int32))) fun r165 σ164 => if r165 = 0 then (bnd (S9_in (gI (sI (sI (sI σ 75 19 (gI σ 75 18)) 75 20 (0 : Int32)) 75 21 (0 : Int32)) 79 ((gI (sI (sI (sI σ 75 19 (gI σ 75 18)) 75 20 (0 : Int32)) 75 21 (0 : Int32)) 75 18)).toNatClampNeg) (48 : Int32) (57 : Int32) σ164) fun r169 σ168 => if r169 = 0 then (if (gI (sI (sI (sI σ 75 19 (gI σ 75 18)) 75 20 (0 : Int32)) 75 21 (0 : Int32)) 79 ((gI (sI (sI (sI σ 75 19 (gI σ 75 18)) 75 20 (0 : Int32)) 75 21 (0 : Int32)) 75 18)).toNatClampNeg) = (40 : Int32) then (S9_next_374 (gI (sI (sI (sI σ 75 19 (gI σ 75 18)) 75 20 (0 : Int32)) 75 21 (0 : Int32)) 79 ((gI (sI (sI (sI σ 75 19 (gI σ 75 18)) 75 20 (0 : Int32)) 75 21 (0 : Int32)) 75 18)).toNatClampNeg) σ168) else (if (gI (sI (sI (sI σ 75 19 (gI σ 75 18)) 75 20 (0 : Int32)) 75 21 (0 : Int32)) 79 ((gI (sI (sI (sI σ 75 19 (gI σ 75 18)) 75 20 (0 : Int32)) 75 21 (0 : Int32)) 75 18)).toNatClampNeg) = (41 : Int32) then (S9_next_374 (gI (sI (sI (sI σ 75 19 (gI σ 75 18)) 75 20 (0 : Int32)) 75 21 (0 : Int32)) 79 ((gI (sI (sI (sI σ 75 19 (gI σ 75 18)) 75 20 (0 : Int32)) 75 21 (0 : Int32)) 75 18)).toNatClampNeg) σ168) else (if (gI (sI (sI (sI σ 75 19 (gI σ 75 18)) 75 20 (0 : Int32)) 75 21 (0 : Int32)) 79 ((gI (sI (sI (sI σ 75 19 (gI σ 75 18)) 75 20 (0 : Int32)) 75 21 (0 : Int32)) 75 18)).toNatClampNeg) = (59 : Int32) then (S9_next_374 (gI (sI (sI (sI σ 75 19 (gI σ 75 18)) 75 20 (0 : Int32)) 75 21 (0 : Int32)) 79 ((gI (sI (sI (sI σ 75 19 (gI σ 75 18)) 75 20 (0 : Int32)) 75 21 (0 : Int32)) 75 18)).toNatClampNeg) σ168) else (if (gI (sI (sI (sI σ 75 19 (gI σ 75 18)) 75 20 (0 : Int32)) 75 21 (0 : Int32)) 79 ((gI (sI (sI (sI σ 75 19 (gI σ 75 18)) 75 20 (0 : Int32)) 75 21 (0 : Int32)) 75 18)).toNatClampNeg) = (43 : Int32) then (S9_next_374 (gI (sI (sI (sI σ 75 19 (gI σ 75 18)) 75 20 (0 : Int32)) 75 21 (0 : Int32)) 79 ((gI (sI (sI (sI σ 75 19 (gI σ 75 18)) 75 20 (0 : Int32)) 75 21 (0 : Int32)) 75 18)).toNatClampNeg) σ168) else (if (gI (sI (sI (sI σ 75 19 (gI σ 75 18)) 75 20 (0 : Int32)) 75 21 (0 : Int32)) 79 ((gI (sI (sI (sI σ 75 19 (gI σ 75 18)) 75 20 (0 : Int32)) 75 21 (0 : Int32)) 75 18)).toNatClampNeg) = (45 : Int32) then (S9_next_374 (gI (sI (sI (sI σ 75 19 (gI σ 75 18)) 75 20 (0 : Int32)) 75 21 (0 : Int32)) 79 ((gI (sI (sI (sI σ 75 19 (gI σ 75 18)) 75 20 (0 : Int32)) 75 21 (0 : Int32)) 75 18)).toNatClampNeg) σ168) else (if (gI (sI (sI (sI σ 75 19 (gI σ 75 18)) 75 20 (0 : Int32)) 75 21 (0 : Int32)) 79 ((gI (sI (sI (sI σ 75 19 (gI σ 75 18)) 75 20 (0 : Int32)) 75 21 (0 : Int32)) 75 18)).toNatClampNeg) = (42 : Int32) then (S9_next_374 (gI (sI (sI (sI σ 75 19 (gI σ 75 18)) 75 20 (0 : Int32)) 75 21 (0 : Int32)) 79 ((gI (sI (sI (sI σ 75 19 (gI σ 75 18)) 75 20 (0 : Int32)) 75 21 (0 : Int32)) 75 18)).toNatClampNeg) σ168) else (if (gI (sI (sI (sI σ 75 19 (gI σ 75 18)) 75 20 (0 : Int32)) 75 21 (0 : Int32)) 79 ((gI (sI (sI (sI σ 75 19 (gI σ 75 18)) 75 20 (0 : Int32)) 75 21 (0 : Int32)) 75 18)).toNatClampNeg) = (60 : Int32) then (S9_next_374 (gI (sI (sI (sI σ 75 19 (gI σ 75 18)) 75 20 (0 : Int32)) 75 21 (0 : Int32)) 79 ((gI (sI (sI (sI σ 75 19 (gI σ 75 18)) 75 20 (0 : Int32)) 75 21 (0 : Int32)) 75 18)).toNatClampNeg) σ168) else (if (gI (sI (sI (sI σ 75 19 (gI σ 75 18)) 75 20 (0 : Int32)) 75 21 (0 : Int32)) 79 ((gI (sI (sI (sI σ 75 19 (gI σ 75 18)) 75 20 (0 : Int32)) 75 21 (0 : Int32)) 75 18)).toNatClampNeg) = (61 : Int32) then (S9_next_374 (gI (sI (sI (sI σ 75 19 (gI σ 75 18)) 75 20 (0 : Int32)) 75 21 (0 : Int32)) 79 ((gI (sI (sI (sI σ 75 19 (gI σ 75 18)) 75 20 (0 : Int32)) 75 21 (0 : Int32)) 75 18)).toNatClampNeg) σ168) else (S9_next_379 (gI (sI (sI (sI σ 75 19 (gI σ 75 18)) 75 20 (0 : Int32)) 75 21 (0 : Int32)) 79 ((gI (sI (sI (sI σ 75 19 (gI σ 75 18)) 75 20 (0 : Int32)) 75 21 (0 : Int32)) 75 18)).toNatClampNeg) (0 : Int32) σ168))))))))) else (S9_next_230 4096 (0 : Int32) σ168)) else (S9_next_103 4096 σ164)) else none)
def B9_next_0 (rec : St → Option (Unit × St)) (σ : St) : Option (Unit × St) := if (gI σ 75 6) ≤ (gI σ 75 18) then (S9_next_52 σ) else (if inb (gI σ 75 18) 160 then (if (gI σ 79 ((gI σ 75 18)).toNatClampNeg) = (32 : Int32) then (S9_next_39 rec σ) else (if inb (gI σ 75 18) 160 then (if (gI σ 79 ((gI σ 75 18)).toNatClampNeg) = (10 : Int32) then (S9_next_39 rec σ) else (S9_next_52 σ)) else none)) else none)
def S9_next_0 : Nat → St → Option (Unit × St)
  | 0, _ => none
  | n + 1, σ => B9_next_0 (S9_next_0 n) σ
def S9_next (σ : St) : Option (Unit × St) := S9_next_0 4096 σ
set_option maxRecDepth 100000 in
set_option maxHeartbeats 4000000 in
theorem v9_next_39 {g : GT} {X : XT} (hX : OkX g X (m9_next)) (hN : 95 ≤ g.N) {res : Unit × St} (hQ : X.Q = QV g X res.2 ∧ X.cells = 0 ∧ X.slots = 0)  {k0 : St → Option (Unit × St)} (hk0 : ∀ (σ : St), k0 σ = some res → V g X (m9_next) 0 [(0, .ref (g.ad (75)))] [] σ)  (σ : St)  (h : S9_next_39 k0 σ = some res) : V g X (m9_next) 39 [(0, .ref (g.ad (75)))] [] σ := by
  unfold S9_next_39 at h
  refine V_aload_n (q := 40) hX dX9_next_39 0 rfl rfl ?_
  refine V_dup (q := 41) hX dX9_next_40 rfl rfl ?_
  refine V_getI (n := 95) (c := 9) (k := 18) (nf := 39) (C := RX9) (T := TX9) (q := 44) hX rfl rfl iG9 k4_200 rfl rfl ⟨rfl, by decide⟩ hN rfl rfl dX9_next_41 rfl ?_
  refine V_iconst (v := 1) (q := 45) hX dX9_next_44 (by decide) rfl ?_
  refine V_iadd (q := 46) hX dX9_next_45 rfl ?_
  refine V_putI (n := 95) (c := 9) (k := 18) (nf := 39) (C := RX9) (T := TX9) (q := 49) hX rfl rfl iG9 k4_200 rfl rfl ⟨rfl, by decide⟩ hN rfl tyX9 tyX9_ok nmX9 rfl rfl (ty := .int) (tyX9_ok 18 (by decide)) rfl rfl dX9_next_46 rfl ?_
  refine V_goto hX dX9_next_49 (q := 0) (by decide) ?_
  refine V.pick [0] rfl ?_
  exact hk0  (sI σ 75 18 ((gI σ 75 18) + (1 : Int32)))  h
set_option maxRecDepth 100000 in
set_option maxHeartbeats 4000000 in
theorem v9_next_211 {g : GT} {X : XT} (hX : OkX g X (m9_next)) (hN : 95 ≤ g.N) {res : Unit × St} (hQ : X.Q = QV g X res.2 ∧ X.cells = 0 ∧ X.slots = 0)   (s1 : Int32) (σ : St)  (h : S9_next_211 s1 σ = some res) : V g X (m9_next) 211 [] [.int (s1), .ref (g.ad (75))] σ := by
  unfold S9_next_211 at h
  refine V_putI (n := 95) (c := 9) (k := 21) (nf := 39) (C := RX9) (T := TX9) (q := 214) hX rfl rfl iG9 k4_203 rfl rfl ⟨rfl, by decide⟩ hN rfl tyX9 tyX9_ok nmX9 rfl rfl (ty := .int) (tyX9_ok 21 (by decide)) rfl rfl dX9_next_211 rfl ?_
  refine V_goto hX dX9_next_214 (q := 403) (by decide) ?_
  obtain ⟨f1, f2⟩ := some2 h
  rw [f2] at hQ
  exact V_vret hX hQ rfl dX9_next_403
set_option maxRecDepth 100000 in
set_option maxHeartbeats 4000000 in
theorem v9_next_195 {g : GT} {X : XT} (hX : OkX g X (m9_next)) (hN : 95 ≤ g.N) {res : Unit × St} (hQ : X.Q = QV g X res.2 ∧ X.cells = 0 ∧ X.slots = 0)   (x2 : Int32) (s1 : Int32) (σ : St)  (h : S9_next_195 x2 s1 σ = some res) : V g X (m9_next) 195 [(0, .ref (g.ad (75))), (2, .int (x2))] [.int (s1), .ref (g.ad (75))] σ := by
  unfold S9_next_195 at h
  refine V_putI (n := 95) (c := 9) (k := 20) (nf := 39) (C := RX9) (T := TX9) (q := 198) hX rfl rfl iG9 k4_202 rfl rfl ⟨rfl, by decide⟩ hN rfl tyX9 tyX9_ok nmX9 rfl rfl (ty := .int) (tyX9_ok 20 (by decide)) rfl rfl dX9_next_195 rfl ?_
  refine V_aload_n (q := 199) hX dX9_next_198 0 rfl rfl ?_
  refine V_iload_n (q := 200) hX dX9_next_199 1 rfl rfl ?_
  refine V_iconst (v := 3) (q := 201) hX dX9_next_200 (by decide) rfl ?_
  refine V_icmp_ge (q := 204) (t := 208) hX dX9_next_201 (by decide) rfl (fun z139 => ?_) (fun z139 => ?_)
  · have h := ite_t z139 h
    refine V_iload_n (q := 209) hX dX9_next_208 1 rfl rfl ?_
    refine V_iconst (v := 3) (q := 210) hX dX9_next_209 (by decide) rfl ?_
    refine V_isub (q := 211) hX dX9_next_210 rfl ?_
    refine V.pick [] rfl ?_
    exact v9_next_211 hX hN hQ (x2 - (3 : Int32)) (sI σ 75 20 s1) h
  have h := ite_f z139 h
  refine V_iload_n (q := 205) hX dX9_next_204 1 rfl rfl ?_
  refine V_goto hX dX9_next_205 (q := 211) (by decide) ?_
  refine V.pick [] rfl ?_
  exact v9_next_211 hX hN hQ x2 (sI σ 75 20 s1) h
set_option maxRecDepth 100000 in
set_option maxHeartbeats 4000000 in
theorem v9_next_146 {g : GT} {X : XT} (hX : OkX g X (m9_next)) (hN : 95 ≤ g.N) {res : Unit × St} (hQ : X.Q = QV g X res.2 ∧ X.cells = 0 ∧ X.slots = 0)    (σ : St)  (h : S9_next_146 σ = some res) : V g X (m9_next) 146 [(0, .ref (g.ad (75)))] [] σ := by
  unfold S9_next_146 at h
  refine V_aload_n (q := 147) hX dX9_next_146 0 rfl rfl ?_
  refine V_aload_n (q := 148) hX dX9_next_147 0 rfl rfl ?_
  refine V_getI (n := 95) (c := 9) (k := 19) (nf := 39) (C := RX9) (T := TX9) (q := 151) hX rfl rfl iG9 k4_201 rfl rfl ⟨rfl, by decide⟩ hN rfl rfl dX9_next_148 rfl ?_
  refine V_aload_n (q := 152) hX dX9_next_151 0 rfl rfl ?_
  refine V_getI (n := 95) (c := 9) (k := 18) (nf := 39) (C := RX9) (T := TX9) (q := 155) hX rfl rfl iG9 k4_200 rfl rfl ⟨rfl, by decide⟩ hN rfl rfl dX9_next_152 rfl ?_
  obtain ⟨r141, σ140, e142, h⟩ := bnd_some h
  refine V_cvI (n := 95) (c := 9) (nf := 39) (C := RX9) (T := TX9) (As := [.int ((gI σ 75 19)), .int ((gI σ 75 18))]) (q := 158) hX (c9_wordFrom hX.2.2.2.2.1 hN e142) (goodV_of k4_146 k4_148 kp_34 k1_16 (cons_g k4_149)) (nA := 2) (by decide) rfl rfl rfl rfl rfl ⟨rfl, by decide⟩ hN rfl rfl rfl dX9_next_155 rfl ?_
  refine V_istore_n (lv' := [(2, .int (r141)), (0, .ref (g.ad (75)))]) (q := 159) hX dX9_next_158 rfl rfl rfl ?_
  refine V_aload_n (q := 160) hX dX9_next_159 1 rfl rfl ?_
  refine V_iload_n (q := 161) hX dX9_next_160 0 rfl rfl ?_
  refine V_iconst (v := 3) (q := 162) hX dX9_next_161 (by decide) rfl ?_
  refine V_icmp_ge (q := 165) (t := 169) hX dX9_next_162 (by decide) rfl (fun z143 => ?_) (fun z143 => ?_)
  · have h := ite_t z143 h
    refine V_iload_n (q := 170) hX dX9_next_169 0 rfl rfl ?_
    refine V_bipush (v := 9) (q := 172) hX dX9_next_170 (by decide) rfl ?_
    refine V_icmp_ge (q := 175) (t := 179) hX dX9_next_172 (by decide) rfl (fun z144 => ?_) (fun z144 => ?_)
    · have h := ite_t z144 h
      refine V_iload_n (q := 180) hX dX9_next_179 0 rfl rfl ?_
      refine V_bipush (v := 12) (q := 182) hX dX9_next_180 (by decide) rfl ?_
      refine V_icmp_ne (q := 185) (t := 189) hX dX9_next_182 (by decide) rfl (fun z145 => ?_) (fun z145 => ?_)
      · have h := ite_f z145 h
        refine V_iconst (v := 4) (q := 190) hX dX9_next_189 (by decide) rfl ?_
        refine V_iload_n (q := 191) hX dX9_next_190 0 rfl rfl ?_
        refine V_iadd (q := 192) hX dX9_next_191 rfl ?_
        refine V_bipush (v := 9) (q := 194) hX dX9_next_192 (by decide) rfl ?_
        refine V_isub (q := 195) hX dX9_next_194 rfl ?_
        refine V.pick [1, 0] rfl ?_
        exact v9_next_195 hX hN hQ r141 (((4 : Int32) + r141) - (9 : Int32)) σ140 h
      have h := ite_t z145 h
      refine V_iconst (v := -1) (q := 186) hX dX9_next_185 (by decide) rfl ?_
      refine V_goto hX dX9_next_186 (q := 195) (by decide) ?_
      refine V.pick [1, 0] rfl ?_
      exact v9_next_195 hX hN hQ r141 (-1 : Int32) σ140 h
    have h := ite_f z144 h
    refine V_iconst (v := 2) (q := 176) hX dX9_next_175 (by decide) rfl ?_
    refine V_goto hX dX9_next_176 (q := 195) (by decide) ?_
    refine V.pick [1, 0] rfl ?_
    exact v9_next_195 hX hN hQ r141 (2 : Int32) σ140 h
  have h := ite_f z143 h
  refine V_iconst (v := 3) (q := 166) hX dX9_next_165 (by decide) rfl ?_
  refine V_goto hX dX9_next_166 (q := 195) (by decide) ?_
  refine V.pick [1, 0] rfl ?_
  exact v9_next_195 hX hN hQ r141 (3 : Int32) σ140 h
set_option maxRecDepth 100000 in
set_option maxHeartbeats 4000000 in
theorem v9_next_103n {g : GT} {X : XT} (hX : OkX g X (m9_next)) (hN : 95 ≤ g.N) {res : Unit × St} (hQ : X.Q = QV g X res.2 ∧ X.cells = 0 ∧ X.slots = 0)   (n : Nat) : ∀  (σ : St) , S9_next_103 n σ = some res → V g X (m9_next) 103 [(0, .ref (g.ad (75)))] [] σ := by
  induction n with
  | zero => intro σ; intro h; cases h
  | succ n ih =>
    intro σ h
    have h : B9_next_103 (S9_next_103 n) σ = some res := h
    unfold B9_next_103 at h
    refine V_aload_n (q := 104) hX dX9_next_103 0 rfl rfl ?_
    refine V_getI (n := 95) (c := 9) (k := 18) (nf := 39) (C := RX9) (T := TX9) (q := 107) hX rfl rfl iG9 k4_200 rfl rfl ⟨rfl, by decide⟩ hN rfl rfl dX9_next_104 rfl ?_
    refine V_aload_n (q := 108) hX dX9_next_107 0 rfl rfl ?_
    refine V_getI (n := 95) (c := 9) (k := 6) (nf := 39) (C := RX9) (T := TX9) (q := 111) hX rfl rfl iG9 k4_188 rfl rfl ⟨rfl, by decide⟩ hN rfl rfl dX9_next_108 rfl ?_
    refine V_icmp_ge (q := 114) (t := 146) hX dX9_next_111 (by decide) rfl (fun z146 => ?_) (fun z146 => ?_)
    · have h := ite_t z146 h
      refine V.pick [0] rfl ?_
      exact v9_next_146 hX hN hQ σ h
    have h := ite_f z146 h
    refine V_aload_n (q := 115) hX dX9_next_114 0 rfl rfl ?_
    refine V_getF (r := 79) (n := 95) (c := 9) (k := 5) (nf := 39) (C := RX9) (T := TX9) (q := 118) hX rfl rfl iG9 k4_187 rfl rfl ⟨rfl, by decide⟩ hN rfl rfl rfl rfl dX9_next_115 rfl ?_
    refine V_aload_n (q := 119) hX dX9_next_118 0 rfl rfl ?_
    refine V_getI (n := 95) (c := 9) (k := 18) (nf := 39) (C := RX9) (T := TX9) (q := 122) hX rfl rfl iG9 k4_200 rfl rfl ⟨rfl, by decide⟩ hN rfl rfl dX9_next_119 rfl ?_
    obtain ⟨z147, h⟩ := chk_t h
    refine V_iald (n := 95) (len := 160) (q := 123) hX ⟨rfl, rfl, by decide⟩ hN z147 dX9_next_122 rfl ?_
    refine V_bipush (v := 97) (q := 125) hX dX9_next_123 (by decide) rfl ?_
    refine V_bipush (v := 122) (q := 127) hX dX9_next_125 (by decide) rfl ?_
    obtain ⟨r149, σ148, e150, h⟩ := bnd_some h
    refine V_csI (As := [.int ((gI σ 79 ((gI σ 75 18)).toNatClampNeg)), .int ((97 : Int32)), .int ((122 : Int32))]) (q := 130) hX (c9_in hX.2.2.2.2.1 hN e150) (goodS_of k4_143 k4_144 k1_16 (cons_g k4_145)) (nA := 3) (by decide) rfl rfl rfl rfl rfl dX9_next_127 rfl ?_
    refine V_if_eq (q := 133) (t := 146) hX dX9_next_130 (by decide) rfl (fun z151 => ?_) (fun z151 => ?_)
    · have h := ite_t z151 h
      refine V.pick [0] rfl ?_
      exact v9_next_146 hX hN hQ σ148 h
    have h := ite_f z151 h
    refine V_aload_n (q := 134) hX dX9_next_133 0 rfl rfl ?_
    refine V_dup (q := 135) hX dX9_next_134 rfl rfl ?_
    refine V_getI (n := 95) (c := 9) (k := 18) (nf := 39) (C := RX9) (T := TX9) (q := 138) hX rfl rfl iG9 k4_200 rfl rfl ⟨rfl, by decide⟩ hN rfl rfl dX9_next_135 rfl ?_
    refine V_iconst (v := 1) (q := 139) hX dX9_next_138 (by decide) rfl ?_
    refine V_iadd (q := 140) hX dX9_next_139 rfl ?_
    refine V_putI (n := 95) (c := 9) (k := 18) (nf := 39) (C := RX9) (T := TX9) (q := 143) hX rfl rfl iG9 k4_200 rfl rfl ⟨rfl, by decide⟩ hN rfl tyX9 tyX9_ok nmX9 rfl rfl (ty := .int) (tyX9_ok 18 (by decide)) rfl rfl dX9_next_140 rfl ?_
    refine V_goto hX dX9_next_143 (q := 103) (by decide) ?_
    refine V.pick [0] rfl ?_
    exact ih  (sI σ148 75 18 ((gI σ148 75 18) + (1 : Int32)))  h
theorem v9_next_103 {g : GT} {X : XT} (hX : OkX g X (m9_next)) (hN : 95 ≤ g.N) {res : Unit × St} (hQ : X.Q = QV g X res.2 ∧ X.cells = 0 ∧ X.slots = 0) (σ : St) (h : S9_next_103 4096 σ = some res) : V g X (m9_next) 103 [(0, .ref (g.ad (75)))] [] σ := v9_next_103n hX hN hQ 4096 σ h
set_option maxRecDepth 100000 in
set_option maxHeartbeats 4000000 in
theorem v9_next_290 {g : GT} {X : XT} (hX : OkX g X (m9_next)) (hN : 95 ≤ g.N) {res : Unit × St} (hQ : X.Q = QV g X res.2 ∧ X.cells = 0 ∧ X.slots = 0)  {k230 : Int32 → St → Option (Unit × St)} (hk230 : ∀ (x2 : Int32) (σ : St), k230 x2 σ = some res → V g X (m9_next) 230 [(0, .ref (g.ad (75))), (2, .int (x2))] [] σ) (x2 : Int32) (s1 : Int32) (σ : St)  (h : S9_next_290 k230 x2 s1 σ = some res) : V g X (m9_next) 290 [(0, .ref (g.ad (75))), (2, .int (x2))] [.int (s1), .ref (g.ad (75))] σ := by
  unfold S9_next_290 at h
  refine V_putI (n := 95) (c := 9) (k := 21) (nf := 39) (C := RX9) (T := TX9) (q := 293) hX rfl rfl iG9 k4_203 rfl rfl ⟨rfl, by decide⟩ hN rfl tyX9 tyX9_ok nmX9 rfl rfl (ty := .int) (tyX9_ok 21 (by decide)) rfl rfl dX9_next_290 rfl ?_
  refine V_iinc (v := (x2 + 1)) (lv' := [(2, .int ((x2 + 1))), (0, .ref (g.ad (75)))]) (q := 296) hX dX9_next_293 1 rfl (by rfl) rfl rfl rfl ?_
  refine V_aload_n (q := 297) hX dX9_next_296 1 rfl rfl ?_
  refine V_dup (q := 298) hX dX9_next_297 rfl rfl ?_
  refine V_getI (n := 95) (c := 9) (k := 18) (nf := 39) (C := RX9) (T := TX9) (q := 301) hX rfl rfl iG9 k4_200 rfl rfl ⟨rfl, by decide⟩ hN rfl rfl dX9_next_298 rfl ?_
  refine V_iconst (v := 1) (q := 302) hX dX9_next_301 (by decide) rfl ?_
  refine V_iadd (q := 303) hX dX9_next_302 rfl ?_
  refine V_putI (n := 95) (c := 9) (k := 18) (nf := 39) (C := RX9) (T := TX9) (q := 306) hX rfl rfl iG9 k4_200 rfl rfl ⟨rfl, by decide⟩ hN rfl tyX9 tyX9_ok nmX9 rfl rfl (ty := .int) (tyX9_ok 18 (by decide)) rfl rfl dX9_next_303 rfl ?_
  refine V_goto hX dX9_next_306 (q := 230) (by decide) ?_
  refine V.pick [1, 0] rfl ?_
  exact hk230 (x2 + 1) (sI (sI σ 75 21 s1) 75 18 ((gI (sI σ 75 21 s1) 75 18) + (1 : Int32)))  h
set_option maxRecDepth 100000 in
set_option maxHeartbeats 4000000 in
theorem v9_next_320 {g : GT} {X : XT} (hX : OkX g X (m9_next)) (hN : 95 ≤ g.N) {res : Unit × St} (hQ : X.Q = QV g X res.2 ∧ X.cells = 0 ∧ X.slots = 0)   (s1 : Int32) (σ : St)  (h : S9_next_320 s1 σ = some res) : V g X (m9_next) 320 [] [.int (s1), .ref (g.ad (75))] σ := by
  unfold S9_next_320 at h
  refine V_putI (n := 95) (c := 9) (k := 20) (nf := 39) (C := RX9) (T := TX9) (q := 323) hX rfl rfl iG9 k4_202 rfl rfl ⟨rfl, by decide⟩ hN rfl tyX9 tyX9_ok nmX9 rfl rfl (ty := .int) (tyX9_ok 20 (by decide)) rfl rfl dX9_next_320 rfl ?_
  refine V_goto hX dX9_next_323 (q := 403) (by decide) ?_
  obtain ⟨f1, f2⟩ := some2 h
  rw [f2] at hQ
  exact V_vret hX hQ rfl dX9_next_403
set_option maxRecDepth 100000 in
set_option maxHeartbeats 4000000 in
theorem v9_next_309 {g : GT} {X : XT} (hX : OkX g X (m9_next)) (hN : 95 ≤ g.N) {res : Unit × St} (hQ : X.Q = QV g X res.2 ∧ X.cells = 0 ∧ X.slots = 0)   (x2 : Int32) (σ : St)  (h : S9_next_309 x2 σ = some res) : V g X (m9_next) 309 [(0, .ref (g.ad (75))), (2, .int (x2))] [] σ := by
  unfold S9_next_309 at h
  refine V_aload_n (q := 310) hX dX9_next_309 0 rfl rfl ?_
  refine V_iload_n (q := 311) hX dX9_next_310 1 rfl rfl ?_
  refine V_iconst (v := 4) (q := 312) hX dX9_next_311 (by decide) rfl ?_
  refine V_icmp_le (q := 315) (t := 319) hX dX9_next_312 (by decide) rfl (fun z152 => ?_) (fun z152 => ?_)
  · have h := ite_t z152 h
    refine V_iconst (v := 1) (q := 320) hX dX9_next_319 (by decide) rfl ?_
    refine V.pick [] rfl ?_
    exact v9_next_320 hX hN hQ (1 : Int32) σ h
  have h := ite_f z152 h
  refine V_iconst (v := -1) (q := 316) hX dX9_next_315 (by decide) rfl ?_
  refine V_goto hX dX9_next_316 (q := 320) (by decide) ?_
  refine V.pick [] rfl ?_
  exact v9_next_320 hX hN hQ (-1 : Int32) σ h
set_option maxRecDepth 100000 in
set_option maxHeartbeats 4000000 in
theorem v9_next_230n {g : GT} {X : XT} (hX : OkX g X (m9_next)) (hN : 95 ≤ g.N) {res : Unit × St} (hQ : X.Q = QV g X res.2 ∧ X.cells = 0 ∧ X.slots = 0)   (n : Nat) : ∀ (x2 : Int32) (σ : St) , S9_next_230 n x2 σ = some res → V g X (m9_next) 230 [(0, .ref (g.ad (75))), (2, .int (x2))] [] σ := by
  induction n with
  | zero => intro x2 σ; intro h; cases h
  | succ n ih =>
    intro x2 σ h
    have h : B9_next_230 (S9_next_230 n) x2 σ = some res := h
    unfold B9_next_230 at h
    refine V_aload_n (q := 231) hX dX9_next_230 0 rfl rfl ?_
    refine V_getI (n := 95) (c := 9) (k := 18) (nf := 39) (C := RX9) (T := TX9) (q := 234) hX rfl rfl iG9 k4_200 rfl rfl ⟨rfl, by decide⟩ hN rfl rfl dX9_next_231 rfl ?_
    refine V_aload_n (q := 235) hX dX9_next_234 0 rfl rfl ?_
    refine V_getI (n := 95) (c := 9) (k := 6) (nf := 39) (C := RX9) (T := TX9) (q := 238) hX rfl rfl iG9 k4_188 rfl rfl ⟨rfl, by decide⟩ hN rfl rfl dX9_next_235 rfl ?_
    refine V_icmp_ge (q := 241) (t := 309) hX dX9_next_238 (by decide) rfl (fun z153 => ?_) (fun z153 => ?_)
    · have h := ite_t z153 h
      refine V.pick [0, 1] rfl ?_
      exact v9_next_309 hX hN hQ x2 σ h
    have h := ite_f z153 h
    refine V_aload_n (q := 242) hX dX9_next_241 0 rfl rfl ?_
    refine V_getF (r := 79) (n := 95) (c := 9) (k := 5) (nf := 39) (C := RX9) (T := TX9) (q := 245) hX rfl rfl iG9 k4_187 rfl rfl ⟨rfl, by decide⟩ hN rfl rfl rfl rfl dX9_next_242 rfl ?_
    refine V_aload_n (q := 246) hX dX9_next_245 0 rfl rfl ?_
    refine V_getI (n := 95) (c := 9) (k := 18) (nf := 39) (C := RX9) (T := TX9) (q := 249) hX rfl rfl iG9 k4_200 rfl rfl ⟨rfl, by decide⟩ hN rfl rfl dX9_next_246 rfl ?_
    obtain ⟨z154, h⟩ := chk_t h
    refine V_iald (n := 95) (len := 160) (q := 250) hX ⟨rfl, rfl, by decide⟩ hN z154 dX9_next_249 rfl ?_
    refine V_bipush (v := 48) (q := 252) hX dX9_next_250 (by decide) rfl ?_
    refine V_bipush (v := 57) (q := 254) hX dX9_next_252 (by decide) rfl ?_
    obtain ⟨r156, σ155, e157, h⟩ := bnd_some h
    refine V_csI (As := [.int ((gI σ 79 ((gI σ 75 18)).toNatClampNeg)), .int ((48 : Int32)), .int ((57 : Int32))]) (q := 257) hX (c9_in hX.2.2.2.2.1 hN e157) (goodS_of k4_143 k4_144 k1_16 (cons_g k4_145)) (nA := 3) (by decide) rfl rfl rfl rfl rfl dX9_next_254 rfl ?_
    refine V_if_eq (q := 260) (t := 309) hX dX9_next_257 (by decide) rfl (fun z158 => ?_) (fun z158 => ?_)
    · have h := ite_t z158 h
      refine V.pick [0, 1] rfl ?_
      exact v9_next_309 hX hN hQ x2 σ155 h
    have h := ite_f z158 h
    refine V_aload_n (q := 261) hX dX9_next_260 0 rfl rfl ?_
    refine V_iload_n (q := 262) hX dX9_next_261 1 rfl rfl ?_
    refine V_iconst (v := 4) (q := 263) hX dX9_next_262 (by decide) rfl ?_
    refine V_icmp_ge (q := 266) (t := 289) hX dX9_next_263 (by decide) rfl (fun z159 => ?_) (fun z159 => ?_)
    · have h := ite_t z159 h
      refine V_iconst (v := 0) (q := 290) hX dX9_next_289 (by decide) rfl ?_
      refine V.pick [0, 1] rfl ?_
      exact v9_next_290 hX hN hQ ih x2 (0 : Int32) σ155 h
    have h := ite_f z159 h
    refine V_bipush (v := 10) (q := 268) hX dX9_next_266 (by decide) rfl ?_
    refine V_aload_n (q := 269) hX dX9_next_268 0 rfl rfl ?_
    refine V_getI (n := 95) (c := 9) (k := 21) (nf := 39) (C := RX9) (T := TX9) (q := 272) hX rfl rfl iG9 k4_203 rfl rfl ⟨rfl, by decide⟩ hN rfl rfl dX9_next_269 rfl ?_
    refine V_imul (q := 273) hX dX9_next_272 rfl ?_
    refine V_aload_n (q := 274) hX dX9_next_273 0 rfl rfl ?_
    refine V_getF (r := 79) (n := 95) (c := 9) (k := 5) (nf := 39) (C := RX9) (T := TX9) (q := 277) hX rfl rfl iG9 k4_187 rfl rfl ⟨rfl, by decide⟩ hN rfl rfl rfl rfl dX9_next_274 rfl ?_
    refine V_aload_n (q := 278) hX dX9_next_277 0 rfl rfl ?_
    refine V_getI (n := 95) (c := 9) (k := 18) (nf := 39) (C := RX9) (T := TX9) (q := 281) hX rfl rfl iG9 k4_200 rfl rfl ⟨rfl, by decide⟩ hN rfl rfl dX9_next_278 rfl ?_
    obtain ⟨z160, h⟩ := chk_t h
    refine V_iald (n := 95) (len := 160) (q := 282) hX ⟨rfl, rfl, by decide⟩ hN z160 dX9_next_281 rfl ?_
    refine V_iadd (q := 283) hX dX9_next_282 rfl ?_
    refine V_bipush (v := 48) (q := 285) hX dX9_next_283 (by decide) rfl ?_
    refine V_isub (q := 286) hX dX9_next_285 rfl ?_
    refine V_goto hX dX9_next_286 (q := 290) (by decide) ?_
    refine V.pick [0, 1] rfl ?_
    exact v9_next_290 hX hN hQ ih x2 ((((10 : Int32) * (gI σ155 75 21)) + (gI σ155 79 ((gI σ155 75 18)).toNatClampNeg)) - (48 : Int32)) σ155 h
theorem v9_next_230 {g : GT} {X : XT} (hX : OkX g X (m9_next)) (hN : 95 ≤ g.N) {res : Unit × St} (hQ : X.Q = QV g X res.2 ∧ X.cells = 0 ∧ X.slots = 0) (x2 : Int32) (σ : St) (h : S9_next_230 4096 x2 σ = some res) : V g X (m9_next) 230 [(0, .ref (g.ad (75))), (2, .int (x2))] [] σ := v9_next_230n hX hN hQ 4096 x2 σ h
set_option maxRecDepth 100000 in
set_option maxHeartbeats 4000000 in
theorem v9_next_390 {g : GT} {X : XT} (hX : OkX g X (m9_next)) (hN : 95 ≤ g.N) {res : Unit × St} (hQ : X.Q = QV g X res.2 ∧ X.cells = 0 ∧ X.slots = 0)   (s1 : Int32) (σ : St)  (h : S9_next_390 s1 σ = some res) : V g X (m9_next) 390 [(0, .ref (g.ad (75)))] [.int (s1), .ref (g.ad (75))] σ := by
  unfold S9_next_390 at h
  refine V_putI (n := 95) (c := 9) (k := 20) (nf := 39) (C := RX9) (T := TX9) (q := 393) hX rfl rfl iG9 k4_202 rfl rfl ⟨rfl, by decide⟩ hN rfl tyX9 tyX9_ok nmX9 rfl rfl (ty := .int) (tyX9_ok 20 (by decide)) rfl rfl dX9_next_390 rfl ?_
  refine V_aload_n (q := 394) hX dX9_next_393 0 rfl rfl ?_
  refine V_dup (q := 395) hX dX9_next_394 rfl rfl ?_
  refine V_getI (n := 95) (c := 9) (k := 18) (nf := 39) (C := RX9) (T := TX9) (q := 398) hX rfl rfl iG9 k4_200 rfl rfl ⟨rfl, by decide⟩ hN rfl rfl dX9_next_395 rfl ?_
  refine V_iconst (v := 1) (q := 399) hX dX9_next_398 (by decide) rfl ?_
  refine V_iadd (q := 400) hX dX9_next_399 rfl ?_
  refine V_putI (n := 95) (c := 9) (k := 18) (nf := 39) (C := RX9) (T := TX9) (q := 403) hX rfl rfl iG9 k4_200 rfl rfl ⟨rfl, by decide⟩ hN rfl tyX9 tyX9_ok nmX9 rfl rfl (ty := .int) (tyX9_ok 18 (by decide)) rfl rfl dX9_next_400 rfl ?_
  obtain ⟨f1, f2⟩ := some2 h
  rw [f2] at hQ
  exact V_vret hX hQ rfl dX9_next_403
set_option maxRecDepth 100000 in
set_option maxHeartbeats 4000000 in
theorem v9_next_379 {g : GT} {X : XT} (hX : OkX g X (m9_next)) (hN : 95 ≤ g.N) {res : Unit × St} (hQ : X.Q = QV g X res.2 ∧ X.cells = 0 ∧ X.slots = 0)   (x1 : Int32) (s0 : Int32) (σ : St)  (h : S9_next_379 x1 s0 σ = some res) : V g X (m9_next) 379 [(0, .ref (g.ad (75))), (1, .int (x1))] [.int (s0)] σ := by
  unfold S9_next_379 at h
  refine V_istore_n (lv' := [(2, .int (s0)), (0, .ref (g.ad (75))), (1, .int (x1))]) (q := 380) hX dX9_next_379 rfl rfl rfl ?_
  refine V_aload_n (q := 381) hX dX9_next_380 1 rfl rfl ?_
  refine V_iload_n (q := 382) hX dX9_next_381 0 rfl rfl ?_
  refine V_if_eq (q := 385) (t := 389) hX dX9_next_382 (by decide) rfl (fun z161 => ?_) (fun z161 => ?_)
  · have h := ite_t z161 h
    refine V_iconst (v := -1) (q := 390) hX dX9_next_389 (by decide) rfl ?_
    refine V.pick [1] rfl ?_
    exact v9_next_390 hX hN hQ (-1 : Int32) σ h
  have h := ite_f z161 h
  refine V_iload_n (q := 386) hX dX9_next_385 2 rfl rfl ?_
  refine V_goto hX dX9_next_386 (q := 390) (by decide) ?_
  refine V.pick [1] rfl ?_
  exact v9_next_390 hX hN hQ x1 σ h
set_option maxRecDepth 100000 in
set_option maxHeartbeats 4000000 in
theorem v9_next_374 {g : GT} {X : XT} (hX : OkX g X (m9_next)) (hN : 95 ≤ g.N) {res : Unit × St} (hQ : X.Q = QV g X res.2 ∧ X.cells = 0 ∧ X.slots = 0)   (x1 : Int32) (σ : St)  (h : S9_next_374 x1 σ = some res) : V g X (m9_next) 374 [(0, .ref (g.ad (75))), (1, .int (x1))] [] σ := by
  unfold S9_next_374 at h
  refine V_iconst (v := 1) (q := 375) hX dX9_next_374 (by decide) rfl ?_
  refine V_goto hX dX9_next_375 (q := 379) (by decide) ?_
  refine V.pick [0, 1] rfl ?_
  exact v9_next_379 hX hN hQ x1 (1 : Int32) σ h
set_option maxRecDepth 100000 in
set_option maxHeartbeats 4000000 in
theorem v9_next_52 {g : GT} {X : XT} (hX : OkX g X (m9_next)) (hN : 95 ≤ g.N) {res : Unit × St} (hQ : X.Q = QV g X res.2 ∧ X.cells = 0 ∧ X.slots = 0)    (σ : St)  (h : S9_next_52 σ = some res) : V g X (m9_next) 52 [(0, .ref (g.ad (75)))] [] σ := by
  unfold S9_next_52 at h
  refine V_aload_n (q := 53) hX dX9_next_52 0 rfl rfl ?_
  refine V_aload_n (q := 54) hX dX9_next_53 0 rfl rfl ?_
  refine V_getI (n := 95) (c := 9) (k := 18) (nf := 39) (C := RX9) (T := TX9) (q := 57) hX rfl rfl iG9 k4_200 rfl rfl ⟨rfl, by decide⟩ hN rfl rfl dX9_next_54 rfl ?_
  refine V_putI (n := 95) (c := 9) (k := 19) (nf := 39) (C := RX9) (T := TX9) (q := 60) hX rfl rfl iG9 k4_201 rfl rfl ⟨rfl, by decide⟩ hN rfl tyX9 tyX9_ok nmX9 rfl rfl (ty := .int) (tyX9_ok 19 (by decide)) rfl rfl dX9_next_57 rfl ?_
  refine V_aload_n (q := 61) hX dX9_next_60 0 rfl rfl ?_
  refine V_iconst (v := 0) (q := 62) hX dX9_next_61 (by decide) rfl ?_
  refine V_putI (n := 95) (c := 9) (k := 20) (nf := 39) (C := RX9) (T := TX9) (q := 65) hX rfl rfl iG9 k4_202 rfl rfl ⟨rfl, by decide⟩ hN rfl tyX9 tyX9_ok nmX9 rfl rfl (ty := .int) (tyX9_ok 20 (by decide)) rfl rfl dX9_next_62 rfl ?_
  refine V_aload_n (q := 66) hX dX9_next_65 0 rfl rfl ?_
  refine V_iconst (v := 0) (q := 67) hX dX9_next_66 (by decide) rfl ?_
  refine V_putI (n := 95) (c := 9) (k := 21) (nf := 39) (C := RX9) (T := TX9) (q := 70) hX rfl rfl iG9 k4_203 rfl rfl ⟨rfl, by decide⟩ hN rfl tyX9 tyX9_ok nmX9 rfl rfl (ty := .int) (tyX9_ok 21 (by decide)) rfl rfl dX9_next_67 rfl ?_
  refine V_aload_n (q := 71) hX dX9_next_70 0 rfl rfl ?_
  refine V_getI (n := 95) (c := 9) (k := 18) (nf := 39) (C := RX9) (T := TX9) (q := 74) hX rfl rfl iG9 k4_200 rfl rfl ⟨rfl, by decide⟩ hN rfl rfl dX9_next_71 rfl ?_
  refine V_aload_n (q := 75) hX dX9_next_74 0 rfl rfl ?_
  refine V_getI (n := 95) (c := 9) (k := 6) (nf := 39) (C := RX9) (T := TX9) (q := 78) hX rfl rfl iG9 k4_188 rfl rfl ⟨rfl, by decide⟩ hN rfl rfl dX9_next_75 rfl ?_
  refine V_icmp_ne (q := 81) (t := 82) hX dX9_next_78 (by decide) rfl (fun z162 => ?_) (fun z162 => ?_)
  · have h := ite_f z162 h
    refine V_aload_n (q := 83) hX dX9_next_82 0 rfl rfl ?_
    refine V_getF (r := 79) (n := 95) (c := 9) (k := 5) (nf := 39) (C := RX9) (T := TX9) (q := 86) hX rfl rfl iG9 k4_187 rfl rfl ⟨rfl, by decide⟩ hN rfl rfl rfl rfl dX9_next_83 rfl ?_
    refine V_aload_n (q := 87) hX dX9_next_86 0 rfl rfl ?_
    refine V_getI (n := 95) (c := 9) (k := 18) (nf := 39) (C := RX9) (T := TX9) (q := 90) hX rfl rfl iG9 k4_200 rfl rfl ⟨rfl, by decide⟩ hN rfl rfl dX9_next_87 rfl ?_
    obtain ⟨z163, h⟩ := chk_t h
    refine V_iald (n := 95) (len := 160) (q := 91) hX ⟨rfl, rfl, by decide⟩ hN z163 dX9_next_90 rfl ?_
    refine V_istore_n (lv' := [(1, .int ((gI (sI (sI (sI σ 75 19 (gI σ 75 18)) 75 20 (0 : Int32)) 75 21 (0 : Int32)) 79 ((gI (sI (sI (sI σ 75 19 (gI σ 75 18)) 75 20 (0 : Int32)) 75 21 (0 : Int32)) 75 18)).toNatClampNeg))), (0, .ref (g.ad (75)))]) (q := 92) hX dX9_next_91 rfl rfl rfl ?_
    refine V_iload_n (q := 93) hX dX9_next_92 0 rfl rfl ?_
    refine V_bipush (v := 97) (q := 95) hX dX9_next_93 (by decide) rfl ?_
    refine V_bipush (v := 122) (q := 97) hX dX9_next_95 (by decide) rfl ?_
    obtain ⟨r165, σ164, e166, h⟩ := bnd_some h
    refine V_csI (As := [.int ((gI (sI (sI (sI σ 75 19 (gI σ 75 18)) 75 20 (0 : Int32)) 75 21 (0 : Int32)) 79 ((gI (sI (sI (sI σ 75 19 (gI σ 75 18)) 75 20 (0 : Int32)) 75 21 (0 : Int32)) 75 18)).toNatClampNeg)), .int ((97 : Int32)), .int ((122 : Int32))]) (q := 100) hX (c9_in hX.2.2.2.2.1 hN e166) (goodS_of k4_143 k4_144 k1_16 (cons_g k4_145)) (nA := 3) (by decide) rfl rfl rfl rfl rfl dX9_next_97 rfl ?_
    refine V_if_eq (q := 103) (t := 217) hX dX9_next_100 (by decide) rfl (fun z167 => ?_) (fun z167 => ?_)
    · have h := ite_t z167 h
      refine V_iload_n (q := 218) hX dX9_next_217 0 rfl rfl ?_
      refine V_bipush (v := 48) (q := 220) hX dX9_next_218 (by decide) rfl ?_
      refine V_bipush (v := 57) (q := 222) hX dX9_next_220 (by decide) rfl ?_
      obtain ⟨r169, σ168, e170, h⟩ := bnd_some h
      refine V_csI (As := [.int ((gI (sI (sI (sI σ 75 19 (gI σ 75 18)) 75 20 (0 : Int32)) 75 21 (0 : Int32)) 79 ((gI (sI (sI (sI σ 75 19 (gI σ 75 18)) 75 20 (0 : Int32)) 75 21 (0 : Int32)) 75 18)).toNatClampNeg)), .int ((48 : Int32)), .int ((57 : Int32))]) (q := 225) hX (c9_in hX.2.2.2.2.1 hN e170) (goodS_of k4_143 k4_144 k1_16 (cons_g k4_145)) (nA := 3) (by decide) rfl rfl rfl rfl rfl dX9_next_222 rfl ?_
      refine V_if_eq (q := 228) (t := 326) hX dX9_next_225 (by decide) rfl (fun z171 => ?_) (fun z171 => ?_)
      · have h := ite_t z171 h
        refine V_iload_n (q := 327) hX dX9_next_326 0 rfl rfl ?_
        refine V_bipush (v := 40) (q := 329) hX dX9_next_327 (by decide) rfl ?_
        refine V_icmp_eq (q := 332) (t := 374) hX dX9_next_329 (by decide) rfl (fun z172 => ?_) (fun z172 => ?_)
        · have h := ite_t z172 h
          refine V.pick [1, 0] rfl ?_
          exact v9_next_374 hX hN hQ (gI (sI (sI (sI σ 75 19 (gI σ 75 18)) 75 20 (0 : Int32)) 75 21 (0 : Int32)) 79 ((gI (sI (sI (sI σ 75 19 (gI σ 75 18)) 75 20 (0 : Int32)) 75 21 (0 : Int32)) 75 18)).toNatClampNeg) σ168 h
        have h := ite_f z172 h
        refine V_iload_n (q := 333) hX dX9_next_332 0 rfl rfl ?_
        refine V_bipush (v := 41) (q := 335) hX dX9_next_333 (by decide) rfl ?_
        refine V_icmp_eq (q := 338) (t := 374) hX dX9_next_335 (by decide) rfl (fun z173 => ?_) (fun z173 => ?_)
        · have h := ite_t z173 h
          refine V.pick [1, 0] rfl ?_
          exact v9_next_374 hX hN hQ (gI (sI (sI (sI σ 75 19 (gI σ 75 18)) 75 20 (0 : Int32)) 75 21 (0 : Int32)) 79 ((gI (sI (sI (sI σ 75 19 (gI σ 75 18)) 75 20 (0 : Int32)) 75 21 (0 : Int32)) 75 18)).toNatClampNeg) σ168 h
        have h := ite_f z173 h
        refine V_iload_n (q := 339) hX dX9_next_338 0 rfl rfl ?_
        refine V_bipush (v := 59) (q := 341) hX dX9_next_339 (by decide) rfl ?_
        refine V_icmp_eq (q := 344) (t := 374) hX dX9_next_341 (by decide) rfl (fun z174 => ?_) (fun z174 => ?_)
        · have h := ite_t z174 h
          refine V.pick [1, 0] rfl ?_
          exact v9_next_374 hX hN hQ (gI (sI (sI (sI σ 75 19 (gI σ 75 18)) 75 20 (0 : Int32)) 75 21 (0 : Int32)) 79 ((gI (sI (sI (sI σ 75 19 (gI σ 75 18)) 75 20 (0 : Int32)) 75 21 (0 : Int32)) 75 18)).toNatClampNeg) σ168 h
        have h := ite_f z174 h
        refine V_iload_n (q := 345) hX dX9_next_344 0 rfl rfl ?_
        refine V_bipush (v := 43) (q := 347) hX dX9_next_345 (by decide) rfl ?_
        refine V_icmp_eq (q := 350) (t := 374) hX dX9_next_347 (by decide) rfl (fun z175 => ?_) (fun z175 => ?_)
        · have h := ite_t z175 h
          refine V.pick [1, 0] rfl ?_
          exact v9_next_374 hX hN hQ (gI (sI (sI (sI σ 75 19 (gI σ 75 18)) 75 20 (0 : Int32)) 75 21 (0 : Int32)) 79 ((gI (sI (sI (sI σ 75 19 (gI σ 75 18)) 75 20 (0 : Int32)) 75 21 (0 : Int32)) 75 18)).toNatClampNeg) σ168 h
        have h := ite_f z175 h
        refine V_iload_n (q := 351) hX dX9_next_350 0 rfl rfl ?_
        refine V_bipush (v := 45) (q := 353) hX dX9_next_351 (by decide) rfl ?_
        refine V_icmp_eq (q := 356) (t := 374) hX dX9_next_353 (by decide) rfl (fun z176 => ?_) (fun z176 => ?_)
        · have h := ite_t z176 h
          refine V.pick [1, 0] rfl ?_
          exact v9_next_374 hX hN hQ (gI (sI (sI (sI σ 75 19 (gI σ 75 18)) 75 20 (0 : Int32)) 75 21 (0 : Int32)) 79 ((gI (sI (sI (sI σ 75 19 (gI σ 75 18)) 75 20 (0 : Int32)) 75 21 (0 : Int32)) 75 18)).toNatClampNeg) σ168 h
        have h := ite_f z176 h
        refine V_iload_n (q := 357) hX dX9_next_356 0 rfl rfl ?_
        refine V_bipush (v := 42) (q := 359) hX dX9_next_357 (by decide) rfl ?_
        refine V_icmp_eq (q := 362) (t := 374) hX dX9_next_359 (by decide) rfl (fun z177 => ?_) (fun z177 => ?_)
        · have h := ite_t z177 h
          refine V.pick [1, 0] rfl ?_
          exact v9_next_374 hX hN hQ (gI (sI (sI (sI σ 75 19 (gI σ 75 18)) 75 20 (0 : Int32)) 75 21 (0 : Int32)) 79 ((gI (sI (sI (sI σ 75 19 (gI σ 75 18)) 75 20 (0 : Int32)) 75 21 (0 : Int32)) 75 18)).toNatClampNeg) σ168 h
        have h := ite_f z177 h
        refine V_iload_n (q := 363) hX dX9_next_362 0 rfl rfl ?_
        refine V_bipush (v := 60) (q := 365) hX dX9_next_363 (by decide) rfl ?_
        refine V_icmp_eq (q := 368) (t := 374) hX dX9_next_365 (by decide) rfl (fun z178 => ?_) (fun z178 => ?_)
        · have h := ite_t z178 h
          refine V.pick [1, 0] rfl ?_
          exact v9_next_374 hX hN hQ (gI (sI (sI (sI σ 75 19 (gI σ 75 18)) 75 20 (0 : Int32)) 75 21 (0 : Int32)) 79 ((gI (sI (sI (sI σ 75 19 (gI σ 75 18)) 75 20 (0 : Int32)) 75 21 (0 : Int32)) 75 18)).toNatClampNeg) σ168 h
        have h := ite_f z178 h
        refine V_iload_n (q := 369) hX dX9_next_368 0 rfl rfl ?_
        refine V_bipush (v := 61) (q := 371) hX dX9_next_369 (by decide) rfl ?_
        refine V_icmp_ne (q := 374) (t := 378) hX dX9_next_371 (by decide) rfl (fun z179 => ?_) (fun z179 => ?_)
        · have h := ite_f z179 h
          refine V_iconst (v := 0) (q := 379) hX dX9_next_378 (by decide) rfl ?_
          refine V.pick [1, 0] rfl ?_
          exact v9_next_379 hX hN hQ (gI (sI (sI (sI σ 75 19 (gI σ 75 18)) 75 20 (0 : Int32)) 75 21 (0 : Int32)) 79 ((gI (sI (sI (sI σ 75 19 (gI σ 75 18)) 75 20 (0 : Int32)) 75 21 (0 : Int32)) 75 18)).toNatClampNeg) (0 : Int32) σ168 h
        have h := ite_t z179 h
        refine V.pick [1, 0] rfl ?_
        exact v9_next_374 hX hN hQ (gI (sI (sI (sI σ 75 19 (gI σ 75 18)) 75 20 (0 : Int32)) 75 21 (0 : Int32)) 79 ((gI (sI (sI (sI σ 75 19 (gI σ 75 18)) 75 20 (0 : Int32)) 75 21 (0 : Int32)) 75 18)).toNatClampNeg) σ168 h
      have h := ite_f z171 h
      refine V_iconst (v := 0) (q := 229) hX dX9_next_228 (by decide) rfl ?_
      refine V_istore_n (lv' := [(2, .int ((0 : Int32))), (1, .int ((gI (sI (sI (sI σ 75 19 (gI σ 75 18)) 75 20 (0 : Int32)) 75 21 (0 : Int32)) 79 ((gI (sI (sI (sI σ 75 19 (gI σ 75 18)) 75 20 (0 : Int32)) 75 21 (0 : Int32)) 75 18)).toNatClampNeg))), (0, .ref (g.ad (75)))]) (q := 230) hX dX9_next_229 rfl rfl rfl ?_
      refine V.pick [2, 0] rfl ?_
      exact v9_next_230 hX hN hQ (0 : Int32) σ168 h
    have h := ite_f z167 h
    refine V.pick [1] rfl ?_
    exact v9_next_103 hX hN hQ σ164 h
  have h := ite_t z162 h
  obtain ⟨f1, f2⟩ := some2 h
  rw [f2] at hQ
  exact V_vret hX hQ rfl dX9_next_81
set_option maxRecDepth 100000 in
set_option maxHeartbeats 4000000 in
theorem v9_next_0n {g : GT} {X : XT} (hX : OkX g X (m9_next)) (hN : 95 ≤ g.N) {res : Unit × St} (hQ : X.Q = QV g X res.2 ∧ X.cells = 0 ∧ X.slots = 0)   (n : Nat) : ∀  (σ : St) , S9_next_0 n σ = some res → V g X (m9_next) 0 [(0, .ref (g.ad (75)))] [] σ := by
  induction n with
  | zero => intro σ; intro h; cases h
  | succ n ih =>
    intro σ h
    have h : B9_next_0 (S9_next_0 n) σ = some res := h
    unfold B9_next_0 at h
    refine V_aload_n (q := 1) hX dX9_next_0 0 rfl rfl ?_
    refine V_getI (n := 95) (c := 9) (k := 18) (nf := 39) (C := RX9) (T := TX9) (q := 4) hX rfl rfl iG9 k4_200 rfl rfl ⟨rfl, by decide⟩ hN rfl rfl dX9_next_1 rfl ?_
    refine V_aload_n (q := 5) hX dX9_next_4 0 rfl rfl ?_
    refine V_getI (n := 95) (c := 9) (k := 6) (nf := 39) (C := RX9) (T := TX9) (q := 8) hX rfl rfl iG9 k4_188 rfl rfl ⟨rfl, by decide⟩ hN rfl rfl dX9_next_5 rfl ?_
    refine V_icmp_ge (q := 11) (t := 52) hX dX9_next_8 (by decide) rfl (fun z180 => ?_) (fun z180 => ?_)
    · have h := ite_t z180 h
      refine V.pick [0] rfl ?_
      exact v9_next_52 hX hN hQ σ h
    have h := ite_f z180 h
    refine V_aload_n (q := 12) hX dX9_next_11 0 rfl rfl ?_
    refine V_getF (r := 79) (n := 95) (c := 9) (k := 5) (nf := 39) (C := RX9) (T := TX9) (q := 15) hX rfl rfl iG9 k4_187 rfl rfl ⟨rfl, by decide⟩ hN rfl rfl rfl rfl dX9_next_12 rfl ?_
    refine V_aload_n (q := 16) hX dX9_next_15 0 rfl rfl ?_
    refine V_getI (n := 95) (c := 9) (k := 18) (nf := 39) (C := RX9) (T := TX9) (q := 19) hX rfl rfl iG9 k4_200 rfl rfl ⟨rfl, by decide⟩ hN rfl rfl dX9_next_16 rfl ?_
    obtain ⟨z181, h⟩ := chk_t h
    refine V_iald (n := 95) (len := 160) (q := 20) hX ⟨rfl, rfl, by decide⟩ hN z181 dX9_next_19 rfl ?_
    refine V_bipush (v := 32) (q := 22) hX dX9_next_20 (by decide) rfl ?_
    refine V_icmp_eq (q := 25) (t := 39) hX dX9_next_22 (by decide) rfl (fun z182 => ?_) (fun z182 => ?_)
    · have h := ite_t z182 h
      refine V.pick [0] rfl ?_
      exact v9_next_39 hX hN hQ ih σ h
    have h := ite_f z182 h
    refine V_aload_n (q := 26) hX dX9_next_25 0 rfl rfl ?_
    refine V_getF (r := 79) (n := 95) (c := 9) (k := 5) (nf := 39) (C := RX9) (T := TX9) (q := 29) hX rfl rfl iG9 k4_187 rfl rfl ⟨rfl, by decide⟩ hN rfl rfl rfl rfl dX9_next_26 rfl ?_
    refine V_aload_n (q := 30) hX dX9_next_29 0 rfl rfl ?_
    refine V_getI (n := 95) (c := 9) (k := 18) (nf := 39) (C := RX9) (T := TX9) (q := 33) hX rfl rfl iG9 k4_200 rfl rfl ⟨rfl, by decide⟩ hN rfl rfl dX9_next_30 rfl ?_
    obtain ⟨z183, h⟩ := chk_t h
    refine V_iald (n := 95) (len := 160) (q := 34) hX ⟨rfl, rfl, by decide⟩ hN z183 dX9_next_33 rfl ?_
    refine V_bipush (v := 10) (q := 36) hX dX9_next_34 (by decide) rfl ?_
    refine V_icmp_ne (q := 39) (t := 52) hX dX9_next_36 (by decide) rfl (fun z184 => ?_) (fun z184 => ?_)
    · have h := ite_f z184 h
      refine V.pick [0] rfl ?_
      exact v9_next_52 hX hN hQ σ h
    have h := ite_t z184 h
    refine V.pick [0] rfl ?_
    exact v9_next_39 hX hN hQ ih σ h
theorem v9_next_0 {g : GT} {X : XT} (hX : OkX g X (m9_next)) (hN : 95 ≤ g.N) {res : Unit × St} (hQ : X.Q = QV g X res.2 ∧ X.cells = 0 ∧ X.slots = 0) (σ : St) (h : S9_next_0 4096 σ = some res) : V g X (m9_next) 0 [(0, .ref (g.ad (75)))] [] σ := v9_next_0n hX hN hQ 4096 σ h
set_option maxRecDepth 100000 in
set_option maxHeartbeats 4000000 in
theorem v9_next {g : GT} {X : XT} (hX : OkX g X (m9_next)) (hN : 95 ≤ g.N) {res : Unit × St} (hQ : X.Q = QV g X res.2 ∧ X.cells = 0 ∧ X.slots = 0) {σ : St} (h : S9_next σ = some res) : V g X (m9_next) 0 [(0, .ref (g.ad (75)))] [] σ := by
  unfold S9_next at h
  refine V.pick [0] rfl ?_
  exact v9_next_0 hX hN hQ σ h
set_option maxRecDepth 100000 in
set_option maxHeartbeats 4000000 in
theorem c9_next {g : GT} {l : Launch} (hg : OkG g) (hN : 95 ≤ g.N) {σ : St} {r : Unit} {σ' : St} (h : S9_next σ = some (r, σ')) : CtV g l m9_next yX9_next [.ref (g.ad (75))] σ σ' := CtV.of hg (by decide) rfl rfl (fun X h1 h2 h3 => v9_next h1 hN (res := (r, σ')) h3 h)
