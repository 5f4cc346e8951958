abbrev m9_beats : MI := (cX9_beats, RX9, 6, some .int, 7)
def S9_beats_79 (a1 : Int32) (a2 : Int32) (a3 : Int32) (k34 : Int32 → Int32 → St → Option (Int32 × St)) (x4 : Int32) (x5 : Int32) (σ : St) : Option (Int32 × St) := k34 x4 (x5 + 1) σ
def S9_beats_76 (a1 : Int32) (a2 : Int32) (a3 : Int32) (k34 : Int32 → Int32 → St → Option (Int32 × St)) (x5 : Int32) (s0 : Int32) (s1 : Int32) (σ : St) : Option (Int32 × St) := S9_beats_79 a1 a2 a3 k34 (s0 ||| s1) x5 σ
def B9_beats_34 (a1 : Int32) (a2 : Int32) (a3 : Int32) (rec : Int32 → Int32 → St → Option (Int32 × St)) (x4 : Int32) (x5 : Int32) (σ : St) : Option (Int32 × St) := if (gI σ 75 0) ≤ x5 then (some (x4, σ)) else (if x5 = a1 then (S9_beats_79 a1 a2 a3 rec x4 x5 σ) else (bnd (S9_bout0 a1 x5 a2 a3 σ) fun r58 σ57 => if (gI σ57 75 35) = a1 then (S9_beats_76 a1 a2 a3 rec x5 x4 ((1 : Int32) <<< (x5 &&& 31)) σ57) else (S9_beats_76 a1 a2 a3 rec x5 x4 (0 : Int32) σ57)))
def S9_beats_34 (a1 : Int32) (a2 : Int32) (a3 : Int32) : Nat → Int32 → Int32 → St → Option (Int32 × St)
  | 0, _, _, _ => none
  | n + 1, x4, x5, σ => B9_beats_34 a1 a2 a3 (S9_beats_34 a1 a2 a3 n) x4 x5 σ
def S9_beats (a1 : Int32) (a2 : Int32) (a3 : Int32) (σ : St) : Option (Int32 × St) := bnd (S9_isMan a1 σ) fun r62 σ61 => if r62 = 0 then (some ((-5 : Int32), σ61)) else (bnd (S9_isPlan a2 σ61) fun r66 σ65 => if r66 = 0 then (some ((-7 : Int32), σ65)) else (bnd (S9_isPlan a3 σ65) fun r70 σ69 => if r70 = 0 then (some ((-7 : Int32), σ69)) else (S9_beats_34 a1 a2 a3 4096 (0 : Int32) (0 : Int32) σ69)))
set_option maxRecDepth 100000 in
set_option maxHeartbeats 4000000 in
theorem v9_beats_79 {g : GT} {X : XT} {a1 : Int32} {a2 : Int32} {a3 : Int32} (hX : OkX g X (m9_beats)) (hN : 95 ≤ g.N) {res : Int32 × St} (hQ : X.Q = QI g X res.1 res.2 ∧ X.cells = 0 ∧ X.slots = 0)  {k34 : Int32 → Int32 → St → Option (Int32 × St)} (hk34 : ∀ (x4 : Int32) (x5 : Int32) (σ : St), k34 x4 x5 σ = some res → V g X (m9_beats) 34 [(0, .ref (g.ad (75))), (1, .int (a1)), (2, .int (a2)), (3, .int (a3)), (4, .int (x4)), (5, .int (x5))] [] σ) (x4 : Int32) (x5 : Int32) (σ : St)  (h : S9_beats_79 a1 a2 a3 k34 x4 x5 σ = some res) : V g X (m9_beats) 79 [(0, .ref (g.ad (75))), (1, .int (a1)), (2, .int (a2)), (3, .int (a3)), (4, .int (x4)), (5, .int (x5))] [] σ := by
  unfold S9_beats_79 at h
  refine V_iinc (v := (x5 + 1)) (lv' := [(5, .int ((x5 + 1))), (0, .ref (g.ad (75))), (1, .int (a1)), (2, .int (a2)), (3, .int (a3)), (4, .int (x4))]) (q := 82) hX dX9_beats_79 5 rfl (by rfl) rfl rfl rfl ?_
  refine V_goto hX dX9_beats_82 (q := 34) (by decide) ?_
  refine V.pick [1, 2, 3, 4, 5, 0] rfl ?_
  exact hk34 x4 (x5 + 1) σ  h
set_option maxRecDepth 100000 in
set_option maxHeartbeats 4000000 in
theorem v9_beats_76 {g : GT} {X : XT} {a1 : Int32} {a2 : Int32} {a3 : Int32} (hX : OkX g X (m9_beats)) (hN : 95 ≤ g.N) {res : Int32 × St} (hQ : X.Q = QI g X res.1 res.2 ∧ X.cells = 0 ∧ X.slots = 0)  {k34 : Int32 → Int32 → St → Option (Int32 × St)} (hk34 : ∀ (x4 : Int32) (x5 : Int32) (σ : St), k34 x4 x5 σ = some res → V g X (m9_beats) 34 [(0, .ref (g.ad (75))), (1, .int (a1)), (2, .int (a2)), (3, .int (a3)), (4, .int (x4)), (5, .int (x5))] [] σ) (x5 : Int32) (s0 : Int32) (s1 : Int32) (σ : St)  (h : S9_beats_76 a1 a2 a3 k34 x5 s0 s1 σ = some res) : V g X (m9_beats) 76 [(0, .ref (g.ad (75))), (1, .int (a1)), (2, .int (a2)), (3, .int (a3)), (5, .int (x5))] [.int (s1), .int (s0)] σ := by
  unfold S9_beats_76 at h
  refine V_ior (q := 77) hX dX9_beats_76 rfl ?_
  refine V_istore (lv' := [(4, .int ((s0 ||| s1))), (0, .ref (g.ad (75))), (1, .int (a1)), (2, .int (a2)), (3, .int (a3)), (5, .int (x5))]) (q := 79) hX dX9_beats_77 rfl rfl rfl ?_
  refine V.pick [1, 2, 3, 4, 0, 5] rfl ?_
  exact v9_beats_79 hX hN hQ hk34 (s0 ||| s1) x5 σ h
set_option maxRecDepth 100000 in
set_option maxHeartbeats 4000000 in
theorem v9_beats_34n {g : GT} {X : XT} {a1 : Int32} {a2 : Int32} {a3 : Int32} (hX : OkX g X (m9_beats)) (hN : 95 ≤ g.N) {res : Int32 × St} (hQ : X.Q = QI g X res.1 res.2 ∧ X.cells = 0 ∧ X.slots = 0)   (n : Nat) : ∀ (x4 : Int32) (x5 : Int32) (σ : St) , S9_beats_34 a1 a2 a3 n x4 x5 σ = some res → V g X (m9_beats) 34 [(0, .ref (g.ad (75))), (1, .int (a1)), (2, .int (a2)), (3, .int (a3)), (4, .int (x4)), (5, .int (x5))] [] σ := by
  induction n with
  | zero => intro x4 x5 σ; intro h; cases h
  | succ n ih =>
    intro x4 x5 σ h
    have h : B9_beats_34 a1 a2 a3 (S9_beats_34 a1 a2 a3 n) x4 x5 σ = some res := h
    unfold B9_beats_34 at h
    refine V_iload (q := 36) hX dX9_beats_34 5 rfl rfl ?_
    refine V_aload_n (q := 37) hX dX9_beats_36 0 rfl rfl ?_
    refine V_getI (n := 95) (c := 9) (k := 0) (nf := 39) (C := RX9) (T := TX9) (q := 40) hX rfl rfl iG9 k4_182 rfl rfl ⟨rfl, by decide⟩ hN rfl rfl dX9_beats_37 rfl ?_
    refine V_icmp_ge (q := 43) (t := 85) hX dX9_beats_40 (by decide) rfl (fun z55 => ?_) (fun z55 => ?_)
    · have h := ite_t z55 h
      refine V_iload (q := 87) hX dX9_beats_85 4 rfl rfl ?_
      obtain ⟨f1, f2⟩ := some2 h
      rw [f1, f2] at hQ
      exact V_iret hX hQ rfl dX9_beats_87
    have h := ite_f z55 h
    refine V_iload (q := 45) hX dX9_beats_43 5 rfl rfl ?_
    refine V_iload_n (q := 46) hX dX9_beats_45 1 rfl rfl ?_
    refine V_icmp_eq (q := 49) (t := 79) hX dX9_beats_46 (by decide) rfl (fun z56 => ?_) (fun z56 => ?_)
    · have h := ite_t z56 h
      refine V.pick [0, 1, 2, 3, 4, 5] rfl ?_
      exact v9_beats_79 hX hN hQ ih x4 x5 σ h
    have h := ite_f z56 h
    refine V_aload_n (q := 50) hX dX9_beats_49 0 rfl rfl ?_
    refine V_iload_n (q := 51) hX dX9_beats_50 1 rfl rfl ?_
    refine V_iload (q := 53) hX dX9_beats_51 5 rfl rfl ?_
    refine V_iload_n (q := 54) hX dX9_beats_53 2 rfl rfl ?_
    refine V_iload_n (q := 55) hX dX9_beats_54 3 rfl rfl ?_
    obtain ⟨r58, σ57, e59, h⟩ := bnd_some h
    refine V_cvV (n := 95) (c := 9) (nf := 39) (C := RX9) (T := TX9) (As := [.int (a1), .int (x5), .int (a2), .int (a3)]) (q := 58) hX (c9_bout0 hX.2.2.2.2.1 hN e59) (goodV_of k5_126 k5_128 kp_47 k1_16 (cons_g k5_129)) (nA := 4) (by decide) rfl rfl rfl rfl rfl ⟨rfl, by decide⟩ hN rfl rfl rfl dX9_beats_55 rfl ?_
    refine V_iload (q := 60) hX dX9_beats_58 4 rfl rfl ?_
    refine V_aload_n (q := 61) hX dX9_beats_60 0 rfl rfl ?_
    refine V_getI (n := 95) (c := 9) (k := 35) (nf := 39) (C := RX9) (T := TX9) (q := 64) hX rfl rfl iG9 k4_217 rfl rfl ⟨rfl, by decide⟩ hN rfl rfl dX9_beats_61 rfl ?_
    refine V_iload_n (q := 65) hX dX9_beats_64 1 rfl rfl ?_
    refine V_icmp_ne (q := 68) (t := 75) hX dX9_beats_65 (by decide) rfl (fun z60 => ?_) (fun z60 => ?_)
    · have h := ite_f z60 h
      refine V_iconst (v := 0) (q := 76) hX dX9_beats_75 (by decide) rfl ?_
      refine V.pick [0, 1, 2, 3, 5] rfl ?_
      exact v9_beats_76 hX hN hQ ih x5 x4 (0 : Int32) σ57 h
    have h := ite_t z60 h
    refine V_iconst (v := 1) (q := 69) hX dX9_beats_68 (by decide) rfl ?_
    refine V_iload (q := 71) hX dX9_beats_69 5 rfl rfl ?_
    refine V_ishl (q := 72) hX dX9_beats_71 rfl ?_
    refine V_goto hX dX9_beats_72 (q := 76) (by decide) ?_
    refine V.pick [0, 1, 2, 3, 5] rfl ?_
    exact v9_beats_76 hX hN hQ ih x5 x4 ((1 : Int32) <<< (x5 &&& 31)) σ57 h
theorem v9_beats_34 {g : GT} {X : XT} {a1 : Int32} {a2 : Int32} {a3 : Int32} (hX : OkX g X (m9_beats)) (hN : 95 ≤ g.N) {res : Int32 × St} (hQ : X.Q = QI g X res.1 res.2 ∧ X.cells = 0 ∧ X.slots = 0) (x4 : Int32) (x5 : Int32) (σ : St) (h : S9_beats_34 a1 a2 a3 4096 x4 x5 σ = some res) : V g X (m9_beats) 34 [(0, .ref (g.ad (75))), (1, .int (a1)), (2, .int (a2)), (3, .int (a3)), (4, .int (x4)), (5, .int (x5))] [] σ := v9_beats_34n hX hN hQ 4096 x4 x5 σ h
set_option maxRecDepth 100000 in
set_option maxHeartbeats 4000000 in
theorem v9_beats {g : GT} {X : XT} {a1 : Int32} {a2 : Int32} {a3 : Int32} (hX : OkX g X (m9_beats)) (hN : 95 ≤ g.N) {res : Int32 × St} (hQ : X.Q = QI g X res.1 res.2 ∧ X.cells = 0 ∧ X.slots = 0) {σ : St} (h : S9_beats a1 a2 a3 σ = some res) : V g X (m9_beats) 0 [(0, .ref (g.ad (75))), (1, .int (a1)), (2, .int (a2)), (3, .int (a3))] [] σ := by
  unfold S9_beats at h
  refine V_aload_n (q := 1) hX dX9_beats_0 0 rfl rfl ?_
  refine V_iload_n (q := 2) hX dX9_beats_1 1 rfl rfl ?_
  obtain ⟨r62, σ61, e63, h⟩ := bnd_some h
  refine V_cvI (n := 95) (c := 9) (nf := 39) (C := RX9) (T := TX9) (As := [.int (a1)]) (q := 5) hX (c9_isMan hX.2.2.2.2.1 hN e63) (goodV_of k5_80 k5_82 kp_42 k1_16 (cons_g k5_83)) (nA := 1) (by decide) rfl rfl rfl rfl rfl ⟨rfl, by decide⟩ hN rfl rfl rfl dX9_beats_2 rfl ?_
  refine V_if_ne (q := 8) (t := 11) hX dX9_beats_5 (by decide) rfl (fun z64 => ?_) (fun z64 => ?_)
  · have h := ite_f z64 h
    refine V_iload_n (q := 12) hX dX9_beats_11 2 rfl rfl ?_
    obtain ⟨r66, σ65, e67, h⟩ := bnd_some h
    refine V_csI (As := [.int (a2)]) (q := 15) hX (c9_isPlan hX.2.2.2.2.1 hN e67) (goodS_of k5_122 k5_123 k1_16 (cons_g k5_124)) (nA := 1) (by decide) rfl rfl rfl rfl rfl dX9_beats_12 rfl ?_
    refine V_if_eq (q := 18) (t := 25) hX dX9_beats_15 (by decide) rfl (fun z68 => ?_) (fun z68 => ?_)
    · have h := ite_t z68 h
      refine V_bipush (v := -7) (q := 27) hX dX9_beats_25 (by decide) rfl ?_
      obtain ⟨f1, f2⟩ := some2 h
      rw [f1, f2] at hQ
      exact V_iret hX hQ rfl dX9_beats_27
    have h := ite_f z68 h
    refine V_iload_n (q := 19) hX dX9_beats_18 3 rfl rfl ?_
    obtain ⟨r70, σ69, e71, h⟩ := bnd_some h
    refine V_csI (As := [.int (a3)]) (q := 22) hX (c9_isPlan hX.2.2.2.2.1 hN e71) (goodS_of k5_122 k5_123 k1_16 (cons_g k5_124)) (nA := 1) (by decide) rfl rfl rfl rfl rfl dX9_beats_19 rfl ?_
    refine V_if_ne (q := 25) (t := 28) hX dX9_beats_22 (by decide) rfl (fun z72 => ?_) (fun z72 => ?_)
    · have h := ite_f z72 h
      refine V_iconst (v := 0) (q := 29) hX dX9_beats_28 (by decide) rfl ?_
      refine V_istore (lv' := [(4, .int ((0 : Int32))), (0, .ref (g.ad (75))), (1, .int (a1)), (2, .int (a2)), (3, .int (a3))]) (q := 31) hX dX9_beats_29 rfl rfl rfl ?_
      refine V_iconst (v := 0) (q := 32) hX dX9_beats_31 (by decide) rfl ?_
      refine V_istore (lv' := [(5, .int ((0 : Int32))), (4, .int ((0 : Int32))), (0, .ref (g.ad (75))), (1, .int (a1)), (2, .int (a2)), (3, .int (a3))]) (q := 34) hX dX9_beats_32 rfl rfl rfl ?_
      refine V.pick [2, 3, 4, 5, 1, 0] rfl ?_
      exact v9_beats_34 hX hN hQ (0 : Int32) (0 : Int32) σ69 h
    have h := ite_t z72 h
    refine V_bipush (v := -7) (q := 27) hX dX9_beats_25 (by decide) rfl ?_
    obtain ⟨f1, f2⟩ := some2 h
    rw [f1, f2] at hQ
    exact V_iret hX hQ rfl dX9_beats_27
  have h := ite_t z64 h
  refine V_bipush (v := -5) (q := 10) hX dX9_beats_8 (by decide) rfl ?_
  obtain ⟨f1, f2⟩ := some2 h
  rw [f1, f2] at hQ
  exact V_iret hX hQ rfl dX9_beats_10
set_option maxRecDepth 100000 in
set_option maxHeartbeats 4000000 in
theorem c9_beats {g : GT} {l : Launch} (hg : OkG g) (hN : 95 ≤ g.N) {a1 : Int32} {a2 : Int32} {a3 : Int32} {σ : St} {r : Int32} {σ' : St} (h : S9_beats a1 a2 a3 σ = some (r, σ')) : CtI g l m9_beats yX9_beats [.ref (g.ad (75)), .int (a1), .int (a2), .int (a3)] σ r σ' := CtI.of hg (by decide) rfl rfl (fun X h1 h2 h3 => v9_beats h1 hN (res := (r, σ')) h3 h)

abbrev m9_plansWrong : MI := (cX9_plansWrong, RX9, 4, some .int, 3)
def B9_plansWrong_46 (a1 : Int32) (rec : Int32 → Int32 → St → Option (Int32 × St)) (x2 : Int32) (x3 : Int32) (σ : St) : Option (Int32 × St) := if inb a1 4 then (if (gI σ 85 (a1).toNatClampNeg) ≤ x3 then (if x2 = 0 then (some ((-2 : Int32), σ)) else (some ((0 : Int32), σ))) else (if inb (((40 : Int32) * a1) + x3) 160 then (bnd (S9_isPlan (gI σ 86 ((((40 : Int32) * a1) + x3)).toNatClampNeg) σ) fun r36 σ35 => rec (x2 &&& r36) (x3 + 1) σ35) else none)) else none
def S9_plansWrong_46 (a1 : Int32) : Nat → Int32 → Int32 → St → Option (Int32 × St)
  | 0, _, _, _ => none
  | n + 1, x2, x3, σ => B9_plansWrong_46 a1 (S9_plansWrong_46 a1 n) x2 x3 σ
def S9_plansWrong_43 (a1 : Int32) (s0 : Int32) (σ : St) : Option (Int32 × St) := S9_plansWrong_46 a1 4096 s0 (0 : Int32) σ
def S9_plansWrong (a1 : Int32) (σ : St) : Option (Int32 × St) := bnd (S9_in a1 (0 : Int32) (3 : Int32) σ) fun r39 σ38 => if r39 = 0 then (some ((-2 : Int32), σ38)) else (if inb a1 4 then (if (gI σ38 84 (a1).toNatClampNeg) = (-1 : Int32) then (some ((-11 : Int32), σ38)) else (if inb a1 4 then (if (gI σ38 85 (a1).toNatClampNeg) = (gI σ38 75 0) then (S9_plansWrong_43 a1 (1 : Int32) σ38) else (S9_plansWrong_43 a1 (0 : Int32) σ38)) else none)) else none)
set_option maxRecDepth 100000 in
set_option maxHeartbeats 4000000 in
theorem v9_plansWrong_46n {g : GT} {X : XT} {a1 : Int32} (hX : OkX g X (m9_plansWrong)) (hN : 95 ≤ g.N) {res : Int32 × St} (hQ : X.Q = QI g X res.1 res.2 ∧ X.cells = 0 ∧ X.slots = 0)   (n : Nat) : ∀ (x2 : Int32) (x3 : Int32) (σ : St) , S9_plansWrong_46 a1 n x2 x3 σ = some res → V g X (m9_plansWrong) 46 [(0, .ref (g.ad (75))), (1, .int (a1)), (2, .int (x2)), (3, .int (x3))] [] σ := by
  induction n with
  | zero => intro x2 x3 σ; intro h; cases h
  | succ n ih =>
    intro x2 x3 σ h
    have h : B9_plansWrong_46 a1 (S9_plansWrong_46 a1 n) x2 x3 σ = some res := h
    unfold B9_plansWrong_46 at h
    refine V_iload_n (q := 47) hX dX9_plansWrong_46 3 rfl rfl ?_
    refine V_aload_n (q := 48) hX dX9_plansWrong_47 0 rfl rfl ?_
    refine V_getF (r := 85) (n := 95) (c := 9) (k := 15) (nf := 39) (C := RX9) (T := TX9) (q := 51) hX rfl rfl iG9 k4_197 rfl rfl ⟨rfl, by decide⟩ hN rfl rfl rfl rfl dX9_plansWrong_48 rfl ?_
    refine V_iload_n (q := 52) hX dX9_plansWrong_51 1 rfl rfl ?_
    obtain ⟨z31, h⟩ := chk_t h
    refine V_iald (n := 95) (len := 4) (q := 53) hX ⟨rfl, rfl, by decide⟩ hN z31 dX9_plansWrong_52 rfl ?_
    refine V_icmp_ge (q := 56) (t := 79) hX dX9_plansWrong_53 (by decide) rfl (fun z32 => ?_) (fun z32 => ?_)
    · have h := ite_t z32 h
      refine V_iload_n (q := 80) hX dX9_plansWrong_79 2 rfl rfl ?_
      refine V_if_eq (q := 83) (t := 87) hX dX9_plansWrong_80 (by decide) rfl (fun z33 => ?_) (fun z33 => ?_)
      · have h := ite_t z33 h
        refine V_bipush (v := -2) (q := 89) hX dX9_plansWrong_87 (by decide) rfl ?_
        obtain ⟨f1, f2⟩ := some2 h
        rw [f1, f2] at hQ
        exact V_iret hX hQ rfl dX9_plansWrong_89
      have h := ite_f z33 h
      refine V_iconst (v := 0) (q := 84) hX dX9_plansWrong_83 (by decide) rfl ?_
      refine V_goto hX dX9_plansWrong_84 (q := 89) (by decide) ?_
      obtain ⟨f1, f2⟩ := some2 h
      rw [f1, f2] at hQ
      exact V_iret hX hQ rfl dX9_plansWrong_89
    have h := ite_f z32 h
    refine V_iload_n (q := 57) hX dX9_plansWrong_56 2 rfl rfl ?_
    refine V_aload_n (q := 58) hX dX9_plansWrong_57 0 rfl rfl ?_
    refine V_getF (r := 86) (n := 95) (c := 9) (k := 16) (nf := 39) (C := RX9) (T := TX9) (q := 61) hX rfl rfl iG9 k4_198 rfl rfl ⟨rfl, by decide⟩ hN rfl rfl rfl rfl dX9_plansWrong_58 rfl ?_
    refine V_bipush (v := 40) (q := 63) hX dX9_plansWrong_61 (by decide) rfl ?_
    refine V_iload_n (q := 64) hX dX9_plansWrong_63 1 rfl rfl ?_
    refine V_imul (q := 65) hX dX9_plansWrong_64 rfl ?_
    refine V_iload_n (q := 66) hX dX9_plansWrong_65 3 rfl rfl ?_
    refine V_iadd (q := 67) hX dX9_plansWrong_66 rfl ?_
    obtain ⟨z34, h⟩ := chk_t h
    refine V_iald (n := 95) (len := 160) (q := 68) hX ⟨rfl, rfl, by decide⟩ hN z34 dX9_plansWrong_67 rfl ?_
    obtain ⟨r36, σ35, e37, h⟩ := bnd_some h
    refine V_csI (As := [.int ((gI σ 86 ((((40 : Int32) * a1) + x3)).toNatClampNeg))]) (q := 71) hX (c9_isPlan hX.2.2.2.2.1 hN e37) (goodS_of k5_122 k5_123 k1_16 (cons_g k5_124)) (nA := 1) (by decide) rfl rfl rfl rfl rfl dX9_plansWrong_68 rfl ?_
    refine V_iand (q := 72) hX dX9_plansWrong_71 rfl ?_
    refine V_istore_n (lv' := [(2, .int ((x2 &&& r36))), (0, .ref (g.ad (75))), (1, .int (a1)), (3, .int (x3))]) (q := 73) hX dX9_plansWrong_72 rfl rfl rfl ?_
    refine V_iinc (v := (x3 + 1)) (lv' := [(3, .int ((x3 + 1))), (2, .int ((x2 &&& r36))), (0, .ref (g.ad (75))), (1, .int (a1))]) (q := 76) hX dX9_plansWrong_73 3 rfl (by rfl) rfl rfl rfl ?_
    refine V_goto hX dX9_plansWrong_76 (q := 46) (by decide) ?_
    refine V.pick [2, 3, 1, 0] rfl ?_
    exact ih (x2 &&& r36) (x3 + 1) σ35  h
theorem v9_plansWrong_46 {g : GT} {X : XT} {a1 : Int32} (hX : OkX g X (m9_plansWrong)) (hN : 95 ≤ g.N) {res : Int32 × St} (hQ : X.Q = QI g X res.1 res.2 ∧ X.cells = 0 ∧ X.slots = 0) (x2 : Int32) (x3 : Int32) (σ : St) (h : S9_plansWrong_46 a1 4096 x2 x3 σ = some res) : V g X (m9_plansWrong) 46 [(0, .ref (g.ad (75))), (1, .int (a1)), (2, .int (x2)), (3, .int (x3))] [] σ := v9_plansWrong_46n hX hN hQ 4096 x2 x3 σ h
set_option maxRecDepth 100000 in
set_option maxHeartbeats 4000000 in
theorem v9_plansWrong_43 {g : GT} {X : XT} {a1 : Int32} (hX : OkX g X (m9_plansWrong)) (hN : 95 ≤ g.N) {res : Int32 × St} (hQ : X.Q = QI g X res.1 res.2 ∧ X.cells = 0 ∧ X.slots = 0)   (s0 : Int32) (σ : St)  (h : S9_plansWrong_43 a1 s0 σ = some res) : V g X (m9_plansWrong) 43 [(0, .ref (g.ad (75))), (1, .int (a1))] [.int (s0)] σ := by
  unfold S9_plansWrong_43 at h
  refine V_istore_n (lv' := [(2, .int (s0)), (0, .ref (g.ad (75))), (1, .int (a1))]) (q := 44) hX dX9_plansWrong_43 rfl rfl rfl ?_
  refine V_iconst (v := 0) (q := 45) hX dX9_plansWrong_44 (by decide) rfl ?_
  refine V_istore_n (lv' := [(3, .int ((0 : Int32))), (2, .int (s0)), (0, .ref (g.ad (75))), (1, .int (a1))]) (q := 46) hX dX9_plansWrong_45 rfl rfl rfl ?_
  refine V.pick [2, 3, 1, 0] rfl ?_
  exact v9_plansWrong_46 hX hN hQ s0 (0 : Int32) σ h
set_option maxRecDepth 100000 in
set_option maxHeartbeats 4000000 in
theorem v9_plansWrong {g : GT} {X : XT} {a1 : Int32} (hX : OkX g X (m9_plansWrong)) (hN : 95 ≤ g.N) {res : Int32 × St} (hQ : X.Q = QI g X res.1 res.2 ∧ X.cells = 0 ∧ X.slots = 0) {σ : St} (h : S9_plansWrong a1 σ = some res) : V g X (m9_plansWrong) 0 [(0, .ref (g.ad (75))), (1, .int (a1))] [] σ := by
  unfold S9_plansWrong at h
  refine V_iload_n (q := 1) hX dX9_plansWrong_0 1 rfl rfl ?_
  refine V_iconst (v := 0) (q := 2) hX dX9_plansWrong_1 (by decide) rfl ?_
  refine V_iconst (v := 3) (q := 3) hX dX9_plansWrong_2 (by decide) rfl ?_
  obtain ⟨r39, σ38, e40, h⟩ := bnd_some h
  refine V_csI (As := [.int (a1), .int ((0 : Int32)), .int ((3 : Int32))]) (q := 6) hX (c9_in hX.2.2.2.2.1 hN e40) (goodS_of k4_143 k4_144 k1_16 (cons_g k4_145)) (nA := 3) (by decide) rfl rfl rfl rfl rfl dX9_plansWrong_3 rfl ?_
  refine V_if_ne (q := 9) (t := 12) hX dX9_plansWrong_6 (by decide) rfl (fun z41 => ?_) (fun z41 => ?_)
  · have h := ite_f z41 h
    refine V_aload_n (q := 13) hX dX9_plansWrong_12 0 rfl rfl ?_
    refine V_getF (r := 84) (n := 95) (c := 9) (k := 14) (nf := 39) (C := RX9) (T := TX9) (q := 16) hX rfl rfl iG9 k4_196 rfl rfl ⟨rfl, by decide⟩ hN rfl rfl rfl rfl dX9_plansWrong_13 rfl ?_
    refine V_iload_n (q := 17) hX dX9_plansWrong_16 1 rfl rfl ?_
    obtain ⟨z42, h⟩ := chk_t h
    refine V_iald (n := 95) (len := 4) (q := 18) hX ⟨rfl, rfl, by decide⟩ hN z42 dX9_plansWrong_17 rfl ?_
    refine V_iconst (v := -1) (q := 19) hX dX9_plansWrong_18 (by decide) rfl ?_
    refine V_icmp_ne (q := 22) (t := 25) hX dX9_plansWrong_19 (by decide) rfl (fun z43 => ?_) (fun z43 => ?_)
    · have h := ite_f z43 h
      refine V_aload_n (q := 26) hX dX9_plansWrong_25 0 rfl rfl ?_
      refine V_getF (r := 85) (n := 95) (c := 9) (k := 15) (nf := 39) (C := RX9) (T := TX9) (q := 29) hX rfl rfl iG9 k4_197 rfl rfl ⟨rfl, by decide⟩ hN rfl rfl rfl rfl dX9_plansWrong_26 rfl ?_
      refine V_iload_n (q := 30) hX dX9_plansWrong_29 1 rfl rfl ?_
      obtain ⟨z44, h⟩ := chk_t h
      refine V_iald (n := 95) (len := 4) (q := 31) hX ⟨rfl, rfl, by decide⟩ hN z44 dX9_plansWrong_30 rfl ?_
      refine V_aload_n (q := 32) hX dX9_plansWrong_31 0 rfl rfl ?_
      refine V_getI (n := 95) (c := 9) (k := 0) (nf := 39) (C := RX9) (T := TX9) (q := 35) hX rfl rfl iG9 k4_182 rfl rfl ⟨rfl, by decide⟩ hN rfl rfl dX9_plansWrong_32 rfl ?_
      refine V_icmp_ne (q := 38) (t := 42) hX dX9_plansWrong_35 (by decide) rfl (fun z45 => ?_) (fun z45 => ?_)
      · have h := ite_f z45 h
        refine V_iconst (v := 0) (q := 43) hX dX9_plansWrong_42 (by decide) rfl ?_
        refine V.pick [0, 1] rfl ?_
        exact v9_plansWrong_43 hX hN hQ (0 : Int32) σ38 h
      have h := ite_t z45 h
      refine V_iconst (v := 1) (q := 39) hX dX9_plansWrong_38 (by decide) rfl ?_
      refine V_goto hX dX9_plansWrong_39 (q := 43) (by decide) ?_
      refine V.pick [0, 1] rfl ?_
      exact v9_plansWrong_43 hX hN hQ (1 : Int32) σ38 h
    have h := ite_t z43 h
    refine V_bipush (v := -11) (q := 24) hX dX9_plansWrong_22 (by decide) rfl ?_
    obtain ⟨f1, f2⟩ := some2 h
    rw [f1, f2] at hQ
    exact V_iret hX hQ rfl dX9_plansWrong_24
  have h := ite_t z41 h
  refine V_bipush (v := -2) (q := 11) hX dX9_plansWrong_9 (by decide) rfl ?_
  obtain ⟨f1, f2⟩ := some2 h
  rw [f1, f2] at hQ
  exact V_iret hX hQ rfl dX9_plansWrong_11
set_option maxRecDepth 100000 in
set_option maxHeartbeats 4000000 in
theorem c9_plansWrong {g : GT} {l : Launch} (hg : OkG g) (hN : 95 ≤ g.N) {a1 : Int32} {σ : St} {r : Int32} {σ' : St} (h : S9_plansWrong a1 σ = some (r, σ')) : CtI g l m9_plansWrong yX9_plansWrong [.ref (g.ad (75)), .int (a1)] σ r σ' := CtI.of hg (by decide) rfl rfl (fun X h1 h2 h3 => v9_plansWrong h1 hN (res := (r, σ')) h3 h)

abbrev m9_daysOf : MI := (cX9_daysOf, RX9, 6, none, 8)
def B9_daysOf_25 (a1 : Int32) (a2 : Int32) (rec : Int32 → Int32 → Int32 → St → Option (Unit × St)) (k2 : Int32 → St → Option (Unit × St)) (k10 : Int32 → Int32 → St → Option (Unit × St)) (x3 : Int32) (x4 : Int32) (x5 : Int32) (σ : St) : Option (Unit × St) := if (gI σ 75 0) ≤ x5 then (k10 x3 (x4 + 1) σ) else (if inb (((40 : Int32) * a1) + x4) 160 then (if inb (((40 : Int32) * a1) + x5) 160 then (bnd (S9_fights x4 x5 (gI σ 86 ((((40 : Int32) * a1) + x4)).toNatClampNeg) (gI σ 86 ((((40 : Int32) * a1) + x5)).toNatClampNeg) σ) fun r29 σ28 => rec x3 x4 (x5 + 1) σ28) else none) else none)
def S9_daysOf_25 (a1 : Int32) (a2 : Int32) (k2 : Int32 → St → Option (Unit × St)) (k10 : Int32 → Int32 → St → Option (Unit × St)) : Nat → Int32 → Int32 → Int32 → St → Option (Unit × St)
  | 0, _, _, _, _ => none
  | n + 1, x3, x4, x5, σ => B9_daysOf_25 a1 a2 (S9_daysOf_25 a1 a2 k2 k10 n) k2 k10 x3 x4 x5 σ
def B9_daysOf_10 (a1 : Int32) (a2 : Int32) (rec : Int32 → Int32 → St → Option (Unit × St)) (k2 : Int32 → St → Option (Unit × St)) (x3 : Int32) (x4 : Int32) (σ : St) : Option (Unit × St) := if (gI σ 75 0) ≤ x4 then (k2 (x3 + 1) σ) else (S9_daysOf_25 a1 a2 k2 rec 4096 x3 x4 (x4 + (1 : Int32)) σ)
def S9_daysOf_10 (a1 : Int32) (a2 : Int32) (k2 : Int32 → St → Option (Unit × St)) : Nat → Int32 → Int32 → St → Option (Unit × St)
  | 0, _, _, _ => none
  | n + 1, x3, x4, σ => B9_daysOf_10 a1 a2 (S9_daysOf_10 a1 a2 k2 n) k2 x3 x4 σ
def B9_daysOf_2 (a1 : Int32) (a2 : Int32) (rec : Int32 → St → Option (Unit × St)) (x3 : Int32) (σ : St) : Option (Unit × St) := if a2 ≤ x3 then (some ((), σ)) else (S9_daysOf_10 a1 a2 rec 4096 x3 (0 : Int32) σ)
def S9_daysOf_2 (a1 : Int32) (a2 : Int32) : Nat → Int32 → St → Option (Unit × St)
  | 0, _, _ => none
  | n + 1, x3, σ => B9_daysOf_2 a1 a2 (S9_daysOf_2 a1 a2 n) x3 σ
def S9_daysOf (a1 : Int32) (a2 : Int32) (σ : St) : Option (Unit × St) := S9_daysOf_2 a1 a2 4096 (0 : Int32) σ
set_option maxRecDepth 100000 in
set_option maxHeartbeats 4000000 in
theorem v9_daysOf_25n {g : GT} {X : XT} {a1 : Int32} {a2 : Int32} (hX : OkX g X (m9_daysOf)) (hN : 95 ≤ g.N) {res : Unit × St} (hQ : X.Q = QV g X res.2 ∧ X.cells = 0 ∧ X.slots = 0)  {k2 : Int32 → St → Option (Unit × St)} (hk2 : ∀ (x3 : Int32) (σ : St), k2 x3 σ = some res → V g X (m9_daysOf) 2 [(0, .ref (g.ad (75))), (1, .int (a1)), (2, .int (a2)), (3, .int (x3))] [] σ) {k10 : Int32 → Int32 → St → Option (Unit × St)} (hk10 : ∀ (x3 : Int32) (x4 : Int32) (σ : St), k10 x3 x4 σ = some res → V g X (m9_daysOf) 10 [(0, .ref (g.ad (75))), (1, .int (a1)), (2, .int (a2)), (3, .int (x3)), (4, .int (x4))] [] σ) (n : Nat) : ∀ (x3 : Int32) (x4 : Int32) (x5 : Int32) (σ : St) , S9_daysOf_25 a1 a2 k2 k10 n x3 x4 x5 σ = some res → V g X (m9_daysOf) 25 [(0, .ref (g.ad (75))), (1, .int (a1)), (2, .int (a2)), (3, .int (x3)), (4, .int (x4)), (5, .int (x5))] [] σ := by
  induction n with
  | zero => intro x3 x4 x5 σ; intro h; cases h
  | succ n ih =>
    intro x3 x4 x5 σ h
    have h : B9_daysOf_25 a1 a2 (S9_daysOf_25 a1 a2 k2 k10 n) k2 k10 x3 x4 x5 σ = some res := h
    unfold B9_daysOf_25 at h
    refine V_iload (q := 27) hX dX9_daysOf_25 5 rfl rfl ?_
    refine V_aload_n (q := 28) hX dX9_daysOf_27 0 rfl rfl ?_
    refine V_getI (n := 95) (c := 9) (k := 0) (nf := 39) (C := RX9) (T := TX9) (q := 31) hX rfl rfl iG9 k4_182 rfl rfl ⟨rfl, by decide⟩ hN rfl rfl dX9_daysOf_28 rfl ?_
    refine V_icmp_ge (q := 34) (t := 72) hX dX9_daysOf_31 (by decide) rfl (fun z25 => ?_) (fun z25 => ?_)
    · have h := ite_t z25 h
      refine V_iinc (v := (x4 + 1)) (lv' := [(4, .int ((x4 + 1))), (0, .ref (g.ad (75))), (1, .int (a1)), (2, .int (a2)), (3, .int (x3)), (5, .int (x5))]) (q := 75) hX dX9_daysOf_72 4 rfl (by rfl) rfl rfl rfl ?_
      refine V_goto hX dX9_daysOf_75 (q := 10) (by decide) ?_
      refine V.pick [1, 2, 3, 4, 0] rfl ?_
      exact hk10 x3 (x4 + 1) σ  h
    have h := ite_f z25 h
    refine V_aload_n (q := 35) hX dX9_daysOf_34 0 rfl rfl ?_
    refine V_iload (q := 37) hX dX9_daysOf_35 4 rfl rfl ?_
    refine V_iload (q := 39) hX dX9_daysOf_37 5 rfl rfl ?_
    refine V_aload_n (q := 40) hX dX9_daysOf_39 0 rfl rfl ?_
    refine V_getF (r := 86) (n := 95) (c := 9) (k := 16) (nf := 39) (C := RX9) (T := TX9) (q := 43) hX rfl rfl iG9 k4_198 rfl rfl ⟨rfl, by decide⟩ hN rfl rfl rfl rfl dX9_daysOf_40 rfl ?_
    refine V_bipush (v := 40) (q := 45) hX dX9_daysOf_43 (by decide) rfl ?_
    refine V_iload_n (q := 46) hX dX9_daysOf_45 1 rfl rfl ?_
    refine V_imul (q := 47) hX dX9_daysOf_46 rfl ?_
    refine V_iload (q := 49) hX dX9_daysOf_47 4 rfl rfl ?_
    refine V_iadd (q := 50) hX dX9_daysOf_49 rfl ?_
    obtain ⟨z26, h⟩ := chk_t h
    refine V_iald (n := 95) (len := 160) (q := 51) hX ⟨rfl, rfl, by decide⟩ hN z26 dX9_daysOf_50 rfl ?_
    refine V_aload_n (q := 52) hX dX9_daysOf_51 0 rfl rfl ?_
    refine V_getF (r := 86) (n := 95) (c := 9) (k := 16) (nf := 39) (C := RX9) (T := TX9) (q := 55) hX rfl rfl iG9 k4_198 rfl rfl ⟨rfl, by decide⟩ hN rfl rfl rfl rfl dX9_daysOf_52 rfl ?_
    refine V_bipush (v := 40) (q := 57) hX dX9_daysOf_55 (by decide) rfl ?_
    refine V_iload_n (q := 58) hX dX9_daysOf_57 1 rfl rfl ?_
    refine V_imul (q := 59) hX dX9_daysOf_58 rfl ?_
    refine V_iload (q := 61) hX dX9_daysOf_59 5 rfl rfl ?_
    refine V_iadd (q := 62) hX dX9_daysOf_61 rfl ?_
    obtain ⟨z27, h⟩ := chk_t h
    refine V_iald (n := 95) (len := 160) (q := 63) hX ⟨rfl, rfl, by decide⟩ hN z27 dX9_daysOf_62 rfl ?_
    obtain ⟨r29, σ28, e30, h⟩ := bnd_some h
    refine V_cvV (n := 95) (c := 9) (nf := 39) (C := RX9) (T := TX9) (As := [.int (x4), .int (x5), .int ((gI σ 86 ((((40 : Int32) * a1) + x4)).toNatClampNeg)), .int ((gI σ 86 ((((40 : Int32) * a1) + x5)).toNatClampNeg))]) (q := 66) hX (c9_fights hX.2.2.2.2.1 hN e30) (goodV_of k5_162 k5_164 kp_55 k1_16 (cons_g k5_165)) (nA := 4) (by decide) rfl rfl rfl rfl rfl ⟨rfl, by decide⟩ hN rfl rfl rfl dX9_daysOf_63 rfl ?_
    refine V_iinc (v := (x5 + 1)) (lv' := [(5, .int ((x5 + 1))), (0, .ref (g.ad (75))), (1, .int (a1)), (2, .int (a2)), (3, .int (x3)), (4, .int (x4))]) (q := 69) hX dX9_daysOf_66 5 rfl (by rfl) rfl rfl rfl ?_
    refine V_goto hX dX9_daysOf_69 (q := 25) (by decide) ?_
    refine V.pick [1, 2, 3, 4, 5, 0] rfl ?_
    exact ih x3 x4 (x5 + 1) σ28  h
theorem v9_daysOf_25 {g : GT} {X : XT} {a1 : Int32} {a2 : Int32} (hX : OkX g X (m9_daysOf)) (hN : 95 ≤ g.N) {res : Unit × St} (hQ : X.Q = QV g X res.2 ∧ X.cells = 0 ∧ X.slots = 0) {k2 : Int32 → St → Option (Unit × St)} (hk2 : ∀ (x3 : Int32) (σ : St), k2 x3 σ = some res → V g X (m9_daysOf) 2 [(0, .ref (g.ad (75))), (1, .int (a1)), (2, .int (a2)), (3, .int (x3))] [] σ) {k10 : Int32 → Int32 → St → Option (Unit × St)} (hk10 : ∀ (x3 : Int32) (x4 : Int32) (σ : St), k10 x3 x4 σ = some res → V g X (m9_daysOf) 10 [(0, .ref (g.ad (75))), (1, .int (a1)), (2, .int (a2)), (3, .int (x3)), (4, .int (x4))] [] σ) (x3 : Int32) (x4 : Int32) (x5 : Int32) (σ : St) (h : S9_daysOf_25 a1 a2 k2 k10 4096 x3 x4 x5 σ = some res) : V g X (m9_daysOf) 25 [(0, .ref (g.ad (75))), (1, .int (a1)), (2, .int (a2)), (3, .int (x3)), (4, .int (x4)), (5, .int (x5))] [] σ := v9_daysOf_25n hX hN hQ hk2 hk10 4096 x3 x4 x5 σ h
set_option maxRecDepth 100000 in
set_option maxHeartbeats 4000000 in
theorem v9_daysOf_10n {g : GT} {X : XT} {a1 : Int32} {a2 : Int32} (hX : OkX g X (m9_daysOf)) (hN : 95 ≤ g.N) {res : Unit × St} (hQ : X.Q = QV g X res.2 ∧ X.cells = 0 ∧ X.slots = 0)  {k2 : Int32 → St → Option (Unit × St)} (hk2 : ∀ (x3 : Int32) (σ : St), k2 x3 σ = some res → V g X (m9_daysOf) 2 [(0, .ref (g.ad (75))), (1, .int (a1)), (2, .int (a2)), (3, .int (x3))] [] σ) (n : Nat) : ∀ (x3 : Int32) (x4 : Int32) (σ : St) , S9_daysOf_10 a1 a2 k2 n x3 x4 σ = some res → V g X (m9_daysOf) 10 [(0, .ref (g.ad (75))), (1, .int (a1)), (2, .int (a2)), (3, .int (x3)), (4, .int (x4))] [] σ := by
  induction n with
  | zero => intro x3 x4 σ; intro h; cases h
  | succ n ih =>
    intro x3 x4 σ h
    have h : B9_daysOf_10 a1 a2 (S9_daysOf_10 a1 a2 k2 n) k2 x3 x4 σ = some res := h
    unfold B9_daysOf_10 at h
    refine V_iload (q := 12) hX dX9_daysOf_10 4 rfl rfl ?_
    refine V_aload_n (q := 13) hX dX9_daysOf_12 0 rfl rfl ?_
    refine V_getI (n := 95) (c := 9) (k := 0) (nf := 39) (C := RX9) (T := TX9) (q := 16) hX rfl rfl iG9 k4_182 rfl rfl ⟨rfl, by decide⟩ hN rfl rfl dX9_daysOf_13 rfl ?_
    refine V_icmp_ge (q := 19) (t := 78) hX dX9_daysOf_16 (by decide) rfl (fun z31 => ?_) (fun z31 => ?_)
    · have h := ite_t z31 h
      refine V_iinc (v := (x3 + 1)) (lv' := [(3, .int ((x3 + 1))), (0, .ref (g.ad (75))), (1, .int (a1)), (2, .int (a2)), (4, .int (x4))]) (q := 81) hX dX9_daysOf_78 3 rfl (by rfl) rfl rfl rfl ?_
      refine V_goto hX dX9_daysOf_81 (q := 2) (by decide) ?_
      refine V.pick [1, 2, 3, 0] rfl ?_
      exact hk2 (x3 + 1) σ  h
    have h := ite_f z31 h
    refine V_iload (q := 21) hX dX9_daysOf_19 4 rfl rfl ?_
    refine V_iconst (v := 1) (q := 22) hX dX9_daysOf_21 (by decide) rfl ?_
    refine V_iadd (q := 23) hX dX9_daysOf_22 rfl ?_
    refine V_istore (lv' := [(5, .int ((x4 + (1 : Int32)))), (0, .ref (g.ad (75))), (1, .int (a1)), (2, .int (a2)), (3, .int (x3)), (4, .int (x4))]) (q := 25) hX dX9_daysOf_23 rfl rfl rfl ?_
    refine V.pick [1, 2, 3, 4, 5, 0] rfl ?_
    exact v9_daysOf_25 hX hN hQ hk2 ih x3 x4 (x4 + (1 : Int32)) σ h
theorem v9_daysOf_10 {g : GT} {X : XT} {a1 : Int32} {a2 : Int32} (hX : OkX g X (m9_daysOf)) (hN : 95 ≤ g.N) {res : Unit × St} (hQ : X.Q = QV g X res.2 ∧ X.cells = 0 ∧ X.slots = 0) {k2 : Int32 → St → Option (Unit × St)} (hk2 : ∀ (x3 : Int32) (σ : St), k2 x3 σ = some res → V g X (m9_daysOf) 2 [(0, .ref (g.ad (75))), (1, .int (a1)), (2, .int (a2)), (3, .int (x3))] [] σ) (x3 : Int32) (x4 : Int32) (σ : St) (h : S9_daysOf_10 a1 a2 k2 4096 x3 x4 σ = some res) : V g X (m9_daysOf) 10 [(0, .ref (g.ad (75))), (1, .int (a1)), (2, .int (a2)), (3, .int (x3)), (4, .int (x4))] [] σ := v9_daysOf_10n hX hN hQ hk2 4096 x3 x4 σ h
set_option maxRecDepth 100000 in
set_option maxHeartbeats 4000000 in
theorem v9_daysOf_2n {g : GT} {X : XT} {a1 : Int32} {a2 : Int32} (hX : OkX g X (m9_daysOf)) (hN : 95 ≤ g.N) {res : Unit × St} (hQ : X.Q = QV g X res.2 ∧ X.cells = 0 ∧ X.slots = 0)   (n : Nat) : ∀ (x3 : Int32) (σ : St) , S9_daysOf_2 a1 a2 n x3 σ = some res → V g X (m9_daysOf) 2 [(0, .ref (g.ad (75))), (1, .int (a1)), (2, .int (a2)), (3, .int (x3))] [] σ := by
  induction n with
  | zero => intro x3 σ; intro h; cases h
  | succ n ih =>
    intro x3 σ h
    have h : B9_daysOf_2 a1 a2 (S9_daysOf_2 a1 a2 n) x3 σ = some res := h
    unfold B9_daysOf_2 at h
    refine V_iload_n (q := 3) hX dX9_daysOf_2 3 rfl rfl ?_
    refine V_iload_n (q := 4) hX dX9_daysOf_3 2 rfl rfl ?_
    refine V_icmp_ge (q := 7) (t := 84) hX dX9_daysOf_4 (by decide) rfl (fun z32 => ?_) (fun z32 => ?_)
    · have h := ite_t z32 h
      obtain ⟨f1, f2⟩ := some2 h
      rw [f2] at hQ
      exact V_vret hX hQ rfl dX9_daysOf_84
    have h := ite_f z32 h
    refine V_iconst (v := 0) (q := 8) hX dX9_daysOf_7 (by decide) rfl ?_
    refine V_istore (lv' := [(4, .int ((0 : Int32))), (0, .ref (g.ad (75))), (1, .int (a1)), (2, .int (a2)), (3, .int (x3))]) (q := 10) hX dX9_daysOf_8 rfl rfl rfl ?_
    refine V.pick [1, 2, 3, 4, 0] rfl ?_
    exact v9_daysOf_10 hX hN hQ ih x3 (0 : Int32) σ h
theorem v9_daysOf_2 {g : GT} {X : XT} {a1 : Int32} {a2 : Int32} (hX : OkX g X (m9_daysOf)) (hN : 95 ≤ g.N) {res : Unit × St} (hQ : X.Q = QV g X res.2 ∧ X.cells = 0 ∧ X.slots = 0) (x3 : Int32) (σ : St) (h : S9_daysOf_2 a1 a2 4096 x3 σ = some res) : V g X (m9_daysOf) 2 [(0, .ref (g.ad (75))), (1, .int (a1)), (2, .int (a2)), (3, .int (x3))] [] σ := v9_daysOf_2n hX hN hQ 4096 x3 σ h
set_option maxRecDepth 100000 in
set_option maxHeartbeats 4000000 in
theorem v9_daysOf {g : GT} {X : XT} {a1 : Int32} {a2 : Int32} (hX : OkX g X (m9_daysOf)) (hN : 95 ≤ g.N) {res : Unit × St} (hQ : X.Q = QV g X res.2 ∧ X.cells = 0 ∧ X.slots = 0) {σ : St} (h : S9_daysOf a1 a2 σ = some res) : V g X (m9_daysOf) 0 [(0, .ref (g.ad (75))), (1, .int (a1)), (2, .int (a2))] [] σ := by
  unfold S9_daysOf at h
  refine V_iconst (v := 0) (q := 1) hX dX9_daysOf_0 (by decide) rfl ?_
  refine V_istore_n (lv' := [(3, .int ((0 : Int32))), (0, .ref (g.ad (75))), (1, .int (a1)), (2, .int (a2))]) (q := 2) hX dX9_daysOf_1 rfl rfl rfl ?_
  refine V.pick [1, 2, 3, 0] rfl ?_
  exact v9_daysOf_2 hX hN hQ (0 : Int32) σ h
set_option maxRecDepth 100000 in
set_option maxHeartbeats 4000000 in
theorem c9_daysOf {g : GT} {l : Launch} (hg : OkG g) (hN : 95 ≤ g.N) {a1 : Int32} {a2 : Int32} {σ : St} {r : Unit} {σ' : St} (h : S9_daysOf a1 a2 σ = some (r, σ')) : CtV g l m9_daysOf yX9_daysOf [.ref (g.ad (75)), .int (a1), .int (a2)] σ σ' := CtV.of hg (by decide) rfl rfl (fun X h1 h2 h3 => v9_daysOf h1 hN (res := (r, σ')) h3 h)

abbrev m9_leads : MI := (cX9_leads, RX9, 4, some .int, 1)
def S9_leads_62 (k6 : Int32 → Int32 → Int32 → St → Option (Int32 × St)) (x1 : Int32) (x3 : Int32) (s0 : Int32) (σ : St) : Option (Int32 × St) := k6 x1 s0 (x3 + 1) σ
def S9_leads_33 (k6 : Int32 → Int32 → Int32 → St → Option (Int32 × St)) (x2 : Int32) (x3 : Int32) (s0 : Int32) (σ : St) : Option (Int32 × St) := if inb (((5 : Int32) * x3) + (3 : Int32)) 30 then (if (gI σ 78 ((((5 : Int32) * x3) + (3 : Int32))).toNatClampNeg) ≤ x2 then (S9_leads_62 k6 s0 x3 x2 σ) else (if inb (((5 : Int32) * x3) + (3 : Int32)) 30 then (S9_leads_62 k6 s0 x3 (gI σ 78 ((((5 : Int32) * x3) + (3 : Int32))).toNatClampNeg) σ) else none)) else none
def B9_leads_6 (rec : Int32 → Int32 → Int32 → St → Option (Int32 × St)) (x1 : Int32) (x2 : Int32) (x3 : Int32) (σ : St) : Option (Int32 × St) := if (gI σ 75 0) ≤ x3 then (some (x1, σ)) else (if inb (((5 : Int32) * x3) + (3 : Int32)) 30 then (if (gI σ 78 ((((5 : Int32) * x3) + (3 : Int32))).toNatClampNeg) ≤ x2 then (S9_leads_33 rec x2 x3 x1 σ) else (S9_leads_33 rec x2 x3 x3 σ)) else none)
def S9_leads_6 : Nat → Int32 → Int32 → Int32 → St → Option (Int32 × St)
  | 0, _, _, _, _ => none
  | n + 1, x1, x2, x3, σ => B9_leads_6 (S9_leads_6 n) x1 x2 x3 σ
def S9_leads (σ : St) : Option (Int32 × St) := S9_leads_6 4096 (-1 : Int32) (-1 : Int32) (0 : Int32) σ
set_option maxRecDepth 100000 in
set_option maxHeartbeats 4000000 in
theorem v9_leads_62 {g : GT} {X : XT} (hX : OkX g X (m9_leads)) (hN : 95 ≤ g.N) {res : Int32 × St} (hQ : X.Q = QI g X res.1 res.2 ∧ X.cells = 0 ∧ X.slots = 0)  {k6 : Int32 → Int32 → Int32 → St → Option (Int32 × St)} (hk6 : ∀ (x1 : Int32) (x2 : Int32) (x3 : Int32) (σ : St), k6 x1 x2 x3 σ = some res → V g X (m9_leads) 6 [(0, .ref (g.ad (75))), (1, .int (x1)), (2, .int (x2)), (3, .int (x3))] [] σ) (x1 : Int32) (x3 : Int32) (s0 : Int32) (σ : St)  (h : S9_leads_62 k6 x1 x3 s0 σ = some res) : V g X (m9_leads) 62 [(0, .ref (g.ad (75))), (1, .int (x1)), (3, .int (x3))] [.int (s0)] σ := by
  unfold S9_leads_62 at h
  refine V_istore_n (lv' := [(2, .int (s0)), (0, .ref (g.ad (75))), (1, .int (x1)), (3, .int (x3))]) (q := 63) hX dX9_leads_62 rfl rfl rfl ?_
  refine V_iinc (v := (x3 + 1)) (lv' := [(3, .int ((x3 + 1))), (2, .int (s0)), (0, .ref (g.ad (75))), (1, .int (x1))]) (q := 66) hX dX9_leads_63 3 rfl (by rfl) rfl rfl rfl ?_
  refine V_goto hX dX9_leads_66 (q := 6) (by decide) ?_
  refine V.pick [2, 3, 1, 0] rfl ?_
  exact hk6 x1 s0 (x3 + 1) σ  h
set_option maxRecDepth 100000 in
set_option maxHeartbeats 4000000 in
theorem v9_leads_33 {g : GT} {X : XT} (hX : OkX g X (m9_leads)) (hN : 95 ≤ g.N) {res : Int32 × St} (hQ : X.Q = QI g X res.1 res.2 ∧ X.cells = 0 ∧ X.slots = 0)  {k6 : Int32 → Int32 → Int32 → St → Option (Int32 × St)} (hk6 : ∀ (x1 : Int32) (x2 : Int32) (x3 : Int32) (σ : St), k6 x1 x2 x3 σ = some res → V g X (m9_leads) 6 [(0, .ref (g.ad (75))), (1, .int (x1)), (2, .int (x2)), (3, .int (x3))] [] σ) (x2 : Int32) (x3 : Int32) (s0 : Int32) (σ : St)  (h : S9_leads_33 k6 x2 x3 s0 σ = some res) : V g X (m9_leads) 33 [(0, .ref (g.ad (75))), (2, .int (x2)), (3, .int (x3))] [.int (s0)] σ := by
  unfold S9_leads_33 at h
  refine V_istore_n (lv' := [(1, .int (s0)), (0, .ref (g.ad (75))), (2, .int (x2)), (3, .int (x3))]) (q := 34) hX dX9_leads_33 rfl rfl rfl ?_
  refine V_aload_n (q := 35) hX dX9_leads_34 1 rfl rfl ?_
  refine V_getF (r := 78) (n := 95) (c := 9) (k := 3) (nf := 39) (C := RX9) (T := TX9) (q := 38) hX rfl rfl iG9 k4_185 rfl rfl ⟨rfl, by decide⟩ hN rfl rfl rfl rfl dX9_leads_35 rfl ?_
  refine V_iconst (v := 5) (q := 39) hX dX9_leads_38 (by decide) rfl ?_
  refine V_iload_n (q := 40) hX dX9_leads_39 3 rfl rfl ?_
  refine V_imul (q := 41) hX dX9_leads_40 rfl ?_
  refine V_iconst (v := 3) (q := 42) hX dX9_leads_41 (by decide) rfl ?_
  refine V_iadd (q := 43) hX dX9_leads_42 rfl ?_
  obtain ⟨z19, h⟩ := chk_t h
  refine V_iald (n := 95) (len := 30) (q := 44) hX ⟨rfl, rfl, by decide⟩ hN z19 dX9_leads_43 rfl ?_
  refine V_iload_n (q := 45) hX dX9_leads_44 2 rfl rfl ?_
  refine V_icmp_le (q := 48) (t := 61) hX dX9_leads_45 (by decide) rfl (fun z20 => ?_) (fun z20 => ?_)
  · have h := ite_t z20 h
    refine V_iload_n (q := 62) hX dX9_leads_61 2 rfl rfl ?_
    refine V.pick [1, 0, 3] rfl ?_
    exact v9_leads_62 hX hN hQ hk6 s0 x3 x2 σ h
  have h := ite_f z20 h
  refine V_aload_n (q := 49) hX dX9_leads_48 1 rfl rfl ?_
  refine V_getF (r := 78) (n := 95) (c := 9) (k := 3) (nf := 39) (C := RX9) (T := TX9) (q := 52) hX rfl rfl iG9 k4_185 rfl rfl ⟨rfl, by decide⟩ hN rfl rfl rfl rfl dX9_leads_49 rfl ?_
  refine V_iconst (v := 5) (q := 53) hX dX9_leads_52 (by decide) rfl ?_
  refine V_iload_n (q := 54) hX dX9_leads_53 3 rfl rfl ?_
  refine V_imul (q := 55) hX dX9_leads_54 rfl ?_
  refine V_iconst (v := 3) (q := 56) hX dX9_leads_55 (by decide) rfl ?_
  refine V_iadd (q := 57) hX dX9_leads_56 rfl ?_
  obtain ⟨z21, h⟩ := chk_t h
  refine V_iald (n := 95) (len := 30) (q := 58) hX ⟨rfl, rfl, by decide⟩ hN z21 dX9_leads_57 rfl ?_
  refine V_goto hX dX9_leads_58 (q := 62) (by decide) ?_
  refine V.pick [1, 0, 3] rfl ?_
  exact v9_leads_62 hX hN hQ hk6 s0 x3 (gI σ 78 ((((5 : Int32) * x3) + (3 : Int32))).toNatClampNeg) σ h
set_option maxRecDepth 100000 in
set_option maxHeartbeats 4000000 in
theorem v9_leads_6n {g : GT} {X : XT} (hX : OkX g X (m9_leads)) (hN : 95 ≤ g.N) {res : Int32 × St} (hQ : X.Q = QI g X res.1 res.2 ∧ X.cells = 0 ∧ X.slots = 0)   (n : Nat) : ∀ (x1 : Int32) (x2 : Int32) (x3 : Int32) (σ : St) , S9_leads_6 n x1 x2 x3 σ = some res → V g X (m9_leads) 6 [(0, .ref (g.ad (75))), (1, .int (x1)), (2, .int (x2)), (3, .int (x3))] [] σ := by
  induction n with
  | zero => intro x1 x2 x3 σ; intro h; cases h
  | succ n ih =>
    intro x1 x2 x3 σ h
    have h : B9_leads_6 (S9_leads_6 n) x1 x2 x3 σ = some res := h
    unfold B9_leads_6 at h
    refine V_iload_n (q := 7) hX dX9_leads_6 3 rfl rfl ?_
    refine V_aload_n (q := 8) hX dX9_leads_7 0 rfl rfl ?_
    refine V_getI (n := 95) (c := 9) (k := 0) (nf := 39) (C := RX9) (T := TX9) (q := 11) hX rfl rfl iG9 k4_182 rfl rfl ⟨rfl, by decide⟩ hN rfl rfl dX9_leads_8 rfl ?_
    refine V_icmp_ge (q := 14) (t := 69) hX dX9_leads_11 (by decide) rfl (fun z22 => ?_) (fun z22 => ?_)
    · have h := ite_t z22 h
      refine V_iload_n (q := 70) hX dX9_leads_69 1 rfl rfl ?_
      obtain ⟨f1, f2⟩ := some2 h
      rw [f1, f2] at hQ
      exact V_iret hX hQ rfl dX9_leads_70
    have h := ite_f z22 h
    refine V_aload_n (q := 15) hX dX9_leads_14 0 rfl rfl ?_
    refine V_getF (r := 78) (n := 95) (c := 9) (k := 3) (nf := 39) (C := RX9) (T := TX9) (q := 18) hX rfl rfl iG9 k4_185 rfl rfl ⟨rfl, by decide⟩ hN rfl rfl rfl rfl dX9_leads_15 rfl ?_
    refine V_iconst (v := 5) (q := 19) hX dX9_leads_18 (by decide) rfl ?_
    refine V_iload_n (q := 20) hX dX9_leads_19 3 rfl rfl ?_
    refine V_imul (q := 21) hX dX9_leads_20 rfl ?_
    refine V_iconst (v := 3) (q := 22) hX dX9_leads_21 (by decide) rfl ?_
    refine V_iadd (q := 23) hX dX9_leads_22 rfl ?_
    obtain ⟨z23, h⟩ := chk_t h
    refine V_iald (n := 95) (len := 30) (q := 24) hX ⟨rfl, rfl, by decide⟩ hN z23 dX9_leads_23 rfl ?_
    refine V_iload_n (q := 25) hX dX9_leads_24 2 rfl rfl ?_
    refine V_icmp_le (q := 28) (t := 32) hX dX9_leads_25 (by decide) rfl (fun z24 => ?_) (fun z24 => ?_)
    · have h := ite_t z24 h
      refine V_iload_n (q := 33) hX dX9_leads_32 1 rfl rfl ?_
      refine V.pick [0, 2, 3] rfl ?_
      exact v9_leads_33 hX hN hQ ih x2 x3 x1 σ h
    have h := ite_f z24 h
    refine V_iload_n (q := 29) hX dX9_leads_28 3 rfl rfl ?_
    refine V_goto hX dX9_leads_29 (q := 33) (by decide) ?_
    refine V.pick [0, 2, 3] rfl ?_
    exact v9_leads_33 hX hN hQ ih x2 x3 x3 σ h
theorem v9_leads_6 {g : GT} {X : XT} (hX : OkX g X (m9_leads)) (hN : 95 ≤ g.N) {res : Int32 × St} (hQ : X.Q = QI g X res.1 res.2 ∧ X.cells = 0 ∧ X.slots = 0) (x1 : Int32) (x2 : Int32) (x3 : Int32) (σ : St) (h : S9_leads_6 4096 x1 x2 x3 σ = some res) : V g X (m9_leads) 6 [(0, .ref (g.ad (75))), (1, .int (x1)), (2, .int (x2)), (3, .int (x3))] [] σ := v9_leads_6n hX hN hQ 4096 x1 x2 x3 σ h
set_option maxRecDepth 100000 in
set_option maxHeartbeats 4000000 in
theorem v9_leads {g : GT} {X : XT} (hX : OkX g X (m9_leads)) (hN : 95 ≤ g.N) {res : Int32 × St} (hQ : X.Q = QI g X res.1 res.2 ∧ X.cells = 0 ∧ X.slots = 0) {σ : St} (h : S9_leads σ = some res) : V g X (m9_leads) 0 [(0, .ref (g.ad (75)))] [] σ := by
  unfold S9_leads at h
  refine V_iconst (v := -1) (q := 1) hX dX9_leads_0 (by decide) rfl ?_
  refine V_istore_n (lv' := [(1, .int ((-1 : Int32))), (0, .ref (g.ad (75)))]) (q := 2) hX dX9_leads_1 rfl rfl rfl ?_
  refine V_iconst (v := -1) (q := 3) hX dX9_leads_2 (by decide) rfl ?_
  refine V_istore_n (lv' := [(2, .int ((-1 : Int32))), (1, .int ((-1 : Int32))), (0, .ref (g.ad (75)))]) (q := 4) hX dX9_leads_3 rfl rfl rfl ?_
  refine V_iconst (v := 0) (q := 5) hX dX9_leads_4 (by decide) rfl ?_
  refine V_istore_n (lv' := [(3, .int ((0 : Int32))), (2, .int ((-1 : Int32))), (1, .int ((-1 : Int32))), (0, .ref (g.ad (75)))]) (q := 6) hX dX9_leads_5 rfl rfl rfl ?_
  refine V.pick [3, 2, 1, 0] rfl ?_
  exact v9_leads_6 hX hN hQ (-1 : Int32) (-1 : Int32) (0 : Int32) σ h
set_option maxRecDepth 100000 in
set_option maxHeartbeats 4000000 in
theorem c9_leads {g : GT} {l : Launch} (hg : OkG g) (hN : 95 ≤ g.N) {σ : St} {r : Int32} {σ' : St} (h : S9_leads σ = some (r, σ')) : CtI g l m9_leads yX9_leads [.ref (g.ad (75))] σ r σ' := CtI.of hg (by decide) rfl rfl (fun X h1 h2 h3 => v9_leads h1 hN (res := (r, σ')) h3 h)

abbrev m9_meet : MI := (cX9_meet, RX9, 4, some .int, 9)
def S9_meet (a1 : Int32) (a2 : Int32) (σ : St) : Option (Int32 × St) := bnd (S9_plansWrong a1 σ) fun r17 σ16 => if r17 = 0 then (bnd (S9_in a2 (1 : Int32) (9 : Int32) σ16) fun r21 σ20 => if r21 = 0 then (some ((-7 : Int32), σ20)) else (if ((gI σ20 75 4) + a2) ≤ (999 : Int32) then (bnd (S9_daysOf a1 a2 σ20) fun r26 σ25 => bnd (S9_leads (sI σ25 75 4 ((gI σ25 75 4) + a2))) fun r29 σ28 => some (r29, σ28)) else (some ((-4 : Int32), σ20)))) else (some (r17, σ16))
set_option maxRecDepth 100000 in
set_option maxHeartbeats 4000000 in
theorem v9_meet {g : GT} {X : XT} {a1 : Int32} {a2 : Int32} (hX : OkX g X (m9_meet)) (hN : 95 ≤ g.N) {res : Int32 × St} (hQ : X.Q = QI g X res.1 res.2 ∧ X.cells = 0 ∧ X.slots = 0) {σ : St} (h : S9_meet a1 a2 σ = some res) : V g X (m9_meet) 0 [(0, .ref (g.ad (75))), (1, .int (a1)), (2, .int (a2))] [] σ := by
  unfold S9_meet at h
  refine V_aload_n (q := 1) hX dX9_meet_0 0 rfl rfl ?_
  refine V_iload_n (q := 2) hX dX9_meet_1 1 rfl rfl ?_
  obtain ⟨r17, σ16, e18, h⟩ := bnd_some h
  refine V_cvI (n := 95) (c := 9) (nf := 39) (C := RX9) (T := TX9) (As := [.int (a1)]) (q := 5) hX (c9_plansWrong hX.2.2.2.2.1 hN e18) (goodV_of k5_201 k5_203 kp_57 k1_16 (cons_g k5_204)) (nA := 1) (by decide) rfl rfl rfl rfl rfl ⟨rfl, by decide⟩ hN rfl rfl rfl dX9_meet_2 rfl ?_
  refine V_istore_n (lv' := [(3, .int (r17)), (0, .ref (g.ad (75))), (1, .int (a1)), (2, .int (a2))]) (q := 6) hX dX9_meet_5 rfl rfl rfl ?_
  refine V_iload_n (q := 7) hX dX9_meet_6 0 rfl rfl ?_
  refine V_if_eq (q := 10) (t := 12) hX dX9_meet_7 (by decide) rfl (fun z19 => ?_) (fun z19 => ?_)
  · have h := ite_t z19 h
    refine V_iload_n (q := 13) hX dX9_meet_12 3 rfl rfl ?_
    refine V_iconst (v := 1) (q := 14) hX dX9_meet_13 (by decide) rfl ?_
    refine V_bipush (v := 9) (q := 16) hX dX9_meet_14 (by decide) rfl ?_
    obtain ⟨r21, σ20, e22, h⟩ := bnd_some h
    refine V_csI (As := [.int (a2), .int ((1 : Int32)), .int ((9 : Int32))]) (q := 19) hX (c9_in hX.2.2.2.2.1 hN e22) (goodS_of k4_143 k4_144 k1_16 (cons_g k4_145)) (nA := 3) (by decide) rfl rfl rfl rfl rfl dX9_meet_16 rfl ?_
    refine V_if_ne (q := 22) (t := 25) hX dX9_meet_19 (by decide) rfl (fun z23 => ?_) (fun z23 => ?_)
    · have h := ite_f z23 h
      refine V_aload_n (q := 26) hX dX9_meet_25 1 rfl rfl ?_
      refine V_getI (n := 95) (c := 9) (k := 4) (nf := 39) (C := RX9) (T := TX9) (q := 29) hX rfl rfl iG9 k4_186 rfl rfl ⟨rfl, by decide⟩ hN rfl rfl dX9_meet_26 rfl ?_
      refine V_iload_n (q := 30) hX dX9_meet_29 3 rfl rfl ?_
      refine V_iadd (q := 31) hX dX9_meet_30 rfl ?_
      refine V_sipush (v := 999) (q := 34) hX dX9_meet_31 (by decide) rfl ?_
      refine V_icmp_le (q := 37) (t := 40) hX dX9_meet_34 (by decide) rfl (fun z24 => ?_) (fun z24 => ?_)
      · have h := ite_t z24 h
        refine V_aload_n (q := 41) hX dX9_meet_40 1 rfl rfl ?_
        refine V_iload_n (q := 42) hX dX9_meet_41 2 rfl rfl ?_
        refine V_iload_n (q := 43) hX dX9_meet_42 3 rfl rfl ?_
        obtain ⟨r26, σ25, e27, h⟩ := bnd_some h
        refine V_cvV (n := 95) (c := 9) (nf := 39) (C := RX9) (T := TX9) (As := [.int (a1), .int (a2)]) (q := 46) hX (c9_daysOf hX.2.2.2.2.1 hN e27) (goodV_of k5_205 k5_207 kp_58 k1_16 (cons_g k5_208)) (nA := 2) (by decide) rfl rfl rfl rfl rfl ⟨rfl, by decide⟩ hN rfl rfl rfl dX9_meet_43 rfl ?_
        refine V_aload_n (q := 47) hX dX9_meet_46 1 rfl rfl ?_
        refine V_dup (q := 48) hX dX9_meet_47 rfl rfl ?_
        refine V_getI (n := 95) (c := 9) (k := 4) (nf := 39) (C := RX9) (T := TX9) (q := 51) hX rfl rfl iG9 k4_186 rfl rfl ⟨rfl, by decide⟩ hN rfl rfl dX9_meet_48 rfl ?_
        refine V_iload_n (q := 52) hX dX9_meet_51 3 rfl rfl ?_
        refine V_iadd (q := 53) hX dX9_meet_52 rfl ?_
        refine V_putI (n := 95) (c := 9) (k := 4) (nf := 39) (C := RX9) (T := TX9) (q := 56) hX rfl rfl iG9 k4_186 rfl rfl ⟨rfl, by decide⟩ hN rfl tyX9 tyX9_ok nmX9 rfl rfl (ty := .int) (tyX9_ok 4 (by decide)) rfl rfl dX9_meet_53 rfl ?_
        refine V_aload_n (q := 57) hX dX9_meet_56 1 rfl rfl ?_
        obtain ⟨r29, σ28, e30, h⟩ := bnd_some h
        refine V_cvI (n := 95) (c := 9) (nf := 39) (C := RX9) (T := TX9) (As := []) (q := 60) hX (c9_leads hX.2.2.2.2.1 hN e30) (goodV_of k5_209 k5_211 kp_59 k1_16 (cons_g k5_212)) (nA := 0) (by decide) rfl rfl rfl rfl rfl ⟨rfl, by decide⟩ hN rfl rfl rfl dX9_meet_57 rfl ?_
        obtain ⟨f1, f2⟩ := some2 h
        rw [f1, f2] at hQ
        exact V_iret hX hQ rfl dX9_meet_60
      have h := ite_f z24 h
      refine V_bipush (v := -4) (q := 39) hX dX9_meet_37 (by decide) rfl ?_
      obtain ⟨f1, f2⟩ := some2 h
      rw [f1, f2] at hQ
      exact V_iret hX hQ rfl dX9_meet_39
    have h := ite_t z23 h
    refine V_bipush (v := -7) (q := 24) hX dX9_meet_22 (by decide) rfl ?_
    obtain ⟨f1, f2⟩ := some2 h
    rw [f1, f2] at hQ
    exact V_iret hX hQ rfl dX9_meet_24
  have h := ite_f z19 h
  refine V_iload_n (q := 11) hX dX9_meet_10 0 rfl rfl ?_
  obtain ⟨f1, f2⟩ := some2 h
  rw [f1, f2] at hQ
  exact V_iret hX hQ rfl dX9_meet_11
set_option maxRecDepth 100000 in
set_option maxHeartbeats 4000000 in
theorem c9_meet {g : GT} {l : Launch} (hg : OkG g) (hN : 95 ≤ g.N) {a1 : Int32} {a2 : Int32} {σ : St} {r : Int32} {σ' : St} (h : S9_meet a1 a2 σ = some (r, σ')) : CtI g l m9_meet yX9_meet [.ref (g.ad (75)), .int (a1), .int (a2)] σ r σ' := CtI.of hg (by decide) rfl rfl (fun X h1 h2 h3 => v9_meet h1 hN (res := (r, σ')) h3 h)

abbrev m9_run : MI := (cX9_run, RX9, 7, some .int, 9)
def B9_run_113 (a1 : Int32) (a2 : Int32) (a3 : Int32) (rec : Int32 → Int32 → St → Option (Int32 × St)) (x5 : Int32) (x6 : Int32) (σ : St) : Option (Int32 × St) := if (30 : Int32) ≤ x6 then (some (x5, σ)) else (if inb x6 30 then (if inb x6 30 then (rec x5 (x6 + 1) (sI σ 78 (x6).toNatClampNeg (gI σ 94 (x6).toNatClampNeg))) else none) else none)
def S9_run_113 (a1 : Int32) (a2 : Int32) (a3 : Int32) : Nat → Int32 → Int32 → St → Option (Int32 × St)
  | 0, _, _, _ => none
  | n + 1, x5, x6, σ => B9_run_113 a1 a2 a3 (S9_run_113 a1 a2 a3 n) x5 x6 σ
def S9_run_108 (a1 : Int32) (a2 : Int32) (a3 : Int32) (s0 : Int32) (σ : St) : Option (Int32 × St) := S9_run_113 a1 a2 a3 4096 s0 (0 : Int32) σ
def B9_run_51 (a1 : Int32) (a2 : Int32) (a3 : Int32) (rec : Int32 → St → Option (Int32 × St)) (x5 : Int32) (σ : St) : Option (Int32 × St) := if (30 : Int32) ≤ x5 then (bnd (S9_daysOf a1 a2 σ) fun r56 σ55 => if a3 = 0 then (bnd (S9_leads σ55) fun r61 σ60 => S9_run_108 a1 a2 a3 r61 σ60) else (if inb (((5 : Int32) * (a3 - (10 : Int32))) + (3 : Int32)) 30 then (S9_run_108 a1 a2 a3 (gI σ55 78 ((((5 : Int32) * (a3 - (10 : Int32))) + (3 : Int32))).toNatClampNeg) σ55) else none)) else (if inb x5 30 then (if inb x5 30 then (rec (x5 + 1) (sI σ 94 (x5).toNatClampNeg (gI σ 78 (x5).toNatClampNeg))) else none) else none)
def S9_run_51 (a1 : Int32) (a2 : Int32) (a3 : Int32) : Nat → Int32 → St → Option (Int32 × St)
  | 0, _, _ => none
  | n + 1, x5, σ => B9_run_51 a1 a2 a3 (S9_run_51 a1 a2 a3 n) x5 σ
def S9_run_48 (a1 : Int32) (a2 : Int32) (a3 : Int32) (σ : St) : Option (Int32 × St) := S9_run_51 a1 a2 a3 4096 (0 : Int32) σ
def S9_run (a1 : Int32) (a2 : Int32) (a3 : Int32) (σ : St) : Option (Int32 × St) := bnd (S9_plansWrong a1 σ) fun r66 σ65 => if r66 = 0 then (bnd (S9_in a2 (0 : Int32) (9 : Int32) σ65) fun r70 σ69 => if r70 = 0 then (some ((-7 : Int32), σ69)) else (if a3 = 0 then (S9_run_48 a1 a2 a3 σ69) else (bnd (S9_in a3 (10 : Int32) ((9 : Int32) + (gI σ69 75 0)) σ69) fun r75 σ74 => if r75 = 0 then (some ((-7 : Int32), σ74)) else (S9_run_48 a1 a2 a3 σ74)))) else (some (r66, σ65))
set_option maxRecDepth 100000 in
set_option maxHeartbeats 4000000 in
theorem v9_run_113n {g : GT} {X : XT} {a1 : Int32} {a2 : Int32} {a3 : Int32} (hX : OkX g X (m9_run)) (hN : 95 ≤ g.N) {res : Int32 × St} (hQ : X.Q = QI g X res.1 res.2 ∧ X.cells = 0 ∧ X.slots = 0)   (n : Nat) : ∀ (x5 : Int32) (x6 : Int32) (σ : St) , S9_run_113 a1 a2 a3 n x5 x6 σ = some res → V g X (m9_run) 113 [(0, .ref (g.ad (75))), (5, .int (x5)), (6, .int (x6))] [] σ := by
  induction n with
  | zero => intro x5 x6 σ; intro h; cases h
  | succ n ih =>
    intro x5 x6 σ h
    have h : B9_run_113 a1 a2 a3 (S9_run_113 a1 a2 a3 n) x5 x6 σ = some res := h
    unfold B9_run_113 at h
    refine V_iload (q := 115) hX dX9_run_113 2 rfl rfl ?_
    refine V_bipush (v := 30) (q := 117) hX dX9_run_115 (by decide) rfl ?_
    refine V_icmp_ge (q := 120) (t := 140) hX dX9_run_117 (by decide) rfl (fun z51 => ?_) (fun z51 => ?_)
    · have h := ite_t z51 h
      refine V_iload (q := 142) hX dX9_run_140 1 rfl rfl ?_
      obtain ⟨f1, f2⟩ := some2 h
      rw [f1, f2] at hQ
      exact V_iret hX hQ rfl dX9_run_142
    have h := ite_f z51 h
    refine V_aload_n (q := 121) hX dX9_run_120 0 rfl rfl ?_
    refine V_getF (r := 78) (n := 95) (c := 9) (k := 3) (nf := 39) (C := RX9) (T := TX9) (q := 124) hX rfl rfl iG9 k4_185 rfl rfl ⟨rfl, by decide⟩ hN rfl rfl rfl rfl dX9_run_121 rfl ?_
    refine V_iload (q := 126) hX dX9_run_124 2 rfl rfl ?_
    refine V_aload_n (q := 127) hX dX9_run_126 0 rfl rfl ?_
    refine V_getF (r := 94) (n := 95) (c := 9) (k := 38) (nf := 39) (C := RX9) (T := TX9) (q := 130) hX rfl rfl iG9 k4_220 rfl rfl ⟨rfl, by decide⟩ hN rfl rfl rfl rfl dX9_run_127 rfl ?_
    refine V_iload (q := 132) hX dX9_run_130 2 rfl rfl ?_
    obtain ⟨z52, h⟩ := chk_t h
    refine V_iald (n := 95) (len := 30) (q := 133) hX ⟨rfl, rfl, by decide⟩ hN z52 dX9_run_132 rfl ?_
    obtain ⟨z53, h⟩ := chk_t h
    refine V_iast (n := 95) (len := 30) (q := 134) hX ⟨rfl, rfl, by decide⟩ hN z53 dX9_run_133 rfl ?_
    refine V_iinc (v := (x6 + 1)) (lv' := [(6, .int ((x6 + 1))), (0, .ref (g.ad (75))), (5, .int (x5))]) (q := 137) hX dX9_run_134 2 rfl (by rfl) rfl rfl rfl ?_
    refine V_goto hX dX9_run_137 (q := 113) (by decide) ?_
    refine V.pick [1, 2, 0] rfl ?_
    exact ih x5 (x6 + 1) (sI σ 78 (x6).toNatClampNeg (gI σ 94 (x6).toNatClampNeg))  h
theorem v9_run_113 {g : GT} {X : XT} {a1 : Int32} {a2 : Int32} {a3 : Int32} (hX : OkX g X (m9_run)) (hN : 95 ≤ g.N) {res : Int32 × St} (hQ : X.Q = QI g X res.1 res.2 ∧ X.cells = 0 ∧ X.slots = 0) (x5 : Int32) (x6 : Int32) (σ : St) (h : S9_run_113 a1 a2 a3 4096 x5 x6 σ = some res) : V g X (m9_run) 113 [(0, .ref (g.ad (75))), (5, .int (x5)), (6, .int (x6))] [] σ := v9_run_113n hX hN hQ 4096 x5 x6 σ h
set_option maxRecDepth 100000 in
set_option maxHeartbeats 4000000 in
theorem v9_run_108 {g : GT} {X : XT} {a1 : Int32} {a2 : Int32} {a3 : Int32} (hX : OkX g X (m9_run)) (hN : 95 ≤ g.N) {res : Int32 × St} (hQ : X.Q = QI g X res.1 res.2 ∧ X.cells = 0 ∧ X.slots = 0)   (s0 : Int32) (σ : St)  (h : S9_run_108 a1 a2 a3 s0 σ = some res) : V g X (m9_run) 108 [(0, .ref (g.ad (75)))] [.int (s0)] σ := by
  unfold S9_run_108 at h
  refine V_istore (lv' := [(5, .int (s0)), (0, .ref (g.ad (75)))]) (q := 110) hX dX9_run_108 rfl rfl rfl ?_
  refine V_iconst (v := 0) (q := 111) hX dX9_run_110 (by decide) rfl ?_
  refine V_istore (lv' := [(6, .int ((0 : Int32))), (5, .int (s0)), (0, .ref (g.ad (75)))]) (q := 113) hX dX9_run_111 rfl rfl rfl ?_
  refine V.pick [2, 1, 0] rfl ?_
  exact v9_run_113 hX hN hQ s0 (0 : Int32) σ h
set_option maxRecDepth 100000 in
set_option maxHeartbeats 4000000 in
theorem v9_run_51n {g : GT} {X : XT} {a1 : Int32} {a2 : Int32} {a3 : Int32} (hX : OkX g X (m9_run)) (hN : 95 ≤ g.N) {res : Int32 × St} (hQ : X.Q = QI g X res.1 res.2 ∧ X.cells = 0 ∧ X.slots = 0)   (n : Nat) : ∀ (x5 : Int32) (σ : St) , S9_run_51 a1 a2 a3 n x5 σ = some res → V g X (m9_run) 51 [(0, .ref (g.ad (75))), (1, .int (a1)), (2, .int (a2)), (3, .int (a3)), (5, .int (x5))] [] σ := by
  induction n with
  | zero => intro x5 σ; intro h; cases h
  | succ n ih =>
    intro x5 σ h
    have h : B9_run_51 a1 a2 a3 (S9_run_51 a1 a2 a3 n) x5 σ = some res := h
    unfold B9_run_51 at h
    refine V_iload (q := 53) hX dX9_run_51 4 rfl rfl ?_
    refine V_bipush (v := 30) (q := 55) hX dX9_run_53 (by decide) rfl ?_
    refine V_icmp_ge (q := 58) (t := 78) hX dX9_run_55 (by decide) rfl (fun z54 => ?_) (fun z54 => ?_)
    · have h := ite_t z54 h
      refine V_aload_n (q := 79) hX dX9_run_78 0 rfl rfl ?_
      refine V_iload_n (q := 80) hX dX9_run_79 1 rfl rfl ?_
      refine V_iload_n (q := 81) hX dX9_run_80 2 rfl rfl ?_
      obtain ⟨r56, σ55, e57, h⟩ := bnd_some h
      refine V_cvV (n := 95) (c := 9) (nf := 39) (C := RX9) (T := TX9) (As := [.int (a1), .int (a2)]) (q := 84) hX (c9_daysOf hX.2.2.2.2.1 hN e57) (goodV_of k5_205 k5_207 kp_58 k1_16 (cons_g k5_208)) (nA := 2) (by decide) rfl rfl rfl rfl rfl ⟨rfl, by decide⟩ hN rfl rfl rfl dX9_run_81 rfl ?_
      refine V_iload_n (q := 85) hX dX9_run_84 3 rfl rfl ?_
      refine V_if_ne (q := 88) (t := 95) hX dX9_run_85 (by decide) rfl (fun z58 => ?_) (fun z58 => ?_)
      · have h := ite_f z58 h
        refine V_aload_n (q := 96) hX dX9_run_95 0 rfl rfl ?_
        refine V_getF (r := 78) (n := 95) (c := 9) (k := 3) (nf := 39) (C := RX9) (T := TX9) (q := 99) hX rfl rfl iG9 k4_185 rfl rfl ⟨rfl, by decide⟩ hN rfl rfl rfl rfl dX9_run_96 rfl ?_
        refine V_iconst (v := 5) (q := 100) hX dX9_run_99 (by decide) rfl ?_
        refine V_iload_n (q := 101) hX dX9_run_100 3 rfl rfl ?_
        refine V_bipush (v := 10) (q := 103) hX dX9_run_101 (by decide) rfl ?_
        refine V_isub (q := 104) hX dX9_run_103 rfl ?_
        refine V_imul (q := 105) hX dX9_run_104 rfl ?_
        refine V_iconst (v := 3) (q := 106) hX dX9_run_105 (by decide) rfl ?_
        refine V_iadd (q := 107) hX dX9_run_106 rfl ?_
        obtain ⟨z59, h⟩ := chk_t h
        refine V_iald (n := 95) (len := 30) (q := 108) hX ⟨rfl, rfl, by decide⟩ hN z59 dX9_run_107 rfl ?_
        refine V.pick [0] rfl ?_
        exact v9_run_108 hX hN hQ (gI σ55 78 ((((5 : Int32) * (a3 - (10 : Int32))) + (3 : Int32))).toNatClampNeg) σ55 h
      have h := ite_t z58 h
      refine V_aload_n (q := 89) hX dX9_run_88 0 rfl rfl ?_
      obtain ⟨r61, σ60, e62, h⟩ := bnd_some h
      refine V_cvI (n := 95) (c := 9) (nf := 39) (C := RX9) (T := TX9) (As := []) (q := 92) hX (c9_leads hX.2.2.2.2.1 hN e62) (goodV_of k5_209 k5_211 kp_59 k1_16 (cons_g k5_212)) (nA := 0) (by decide) rfl rfl rfl rfl rfl ⟨rfl, by decide⟩ hN rfl rfl rfl dX9_run_89 rfl ?_
      refine V_goto hX dX9_run_92 (q := 108) (by decide) ?_
      refine V.pick [0] rfl ?_
      exact v9_run_108 hX hN hQ r61 σ60 h
    have h := ite_f z54 h
    refine V_aload_n (q := 59) hX dX9_run_58 0 rfl rfl ?_
    refine V_getF (r := 94) (n := 95) (c := 9) (k := 38) (nf := 39) (C := RX9) (T := TX9) (q := 62) hX rfl rfl iG9 k4_220 rfl rfl ⟨rfl, by decide⟩ hN rfl rfl rfl rfl dX9_run_59 rfl ?_
    refine V_iload (q := 64) hX dX9_run_62 4 rfl rfl ?_
    refine V_aload_n (q := 65) hX dX9_run_64 0 rfl rfl ?_
    refine V_getF (r := 78) (n := 95) (c := 9) (k := 3) (nf := 39) (C := RX9) (T := TX9) (q := 68) hX rfl rfl iG9 k4_185 rfl rfl ⟨rfl, by decide⟩ hN rfl rfl rfl rfl dX9_run_65 rfl ?_
    refine V_iload (q := 70) hX dX9_run_68 4 rfl rfl ?_
    obtain ⟨z63, h⟩ := chk_t h
    refine V_iald (n := 95) (len := 30) (q := 71) hX ⟨rfl, rfl, by decide⟩ hN z63 dX9_run_70 rfl ?_
    obtain ⟨z64, h⟩ := chk_t h
    refine V_iast (n := 95) (len := 30) (q := 72) hX ⟨rfl, rfl, by decide⟩ hN z64 dX9_run_71 rfl ?_
    refine V_iinc (v := (x5 + 1)) (lv' := [(5, .int ((x5 + 1))), (0, .ref (g.ad (75))), (1, .int (a1)), (2, .int (a2)), (3, .int (a3))]) (q := 75) hX dX9_run_72 4 rfl (by rfl) rfl rfl rfl ?_
    refine V_goto hX dX9_run_75 (q := 51) (by decide) ?_
    refine V.pick [1, 2, 3, 4, 0] rfl ?_
    exact ih (x5 + 1) (sI σ 94 (x5).toNatClampNeg (gI σ 78 (x5).toNatClampNeg))  h
theorem v9_run_51 {g : GT} {X : XT} {a1 : Int32} {a2 : Int32} {a3 : Int32} (hX : OkX g X (m9_run)) (hN : 95 ≤ g.N) {res : Int32 × St} (hQ : X.Q = QI g X res.1 res.2 ∧ X.cells = 0 ∧ X.slots = 0) (x5 : Int32) (σ : St) (h : S9_run_51 a1 a2 a3 4096 x5 σ = some res) : V g X (m9_run) 51 [(0, .ref (g.ad (75))), (1, .int (a1)), (2, .int (a2)), (3, .int (a3)), (5, .int (x5))] [] σ := v9_run_51n hX hN hQ 4096 x5 σ h
set_option maxRecDepth 100000 in
set_option maxHeartbeats 4000000 in
theorem v9_run_48 {g : GT} {X : XT} {a1 : Int32} {a2 : Int32} {a3 : Int32} (hX : OkX g X (m9_run)) (hN : 95 ≤ g.N) {res : Int32 × St} (hQ : X.Q = QI g X res.1 res.2 ∧ X.cells = 0 ∧ X.slots = 0)    (σ : St)  (h : S9_run_48 a1 a2 a3 σ = some res) : V g X (m9_run) 48 [(0, .ref (g.ad (75))), (1, .int (a1)), (2, .int (a2)), (3, .int (a3))] [] σ := by
  unfold S9_run_48 at h
  refine V_iconst (v := 0) (q := 49) hX dX9_run_48 (by decide) rfl ?_
  refine V_istore (lv' := [(5, .int ((0 : Int32))), (0, .ref (g.ad (75))), (1, .int (a1)), (2, .int (a2)), (3, .int (a3))]) (q := 51) hX dX9_run_49 rfl rfl rfl ?_
  refine V.pick [1, 2, 3, 4, 0] rfl ?_
  exact v9_run_51 hX hN hQ (0 : Int32) σ h
set_option maxRecDepth 100000 in
set_option maxHeartbeats 4000000 in
theorem v9_run {g : GT} {X : XT} {a1 : Int32} {a2 : Int32} {a3 : Int32} (hX : OkX g X (m9_run)) (hN : 95 ≤ g.N) {res : Int32 × St} (hQ : X.Q = QI g X res.1 res.2 ∧ X.cells = 0 ∧ X.slots = 0) {σ : St} (h : S9_run a1 a2 a3 σ = some res) : V g X (m9_run) 0 [(0, .ref (g.ad (75))), (1, .int (a1)), (2, .int (a2)), (3, .int (a3))] [] σ := by
  unfold S9_run at h
  refine V_aload_n (q := 1) hX dX9_run_0 0 rfl rfl ?_
  refine V_iload_n (q := 2) hX dX9_run_1 1 rfl rfl ?_
  obtain ⟨r66, σ65, e67, h⟩ := bnd_some h
  refine V_cvI (n := 95) (c := 9) (nf := 39) (C := RX9) (T := TX9) (As := [.int (a1)]) (q := 5) hX (c9_plansWrong hX.2.2.2.2.1 hN e67) (goodV_of k5_201 k5_203 kp_57 k1_16 (cons_g k5_204)) (nA := 1) (by decide) rfl rfl rfl rfl rfl ⟨rfl, by decide⟩ hN rfl rfl rfl dX9_run_2 rfl ?_
  refine V_istore (lv' := [(4, .int (r66)), (0, .ref (g.ad (75))), (1, .int (a1)), (2, .int (a2)), (3, .int (a3))]) (q := 7) hX dX9_run_5 rfl rfl rfl ?_
  refine V_iload (q := 9) hX dX9_run_7 0 rfl rfl ?_
  refine V_if_eq (q := 12) (t := 15) hX dX9_run_9 (by decide) rfl (fun z68 => ?_) (fun z68 => ?_)
  · have h := ite_t z68 h
    refine V_iload_n (q := 16) hX dX9_run_15 3 rfl rfl ?_
    refine V_iconst (v := 0) (q := 17) hX dX9_run_16 (by decide) rfl ?_
    refine V_bipush (v := 9) (q := 19) hX dX9_run_17 (by decide) rfl ?_
    obtain ⟨r70, σ69, e71, h⟩ := bnd_some h
    refine V_csI (As := [.int (a2), .int ((0 : Int32)), .int ((9 : Int32))]) (q := 22) hX (c9_in hX.2.2.2.2.1 hN e71) (goodS_of k4_143 k4_144 k1_16 (cons_g k4_145)) (nA := 3) (by decide) rfl rfl rfl rfl rfl dX9_run_19 rfl ?_
    refine V_if_eq (q := 25) (t := 45) hX dX9_run_22 (by decide) rfl (fun z72 => ?_) (fun z72 => ?_)
    · have h := ite_t z72 h
      refine V_bipush (v := -7) (q := 47) hX dX9_run_45 (by decide) rfl ?_
      obtain ⟨f1, f2⟩ := some2 h
      rw [f1, f2] at hQ
      exact V_iret hX hQ rfl dX9_run_47
    have h := ite_f z72 h
    refine V_iload_n (q := 26) hX dX9_run_25 4 rfl rfl ?_
    refine V_if_eq (q := 29) (t := 48) hX dX9_run_26 (by decide) rfl (fun z73 => ?_) (fun z73 => ?_)
    · have h := ite_t z73 h
      refine V.pick [1, 2, 3, 4] rfl ?_
      exact v9_run_48 hX hN hQ σ69 h
    have h := ite_f z73 h
    refine V_iload_n (q := 30) hX dX9_run_29 4 rfl rfl ?_
    refine V_bipush (v := 10) (q := 32) hX dX9_run_30 (by decide) rfl ?_
    refine V_bipush (v := 9) (q := 34) hX dX9_run_32 (by decide) rfl ?_
    refine V_aload_n (q := 35) hX dX9_run_34 1 rfl rfl ?_
    refine V_getI (n := 95) (c := 9) (k := 0) (nf := 39) (C := RX9) (T := TX9) (q := 38) hX rfl rfl iG9 k4_182 rfl rfl ⟨rfl, by decide⟩ hN rfl rfl dX9_run_35 rfl ?_
    refine V_iadd (q := 39) hX dX9_run_38 rfl ?_
    obtain ⟨r75, σ74, e76, h⟩ := bnd_some h
    refine V_csI (As := [.int (a3), .int ((10 : Int32)), .int (((9 : Int32) + (gI σ69 75 0)))]) (q := 42) hX (c9_in hX.2.2.2.2.1 hN e76) (goodS_of k4_143 k4_144 k1_16 (cons_g k4_145)) (nA := 3) (by decide) rfl rfl rfl rfl rfl dX9_run_39 rfl ?_
    refine V_if_ne (q := 45) (t := 48) hX dX9_run_42 (by decide) rfl (fun z77 => ?_) (fun z77 => ?_)
    · have h := ite_f z77 h
      refine V.pick [1, 2, 3, 4] rfl ?_
      exact v9_run_48 hX hN hQ σ74 h
    have h := ite_t z77 h
    refine V_bipush (v := -7) (q := 47) hX dX9_run_45 (by decide) rfl ?_
    obtain ⟨f1, f2⟩ := some2 h
    rw [f1, f2] at hQ
    exact V_iret hX hQ rfl dX9_run_47
  have h := ite_f z68 h
  refine V_iload (q := 14) hX dX9_run_12 0 rfl rfl ?_
  obtain ⟨f1, f2⟩ := some2 h
  rw [f1, f2] at hQ
  exact V_iret hX hQ rfl dX9_run_14
set_option maxRecDepth 100000 in
set_option maxHeartbeats 4000000 in
theorem c9_run {g : GT} {l : Launch} (hg : OkG g) (hN : 95 ≤ g.N) {a1 : Int32} {a2 : Int32} {a3 : Int32} {σ : St} {r : Int32} {σ' : St} (h : S9_run a1 a2 a3 σ = some (r, σ')) : CtI g l m9_run yX9_run [.ref (g.ad (75)), .int (a1), .int (a2), .int (a3)] σ r σ' := CtI.of hg (by decide) rfl rfl (fun X h1 h2 h3 => v9_run h1 hN (res := (r, σ')) h3 h)

abbrev m9_sheetWrong : MI := (cX9_sheetWrong, RX9, 2, some .int, 2)
def S9_sheetWrong (a1 : Int32) (σ : St) : Option (Int32 × St) := bnd (S9_in a1 (0 : Int32) (3 : Int32) σ) fun r10 σ9 => if r10 = 0 then (some ((-2 : Int32), σ9)) else (if inb a1 4 then (if (gI σ9 84 (a1).toNatClampNeg) = (-1 : Int32) then (some ((-11 : Int32), σ9)) else (if inb a1 4 then (if (gI σ9 85 (a1).toNatClampNeg) ≤ (9 : Int32) then (some ((0 : Int32), σ9)) else (some ((-2 : Int32), σ9))) else none)) else none)
set_option maxRecDepth 100000 in
set_option maxHeartbeats 4000000 in
theorem v9_sheetWrong {g : GT} {X : XT} {a1 : Int32} (hX : OkX g X (m9_sheetWrong)) (hN : 95 ≤ g.N) {res : Int32 × St} (hQ : X.Q = QI g X res.1 res.2 ∧ X.cells = 0 ∧ X.slots = 0) {σ : St} (h : S9_sheetWrong a1 σ = some res) : V g X (m9_sheetWrong) 0 [(0, .ref (g.ad (75))), (1, .int (a1))] [] σ := by
  unfold S9_sheetWrong at h
  refine V_iload_n (q := 1) hX dX9_sheetWrong_0 1 rfl rfl ?_
  refine V_iconst (v := 0) (q := 2) hX dX9_sheetWrong_1 (by decide) rfl ?_
  refine V_iconst (v := 3) (q := 3) hX dX9_sheetWrong_2 (by decide) rfl ?_
  obtain ⟨r10, σ9, e11, h⟩ := bnd_some h
  refine V_csI (As := [.int (a1), .int ((0 : Int32)), .int ((3 : Int32))]) (q := 6) hX (c9_in hX.2.2.2.2.1 hN e11) (goodS_of k4_143 k4_144 k1_16 (cons_g k4_145)) (nA := 3) (by decide) rfl rfl rfl rfl rfl dX9_sheetWrong_3 rfl ?_
  refine V_if_ne (q := 9) (t := 12) hX dX9_sheetWrong_6 (by decide) rfl (fun z12 => ?_) (fun z12 => ?_)
  · have h := ite_f z12 h
    refine V_aload_n (q := 13) hX dX9_sheetWrong_12 0 rfl rfl ?_
    refine V_getF (r := 84) (n := 95) (c := 9) (k := 14) (nf := 39) (C := RX9) (T := TX9) (q := 16) hX rfl rfl iG9 k4_196 rfl rfl ⟨rfl, by decide⟩ hN rfl rfl rfl rfl dX9_sheetWrong_13 rfl ?_
    refine V_iload_n (q := 17) hX dX9_sheetWrong_16 1 rfl rfl ?_
    obtain ⟨z13, h⟩ := chk_t h
    refine V_iald (n := 95) (len := 4) (q := 18) hX ⟨rfl, rfl, by decide⟩ hN z13 dX9_sheetWrong_17 rfl ?_
    refine V_iconst (v := -1) (q := 19) hX dX9_sheetWrong_18 (by decide) rfl ?_
    refine V_icmp_ne (q := 22) (t := 25) hX dX9_sheetWrong_19 (by decide) rfl (fun z14 => ?_) (fun z14 => ?_)
    · have h := ite_f z14 h
      refine V_aload_n (q := 26) hX dX9_sheetWrong_25 0 rfl rfl ?_
      refine V_getF (r := 85) (n := 95) (c := 9) (k := 15) (nf := 39) (C := RX9) (T := TX9) (q := 29) hX rfl rfl iG9 k4_197 rfl rfl ⟨rfl, by decide⟩ hN rfl rfl rfl rfl dX9_sheetWrong_26 rfl ?_
      refine V_iload_n (q := 30) hX dX9_sheetWrong_29 1 rfl rfl ?_
      obtain ⟨z15, h⟩ := chk_t h
      refine V_iald (n := 95) (len := 4) (q := 31) hX ⟨rfl, rfl, by decide⟩ hN z15 dX9_sheetWrong_30 rfl ?_
      refine V_bipush (v := 9) (q := 33) hX dX9_sheetWrong_31 (by decide) rfl ?_
      refine V_icmp_le (q := 36) (t := 41) hX dX9_sheetWrong_33 (by decide) rfl (fun z16 => ?_) (fun z16 => ?_)
      · have h := ite_t z16 h
        refine V_iconst (v := 0) (q := 42) hX dX9_sheetWrong_41 (by decide) rfl ?_
        obtain ⟨f1, f2⟩ := some2 h
        rw [f1, f2] at hQ
        exact V_iret hX hQ rfl dX9_sheetWrong_42
      have h := ite_f z16 h
      refine V_bipush (v := -2) (q := 38) hX dX9_sheetWrong_36 (by decide) rfl ?_
      refine V_goto hX dX9_sheetWrong_38 (q := 42) (by decide) ?_
      obtain ⟨f1, f2⟩ := some2 h
      rw [f1, f2] at hQ
      exact V_iret hX hQ rfl dX9_sheetWrong_42
    have h := ite_t z14 h
    refine V_bipush (v := -11) (q := 24) hX dX9_sheetWrong_22 (by decide) rfl ?_
    obtain ⟨f1, f2⟩ := some2 h
    rw [f1, f2] at hQ
    exact V_iret hX hQ rfl dX9_sheetWrong_24
  have h := ite_t z12 h
  refine V_bipush (v := -2) (q := 11) hX dX9_sheetWrong_9 (by decide) rfl ?_
  obtain ⟨f1, f2⟩ := some2 h
  rw [f1, f2] at hQ
  exact V_iret hX hQ rfl dX9_sheetWrong_11
set_option maxRecDepth 100000 in
set_option maxHeartbeats 4000000 in
theorem c9_sheetWrong {g : GT} {l : Launch} (hg : OkG g) (hN : 95 ≤ g.N) {a1 : Int32} {σ : St} {r : Int32} {σ' : St} (h : S9_sheetWrong a1 σ = some (r, σ')) : CtI g l m9_sheetWrong yX9_sheetWrong [.ref (g.ad (75)), .int (a1)] σ r σ' := CtI.of hg (by decide) rfl rfl (fun X h1 h2 h3 => v9_sheetWrong h1 hN (res := (r, σ')) h3 h)

abbrev m9_toldWrong : MI := (cX9_toldWrong, RX9, 6, some .int, 5)
def S9_toldWrong (a1 : Int32) (a2 : Int32) (a3 : Int32) (a4 : Int32) (σ : St) : Option (Int32 × St) := bnd (S9_sheetWrong a1 σ) fun r18 σ17 => if r18 = 0 then (bnd (S9_areTwoMen a2 σ17) fun r22 σ21 => if r22 = 0 then (some ((-5 : Int32), σ21)) else (bnd (S9_isPlan a3 σ21) fun r26 σ25 => if r26 = 0 then (some ((-7 : Int32), σ25)) else (bnd (S9_isPlan a4 σ25) fun r30 σ29 => if r30 = 0 then (some ((-7 : Int32), σ29)) else (some ((0 : Int32), σ29))))) else (some (r18, σ17))
set_option maxRecDepth 100000 in
set_option maxHeartbeats 4000000 in
theorem v9_toldWrong {g : GT} {X : XT} {a1 : Int32} {a2 : Int32} {a3 : Int32} {a4 : Int32} (hX : OkX g X (m9_toldWrong)) (hN : 95 ≤ g.N) {res : Int32 × St} (hQ : X.Q = QI g X res.1 res.2 ∧ X.cells = 0 ∧ X.slots = 0) {σ : St} (h : S9_toldWrong a1 a2 a3 a4 σ = some res) : V g X (m9_toldWrong) 0 [(0, .ref (g.ad (75))), (1, .int (a1)), (2, .int (a2)), (3, .int (a3)), (4, .int (a4))] [] σ := by
  unfold S9_toldWrong at h
  refine V_aload_n (q := 1) hX dX9_toldWrong_0 0 rfl rfl ?_
  refine V_iload_n (q := 2) hX dX9_toldWrong_1 1 rfl rfl ?_
  obtain ⟨r18, σ17, e19, h⟩ := bnd_some h
  refine V_cvI (n := 95) (c := 9) (nf := 39) (C := RX9) (T := TX9) (As := [.int (a1)]) (q := 5) hX (c9_sheetWrong hX.2.2.2.2.1 hN e19) (goodV_of k5_225 k5_227 kp_61 k1_16 (cons_g k5_228)) (nA := 1) (by decide) rfl rfl rfl rfl rfl ⟨rfl, by decide⟩ hN rfl rfl rfl dX9_toldWrong_2 rfl ?_
  refine V_istore (lv' := [(5, .int (r18)), (0, .ref (g.ad (75))), (1, .int (a1)), (2, .int (a2)), (3, .int (a3)), (4, .int (a4))]) (q := 7) hX dX9_toldWrong_5 rfl rfl rfl ?_
  refine V_iload (q := 9) hX dX9_toldWrong_7 0 rfl rfl ?_
  refine V_if_eq (q := 12) (t := 15) hX dX9_toldWrong_9 (by decide) rfl (fun z20 => ?_) (fun z20 => ?_)
  · have h := ite_t z20 h
    refine V_aload_n (q := 16) hX dX9_toldWrong_15 1 rfl rfl ?_
    refine V_iload_n (q := 17) hX dX9_toldWrong_16 3 rfl rfl ?_
    obtain ⟨r22, σ21, e23, h⟩ := bnd_some h
    refine V_cvI (n := 95) (c := 9) (nf := 39) (C := RX9) (T := TX9) (As := [.int (a2)]) (q := 20) hX (c9_areTwoMen hX.2.2.2.2.1 hN e23) (goodV_of k5_114 k5_116 kp_45 k1_16 (cons_g k5_117)) (nA := 1) (by decide) rfl rfl rfl rfl rfl ⟨rfl, by decide⟩ hN rfl rfl rfl dX9_toldWrong_17 rfl ?_
    refine V_if_ne (q := 23) (t := 28) hX dX9_toldWrong_20 (by decide) rfl (fun z24 => ?_) (fun z24 => ?_)
    · have h := ite_f z24 h
      refine V_iload_n (q := 29) hX dX9_toldWrong_28 4 rfl rfl ?_
      obtain ⟨r26, σ25, e27, h⟩ := bnd_some h
      refine V_csI (As := [.int (a3)]) (q := 32) hX (c9_isPlan hX.2.2.2.2.1 hN e27) (goodS_of k5_122 k5_123 k1_16 (cons_g k5_124)) (nA := 1) (by decide) rfl rfl rfl rfl rfl dX9_toldWrong_29 rfl ?_
      refine V_if_eq (q := 35) (t := 47) hX dX9_toldWrong_32 (by decide) rfl (fun z28 => ?_) (fun z28 => ?_)
      · have h := ite_t z28 h
        refine V_bipush (v := -7) (q := 49) hX dX9_toldWrong_47 (by decide) rfl ?_
        obtain ⟨f1, f2⟩ := some2 h
        rw [f1, f2] at hQ
        exact V_iret hX hQ rfl dX9_toldWrong_49
      have h := ite_f z28 h
      refine V_iload (q := 37) hX dX9_toldWrong_35 5 rfl rfl ?_
      obtain ⟨r30, σ29, e31, h⟩ := bnd_some h
      refine V_csI (As := [.int (a4)]) (q := 40) hX (c9_isPlan hX.2.2.2.2.1 hN e31) (goodS_of k5_122 k5_123 k1_16 (cons_g k5_124)) (nA := 1) (by decide) rfl rfl rfl rfl rfl dX9_toldWrong_37 rfl ?_
      refine V_if_eq (q := 43) (t := 47) hX dX9_toldWrong_40 (by decide) rfl (fun z32 => ?_) (fun z32 => ?_)
      · have h := ite_t z32 h
        refine V_bipush (v := -7) (q := 49) hX dX9_toldWrong_47 (by decide) rfl ?_
        obtain ⟨f1, f2⟩ := some2 h
        rw [f1, f2] at hQ
        exact V_iret hX hQ rfl dX9_toldWrong_49
      have h := ite_f z32 h
      refine V_iconst (v := 0) (q := 44) hX dX9_toldWrong_43 (by decide) rfl ?_
      refine V_goto hX dX9_toldWrong_44 (q := 49) (by decide) ?_
      obtain ⟨f1, f2⟩ := some2 h
      rw [f1, f2] at hQ
      exact V_iret hX hQ rfl dX9_toldWrong_49
    have h := ite_t z24 h
    refine V_bipush (v := -5) (q := 25) hX dX9_toldWrong_23 (by decide) rfl ?_
    refine V_goto hX dX9_toldWrong_25 (q := 49) (by decide) ?_
    obtain ⟨f1, f2⟩ := some2 h
    rw [f1, f2] at hQ
    exact V_iret hX hQ rfl dX9_toldWrong_49
  have h := ite_f z20 h
  refine V_iload (q := 14) hX dX9_toldWrong_12 0 rfl rfl ?_
  obtain ⟨f1, f2⟩ := some2 h
  rw [f1, f2] at hQ
  exact V_iret hX hQ rfl dX9_toldWrong_14
set_option maxRecDepth 100000 in
set_option maxHeartbeats 4000000 in
theorem c9_toldWrong {g : GT} {l : Launch} (hg : OkG g) (hN : 95 ≤ g.N) {a1 : Int32} {a2 : Int32} {a3 : Int32} {a4 : Int32} {σ : St} {r : Int32} {σ' : St} (h : S9_toldWrong a1 a2 a3 a4 σ = some (r, σ')) : CtI g l m9_toldWrong yX9_toldWrong [.ref (g.ad (75)), .int (a1), .int (a2), .int (a3), .int (a4)] σ r σ' := CtI.of hg (by decide) rfl rfl (fun X h1 h2 h3 => v9_toldWrong h1 hN (res := (r, σ')) h3 h)

abbrev m9_unlike : MI := (cX9_unlike, RX9, 7, some .int, 7)
def B9_unlike_13 (a1 : Int32) (a2 : Int32) (a3 : Int32) (a4 : Int32) (a5 : Int32) (rec : Int32 → St → Option (Int32 × St)) (x6 : Int32) (σ : St) : Option (Int32 × St) := if inb a1 4 then (if (gI σ 85 (a1).toNatClampNeg) ≤ x6 then (some ((-1 : Int32), σ)) else (if inb (((40 : Int32) * a1) + x6) 160 then (bnd (S9_within (x6 + (1 : Int32)) (0 : Int32) (9 : Int32) σ) fun r27 σ26 => if inb r27 10 then (if (gI σ 86 ((((40 : Int32) * a1) + x6)).toNatClampNeg) = (gI σ26 93 (r27).toNatClampNeg) then (rec (x6 + 1) σ26) else (some (x6, σ26))) else none) else none)) else none
def S9_unlike_13 (a1 : Int32) (a2 : Int32) (a3 : Int32) (a4 : Int32) (a5 : Int32) : Nat → Int32 → St → Option (Int32 × St)
  | 0, _, _ => none
  | n + 1, x6, σ => B9_unlike_13 a1 a2 a3 a4 a5 (S9_unlike_13 a1 a2 a3 a4 a5 n) x6 σ
def S9_unlike (a1 : Int32) (a2 : Int32) (a3 : Int32) (a4 : Int32) (a5 : Int32) (σ : St) : Option (Int32 × St) := bnd (S9_bout0 a2 a3 a4 a5 σ) fun r32 σ31 => S9_unlike_13 a1 a2 a3 a4 a5 4096 (0 : Int32) σ31
set_option maxRecDepth 100000 in
set_option maxHeartbeats 4000000 in
theorem v9_unlike_13n {g : GT} {X : XT} {a1 : Int32} {a2 : Int32} {a3 : Int32} {a4 : Int32} {a5 : Int32} (hX : OkX g X (m9_unlike)) (hN : 95 ≤ g.N) {res : Int32 × St} (hQ : X.Q = QI g X res.1 res.2 ∧ X.cells = 0 ∧ X.slots = 0)   (n : Nat) : ∀ (x6 : Int32) (σ : St) , S9_unlike_13 a1 a2 a3 a4 a5 n x6 σ = some res → V g X (m9_unlike) 13 [(0, .ref (g.ad (75))), (1, .int (a1)), (6, .int (x6))] [] σ := by
  induction n with
  | zero => intro x6 σ; intro h; cases h
  | succ n ih =>
    intro x6 σ h
    have h : B9_unlike_13 a1 a2 a3 a4 a5 (S9_unlike_13 a1 a2 a3 a4 a5 n) x6 σ = some res := h
    unfold B9_unlike_13 at h
    refine V_iload (q := 15) hX dX9_unlike_13 2 rfl rfl ?_
    refine V_aload_n (q := 16) hX dX9_unlike_15 0 rfl rfl ?_
    refine V_getF (r := 85) (n := 95) (c := 9) (k := 15) (nf := 39) (C := RX9) (T := TX9) (q := 19) hX rfl rfl iG9 k4_197 rfl rfl ⟨rfl, by decide⟩ hN rfl rfl rfl rfl dX9_unlike_16 rfl ?_
    refine V_iload_n (q := 20) hX dX9_unlike_19 1 rfl rfl ?_
    obtain ⟨z23, h⟩ := chk_t h
    refine V_iald (n := 95) (len := 4) (q := 21) hX ⟨rfl, rfl, by decide⟩ hN z23 dX9_unlike_20 rfl ?_
    refine V_icmp_ge (q := 24) (t := 63) hX dX9_unlike_21 (by decide) rfl (fun z24 => ?_) (fun z24 => ?_)
    · have h := ite_t z24 h
      refine V_iconst (v := -1) (q := 64) hX dX9_unlike_63 (by decide) rfl ?_
      obtain ⟨f1, f2⟩ := some2 h
      rw [f1, f2] at hQ
      exact V_iret hX hQ rfl dX9_unlike_64
    have h := ite_f z24 h
    refine V_aload_n (q := 25) hX dX9_unlike_24 0 rfl rfl ?_
    refine V_getF (r := 86) (n := 95) (c := 9) (k := 16) (nf := 39) (C := RX9) (T := TX9) (q := 28) hX rfl rfl iG9 k4_198 rfl rfl ⟨rfl, by decide⟩ hN rfl rfl rfl rfl dX9_unlike_25 rfl ?_
    refine V_bipush (v := 40) (q := 30) hX dX9_unlike_28 (by decide) rfl ?_
    refine V_iload_n (q := 31) hX dX9_unlike_30 1 rfl rfl ?_
    refine V_imul (q := 32) hX dX9_unlike_31 rfl ?_
    refine V_iload (q := 34) hX dX9_unlike_32 2 rfl rfl ?_
    refine V_iadd (q := 35) hX dX9_unlike_34 rfl ?_
    obtain ⟨z25, h⟩ := chk_t h
    refine V_iald (n := 95) (len := 160) (q := 36) hX ⟨rfl, rfl, by decide⟩ hN z25 dX9_unlike_35 rfl ?_
    refine V_aload_n (q := 37) hX dX9_unlike_36 0 rfl rfl ?_
    refine V_getF (r := 93) (n := 95) (c := 9) (k := 37) (nf := 39) (C := RX9) (T := TX9) (q := 40) hX rfl rfl iG9 k4_219 rfl rfl ⟨rfl, by decide⟩ hN rfl rfl rfl rfl dX9_unlike_37 rfl ?_
    refine V_iload (q := 42) hX dX9_unlike_40 2 rfl rfl ?_
    refine V_iconst (v := 1) (q := 43) hX dX9_unlike_42 (by decide) rfl ?_
    refine V_iadd (q := 44) hX dX9_unlike_43 rfl ?_
    refine V_iconst (v := 0) (q := 45) hX dX9_unlike_44 (by decide) rfl ?_
    refine V_bipush (v := 9) (q := 47) hX dX9_unlike_45 (by decide) rfl ?_
    obtain ⟨r27, σ26, e28, h⟩ := bnd_some h
    refine V_csI (As := [.int ((x6 + (1 : Int32))), .int ((0 : Int32)), .int ((9 : Int32))]) (q := 50) hX (c9_within hX.2.2.2.2.1 hN e28) (goodS_of k5_95 k5_96 k1_16 (cons_g k5_97)) (nA := 3) (by decide) rfl rfl rfl rfl rfl dX9_unlike_47 rfl ?_
    obtain ⟨z29, h⟩ := chk_t h
    refine V_iald (n := 95) (len := 10) (q := 51) hX ⟨rfl, rfl, by decide⟩ hN z29 dX9_unlike_50 rfl ?_
    refine V_icmp_eq (q := 54) (t := 57) hX dX9_unlike_51 (by decide) rfl (fun z30 => ?_) (fun z30 => ?_)
    · have h := ite_t z30 h
      refine V_iinc (v := (x6 + 1)) (lv' := [(6, .int ((x6 + 1))), (0, .ref (g.ad (75))), (1, .int (a1))]) (q := 60) hX dX9_unlike_57 2 rfl (by rfl) rfl rfl rfl ?_
      refine V_goto hX dX9_unlike_60 (q := 13) (by decide) ?_
      refine V.pick [1, 2, 0] rfl ?_
      exact ih (x6 + 1) σ26  h
    have h := ite_f z30 h
    refine V_iload (q := 56) hX dX9_unlike_54 2 rfl rfl ?_
    obtain ⟨f1, f2⟩ := some2 h
    rw [f1, f2] at hQ
    exact V_iret hX hQ rfl dX9_unlike_56
theorem v9_unlike_13 {g : GT} {X : XT} {a1 : Int32} {a2 : Int32} {a3 : Int32} {a4 : Int32} {a5 : Int32} (hX : OkX g X (m9_unlike)) (hN : 95 ≤ g.N) {res : Int32 × St} (hQ : X.Q = QI g X res.1 res.2 ∧ X.cells = 0 ∧ X.slots = 0) (x6 : Int32) (σ : St) (h : S9_unlike_13 a1 a2 a3 a4 a5 4096 x6 σ = some res) : V g X (m9_unlike) 13 [(0, .ref (g.ad (75))), (1, .int (a1)), (6, .int (x6))] [] σ := v9_unlike_13n hX hN hQ 4096 x6 σ h
set_option maxRecDepth 100000 in
set_option maxHeartbeats 4000000 in
theorem v9_unlike {g : GT} {X : XT} {a1 : Int32} {a2 : Int32} {a3 : Int32} {a4 : Int32} {a5 : Int32} (hX : OkX g X (m9_unlike)) (hN : 95 ≤ g.N) {res : Int32 × St} (hQ : X.Q = QI g X res.1 res.2 ∧ X.cells = 0 ∧ X.slots = 0) {σ : St} (h : S9_unlike a1 a2 a3 a4 a5 σ = some res) : V g X (m9_unlike) 0 [(0, .ref (g.ad (75))), (1, .int (a1)), (2, .int (a2)), (3, .int (a3)), (4, .int (a4)), (5, .int (a5))] [] σ := by
  unfold S9_unlike at h
  refine V_aload_n (q := 1) hX dX9_unlike_0 0 rfl rfl ?_
  refine V_iload_n (q := 2) hX dX9_unlike_1 2 rfl rfl ?_
  refine V_iload_n (q := 3) hX dX9_unlike_2 3 rfl rfl ?_
  refine V_iload (q := 5) hX dX9_unlike_3 4 rfl rfl ?_
  refine V_iload (q := 7) hX dX9_unlike_5 5 rfl rfl ?_
  obtain ⟨r32, σ31, e33, h⟩ := bnd_some h
  refine V_cvV (n := 95) (c := 9) (nf := 39) (C := RX9) (T := TX9) (As := [.int (a2), .int (a3), .int (a4), .int (a5)]) (q := 10) hX (c9_bout0 hX.2.2.2.2.1 hN e33) (goodV_of k5_126 k5_128 kp_47 k1_16 (cons_g k5_129)) (nA := 4) (by decide) rfl rfl rfl rfl rfl ⟨rfl, by decide⟩ hN rfl rfl rfl dX9_unlike_7 rfl ?_
  refine V_iconst (v := 0) (q := 11) hX dX9_unlike_10 (by decide) rfl ?_
  refine V_istore (lv' := [(6, .int ((0 : Int32))), (0, .ref (g.ad (75))), (1, .int (a1)), (2, .int (a2)), (3, .int (a3)), (4, .int (a4)), (5, .int (a5))]) (q := 13) hX dX9_unlike_11 rfl rfl rfl ?_
  refine V.pick [1, 2, 0] rfl ?_
  exact v9_unlike_13 hX hN hQ (0 : Int32) σ31 h
set_option maxRecDepth 100000 in
set_option maxHeartbeats 4000000 in
theorem c9_unlike {g : GT} {l : Launch} (hg : OkG g) (hN : 95 ≤ g.N) {a1 : Int32} {a2 : Int32} {a3 : Int32} {a4 : Int32} {a5 : Int32} {σ : St} {r : Int32} {σ' : St} (h : S9_unlike a1 a2 a3 a4 a5 σ = some (r, σ')) : CtI g l m9_unlike yX9_unlike [.ref (g.ad (75)), .int (a1), .int (a2), .int (a3), .int (a4), .int (a5)] σ r σ' := CtI.of hg (by decide) rfl rfl (fun X h1 h2 h3 => v9_unlike h1 hN (res := (r, σ')) h3 h)

abbrev m9_judge : MI := (cX9_judge, RX9, 6, some .int, 8)
def S9_judge (a1 : Int32) (a2 : Int32) (a3 : Int32) (a4 : Int32) (σ : St) : Option (Int32 × St) := bnd (S9_toldWrong a1 a2 a3 a4 σ) fun r9 σ8 => if r9 = 0 then (bnd (S9_unlike a1 (a2 / (10 : Int32)) (jrem a2 (10 : Int32)) a3 a4 σ8) fun r13 σ12 => some (r13, σ12)) else (some (r9, σ8))
set_option maxRecDepth 100000 in
set_option maxHeartbeats 4000000 in
theorem v9_judge {g : GT} {X : XT} {a1 : Int32} {a2 : Int32} {a3 : Int32} {a4 : Int32} (hX : OkX g X (m9_judge)) (hN : 95 ≤ g.N) {res : Int32 × St} (hQ : X.Q = QI g X res.1 res.2 ∧ X.cells = 0 ∧ X.slots = 0) {σ : St} (h : S9_judge a1 a2 a3 a4 σ = some res) : V g X (m9_judge) 0 [(0, .ref (g.ad (75))), (1, .int (a1)), (2, .int (a2)), (3, .int (a3)), (4, .int (a4))] [] σ := by
  unfold S9_judge at h
  refine V_aload_n (q := 1) hX dX9_judge_0 0 rfl rfl ?_
  refine V_iload_n (q := 2) hX dX9_judge_1 1 rfl rfl ?_
  refine V_iload_n (q := 3) hX dX9_judge_2 2 rfl rfl ?_
  refine V_iload_n (q := 4) hX dX9_judge_3 3 rfl rfl ?_
  refine V_iload (q := 6) hX dX9_judge_4 4 rfl rfl ?_
  obtain ⟨r9, σ8, e10, h⟩ := bnd_some h
  refine V_cvI (n := 95) (c := 9) (nf := 39) (C := RX9) (T := TX9) (As := [.int (a1), .int (a2), .int (a3), .int (a4)]) (q := 9) hX (c9_toldWrong hX.2.2.2.2.1 hN e10) (goodV_of k5_221 k5_223 kp_60 k1_16 (cons_g k5_224)) (nA := 4) (by decide) rfl rfl rfl rfl rfl ⟨rfl, by decide⟩ hN rfl rfl rfl dX9_judge_6 rfl ?_
  refine V_istore (lv' := [(5, .int (r9)), (0, .ref (g.ad (75))), (1, .int (a1)), (2, .int (a2)), (3, .int (a3)), (4, .int (a4))]) (q := 11) hX dX9_judge_9 rfl rfl rfl ?_
  refine V_iload (q := 13) hX dX9_judge_11 0 rfl rfl ?_
  refine V_if_ne (q := 16) (t := 35) hX dX9_judge_13 (by decide) rfl (fun z11 => ?_) (fun z11 => ?_)
  · have h := ite_f z11 h
    refine V_iload (q := 37) hX dX9_judge_35 0 rfl rfl ?_
    obtain ⟨f1, f2⟩ := some2 h
    rw [f1, f2] at hQ
    exact V_iret hX hQ rfl dX9_judge_37
  have h := ite_t z11 h
  refine V_aload_n (q := 17) hX dX9_judge_16 1 rfl rfl ?_
  refine V_iload_n (q := 18) hX dX9_judge_17 2 rfl rfl ?_
  refine V_iload_n (q := 19) hX dX9_judge_18 3 rfl rfl ?_
  refine V_bipush (v := 10) (q := 21) hX dX9_judge_19 (by decide) rfl ?_
  refine V_idiv (q := 22) hX (by decide) dX9_judge_21 rfl ?_
  refine V_iload_n (q := 23) hX dX9_judge_22 3 rfl rfl ?_
  refine V_bipush (v := 10) (q := 25) hX dX9_judge_23 (by decide) rfl ?_
  refine V_irem (q := 26) hX (by decide) dX9_judge_25 rfl ?_
  refine V_iload_n (q := 27) hX dX9_judge_26 4 rfl rfl ?_
  refine V_iload (q := 29) hX dX9_judge_27 5 rfl rfl ?_
  obtain ⟨r13, σ12, e14, h⟩ := bnd_some h
  refine V_cvI (n := 95) (c := 9) (nf := 39) (C := RX9) (T := TX9) (As := [.int (a1), .int ((a2 / (10 : Int32))), .int ((jrem a2 (10 : Int32))), .int (a3), .int (a4)]) (q := 32) hX (c9_unlike hX.2.2.2.2.1 hN e14) (goodV_of k5_229 k5_231 kp_62 k1_16 (cons_g k5_232)) (nA := 5) (by decide) rfl rfl rfl rfl rfl ⟨rfl, by decide⟩ hN rfl rfl rfl dX9_judge_29 rfl ?_
  refine V_goto hX dX9_judge_32 (q := 37) (by decide) ?_
  obtain ⟨f1, f2⟩ := some2 h
  rw [f1, f2] at hQ
  exact V_iret hX hQ rfl dX9_judge_37
set_option maxRecDepth 100000 in
set_option maxHeartbeats 4000000 in
theorem c9_judge {g : GT} {l : Launch} (hg : OkG g) (hN : 95 ≤ g.N) {a1 : Int32} {a2 : Int32} {a3 : Int32} {a4 : Int32} {σ : St} {r : Int32} {σ' : St} (h : S9_judge a1 a2 a3 a4 σ = some (r, σ')) : CtI g l m9_judge yX9_judge [.ref (g.ad (75)), .int (a1), .int (a2), .int (a3), .int (a4)] σ r σ' := CtI.of hg (by decide) rfl rfl (fun X h1 h2 h3 => v9_judge h1 hN (res := (r, σ')) h3 h)

abbrev m9_kinds : MI := (cX9_kinds, RX9, 13, some .int, 8)
def S9_kinds_183 (a1 : Int32) (a2 : Int32) (a3 : Int32) (a4 : Int32) (a5 : Int32) (k75 : Int32 → Int32 → Int32 → Int32 → Int32 → St → Option (Int32 × St)) (x8 : Int32) (x9 : Int32) (x10 : Int32) (x12 : Int32) (s0 : Int32) (s1 : Int32) (σ : St) : Option (Int32 × St) := k75 x8 x9 x10 (s0 ||| s1) (x12 + 1) σ
def S9_kinds_154 (a1 : Int32) (a2 : Int32) (a3 : Int32) (a4 : Int32) (a5 : Int32) (k75 : Int32 → Int32 → Int32 → Int32 → Int32 → St → Option (Int32 × St)) (x8 : Int32) (x9 : Int32) (x10 : Int32) (x11 : Int32) (x12 : Int32) (s2 : Int32) (σ : St) : Option (Int32 × St) := if inb (((5 : Int32) * (a2 / (10 : Int32))) + (2 : Int32)) 30 then (bnd (S9_unlike a1 (a2 / (10 : Int32)) (jrem a2 (10 : Int32)) a3 a4 (sI σ 78 ((((5 : Int32) * (a2 / (10 : Int32))) + (2 : Int32))).toNatClampNeg s2)) fun r81 σ80 => if r81 = (-1 : Int32) then (S9_kinds_183 a1 a2 a3 a4 a5 k75 x8 x9 x10 x12 x11 ((1 : Int32) <<< (x12 &&& 31)) σ80) else (S9_kinds_183 a1 a2 a3 a4 a5 k75 x8 x9 x10 x12 x11 (0 : Int32) σ80)) else none
def S9_kinds_130 (a1 : Int32) (a2 : Int32) (a3 : Int32) (a4 : Int32) (a5 : Int32) (k75 : Int32 → Int32 → Int32 → Int32 → Int32 → St → Option (Int32 × St)) (x8 : Int32) (x9 : Int32) (x10 : Int32) (x11 : Int32) (x12 : Int32) (s2 : Int32) (σ : St) : Option (Int32 × St) := if inb (a2 / (10 : Int32)) 6 then (if a5 = (2 : Int32) then (S9_kinds_154 a1 a2 a3 a4 a5 k75 x8 x9 x10 x11 x12 x12 (sI σ 77 ((a2 / (10 : Int32))).toNatClampNeg s2)) else (S9_kinds_154 a1 a2 a3 a4 a5 k75 x8 x9 x10 x11 x12 x10 (sI σ 77 ((a2 / (10 : Int32))).toNatClampNeg s2))) else none
def S9_kinds_110 (a1 : Int32) (a2 : Int32) (a3 : Int32) (a4 : Int32) (a5 : Int32) (k75 : Int32 → Int32 → Int32 → Int32 → Int32 → St → Option (Int32 × St)) (x8 : Int32) (x9 : Int32) (x10 : Int32) (x11 : Int32) (x12 : Int32) (s2 : Int32) (σ : St) : Option (Int32 × St) := if inb (a2 / (10 : Int32)) 6 then (if a5 = (1 : Int32) then (S9_kinds_130 a1 a2 a3 a4 a5 k75 x8 x9 x10 x11 x12 x12 (sI σ 76 ((a2 / (10 : Int32))).toNatClampNeg s2)) else (S9_kinds_130 a1 a2 a3 a4 a5 k75 x8 x9 x10 x11 x12 x9 (sI σ 76 ((a2 / (10 : Int32))).toNatClampNeg s2))) else none
def S9_kinds_89 (a1 : Int32) (a2 : Int32) (a3 : Int32) (a4 : Int32) (a5 : Int32) (k75 : Int32 → Int32 → Int32 → Int32 → Int32 → St → Option (Int32 × St)) (x8 : Int32) (x9 : Int32) (x10 : Int32) (x11 : Int32) (x12 : Int32) (s0 : Int32) (s1 : Int32) (σ : St) : Option (Int32 × St) := if s1 ≤ s0 then (if inb (a2 / (10 : Int32)) 6 then (if inb (a2 / (10 : Int32)) 6 then (if inb (((5 : Int32) * (a2 / (10 : Int32))) + (2 : Int32)) 30 then (some (x11, (sI (sI (sI σ 76 ((a2 / (10 : Int32))).toNatClampNeg x8) 77 ((a2 / (10 : Int32))).toNatClampNeg x9) 78 ((((5 : Int32) * (a2 / (10 : Int32))) + (2 : Int32))).toNatClampNeg x10))) else none) else none) else none) else (if a5 = 0 then (S9_kinds_110 a1 a2 a3 a4 a5 k75 x8 x9 x10 x11 x12 x12 σ) else (S9_kinds_110 a1 a2 a3 a4 a5 k75 x8 x9 x10 x11 x12 x8 σ))
def B9_kinds_75 (a1 : Int32) (a2 : Int32) (a3 : Int32) (a4 : Int32) (a5 : Int32) (rec : Int32 → Int32 → Int32 → Int32 → Int32 → St → Option (Int32 × St)) (x8 : Int32) (x9 : Int32) (x10 : Int32) (x11 : Int32) (x12 : Int32) (σ : St) : Option (Int32 × St) := if a5 = 0 then (S9_kinds_89 a1 a2 a3 a4 a5 rec x8 x9 x10 x11 x12 x12 (6 : Int32) σ) else (S9_kinds_89 a1 a2 a3 a4 a5 rec x8 x9 x10 x11 x12 x12 (10 : Int32) σ)
def S9_kinds_75 (a1 : Int32) (a2 : Int32) (a3 : Int32) (a4 : Int32) (a5 : Int32) : Nat → Int32 → Int32 → Int32 → Int32 → Int32 → St → Option (Int32 × St)
  | 0, _, _, _, _, _, _ => none
  | n + 1, x8, x9, x10, x11, x12, σ => B9_kinds_75 a1 a2 a3 a4 a5 (S9_kinds_75 a1 a2 a3 a4 a5 n) x8 x9 x10 x11 x12 σ
def S9_kinds (a1 : Int32) (a2 : Int32) (a3 : Int32) (a4 : Int32) (a5 : Int32) (σ : St) : Option (Int32 × St) := bnd (S9_toldWrong a1 a2 a3 a4 σ) fun r95 σ94 => if r95 = 0 then (bnd (S9_in a5 (0 : Int32) (2 : Int32) σ94) fun r99 σ98 => if r99 = 0 then (some ((-7 : Int32), σ98)) else (if inb (a2 / (10 : Int32)) 6 then (if inb (a2 / (10 : Int32)) 6 then (if inb (((5 : Int32) * (a2 / (10 : Int32))) + (2 : Int32)) 30 then (S9_kinds_75 a1 a2 a3 a4 a5 4096 (gI σ98 76 ((a2 / (10 : Int32))).toNatClampNeg) (gI σ98 77 ((a2 / (10 : Int32))).toNatClampNeg) (gI σ98 78 ((((5 : Int32) * (a2 / (10 : Int32))) + (2 : Int32))).toNatClampNeg) (0 : Int32) (0 : Int32) σ98) else none) else none) else none)) else (some (r95, σ94))
set_option maxRecDepth 100000 in
set_option maxHeartbeats 4000000 in
theorem v9_kinds_183 {g : GT} {X : XT} {a1 : Int32} {a2 : Int32} {a3 : Int32} {a4 : Int32} {a5 : Int32} (hX : OkX g X (m9_kinds)) (hN : 95 ≤ g.N) {res : Int32 × St} (hQ : X.Q = QI g X res.1 res.2 ∧ X.cells = 0 ∧ X.slots = 0)  {k75 : Int32 → Int32 → Int32 → Int32 → Int32 → St → Option (Int32 × St)} (hk75 : ∀ (x8 : Int32) (x9 : Int32) (x10 : Int32) (x11 : Int32) (x12 : Int32) (σ : St), k75 x8 x9 x10 x11 x12 σ = some res → V g X (m9_kinds) 75 [(0, .ref (g.ad (75))), (1, .int (a1)), (2, .int (a2)), (3, .int (a3)), (4, .int (a4)), (5, .int (a5)), (7, .int ((a2 / (10 : Int32)))), (8, .int (x8)), (9, .int (x9)), (10, .int (x10)), (11, .int (x11)), (12, .int (x12))] [] σ) (x8 : Int32) (x9 : Int32) (x10 : Int32) (x12 : Int32) (s0 : Int32) (s1 : Int32) (σ : St)  (h : S9_kinds_183 a1 a2 a3 a4 a5 k75 x8 x9 x10 x12 s0 s1 σ = some res) : V g X (m9_kinds) 183 [(0, .ref (g.ad (75))), (1, .int (a1)), (2, .int (a2)), (3, .int (a3)), (4, .int (a4)), (5, .int (a5)), (7, .int ((a2 / (10 : Int32)))), (8, .int (x8)), (9, .int (x9)), (10, .int (x10)), (12, .int (x12))] [.int (s1), .int (s0)] σ := by
  unfold S9_kinds_183 at h
  refine V_ior (q := 184) hX dX9_kinds_183 rfl ?_
  refine V_istore (lv' := [(11, .int ((s0 ||| s1))), (0, .ref (g.ad (75))), (1, .int (a1)), (2, .int (a2)), (3, .int (a3)), (4, .int (a4)), (5, .int (a5)), (7, .int ((a2 / (10 : Int32)))), (8, .int (x8)), (9, .int (x9)), (10, .int (x10)), (12, .int (x12))]) (q := 186) hX dX9_kinds_184 rfl rfl rfl ?_
  refine V_iinc (v := (x12 + 1)) (lv' := [(12, .int ((x12 + 1))), (11, .int ((s0 ||| s1))), (0, .ref (g.ad (75))), (1, .int (a1)), (2, .int (a2)), (3, .int (a3)), (4, .int (a4)), (5, .int (a5)), (7, .int ((a2 / (10 : Int32)))), (8, .int (x8)), (9, .int (x9)), (10, .int (x10))]) (q := 189) hX dX9_kinds_186 11 rfl (by rfl) rfl rfl rfl ?_
  refine V_goto hX dX9_kinds_189 (q := 75) (by decide) ?_
  refine V.pick [2, 3, 4, 5, 6, 7, 8, 9, 10, 11, 1, 0] rfl ?_
  exact hk75 x8 x9 x10 (s0 ||| s1) (x12 + 1) σ  h
set_option maxRecDepth 100000 in
set_option maxHeartbeats 4000000 in
theorem v9_kinds_154 {g : GT} {X : XT} {a1 : Int32} {a2 : Int32} {a3 : Int32} {a4 : Int32} {a5 : Int32} (hX : OkX g X (m9_kinds)) (hN : 95 ≤ g.N) {res : Int32 × St} (hQ : X.Q = QI g X res.1 res.2 ∧ X.cells = 0 ∧ X.slots = 0)  {k75 : Int32 → Int32 → Int32 → Int32 → Int32 → St → Option (Int32 × St)} (hk75 : ∀ (x8 : Int32) (x9 : Int32) (x10 : Int32) (x11 : Int32) (x12 : Int32) (σ : St), k75 x8 x9 x10 x11 x12 σ = some res → V g X (m9_kinds) 75 [(0, .ref (g.ad (75))), (1, .int (a1)), (2, .int (a2)), (3, .int (a3)), (4, .int (a4)), (5, .int (a5)), (7, .int ((a2 / (10 : Int32)))), (8, .int (x8)), (9, .int (x9)), (10, .int (x10)), (11, .int (x11)), (12, .int (x12))] [] σ) (x8 : Int32) (x9 : Int32) (x10 : Int32) (x11 : Int32) (x12 : Int32) (s2 : Int32) (σ : St)  (h : S9_kinds_154 a1 a2 a3 a4 a5 k75 x8 x9 x10 x11 x12 s2 σ = some res) : V g X (m9_kinds) 154 [(0, .ref (g.ad (75))), (1, .int (a1)), (2, .int (a2)), (3, .int (a3)), (4, .int (a4)), (5, .int (a5)), (7, .int ((a2 / (10 : Int32)))), (8, .int (x8)), (9, .int (x9)), (10, .int (x10)), (11, .int (x11)), (12, .int (x12))] [.int (s2), .int ((((5 : Int32) * (a2 / (10 : Int32))) + (2 : Int32))), .ref (g.ad (78))] σ := by
  unfold S9_kinds_154 at h
  obtain ⟨z79, h⟩ := chk_t h
  refine V_iast (n := 95) (len := 30) (q := 155) hX ⟨rfl, rfl, by decide⟩ hN z79 dX9_kinds_154 rfl ?_
  refine V_iload (q := 157) hX dX9_kinds_155 10 rfl rfl ?_
  refine V_aload_n (q := 158) hX dX9_kinds_157 0 rfl rfl ?_
  refine V_iload_n (q := 159) hX dX9_kinds_158 1 rfl rfl ?_
  refine V_iload (q := 161) hX dX9_kinds_159 6 rfl rfl ?_
  refine V_iload_n (q := 162) hX dX9_kinds_161 2 rfl rfl ?_
  refine V_bipush (v := 10) (q := 164) hX dX9_kinds_162 (by decide) rfl ?_
  refine V_irem (q := 165) hX (by decide) dX9_kinds_164 rfl ?_
  refine V_iload_n (q := 166) hX dX9_kinds_165 3 rfl rfl ?_
  refine V_iload (q := 168) hX dX9_kinds_166 4 rfl rfl ?_
  obtain ⟨r81, σ80, e82, h⟩ := bnd_some h
  refine V_cvI (n := 95) (c := 9) (nf := 39) (C := RX9) (T := TX9) (As := [.int (a1), .int ((a2 / (10 : Int32))), .int ((jrem a2 (10 : Int32))), .int (a3), .int (a4)]) (q := 171) hX (c9_unlike hX.2.2.2.2.1 hN e82) (goodV_of k5_229 k5_231 kp_62 k1_16 (cons_g k5_232)) (nA := 5) (by decide) rfl rfl rfl rfl rfl ⟨rfl, by decide⟩ hN rfl rfl rfl dX9_kinds_168 rfl ?_
  refine V_iconst (v := -1) (q := 172) hX dX9_kinds_171 (by decide) rfl ?_
  refine V_icmp_ne (q := 175) (t := 182) hX dX9_kinds_172 (by decide) rfl (fun z83 => ?_) (fun z83 => ?_)
  · have h := ite_f z83 h
    refine V_iconst (v := 0) (q := 183) hX dX9_kinds_182 (by decide) rfl ?_
    refine V.pick [0, 1, 2, 3, 4, 5, 6, 7, 8, 9, 11] rfl ?_
    exact v9_kinds_183 hX hN hQ hk75 x8 x9 x10 x12 x11 (0 : Int32) σ80 h
  have h := ite_t z83 h
  refine V_iconst (v := 1) (q := 176) hX dX9_kinds_175 (by decide) rfl ?_
  refine V_iload (q := 178) hX dX9_kinds_176 11 rfl rfl ?_
  refine V_ishl (q := 179) hX dX9_kinds_178 rfl ?_
  refine V_goto hX dX9_kinds_179 (q := 183) (by decide) ?_
  refine V.pick [0, 1, 2, 3, 4, 5, 6, 7, 8, 9, 11] rfl ?_
  exact v9_kinds_183 hX hN hQ hk75 x8 x9 x10 x12 x11 ((1 : Int32) <<< (x12 &&& 31)) σ80 h
set_option maxRecDepth 100000 in
set_option maxHeartbeats 4000000 in
theorem v9_kinds_130 {g : GT} {X : XT} {a1 : Int32} {a2 : Int32} {a3 : Int32} {a4 : Int32} {a5 : Int32} (hX : OkX g X (m9_kinds)) (hN : 95 ≤ g.N) {res : Int32 × St} (hQ : X.Q = QI g X res.1 res.2 ∧ X.cells = 0 ∧ X.slots = 0)  {k75 : Int32 → Int32 → Int32 → Int32 → Int32 → St → Option (Int32 × St)} (hk75 : ∀ (x8 : Int32) (x9 : Int32) (x10 : Int32) (x11 : Int32) (x12 : Int32) (σ : St), k75 x8 x9 x10 x11 x12 σ = some res → V g X (m9_kinds) 75 [(0, .ref (g.ad (75))), (1, .int (a1)), (2, .int (a2)), (3, .int (a3)), (4, .int (a4)), (5, .int (a5)), (7, .int ((a2 / (10 : Int32)))), (8, .int (x8)), (9, .int (x9)), (10, .int (x10)), (11, .int (x11)), (12, .int (x12))] [] σ) (x8 : Int32) (x9 : Int32) (x10 : Int32) (x11 : Int32) (x12 : Int32) (s2 : Int32) (σ : St)  (h : S9_kinds_130 a1 a2 a3 a4 a5 k75 x8 x9 x10 x11 x12 s2 σ = some res) : V g X (m9_kinds) 130 [(0, .ref (g.ad (75))), (1, .int (a1)), (2, .int (a2)), (3, .int (a3)), (4, .int (a4)), (5, .int (a5)), (7, .int ((a2 / (10 : Int32)))), (8, .int (x8)), (9, .int (x9)), (10, .int (x10)), (11, .int (x11)), (12, .int (x12))] [.int (s2), .int ((a2 / (10 : Int32))), .ref (g.ad (77))] σ := by
  unfold S9_kinds_130 at h
  obtain ⟨z84, h⟩ := chk_t h
  refine V_iast (n := 95) (len := 6) (q := 131) hX ⟨rfl, rfl, by decide⟩ hN z84 dX9_kinds_130 rfl ?_
  refine V_aload_n (q := 132) hX dX9_kinds_131 0 rfl rfl ?_
  refine V_getF (r := 78) (n := 95) (c := 9) (k := 3) (nf := 39) (C := RX9) (T := TX9) (q := 135) hX rfl rfl iG9 k4_185 rfl rfl ⟨rfl, by decide⟩ hN rfl rfl rfl rfl dX9_kinds_132 rfl ?_
  refine V_iconst (v := 5) (q := 136) hX dX9_kinds_135 (by decide) rfl ?_
  refine V_iload (q := 138) hX dX9_kinds_136 6 rfl rfl ?_
  refine V_imul (q := 139) hX dX9_kinds_138 rfl ?_
  refine V_iconst (v := 2) (q := 140) hX dX9_kinds_139 (by decide) rfl ?_
  refine V_iadd (q := 141) hX dX9_kinds_140 rfl ?_
  refine V_iload (q := 143) hX dX9_kinds_141 5 rfl rfl ?_
  refine V_iconst (v := 2) (q := 144) hX dX9_kinds_143 (by decide) rfl ?_
  refine V_icmp_ne (q := 147) (t := 152) hX dX9_kinds_144 (by decide) rfl (fun z85 => ?_) (fun z85 => ?_)
  · have h := ite_f z85 h
    refine V_iload (q := 154) hX dX9_kinds_152 9 rfl rfl ?_
    refine V.pick [0, 1, 2, 3, 4, 5, 6, 7, 8, 9, 10, 11] rfl ?_
    exact v9_kinds_154 hX hN hQ hk75 x8 x9 x10 x11 x12 x10 (sI σ 77 ((a2 / (10 : Int32))).toNatClampNeg s2) h
  have h := ite_t z85 h
  refine V_iload (q := 149) hX dX9_kinds_147 11 rfl rfl ?_
  refine V_goto hX dX9_kinds_149 (q := 154) (by decide) ?_
  refine V.pick [0, 1, 2, 3, 4, 5, 6, 7, 8, 9, 10, 11] rfl ?_
  exact v9_kinds_154 hX hN hQ hk75 x8 x9 x10 x11 x12 x12 (sI σ 77 ((a2 / (10 : Int32))).toNatClampNeg s2) h
set_option maxRecDepth 100000 in
set_option maxHeartbeats 4000000 in
theorem v9_kinds_110 {g : GT} {X : XT} {a1 : Int32} {a2 : Int32} {a3 : Int32} {a4 : Int32} {a5 : Int32} (hX : OkX g X (m9_kinds)) (hN : 95 ≤ g.N) {res : Int32 × St} (hQ : X.Q = QI g X res.1 res.2 ∧ X.cells = 0 ∧ X.slots = 0)  {k75 : Int32 → Int32 → Int32 → Int32 → Int32 → St → Option (Int32 × St)} (hk75 : ∀ (x8 : Int32) (x9 : Int32) (x10 : Int32) (x11 : Int32) (x12 : Int32) (σ : St), k75 x8 x9 x10 x11 x12 σ = some res → V g X (m9_kinds) 75 [(0, .ref (g.ad (75))), (1, .int (a1)), (2, .int (a2)), (3, .int (a3)), (4, .int (a4)), (5, .int (a5)), (7, .int ((a2 / (10 : Int32)))), (8, .int (x8)), (9, .int (x9)), (10, .int (x10)), (11, .int (x11)), (12, .int (x12))] [] σ) (x8 : Int32) (x9 : Int32) (x10 : Int32) (x11 : Int32) (x12 : Int32) (s2 : Int32) (σ : St)  (h : S9_kinds_110 a1 a2 a3 a4 a5 k75 x8 x9 x10 x11 x12 s2 σ = some res) : V g X (m9_kinds) 110 [(0, .ref (g.ad (75))), (1, .int (a1)), (2, .int (a2)), (3, .int (a3)), (4, .int (a4)), (5, .int (a5)), (7, .int ((a2 / (10 : Int32)))), (8, .int (x8)), (9, .int (x9)), (10, .int (x10)), (11, .int (x11)), (12, .int (x12))] [.int (s2), .int ((a2 / (10 : Int32))), .ref (g.ad (76))] σ := by
  unfold S9_kinds_110 at h
  obtain ⟨z86, h⟩ := chk_t h
  refine V_iast (n := 95) (len := 6) (q := 111) hX ⟨rfl, rfl, by decide⟩ hN z86 dX9_kinds_110 rfl ?_
  refine V_aload_n (q := 112) hX dX9_kinds_111 0 rfl rfl ?_
  refine V_getF (r := 77) (n := 95) (c := 9) (k := 2) (nf := 39) (C := RX9) (T := TX9) (q := 115) hX rfl rfl iG9 k4_184 rfl rfl ⟨rfl, by decide⟩ hN rfl rfl rfl rfl dX9_kinds_112 rfl ?_
  refine V_iload (q := 117) hX dX9_kinds_115 6 rfl rfl ?_
  refine V_iload (q := 119) hX dX9_kinds_117 5 rfl rfl ?_
  refine V_iconst (v := 1) (q := 120) hX dX9_kinds_119 (by decide) rfl ?_
  refine V_icmp_ne (q := 123) (t := 128) hX dX9_kinds_120 (by decide) rfl (fun z87 => ?_) (fun z87 => ?_)
  · have h := ite_f z87 h
    refine V_iload (q := 130) hX dX9_kinds_128 8 rfl rfl ?_
    refine V.pick [0, 1, 2, 3, 4, 5, 6, 7, 8, 9, 10, 11] rfl ?_
    exact v9_kinds_130 hX hN hQ hk75 x8 x9 x10 x11 x12 x9 (sI σ 76 ((a2 / (10 : Int32))).toNatClampNeg s2) h
  have h := ite_t z87 h
  refine V_iload (q := 125) hX dX9_kinds_123 11 rfl rfl ?_
  refine V_goto hX dX9_kinds_125 (q := 130) (by decide) ?_
  refine V.pick [0, 1, 2, 3, 4, 5, 6, 7, 8, 9, 10, 11] rfl ?_
  exact v9_kinds_130 hX hN hQ hk75 x8 x9 x10 x11 x12 x12 (sI σ 76 ((a2 / (10 : Int32))).toNatClampNeg s2) h
set_option maxRecDepth 100000 in
set_option maxHeartbeats 4000000 in
theorem v9_kinds_89 {g : GT} {X : XT} {a1 : Int32} {a2 : Int32} {a3 : Int32} {a4 : Int32} {a5 : Int32} (hX : OkX g X (m9_kinds)) (hN : 95 ≤ g.N) {res : Int32 × St} (hQ : X.Q = QI g X res.1 res.2 ∧ X.cells = 0 ∧ X.slots = 0)  {k75 : Int32 → Int32 → Int32 → Int32 → Int32 → St → Option (Int32 × St)} (hk75 : ∀ (x8 : Int32) (x9 : Int32) (x10 : Int32) (x11 : Int32) (x12 : Int32) (σ : St), k75 x8 x9 x10 x11 x12 σ = some res → V g X (m9_kinds) 75 [(0, .ref (g.ad (75))), (1, .int (a1)), (2, .int (a2)), (3, .int (a3)), (4, .int (a4)), (5, .int (a5)), (7, .int ((a2 / (10 : Int32)))), (8, .int (x8)), (9, .int (x9)), (10, .int (x10)), (11, .int (x11)), (12, .int (x12))] [] σ) (x8 : Int32) (x9 : Int32) (x10 : Int32) (x11 : Int32) (x12 : Int32) (s0 : Int32) (s1 : Int32) (σ : St)  (h : S9_kinds_89 a1 a2 a3 a4 a5 k75 x8 x9 x10 x11 x12 s0 s1 σ = some res) : V g X (m9_kinds) 89 [(0, .ref (g.ad (75))), (1, .int (a1)), (2, .int (a2)), (3, .int (a3)), (4, .int (a4)), (5, .int (a5)), (7, .int ((a2 / (10 : Int32)))), (8, .int (x8)), (9, .int (x9)), (10, .int (x10)), (11, .int (x11)), (12, .int (x12))] [.int (s1), .int (s0)] σ := by
  unfold S9_kinds_89 at h
  refine V_icmp_ge (q := 92) (t := 192) hX dX9_kinds_89 (by decide) rfl (fun z88 => ?_) (fun z88 => ?_)
  · have h := ite_t z88 h
    refine V_aload_n (q := 193) hX dX9_kinds_192 0 rfl rfl ?_
    refine V_getF (r := 76) (n := 95) (c := 9) (k := 1) (nf := 39) (C := RX9) (T := TX9) (q := 196) hX rfl rfl iG9 k4_183 rfl rfl ⟨rfl, by decide⟩ hN rfl rfl rfl rfl dX9_kinds_193 rfl ?_
    refine V_iload (q := 198) hX dX9_kinds_196 6 rfl rfl ?_
    refine V_iload (q := 200) hX dX9_kinds_198 7 rfl rfl ?_
    obtain ⟨z89, h⟩ := chk_t h
    refine V_iast (n := 95) (len := 6) (q := 201) hX ⟨rfl, rfl, by decide⟩ hN z89 dX9_kinds_200 rfl ?_
    refine V_aload_n (q := 202) hX dX9_kinds_201 0 rfl rfl ?_
    refine V_getF (r := 77) (n := 95) (c := 9) (k := 2) (nf := 39) (C := RX9) (T := TX9) (q := 205) hX rfl rfl iG9 k4_184 rfl rfl ⟨rfl, by decide⟩ hN rfl rfl rfl rfl dX9_kinds_202 rfl ?_
    refine V_iload (q := 207) hX dX9_kinds_205 6 rfl rfl ?_
    refine V_iload (q := 209) hX dX9_kinds_207 8 rfl rfl ?_
    obtain ⟨z90, h⟩ := chk_t h
    refine V_iast (n := 95) (len := 6) (q := 210) hX ⟨rfl, rfl, by decide⟩ hN z90 dX9_kinds_209 rfl ?_
    refine V_aload_n (q := 211) hX dX9_kinds_210 0 rfl rfl ?_
    refine V_getF (r := 78) (n := 95) (c := 9) (k := 3) (nf := 39) (C := RX9) (T := TX9) (q := 214) hX rfl rfl iG9 k4_185 rfl rfl ⟨rfl, by decide⟩ hN rfl rfl rfl rfl dX9_kinds_211 rfl ?_
    refine V_iconst (v := 5) (q := 215) hX dX9_kinds_214 (by decide) rfl ?_
    refine V_iload (q := 217) hX dX9_kinds_215 6 rfl rfl ?_
    refine V_imul (q := 218) hX dX9_kinds_217 rfl ?_
    refine V_iconst (v := 2) (q := 219) hX dX9_kinds_218 (by decide) rfl ?_
    refine V_iadd (q := 220) hX dX9_kinds_219 rfl ?_
    refine V_iload (q := 222) hX dX9_kinds_220 9 rfl rfl ?_
    obtain ⟨z91, h⟩ := chk_t h
    refine V_iast (n := 95) (len := 30) (q := 223) hX ⟨rfl, rfl, by decide⟩ hN z91 dX9_kinds_222 rfl ?_
    refine V_iload (q := 225) hX dX9_kinds_223 10 rfl rfl ?_
    obtain ⟨f1, f2⟩ := some2 h
    rw [f1, f2] at hQ
    exact V_iret hX hQ rfl dX9_kinds_225
  have h := ite_f z88 h
  refine V_aload_n (q := 93) hX dX9_kinds_92 0 rfl rfl ?_
  refine V_getF (r := 76) (n := 95) (c := 9) (k := 1) (nf := 39) (C := RX9) (T := TX9) (q := 96) hX rfl rfl iG9 k4_183 rfl rfl ⟨rfl, by decide⟩ hN rfl rfl rfl rfl dX9_kinds_93 rfl ?_
  refine V_iload (q := 98) hX dX9_kinds_96 6 rfl rfl ?_
  refine V_iload (q := 100) hX dX9_kinds_98 5 rfl rfl ?_
  refine V_if_ne (q := 103) (t := 108) hX dX9_kinds_100 (by decide) rfl (fun z92 => ?_) (fun z92 => ?_)
  · have h := ite_f z92 h
    refine V_iload (q := 110) hX dX9_kinds_108 7 rfl rfl ?_
    refine V.pick [0, 1, 2, 3, 4, 5, 6, 7, 8, 9, 10, 11] rfl ?_
    exact v9_kinds_110 hX hN hQ hk75 x8 x9 x10 x11 x12 x8 σ h
  have h := ite_t z92 h
  refine V_iload (q := 105) hX dX9_kinds_103 11 rfl rfl ?_
  refine V_goto hX dX9_kinds_105 (q := 110) (by decide) ?_
  refine V.pick [0, 1, 2, 3, 4, 5, 6, 7, 8, 9, 10, 11] rfl ?_
  exact v9_kinds_110 hX hN hQ hk75 x8 x9 x10 x11 x12 x12 σ h
set_option maxRecDepth 100000 in
set_option maxHeartbeats 4000000 in
theorem v9_kinds_75n {g : GT} {X : XT} {a1 : Int32} {a2 : Int32} {a3 : Int32} {a4 : Int32} {a5 : Int32} (hX : OkX g X (m9_kinds)) (hN : 95 ≤ g.N) {res : Int32 × St} (hQ : X.Q = QI g X res.1 res.2 ∧ X.cells = 0 ∧ X.slots = 0)   (n : Nat) : ∀ (x8 : Int32) (x9 : Int32) (x10 : Int32) (x11 : Int32) (x12 : Int32) (σ : St) , S9_kinds_75 a1 a2 a3 a4 a5 n x8 x9 x10 x11 x12 σ = some res → V g X (m9_kinds) 75 [(0, .ref (g.ad (75))), (1, .int (a1)), (2, .int (a2)), (3, .int (a3)), (4, .int (a4)), (5, .int (a5)), (7, .int ((a2 / (10 : Int32)))), (8, .int (x8)), (9, .int (x9)), (10, .int (x10)), (11, .int (x11)), (12, .int (x12))] [] σ := by
  induction n with
  | zero => intro x8 x9 x10 x11 x12 σ; intro h; cases h
  | succ n ih =>
    intro x8 x9 x10 x11 x12 σ h
    have h : B9_kinds_75 a1 a2 a3 a4 a5 (S9_kinds_75 a1 a2 a3 a4 a5 n) x8 x9 x10 x11 x12 σ = some res := h
    unfold B9_kinds_75 at h
    refine V_iload (q := 77) hX dX9_kinds_75 11 rfl rfl ?_
    refine V_iload (q := 79) hX dX9_kinds_77 5 rfl rfl ?_
    refine V_if_ne (q := 82) (t := 87) hX dX9_kinds_79 (by decide) rfl (fun z93 => ?_) (fun z93 => ?_)
    · have h := ite_f z93 h
      refine V_bipush (v := 10) (q := 89) hX dX9_kinds_87 (by decide) rfl ?_
      refine V.pick [0, 1, 2, 3, 4, 5, 6, 7, 8, 9, 10, 11] rfl ?_
      exact v9_kinds_89 hX hN hQ ih x8 x9 x10 x11 x12 x12 (10 : Int32) σ h
    have h := ite_t z93 h
    refine V_bipush (v := 6) (q := 84) hX dX9_kinds_82 (by decide) rfl ?_
    refine V_goto hX dX9_kinds_84 (q := 89) (by decide) ?_
    refine V.pick [0, 1, 2, 3, 4, 5, 6, 7, 8, 9, 10, 11] rfl ?_
    exact v9_kinds_89 hX hN hQ ih x8 x9 x10 x11 x12 x12 (6 : Int32) σ h
theorem v9_kinds_75 {g : GT} {X : XT} {a1 : Int32} {a2 : Int32} {a3 : Int32} {a4 : Int32} {a5 : Int32} (hX : OkX g X (m9_kinds)) (hN : 95 ≤ g.N) {res : Int32 × St} (hQ : X.Q = QI g X res.1 res.2 ∧ X.cells = 0 ∧ X.slots = 0) (x8 : Int32) (x9 : Int32) (x10 : Int32) (x11 : Int32) (x12 : Int32) (σ : St) (h : S9_kinds_75 a1 a2 a3 a4 a5 4096 x8 x9 x10 x11 x12 σ = some res) : V g X (m9_kinds) 75 [(0, .ref (g.ad (75))), (1, .int (a1)), (2, .int (a2)), (3, .int (a3)), (4, .int (a4)), (5, .int (a5)), (7, .int ((a2 / (10 : Int32)))), (8, .int (x8)), (9, .int (x9)), (10, .int (x10)), (11, .int (x11)), (12, .int (x12))] [] σ := v9_kinds_75n hX hN hQ 4096 x8 x9 x10 x11 x12 σ h
set_option maxRecDepth 100000 in
set_option maxHeartbeats 4000000 in
theorem v9_kinds {g : GT} {X : XT} {a1 : Int32} {a2 : Int32} {a3 : Int32} {a4 : Int32} {a5 : Int32} (hX : OkX g X (m9_kinds)) (hN : 95 ≤ g.N) {res : Int32 × St} (hQ : X.Q = QI g X res.1 res.2 ∧ X.cells = 0 ∧ X.slots = 0) {σ : St} (h : S9_kinds a1 a2 a3 a4 a5 σ = some res) : V g X (m9_kinds) 0 [(0, .ref (g.ad (75))), (1, .int (a1)), (2, .int (a2)), (3, .int (a3)), (4, .int (a4)), (5, .int (a5))] [] σ := by
  unfold S9_kinds at h
  refine V_aload_n (q := 1) hX dX9_kinds_0 0 rfl rfl ?_
  refine V_iload_n (q := 2) hX dX9_kinds_1 1 rfl rfl ?_
  refine V_iload_n (q := 3) hX dX9_kinds_2 2 rfl rfl ?_
  refine V_iload_n (q := 4) hX dX9_kinds_3 3 rfl rfl ?_
  refine V_iload (q := 6) hX dX9_kinds_4 4 rfl rfl ?_
  obtain ⟨r95, σ94, e96, h⟩ := bnd_some h
  refine V_cvI (n := 95) (c := 9) (nf := 39) (C := RX9) (T := TX9) (As := [.int (a1), .int (a2), .int (a3), .int (a4)]) (q := 9) hX (c9_toldWrong hX.2.2.2.2.1 hN e96) (goodV_of k5_221 k5_223 kp_60 k1_16 (cons_g k5_224)) (nA := 4) (by decide) rfl rfl rfl rfl rfl ⟨rfl, by decide⟩ hN rfl rfl rfl dX9_kinds_6 rfl ?_
  refine V_istore (lv' := [(6, .int (r95)), (0, .ref (g.ad (75))), (1, .int (a1)), (2, .int (a2)), (3, .int (a3)), (4, .int (a4)), (5, .int (a5))]) (q := 11) hX dX9_kinds_9 rfl rfl rfl ?_
  refine V_iload (q := 13) hX dX9_kinds_11 0 rfl rfl ?_
  refine V_if_eq (q := 16) (t := 19) hX dX9_kinds_13 (by decide) rfl (fun z97 => ?_) (fun z97 => ?_)
  · have h := ite_t z97 h
    refine V_iload (q := 21) hX dX9_kinds_19 6 rfl rfl ?_
    refine V_iconst (v := 0) (q := 22) hX dX9_kinds_21 (by decide) rfl ?_
    refine V_iconst (v := 2) (q := 23) hX dX9_kinds_22 (by decide) rfl ?_
    obtain ⟨r99, σ98, e100, h⟩ := bnd_some h
    refine V_csI (As := [.int (a5), .int ((0 : Int32)), .int ((2 : Int32))]) (q := 26) hX (c9_in hX.2.2.2.2.1 hN e100) (goodS_of k4_143 k4_144 k1_16 (cons_g k4_145)) (nA := 3) (by decide) rfl rfl rfl rfl rfl dX9_kinds_23 rfl ?_
    refine V_if_ne (q := 29) (t := 32) hX dX9_kinds_26 (by decide) rfl (fun z101 => ?_) (fun z101 => ?_)
    · have h := ite_f z101 h
      refine V_iload_n (q := 33) hX dX9_kinds_32 3 rfl rfl ?_
      refine V_bipush (v := 10) (q := 35) hX dX9_kinds_33 (by decide) rfl ?_
      refine V_idiv (q := 36) hX (by decide) dX9_kinds_35 rfl ?_
      refine V_istore (lv' := [(7, .int ((a2 / (10 : Int32)))), (6, .int (r95)), (0, .ref (g.ad (75))), (1, .int (a1)), (2, .int (a2)), (3, .int (a3)), (4, .int (a4)), (5, .int (a5))]) (q := 38) hX dX9_kinds_36 rfl rfl rfl ?_
      refine V_aload_n (q := 39) hX dX9_kinds_38 2 rfl rfl ?_
      refine V_getF (r := 76) (n := 95) (c := 9) (k := 1) (nf := 39) (C := RX9) (T := TX9) (q := 42) hX rfl rfl iG9 k4_183 rfl rfl ⟨rfl, by decide⟩ hN rfl rfl rfl rfl dX9_kinds_39 rfl ?_
      refine V_iload (q := 44) hX dX9_kinds_42 0 rfl rfl ?_
      obtain ⟨z102, h⟩ := chk_t h
      refine V_iald (n := 95) (len := 6) (q := 45) hX ⟨rfl, rfl, by decide⟩ hN z102 dX9_kinds_44 rfl ?_
      refine V_istore (lv' := [(8, .int ((gI σ98 76 ((a2 / (10 : Int32))).toNatClampNeg))), (7, .int ((a2 / (10 : Int32)))), (6, .int (r95)), (0, .ref (g.ad (75))), (1, .int (a1)), (2, .int (a2)), (3, .int (a3)), (4, .int (a4)), (5, .int (a5))]) (q := 47) hX dX9_kinds_45 rfl rfl rfl ?_
      refine V_aload_n (q := 48) hX dX9_kinds_47 3 rfl rfl ?_
      refine V_getF (r := 77) (n := 95) (c := 9) (k := 2) (nf := 39) (C := RX9) (T := TX9) (q := 51) hX rfl rfl iG9 k4_184 rfl rfl ⟨rfl, by decide⟩ hN rfl rfl rfl rfl dX9_kinds_48 rfl ?_
      refine V_iload (q := 53) hX dX9_kinds_51 1 rfl rfl ?_
      obtain ⟨z103, h⟩ := chk_t h
      refine V_iald (n := 95) (len := 6) (q := 54) hX ⟨rfl, rfl, by decide⟩ hN z103 dX9_kinds_53 rfl ?_
      refine V_istore (lv' := [(9, .int ((gI σ98 77 ((a2 / (10 : Int32))).toNatClampNeg))), (8, .int ((gI σ98 76 ((a2 / (10 : Int32))).toNatClampNeg))), (7, .int ((a2 / (10 : Int32)))), (6, .int (r95)), (0, .ref (g.ad (75))), (1, .int (a1)), (2, .int (a2)), (3, .int (a3)), (4, .int (a4)), (5, .int (a5))]) (q := 56) hX dX9_kinds_54 rfl rfl rfl ?_
      refine V_aload_n (q := 57) hX dX9_kinds_56 4 rfl rfl ?_
      refine V_getF (r := 78) (n := 95) (c := 9) (k := 3) (nf := 39) (C := RX9) (T := TX9) (q := 60) hX rfl rfl iG9 k4_185 rfl rfl ⟨rfl, by decide⟩ hN rfl rfl rfl rfl dX9_kinds_57 rfl ?_
      refine V_iconst (v := 5) (q := 61) hX dX9_kinds_60 (by decide) rfl ?_
      refine V_iload (q := 63) hX dX9_kinds_61 2 rfl rfl ?_
      refine V_imul (q := 64) hX dX9_kinds_63 rfl ?_
      refine V_iconst (v := 2) (q := 65) hX dX9_kinds_64 (by decide) rfl ?_
      refine V_iadd (q := 66) hX dX9_kinds_65 rfl ?_
      obtain ⟨z104, h⟩ := chk_t h
      refine V_iald (n := 95) (len := 30) (q := 67) hX ⟨rfl, rfl, by decide⟩ hN z104 dX9_kinds_66 rfl ?_
      refine V_istore (lv' := [(10, .int ((gI σ98 78 ((((5 : Int32) * (a2 / (10 : Int32))) + (2 : Int32))).toNatClampNeg))), (9, .int ((gI σ98 77 ((a2 / (10 : Int32))).toNatClampNeg))), (8, .int ((gI σ98 76 ((a2 / (10 : Int32))).toNatClampNeg))), (7, .int ((a2 / (10 : Int32)))), (6, .int (r95)), (0, .ref (g.ad (75))), (1, .int (a1)), (2, .int (a2)), (3, .int (a3)), (4, .int (a4)), (5, .int (a5))]) (q := 69) hX dX9_kinds_67 rfl rfl rfl ?_
      refine V_iconst (v := 0) (q := 70) hX dX9_kinds_69 (by decide) rfl ?_
      refine V_istore (lv' := [(11, .int ((0 : Int32))), (10, .int ((gI σ98 78 ((((5 : Int32) * (a2 / (10 : Int32))) + (2 : Int32))).toNatClampNeg))), (9, .int ((gI σ98 77 ((a2 / (10 : Int32))).toNatClampNeg))), (8, .int ((gI σ98 76 ((a2 / (10 : Int32))).toNatClampNeg))), (7, .int ((a2 / (10 : Int32)))), (6, .int (r95)), (0, .ref (g.ad (75))), (1, .int (a1)), (2, .int (a2)), (3, .int (a3)), (4, .int (a4)), (5, .int (a5))]) (q := 72) hX dX9_kinds_70 rfl rfl rfl ?_
      refine V_iconst (v := 0) (q := 73) hX dX9_kinds_72 (by decide) rfl ?_
      refine V_istore (lv' := [(12, .int ((0 : Int32))), (11, .int ((0 : Int32))), (10, .int ((gI σ98 78 ((((5 : Int32) * (a2 / (10 : Int32))) + (2 : Int32))).toNatClampNeg))), (9, .int ((gI σ98 77 ((a2 / (10 : Int32))).toNatClampNeg))), (8, .int ((gI σ98 76 ((a2 / (10 : Int32))).toNatClampNeg))), (7, .int ((a2 / (10 : Int32)))), (6, .int (r95)), (0, .ref (g.ad (75))), (1, .int (a1)), (2, .int (a2)), (3, .int (a3)), (4, .int (a4)), (5, .int (a5))]) (q := 75) hX dX9_kinds_73 rfl rfl rfl ?_
      refine V.pick [7, 8, 9, 10, 11, 12, 5, 4, 3, 2, 1, 0] rfl ?_
      exact v9_kinds_75 hX hN hQ (gI σ98 76 ((a2 / (10 : Int32))).toNatClampNeg) (gI σ98 77 ((a2 / (10 : Int32))).toNatClampNeg) (gI σ98 78 ((((5 : Int32) * (a2 / (10 : Int32))) + (2 : Int32))).toNatClampNeg) (0 : Int32) (0 : Int32) σ98 h
    have h := ite_t z101 h
    refine V_bipush (v := -7) (q := 31) hX dX9_kinds_29 (by decide) rfl ?_
    obtain ⟨f1, f2⟩ := some2 h
    rw [f1, f2] at hQ
    exact V_iret hX hQ rfl dX9_kinds_31
  have h := ite_f z97 h
  refine V_iload (q := 18) hX dX9_kinds_16 0 rfl rfl ?_
  obtain ⟨f1, f2⟩ := some2 h
  rw [f1, f2] at hQ
  exact V_iret hX hQ rfl dX9_kinds_18
set_option maxRecDepth 100000 in
set_option maxHeartbeats 4000000 in
theorem c9_kinds {g : GT} {l : Launch} (hg : OkG g) (hN : 95 ≤ g.N) {a1 : Int32} {a2 : Int32} {a3 : Int32} {a4 : Int32} {a5 : Int32} {σ : St} {r : Int32} {σ' : St} (h : S9_kinds a1 a2 a3 a4 a5 σ = some (r, σ')) : CtI g l m9_kinds yX9_kinds [.ref (g.ad (75)), .int (a1), .int (a2), .int (a3), .int (a4), .int (a5)] σ r σ' := CtI.of hg (by decide) rfl rfl (fun X h1 h2 h3 => v9_kinds h1 hN (res := (r, σ')) h3 h)
