abbrev m8_asks : MI := (cX8_asks, RX8, 7, some .int, 3)
def S8_asks_44 (a1 : Int32) (a2 : Int32) (a3 : Int32) (a4 : Int32) (x5 : Int32) (s0 : Int32) (σ : St) : Option (Int32 × St) := if a1 < 0 then (some ((-1000 : Int32), σ)) else (if (3 : Int32) ≤ a1 then (some ((-1000 : Int32), σ)) else (bnd (S5_has 1 a2 σ) fun r48 σ47 => if r48 = 0 then (some ((-1000 : Int32), σ47)) else (if x5 = 0 then (some ((-1000 : Int32), σ47)) else (if s0 = 0 then (some ((-1000 : Int32), σ47)) else (bnd (S8_theLaw σ47) fun r54 σ53 => bnd (S5_at 1 a2 σ53) fun r57 σ56 => bnd (S2_says r54 a1 r57 (a3 / (10 : Int32)) (jrem a3 (10 : Int32)) a4 σ56) fun r60 σ59 => some (r60, σ59))))))
def S8_asks_43 (a1 : Int32) (a2 : Int32) (a3 : Int32) (a4 : Int32) (x5 : Int32) (σ : St) : Option (Int32 × St) := S8_asks_44 a1 a2 a3 a4 x5 (0 : Int32) σ
def S8_asks_25 (a1 : Int32) (a2 : Int32) (a3 : Int32) (a4 : Int32) (s0 : Int32) (σ : St) : Option (Int32 × St) := if a4 < 0 then (S8_asks_43 a1 a2 a3 a4 s0 σ) else (if (9 : Int32) ≤ a4 then (S8_asks_43 a1 a2 a3 a4 s0 σ) else (S8_asks_44 a1 a2 a3 a4 s0 (1 : Int32) σ))
def S8_asks_24 (a1 : Int32) (a2 : Int32) (a3 : Int32) (a4 : Int32) (σ : St) : Option (Int32 × St) := S8_asks_25 a1 a2 a3 a4 (0 : Int32) σ
def S8_asks (a1 : Int32) (a2 : Int32) (a3 : Int32) (a4 : Int32) (σ : St) : Option (Int32 × St) := if a3 < 0 then (S8_asks_24 a1 a2 a3 a4 σ) else (if (4 : Int32) ≤ (a3 / (10 : Int32)) then (S8_asks_24 a1 a2 a3 a4 σ) else (if (4 : Int32) ≤ (jrem a3 (10 : Int32)) then (S8_asks_24 a1 a2 a3 a4 σ) else (S8_asks_25 a1 a2 a3 a4 (1 : Int32) σ)))
set_option maxRecDepth 100000 in
set_option maxHeartbeats 4000000 in
theorem v8_asks_44 {g : GT} {X : XT} {a1 : Int32} {a2 : Int32} {a3 : Int32} {a4 : Int32} (hX : OkX g X (m8_asks)) (hN : 75 ≤ g.N) {res : Int32 × St} (hQ : X.Q = QI g X res.1 res.2 ∧ X.cells = 0 ∧ X.slots = 0)   (x5 : Int32) (s0 : Int32) (σ : St)  (h : S8_asks_44 a1 a2 a3 a4 x5 s0 σ = some res) : V g X (m8_asks) 44 [(0, .ref (g.ad (0))), (1, .int (a1)), (2, .int (a2)), (3, .int (a3)), (4, .int (a4)), (5, .int (x5))] [.int (s0)] σ := by
  unfold S8_asks_44 at h
  refine V_istore (lv' := [(6, .int (s0)), (0, .ref (g.ad (0))), (1, .int (a1)), (2, .int (a2)), (3, .int (a3)), (4, .int (a4)), (5, .int (x5))]) (q := 46) hX dX8_asks_44 rfl rfl rfl ?_
  refine V_iload_n (q := 47) hX dX8_asks_46 2 rfl rfl ?_
  refine V_if_lt (q := 50) (t := 76) hX dX8_asks_47 (by decide) rfl (fun z45 => ?_) (fun z45 => ?_)
  · have h := ite_t z45 h
    refine V_sipush (v := -1000) (q := 79) hX dX8_asks_76 (by decide) rfl ?_
    obtain ⟨f1, f2⟩ := some2 h
    rw [f1, f2] at hQ
    exact V_iret hX hQ rfl dX8_asks_79
  have h := ite_f z45 h
  refine V_iload_n (q := 51) hX dX8_asks_50 2 rfl rfl ?_
  refine V_iconst (v := 3) (q := 52) hX dX8_asks_51 (by decide) rfl ?_
  refine V_icmp_ge (q := 55) (t := 76) hX dX8_asks_52 (by decide) rfl (fun z46 => ?_) (fun z46 => ?_)
  · have h := ite_t z46 h
    refine V_sipush (v := -1000) (q := 79) hX dX8_asks_76 (by decide) rfl ?_
    obtain ⟨f1, f2⟩ := some2 h
    rw [f1, f2] at hQ
    exact V_iret hX hQ rfl dX8_asks_79
  have h := ite_f z46 h
  refine V_aload_n (q := 56) hX dX8_asks_55 1 rfl rfl ?_
  refine V_getF (r := 1) (n := 75) (c := 8) (k := 0) (nf := 11) (C := RX8) (T := TX8) (q := 59) hX rfl rfl iG8 k2_175 rfl rfl ⟨rfl, by decide⟩ hN rfl rfl rfl rfl dX8_asks_56 rfl ?_
  refine V_iload_n (q := 60) hX dX8_asks_59 3 rfl rfl ?_
  obtain ⟨r48, σ47, e49, h⟩ := bnd_some h
  refine V_cvI (n := 75) (c := 5) (nf := 4) (C := RX5) (T := TX5) (As := [.int (a2)]) (q := 63) hX (c5_has hX.2.2.2.2.1 hN ⟨rfl, by decide⟩ e49) (goodV_of k2_237 k2_238 k2_239 k1_2 (cons_g k3_0)) (nA := 1) (by decide) rfl rfl rfl rfl rfl ⟨rfl, by decide⟩ hN rfl rfl rfl dX8_asks_60 rfl ?_
  refine V_if_eq (q := 66) (t := 76) hX dX8_asks_63 (by decide) rfl (fun z50 => ?_) (fun z50 => ?_)
  · have h := ite_t z50 h
    refine V_sipush (v := -1000) (q := 79) hX dX8_asks_76 (by decide) rfl ?_
    obtain ⟨f1, f2⟩ := some2 h
    rw [f1, f2] at hQ
    exact V_iret hX hQ rfl dX8_asks_79
  have h := ite_f z50 h
  refine V_iload (q := 68) hX dX8_asks_66 6 rfl rfl ?_
  refine V_if_eq (q := 71) (t := 76) hX dX8_asks_68 (by decide) rfl (fun z51 => ?_) (fun z51 => ?_)
  · have h := ite_t z51 h
    refine V_sipush (v := -1000) (q := 79) hX dX8_asks_76 (by decide) rfl ?_
    obtain ⟨f1, f2⟩ := some2 h
    rw [f1, f2] at hQ
    exact V_iret hX hQ rfl dX8_asks_79
  have h := ite_f z51 h
  refine V_iload (q := 73) hX dX8_asks_71 0 rfl rfl ?_
  refine V_if_ne (q := 76) (t := 80) hX dX8_asks_73 (by decide) rfl (fun z52 => ?_) (fun z52 => ?_)
  · have h := ite_f z52 h
    refine V_aload_n (q := 81) hX dX8_asks_80 1 rfl rfl ?_
    refine V_getF (r := 33) (n := 75) (c := 8) (k := 7) (nf := 11) (C := RX8) (T := TX8) (q := 84) hX rfl rfl iG8 k2_182 rfl rfl ⟨rfl, by decide⟩ hN rfl rfl rfl rfl dX8_asks_81 rfl ?_
    refine V_aload_n (q := 85) hX dX8_asks_84 1 rfl rfl ?_
    obtain ⟨r54, σ53, e55, h⟩ := bnd_some h
    refine V_cvR (n := 75) (c := 8) (nf := 11) (C := RX8) (T := TX8) (As := []) (q := 88) hX (c8_theLaw hX.2.2.2.2.1 hN e55) (goodV_of k3_1 k3_3 kp_13 k1_1 (cons_g k3_4)) (nA := 0) (by decide) rfl rfl rfl rfl rfl ⟨rfl, by decide⟩ hN rfl rfl rfl dX8_asks_85 rfl ?_
    refine V_iload_n (q := 89) hX dX8_asks_88 2 rfl rfl ?_
    refine V_aload_n (q := 90) hX dX8_asks_89 1 rfl rfl ?_
    refine V_getF (r := 1) (n := 75) (c := 8) (k := 0) (nf := 11) (C := RX8) (T := TX8) (q := 93) hX rfl rfl iG8 k2_175 rfl rfl ⟨rfl, by decide⟩ hN rfl rfl rfl rfl dX8_asks_90 rfl ?_
    refine V_iload_n (q := 94) hX dX8_asks_93 3 rfl rfl ?_
    obtain ⟨r57, σ56, e58, h⟩ := bnd_some h
    refine V_cvR (n := 75) (c := 5) (nf := 4) (C := RX5) (T := TX5) (As := [.int (a2)]) (q := 97) hX (c5_at hX.2.2.2.2.1 hN ⟨rfl, by decide⟩ e58) (goodV_of k3_5 k3_6 k3_7 k1_2 (cons_g k3_8)) (nA := 1) (by decide) rfl rfl rfl rfl rfl ⟨rfl, by decide⟩ hN rfl rfl rfl dX8_asks_94 rfl ?_
    refine V_iload_n (q := 98) hX dX8_asks_97 4 rfl rfl ?_
    refine V_bipush (v := 10) (q := 100) hX dX8_asks_98 (by decide) rfl ?_
    refine V_idiv (q := 101) hX (by decide) dX8_asks_100 rfl ?_
    refine V_iload_n (q := 102) hX dX8_asks_101 4 rfl rfl ?_
    refine V_bipush (v := 10) (q := 104) hX dX8_asks_102 (by decide) rfl ?_
    refine V_irem (q := 105) hX (by decide) dX8_asks_104 rfl ?_
    refine V_iload (q := 107) hX dX8_asks_105 5 rfl rfl ?_
    obtain ⟨r60, σ59, e61, h⟩ := bnd_some h
    refine V_cvI (n := 75) (c := 2) (nf := 1) (C := RX2) (T := TX2) (As := [.ref (g.ad (r54)), .int (a1), .ref (g.ad (r57)), .int ((a3 / (10 : Int32))), .int ((jrem a3 (10 : Int32))), .int (a4)]) (q := 110) hX (c2_says hX.2.2.2.2.1 hN (sh8_theLaw e55) (sh5_at ⟨rfl, by decide⟩ e58) e61) (goodV_of k3_9 k3_10 k3_11 k1_6 (cons_g k3_12)) (nA := 6) (by decide) rfl rfl rfl rfl rfl ⟨rfl, by decide⟩ hN rfl rfl rfl dX8_asks_107 rfl ?_
    obtain ⟨f1, f2⟩ := some2 h
    rw [f1, f2] at hQ
    exact V_iret hX hQ rfl dX8_asks_110
  have h := ite_t z52 h
  refine V_sipush (v := -1000) (q := 79) hX dX8_asks_76 (by decide) rfl ?_
  obtain ⟨f1, f2⟩ := some2 h
  rw [f1, f2] at hQ
  exact V_iret hX hQ rfl dX8_asks_79
set_option maxRecDepth 100000 in
set_option maxHeartbeats 4000000 in
theorem v8_asks_43 {g : GT} {X : XT} {a1 : Int32} {a2 : Int32} {a3 : Int32} {a4 : Int32} (hX : OkX g X (m8_asks)) (hN : 75 ≤ g.N) {res : Int32 × St} (hQ : X.Q = QI g X res.1 res.2 ∧ X.cells = 0 ∧ X.slots = 0)   (x5 : Int32) (σ : St)  (h : S8_asks_43 a1 a2 a3 a4 x5 σ = some res) : V g X (m8_asks) 43 [(0, .ref (g.ad (0))), (1, .int (a1)), (2, .int (a2)), (3, .int (a3)), (4, .int (a4)), (5, .int (x5))] [] σ := by
  unfold S8_asks_43 at h
  refine V_iconst (v := 0) (q := 44) hX dX8_asks_43 (by decide) rfl ?_
  refine V.pick [0, 1, 2, 3, 4, 5] rfl ?_
  exact v8_asks_44 hX hN hQ x5 (0 : Int32) σ h
set_option maxRecDepth 100000 in
set_option maxHeartbeats 4000000 in
theorem v8_asks_25 {g : GT} {X : XT} {a1 : Int32} {a2 : Int32} {a3 : Int32} {a4 : Int32} (hX : OkX g X (m8_asks)) (hN : 75 ≤ g.N) {res : Int32 × St} (hQ : X.Q = QI g X res.1 res.2 ∧ X.cells = 0 ∧ X.slots = 0)   (s0 : Int32) (σ : St)  (h : S8_asks_25 a1 a2 a3 a4 s0 σ = some res) : V g X (m8_asks) 25 [(0, .ref (g.ad (0))), (1, .int (a1)), (2, .int (a2)), (3, .int (a3)), (4, .int (a4))] [.int (s0)] σ := by
  unfold S8_asks_25 at h
  refine V_istore (lv' := [(5, .int (s0)), (0, .ref (g.ad (0))), (1, .int (a1)), (2, .int (a2)), (3, .int (a3)), (4, .int (a4))]) (q := 27) hX dX8_asks_25 rfl rfl rfl ?_
  refine V_iload (q := 29) hX dX8_asks_27 5 rfl rfl ?_
  refine V_if_lt (q := 32) (t := 43) hX dX8_asks_29 (by decide) rfl (fun z62 => ?_) (fun z62 => ?_)
  · have h := ite_t z62 h
    refine V.pick [1, 2, 3, 4, 5, 0] rfl ?_
    exact v8_asks_43 hX hN hQ s0 σ h
  have h := ite_f z62 h
  refine V_iload (q := 34) hX dX8_asks_32 5 rfl rfl ?_
  refine V_bipush (v := 9) (q := 36) hX dX8_asks_34 (by decide) rfl ?_
  refine V_icmp_ge (q := 39) (t := 43) hX dX8_asks_36 (by decide) rfl (fun z63 => ?_) (fun z63 => ?_)
  · have h := ite_t z63 h
    refine V.pick [1, 2, 3, 4, 5, 0] rfl ?_
    exact v8_asks_43 hX hN hQ s0 σ h
  have h := ite_f z63 h
  refine V_iconst (v := 1) (q := 40) hX dX8_asks_39 (by decide) rfl ?_
  refine V_goto hX dX8_asks_40 (q := 44) (by decide) ?_
  refine V.pick [1, 2, 3, 4, 5, 0] rfl ?_
  exact v8_asks_44 hX hN hQ s0 (1 : Int32) σ h
set_option maxRecDepth 100000 in
set_option maxHeartbeats 4000000 in
theorem v8_asks_24 {g : GT} {X : XT} {a1 : Int32} {a2 : Int32} {a3 : Int32} {a4 : Int32} (hX : OkX g X (m8_asks)) (hN : 75 ≤ g.N) {res : Int32 × St} (hQ : X.Q = QI g X res.1 res.2 ∧ X.cells = 0 ∧ X.slots = 0)    (σ : St)  (h : S8_asks_24 a1 a2 a3 a4 σ = some res) : V g X (m8_asks) 24 [(0, .ref (g.ad (0))), (1, .int (a1)), (2, .int (a2)), (3, .int (a3)), (4, .int (a4))] [] σ := by
  unfold S8_asks_24 at h
  refine V_iconst (v := 0) (q := 25) hX dX8_asks_24 (by decide) rfl ?_
  refine V.pick [0, 1, 2, 3, 4] rfl ?_
  exact v8_asks_25 hX hN hQ (0 : Int32) σ h
set_option maxRecDepth 100000 in
set_option maxHeartbeats 4000000 in
theorem v8_asks {g : GT} {X : XT} {a1 : Int32} {a2 : Int32} {a3 : Int32} {a4 : Int32} (hX : OkX g X (m8_asks)) (hN : 75 ≤ g.N) {res : Int32 × St} (hQ : X.Q = QI g X res.1 res.2 ∧ X.cells = 0 ∧ X.slots = 0) {σ : St} (h : S8_asks a1 a2 a3 a4 σ = some res) : V g X (m8_asks) 0 [(0, .ref (g.ad (0))), (1, .int (a1)), (2, .int (a2)), (3, .int (a3)), (4, .int (a4))] [] σ := by
  unfold S8_asks at h
  refine V_iload_n (q := 1) hX dX8_asks_0 3 rfl rfl ?_
  refine V_if_lt (q := 4) (t := 24) hX dX8_asks_1 (by decide) rfl (fun z64 => ?_) (fun z64 => ?_)
  · have h := ite_t z64 h
    refine V.pick [0, 1, 2, 3, 4] rfl ?_
    exact v8_asks_24 hX hN hQ σ h
  have h := ite_f z64 h
  refine V_iload_n (q := 5) hX dX8_asks_4 3 rfl rfl ?_
  refine V_bipush (v := 10) (q := 7) hX dX8_asks_5 (by decide) rfl ?_
  refine V_idiv (q := 8) hX (by decide) dX8_asks_7 rfl ?_
  refine V_iconst (v := 4) (q := 9) hX dX8_asks_8 (by decide) rfl ?_
  refine V_icmp_ge (q := 12) (t := 24) hX dX8_asks_9 (by decide) rfl (fun z65 => ?_) (fun z65 => ?_)
  · have h := ite_t z65 h
    refine V.pick [0, 1, 2, 3, 4] rfl ?_
    exact v8_asks_24 hX hN hQ σ h
  have h := ite_f z65 h
  refine V_iload_n (q := 13) hX dX8_asks_12 3 rfl rfl ?_
  refine V_bipush (v := 10) (q := 15) hX dX8_asks_13 (by decide) rfl ?_
  refine V_irem (q := 16) hX (by decide) dX8_asks_15 rfl ?_
  refine V_iconst (v := 4) (q := 17) hX dX8_asks_16 (by decide) rfl ?_
  refine V_icmp_ge (q := 20) (t := 24) hX dX8_asks_17 (by decide) rfl (fun z66 => ?_) (fun z66 => ?_)
  · have h := ite_t z66 h
    refine V.pick [0, 1, 2, 3, 4] rfl ?_
    exact v8_asks_24 hX hN hQ σ h
  have h := ite_f z66 h
  refine V_iconst (v := 1) (q := 21) hX dX8_asks_20 (by decide) rfl ?_
  refine V_goto hX dX8_asks_21 (q := 25) (by decide) ?_
  refine V.pick [0, 1, 2, 3, 4] rfl ?_
  exact v8_asks_25 hX hN hQ (1 : Int32) σ h
set_option maxRecDepth 100000 in
set_option maxHeartbeats 4000000 in
theorem c8_asks {g : GT} {l : Launch} (hg : OkG g) (hN : 75 ≤ g.N) {a1 : Int32} {a2 : Int32} {a3 : Int32} {a4 : Int32} {σ : St} {r : Int32} {σ' : St} (h : S8_asks a1 a2 a3 a4 σ = some (r, σ')) : CtI g l m8_asks yX8_asks [.ref (g.ad (0)), .int (a1), .int (a2), .int (a3), .int (a4)] σ r σ' := CtI.of hg (by decide) rfl rfl (fun X h1 h2 h3 => v8_asks h1 hN (res := (r, σ')) h3 h)

abbrev m8_man : MI := (cX8_man, RX8, 4, some .int, 2)
def S8_man_16 (a1 : Int32) (a2 : Int32) (s0 : Int32) (σ : St) : Option (Int32 × St) := if a1 < 0 then (some ((-2 : Int32), σ)) else (if (60 : Int32) ≤ a1 then (some ((-2 : Int32), σ)) else (if s0 = 0 then (some ((-2 : Int32), σ)) else (if (gI σ 1 1) < (6 : Int32) then (bnd (S5_at 1 (gI σ 1 1) σ) fun r30 σ29 => bnd (S7_comes r30 (a1 / (10 : Int32)) (jrem a1 (10 : Int32)) (a2 / (100 : Int32)) (jrem a2 (100 : Int32)) σ29) fun r33 σ32 => some (((gI (sI σ32 1 1 ((gI σ32 1 1) + (1 : Int32))) 1 1) - (1 : Int32)), (sI σ32 1 1 ((gI σ32 1 1) + (1 : Int32))))) else (some ((-4 : Int32), σ)))))
def S8_man_15 (a1 : Int32) (a2 : Int32) (σ : St) : Option (Int32 × St) := S8_man_16 a1 a2 (0 : Int32) σ
def S8_man (a1 : Int32) (a2 : Int32) (σ : St) : Option (Int32 × St) := if a2 < 0 then (S8_man_15 a1 a2 σ) else (if (10000 : Int32) ≤ a2 then (S8_man_15 a1 a2 σ) else (S8_man_16 a1 a2 (1 : Int32) σ))
set_option maxRecDepth 100000 in
set_option maxHeartbeats 4000000 in
theorem v8_man_16 {g : GT} {X : XT} {a1 : Int32} {a2 : Int32} (hX : OkX g X (m8_man)) (hN : 75 ≤ g.N) {res : Int32 × St} (hQ : X.Q = QI g X res.1 res.2 ∧ X.cells = 0 ∧ X.slots = 0)   (s0 : Int32) (σ : St)  (h : S8_man_16 a1 a2 s0 σ = some res) : V g X (m8_man) 16 [(0, .ref (g.ad (0))), (1, .int (a1)), (2, .int (a2))] [.int (s0)] σ := by
  unfold S8_man_16 at h
  refine V_istore_n (lv' := [(3, .int (s0)), (0, .ref (g.ad (0))), (1, .int (a1)), (2, .int (a2))]) (q := 17) hX dX8_man_16 rfl rfl rfl ?_
  refine V_iload_n (q := 18) hX dX8_man_17 2 rfl rfl ?_
  refine V_if_lt (q := 21) (t := 31) hX dX8_man_18 (by decide) rfl (fun z25 => ?_) (fun z25 => ?_)
  · have h := ite_t z25 h
    refine V_bipush (v := -2) (q := 33) hX dX8_man_31 (by decide) rfl ?_
    obtain ⟨f1, f2⟩ := some2 h
    rw [f1, f2] at hQ
    exact V_iret hX hQ rfl dX8_man_33
  have h := ite_f z25 h
  refine V_iload_n (q := 22) hX dX8_man_21 2 rfl rfl ?_
  refine V_bipush (v := 60) (q := 24) hX dX8_man_22 (by decide) rfl ?_
  refine V_icmp_ge (q := 27) (t := 31) hX dX8_man_24 (by decide) rfl (fun z26 => ?_) (fun z26 => ?_)
  · have h := ite_t z26 h
    refine V_bipush (v := -2) (q := 33) hX dX8_man_31 (by decide) rfl ?_
    obtain ⟨f1, f2⟩ := some2 h
    rw [f1, f2] at hQ
    exact V_iret hX hQ rfl dX8_man_33
  have h := ite_f z26 h
  refine V_iload_n (q := 28) hX dX8_man_27 0 rfl rfl ?_
  refine V_if_ne (q := 31) (t := 34) hX dX8_man_28 (by decide) rfl (fun z27 => ?_) (fun z27 => ?_)
  · have h := ite_f z27 h
    refine V_aload_n (q := 35) hX dX8_man_34 1 rfl rfl ?_
    refine V_getF (r := 1) (n := 75) (c := 8) (k := 0) (nf := 11) (C := RX8) (T := TX8) (q := 38) hX rfl rfl iG8 k2_175 rfl rfl ⟨rfl, by decide⟩ hN rfl rfl rfl rfl dX8_man_35 rfl ?_
    refine V_getI (n := 75) (c := 5) (k := 1) (nf := 4) (C := RX5) (T := TX5) (q := 41) hX rfl rfl iG5 k1_72 rfl rfl ⟨rfl, by decide⟩ hN rfl rfl dX8_man_38 rfl ?_
    refine V_bipush (v := 6) (q := 43) hX dX8_man_41 (by decide) rfl ?_
    refine V_icmp_lt (q := 46) (t := 49) hX dX8_man_43 (by decide) rfl (fun z28 => ?_) (fun z28 => ?_)
    · have h := ite_t z28 h
      refine V_aload_n (q := 50) hX dX8_man_49 1 rfl rfl ?_
      refine V_getF (r := 1) (n := 75) (c := 8) (k := 0) (nf := 11) (C := RX8) (T := TX8) (q := 53) hX rfl rfl iG8 k2_175 rfl rfl ⟨rfl, by decide⟩ hN rfl rfl rfl rfl dX8_man_50 rfl ?_
      refine V_aload_n (q := 54) hX dX8_man_53 1 rfl rfl ?_
      refine V_getF (r := 1) (n := 75) (c := 8) (k := 0) (nf := 11) (C := RX8) (T := TX8) (q := 57) hX rfl rfl iG8 k2_175 rfl rfl ⟨rfl, by decide⟩ hN rfl rfl rfl rfl dX8_man_54 rfl ?_
      refine V_getI (n := 75) (c := 5) (k := 1) (nf := 4) (C := RX5) (T := TX5) (q := 60) hX rfl rfl iG5 k1_72 rfl rfl ⟨rfl, by decide⟩ hN rfl rfl dX8_man_57 rfl ?_
      obtain ⟨r30, σ29, e31, h⟩ := bnd_some h
      refine V_cvR (n := 75) (c := 5) (nf := 4) (C := RX5) (T := TX5) (As := [.int ((gI σ 1 1))]) (q := 63) hX (c5_at hX.2.2.2.2.1 hN ⟨rfl, by decide⟩ e31) (goodV_of k3_5 k3_6 k3_7 k1_2 (cons_g k3_8)) (nA := 1) (by decide) rfl rfl rfl rfl rfl ⟨rfl, by decide⟩ hN rfl rfl rfl dX8_man_60 rfl ?_
      refine V_iload_n (q := 64) hX dX8_man_63 2 rfl rfl ?_
      refine V_bipush (v := 10) (q := 66) hX dX8_man_64 (by decide) rfl ?_
      refine V_idiv (q := 67) hX (by decide) dX8_man_66 rfl ?_
      refine V_iload_n (q := 68) hX dX8_man_67 2 rfl rfl ?_
      refine V_bipush (v := 10) (q := 70) hX dX8_man_68 (by decide) rfl ?_
      refine V_irem (q := 71) hX (by decide) dX8_man_70 rfl ?_
      refine V_iload_n (q := 72) hX dX8_man_71 3 rfl rfl ?_
      refine V_bipush (v := 100) (q := 74) hX dX8_man_72 (by decide) rfl ?_
      refine V_idiv (q := 75) hX (by decide) dX8_man_74 rfl ?_
      refine V_iload_n (q := 76) hX dX8_man_75 3 rfl rfl ?_
      refine V_bipush (v := 100) (q := 78) hX dX8_man_76 (by decide) rfl ?_
      refine V_irem (q := 79) hX (by decide) dX8_man_78 rfl ?_
      obtain ⟨r33, σ32, e34, h⟩ := bnd_some h
      refine V_cvV (n := 75) (c := 7) (nf := 7) (C := RX7) (T := TX7) (As := [.int ((a1 / (10 : Int32))), .int ((jrem a1 (10 : Int32))), .int ((a2 / (100 : Int32))), .int ((jrem a2 (100 : Int32)))]) (q := 82) hX (c7_comes hX.2.2.2.2.1 hN (sh5_at ⟨rfl, by decide⟩ e31) e34) (goodV_of k3_43 k3_44 k3_45 k1_3 (cons_g k3_46)) (nA := 4) (by decide) rfl rfl rfl rfl rfl (sh5_at ⟨rfl, by decide⟩ e31) hN rfl rfl rfl dX8_man_79 rfl ?_
      refine V_aload_n (q := 83) hX dX8_man_82 1 rfl rfl ?_
      refine V_getF (r := 1) (n := 75) (c := 8) (k := 0) (nf := 11) (C := RX8) (T := TX8) (q := 86) hX rfl rfl iG8 k2_175 rfl rfl ⟨rfl, by decide⟩ hN rfl rfl rfl rfl dX8_man_83 rfl ?_
      refine V_dup (q := 87) hX dX8_man_86 rfl rfl ?_
      refine V_getI (n := 75) (c := 5) (k := 1) (nf := 4) (C := RX5) (T := TX5) (q := 90) hX rfl rfl iG5 k1_72 rfl rfl ⟨rfl, by decide⟩ hN rfl rfl dX8_man_87 rfl ?_
      refine V_iconst (v := 1) (q := 91) hX dX8_man_90 (by decide) rfl ?_
      refine V_iadd (q := 92) hX dX8_man_91 rfl ?_
      refine V_putI (n := 75) (c := 5) (k := 1) (nf := 4) (C := RX5) (T := TX5) (q := 95) hX rfl rfl iG5 k1_72 rfl rfl ⟨rfl, by decide⟩ hN rfl tyX5 tyX5_ok nmX5 rfl rfl (ty := .int) (tyX5_ok 1 (by decide)) rfl rfl dX8_man_92 rfl ?_
      refine V_aload_n (q := 96) hX dX8_man_95 1 rfl rfl ?_
      refine V_getF (r := 1) (n := 75) (c := 8) (k := 0) (nf := 11) (C := RX8) (T := TX8) (q := 99) hX rfl rfl iG8 k2_175 rfl rfl ⟨rfl, by decide⟩ hN rfl rfl rfl rfl dX8_man_96 rfl ?_
      refine V_getI (n := 75) (c := 5) (k := 1) (nf := 4) (C := RX5) (T := TX5) (q := 102) hX rfl rfl iG5 k1_72 rfl rfl ⟨rfl, by decide⟩ hN rfl rfl dX8_man_99 rfl ?_
      refine V_iconst (v := 1) (q := 103) hX dX8_man_102 (by decide) rfl ?_
      refine V_isub (q := 104) hX dX8_man_103 rfl ?_
      obtain ⟨f1, f2⟩ := some2 h
      rw [f1, f2] at hQ
      exact V_iret hX hQ rfl dX8_man_104
    have h := ite_f z28 h
    refine V_bipush (v := -4) (q := 48) hX dX8_man_46 (by decide) rfl ?_
    obtain ⟨f1, f2⟩ := some2 h
    rw [f1, f2] at hQ
    exact V_iret hX hQ rfl dX8_man_48
  have h := ite_t z27 h
  refine V_bipush (v := -2) (q := 33) hX dX8_man_31 (by decide) rfl ?_
  obtain ⟨f1, f2⟩ := some2 h
  rw [f1, f2] at hQ
  exact V_iret hX hQ rfl dX8_man_33
set_option maxRecDepth 100000 in
set_option maxHeartbeats 4000000 in
theorem v8_man_15 {g : GT} {X : XT} {a1 : Int32} {a2 : Int32} (hX : OkX g X (m8_man)) (hN : 75 ≤ g.N) {res : Int32 × St} (hQ : X.Q = QI g X res.1 res.2 ∧ X.cells = 0 ∧ X.slots = 0)    (σ : St)  (h : S8_man_15 a1 a2 σ = some res) : V g X (m8_man) 15 [(0, .ref (g.ad (0))), (1, .int (a1)), (2, .int (a2))] [] σ := by
  unfold S8_man_15 at h
  refine V_iconst (v := 0) (q := 16) hX dX8_man_15 (by decide) rfl ?_
  refine V.pick [0, 1, 2] rfl ?_
  exact v8_man_16 hX hN hQ (0 : Int32) σ h
set_option maxRecDepth 100000 in
set_option maxHeartbeats 4000000 in
theorem v8_man {g : GT} {X : XT} {a1 : Int32} {a2 : Int32} (hX : OkX g X (m8_man)) (hN : 75 ≤ g.N) {res : Int32 × St} (hQ : X.Q = QI g X res.1 res.2 ∧ X.cells = 0 ∧ X.slots = 0) {σ : St} (h : S8_man a1 a2 σ = some res) : V g X (m8_man) 0 [(0, .ref (g.ad (0))), (1, .int (a1)), (2, .int (a2))] [] σ := by
  unfold S8_man at h
  refine V_iload_n (q := 1) hX dX8_man_0 2 rfl rfl ?_
  refine V_if_lt (q := 4) (t := 15) hX dX8_man_1 (by decide) rfl (fun z35 => ?_) (fun z35 => ?_)
  · have h := ite_t z35 h
    refine V.pick [0, 1, 2] rfl ?_
    exact v8_man_15 hX hN hQ σ h
  have h := ite_f z35 h
  refine V_iload_n (q := 5) hX dX8_man_4 2 rfl rfl ?_
  refine V_sipush (v := 10000) (q := 8) hX dX8_man_5 (by decide) rfl ?_
  refine V_icmp_ge (q := 11) (t := 15) hX dX8_man_8 (by decide) rfl (fun z36 => ?_) (fun z36 => ?_)
  · have h := ite_t z36 h
    refine V.pick [0, 1, 2] rfl ?_
    exact v8_man_15 hX hN hQ σ h
  have h := ite_f z36 h
  refine V_iconst (v := 1) (q := 12) hX dX8_man_11 (by decide) rfl ?_
  refine V_goto hX dX8_man_12 (q := 16) (by decide) ?_
  refine V.pick [0, 1, 2] rfl ?_
  exact v8_man_16 hX hN hQ (1 : Int32) σ h
set_option maxRecDepth 100000 in
set_option maxHeartbeats 4000000 in
theorem c8_man {g : GT} {l : Launch} (hg : OkG g) (hN : 75 ≤ g.N) {a1 : Int32} {a2 : Int32} {σ : St} {r : Int32} {σ' : St} (h : S8_man a1 a2 σ = some (r, σ')) : CtI g l m8_man yX8_man [.ref (g.ad (0)), .int (a1), .int (a2)] σ r σ' := CtI.of hg (by decide) rfl rfl (fun X h1 h2 h3 => v8_man h1 hN (res := (r, σ')) h3 h)

abbrev m8_put : MI := (cX8_put, RX8, 6, some .int, 2)
def S8_put_26 (a1 : Int32) (a2 : Int32) (a3 : Int32) (s0 : Int32) (σ : St) : Option (Int32 × St) := if a2 < 0 then (some ((-7 : Int32), σ)) else (if (2 : Int32) < a2 then (some ((-7 : Int32), σ)) else (if a3 < 0 then (some ((-7 : Int32), σ)) else (if a3 ≤ s0 then (bnd (S5_at 1 a1 σ) fun r48 σ47 => bnd (S7_tells r48 a2 σ47) fun r51 σ50 => bnd (S5_at 1 a1 σ50) fun r54 σ53 => bnd (S7_becomes r54 a2 a3 σ53) fun r57 σ56 => some (r51, σ56)) else (some ((-7 : Int32), σ)))))
def S8_put (a1 : Int32) (a2 : Int32) (a3 : Int32) (σ : St) : Option (Int32 × St) := bnd (S5_has 1 a1 σ) fun r60 σ59 => if r60 = 0 then (some ((-5 : Int32), σ59)) else (if a2 = (2 : Int32) then (S8_put_26 a1 a2 a3 (9 : Int32) σ59) else (S8_put_26 a1 a2 a3 (99 : Int32) σ59))
set_option maxRecDepth 100000 in
set_option maxHeartbeats 4000000 in
theorem v8_put_26 {g : GT} {X : XT} {a1 : Int32} {a2 : Int32} {a3 : Int32} (hX : OkX g X (m8_put)) (hN : 75 ≤ g.N) {res : Int32 × St} (hQ : X.Q = QI g X res.1 res.2 ∧ X.cells = 0 ∧ X.slots = 0)   (s0 : Int32) (σ : St)  (h : S8_put_26 a1 a2 a3 s0 σ = some res) : V g X (m8_put) 26 [(0, .ref (g.ad (0))), (1, .int (a1)), (2, .int (a2)), (3, .int (a3))] [.int (s0)] σ := by
  unfold S8_put_26 at h
  refine V_istore (lv' := [(4, .int (s0)), (0, .ref (g.ad (0))), (1, .int (a1)), (2, .int (a2)), (3, .int (a3))]) (q := 28) hX dX8_put_26 rfl rfl rfl ?_
  refine V_iload_n (q := 29) hX dX8_put_28 3 rfl rfl ?_
  refine V_if_lt (q := 32) (t := 47) hX dX8_put_29 (by decide) rfl (fun z43 => ?_) (fun z43 => ?_)
  · have h := ite_t z43 h
    refine V_bipush (v := -7) (q := 49) hX dX8_put_47 (by decide) rfl ?_
    obtain ⟨f1, f2⟩ := some2 h
    rw [f1, f2] at hQ
    exact V_iret hX hQ rfl dX8_put_49
  have h := ite_f z43 h
  refine V_iload_n (q := 33) hX dX8_put_32 3 rfl rfl ?_
  refine V_iconst (v := 2) (q := 34) hX dX8_put_33 (by decide) rfl ?_
  refine V_icmp_gt (q := 37) (t := 47) hX dX8_put_34 (by decide) rfl (fun z44 => ?_) (fun z44 => ?_)
  · have h := ite_t z44 h
    refine V_bipush (v := -7) (q := 49) hX dX8_put_47 (by decide) rfl ?_
    obtain ⟨f1, f2⟩ := some2 h
    rw [f1, f2] at hQ
    exact V_iret hX hQ rfl dX8_put_49
  have h := ite_f z44 h
  refine V_iload_n (q := 38) hX dX8_put_37 4 rfl rfl ?_
  refine V_if_lt (q := 41) (t := 47) hX dX8_put_38 (by decide) rfl (fun z45 => ?_) (fun z45 => ?_)
  · have h := ite_t z45 h
    refine V_bipush (v := -7) (q := 49) hX dX8_put_47 (by decide) rfl ?_
    obtain ⟨f1, f2⟩ := some2 h
    rw [f1, f2] at hQ
    exact V_iret hX hQ rfl dX8_put_49
  have h := ite_f z45 h
  refine V_iload_n (q := 42) hX dX8_put_41 4 rfl rfl ?_
  refine V_iload (q := 44) hX dX8_put_42 0 rfl rfl ?_
  refine V_icmp_le (q := 47) (t := 50) hX dX8_put_44 (by decide) rfl (fun z46 => ?_) (fun z46 => ?_)
  · have h := ite_t z46 h
    refine V_aload_n (q := 51) hX dX8_put_50 1 rfl rfl ?_
    refine V_getF (r := 1) (n := 75) (c := 8) (k := 0) (nf := 11) (C := RX8) (T := TX8) (q := 54) hX rfl rfl iG8 k2_175 rfl rfl ⟨rfl, by decide⟩ hN rfl rfl rfl rfl dX8_put_51 rfl ?_
    refine V_iload_n (q := 55) hX dX8_put_54 2 rfl rfl ?_
    obtain ⟨r48, σ47, e49, h⟩ := bnd_some h
    refine V_cvR (n := 75) (c := 5) (nf := 4) (C := RX5) (T := TX5) (As := [.int (a1)]) (q := 58) hX (c5_at hX.2.2.2.2.1 hN ⟨rfl, by decide⟩ e49) (goodV_of k3_5 k3_6 k3_7 k1_2 (cons_g k3_8)) (nA := 1) (by decide) rfl rfl rfl rfl rfl ⟨rfl, by decide⟩ hN rfl rfl rfl dX8_put_55 rfl ?_
    refine V_iload_n (q := 59) hX dX8_put_58 3 rfl rfl ?_
    obtain ⟨r51, σ50, e52, h⟩ := bnd_some h
    refine V_cvI (n := 75) (c := 7) (nf := 7) (C := RX7) (T := TX7) (As := [.int (a2)]) (q := 62) hX (c7_tells hX.2.2.2.2.1 hN (sh5_at ⟨rfl, by decide⟩ e49) e52) (goodV_of k3_51 k3_52 k3_53 k1_3 (cons_g k3_54)) (nA := 1) (by decide) rfl rfl rfl rfl rfl (sh5_at ⟨rfl, by decide⟩ e49) hN rfl rfl rfl dX8_put_59 rfl ?_
    refine V_istore (lv' := [(5, .int (r51)), (4, .int (s0)), (0, .ref (g.ad (0))), (1, .int (a1)), (2, .int (a2)), (3, .int (a3))]) (q := 64) hX dX8_put_62 rfl rfl rfl ?_
    refine V_aload_n (q := 65) hX dX8_put_64 2 rfl rfl ?_
    refine V_getF (r := 1) (n := 75) (c := 8) (k := 0) (nf := 11) (C := RX8) (T := TX8) (q := 68) hX rfl rfl iG8 k2_175 rfl rfl ⟨rfl, by decide⟩ hN rfl rfl rfl rfl dX8_put_65 rfl ?_
    refine V_iload_n (q := 69) hX dX8_put_68 3 rfl rfl ?_
    obtain ⟨r54, σ53, e55, h⟩ := bnd_some h
    refine V_cvR (n := 75) (c := 5) (nf := 4) (C := RX5) (T := TX5) (As := [.int (a1)]) (q := 72) hX (c5_at hX.2.2.2.2.1 hN ⟨rfl, by decide⟩ e55) (goodV_of k3_5 k3_6 k3_7 k1_2 (cons_g k3_8)) (nA := 1) (by decide) rfl rfl rfl rfl rfl ⟨rfl, by decide⟩ hN rfl rfl rfl dX8_put_69 rfl ?_
    refine V_iload_n (q := 73) hX dX8_put_72 4 rfl rfl ?_
    refine V_iload_n (q := 74) hX dX8_put_73 5 rfl rfl ?_
    obtain ⟨r57, σ56, e58, h⟩ := bnd_some h
    refine V_cvV (n := 75) (c := 7) (nf := 7) (C := RX7) (T := TX7) (As := [.int (a2), .int (a3)]) (q := 77) hX (c7_becomes hX.2.2.2.2.1 hN (sh5_at ⟨rfl, by decide⟩ e55) e58) (goodV_of k3_55 k3_56 k3_57 k1_3 (cons_g k3_58)) (nA := 2) (by decide) rfl rfl rfl rfl rfl (sh5_at ⟨rfl, by decide⟩ e55) hN rfl rfl rfl dX8_put_74 rfl ?_
    refine V_iload (q := 79) hX dX8_put_77 0 rfl rfl ?_
    obtain ⟨f1, f2⟩ := some2 h
    rw [f1, f2] at hQ
    exact V_iret hX hQ rfl dX8_put_79
  have h := ite_f z46 h
  refine V_bipush (v := -7) (q := 49) hX dX8_put_47 (by decide) rfl ?_
  obtain ⟨f1, f2⟩ := some2 h
  rw [f1, f2] at hQ
  exact V_iret hX hQ rfl dX8_put_49
set_option maxRecDepth 100000 in
set_option maxHeartbeats 4000000 in
theorem v8_put {g : GT} {X : XT} {a1 : Int32} {a2 : Int32} {a3 : Int32} (hX : OkX g X (m8_put)) (hN : 75 ≤ g.N) {res : Int32 × St} (hQ : X.Q = QI g X res.1 res.2 ∧ X.cells = 0 ∧ X.slots = 0) {σ : St} (h : S8_put a1 a2 a3 σ = some res) : V g X (m8_put) 0 [(0, .ref (g.ad (0))), (1, .int (a1)), (2, .int (a2)), (3, .int (a3))] [] σ := by
  unfold S8_put at h
  refine V_aload_n (q := 1) hX dX8_put_0 0 rfl rfl ?_
  refine V_getF (r := 1) (n := 75) (c := 8) (k := 0) (nf := 11) (C := RX8) (T := TX8) (q := 4) hX rfl rfl iG8 k2_175 rfl rfl ⟨rfl, by decide⟩ hN rfl rfl rfl rfl dX8_put_1 rfl ?_
  refine V_iload_n (q := 5) hX dX8_put_4 1 rfl rfl ?_
  obtain ⟨r60, σ59, e61, h⟩ := bnd_some h
  refine V_cvI (n := 75) (c := 5) (nf := 4) (C := RX5) (T := TX5) (As := [.int (a1)]) (q := 8) hX (c5_has hX.2.2.2.2.1 hN ⟨rfl, by decide⟩ e61) (goodV_of k2_237 k2_238 k2_239 k1_2 (cons_g k3_0)) (nA := 1) (by decide) rfl rfl rfl rfl rfl ⟨rfl, by decide⟩ hN rfl rfl rfl dX8_put_5 rfl ?_
  refine V_if_ne (q := 11) (t := 14) hX dX8_put_8 (by decide) rfl (fun z62 => ?_) (fun z62 => ?_)
  · have h := ite_f z62 h
    refine V_iload_n (q := 15) hX dX8_put_14 2 rfl rfl ?_
    refine V_iconst (v := 2) (q := 16) hX dX8_put_15 (by decide) rfl ?_
    refine V_icmp_ne (q := 19) (t := 24) hX dX8_put_16 (by decide) rfl (fun z63 => ?_) (fun z63 => ?_)
    · have h := ite_f z63 h
      refine V_bipush (v := 99) (q := 26) hX dX8_put_24 (by decide) rfl ?_
      refine V.pick [0, 1, 2, 3] rfl ?_
      exact v8_put_26 hX hN hQ (99 : Int32) σ59 h
    have h := ite_t z63 h
    refine V_bipush (v := 9) (q := 21) hX dX8_put_19 (by decide) rfl ?_
    refine V_goto hX dX8_put_21 (q := 26) (by decide) ?_
    refine V.pick [0, 1, 2, 3] rfl ?_
    exact v8_put_26 hX hN hQ (9 : Int32) σ59 h
  have h := ite_t z62 h
  refine V_bipush (v := -5) (q := 13) hX dX8_put_11 (by decide) rfl ?_
  obtain ⟨f1, f2⟩ := some2 h
  rw [f1, f2] at hQ
  exact V_iret hX hQ rfl dX8_put_13
set_option maxRecDepth 100000 in
set_option maxHeartbeats 4000000 in
theorem c8_put {g : GT} {l : Launch} (hg : OkG g) (hN : 75 ≤ g.N) {a1 : Int32} {a2 : Int32} {a3 : Int32} {σ : St} {r : Int32} {σ' : St} (h : S8_put a1 a2 a3 σ = some (r, σ')) : CtI g l m8_put yX8_put [.ref (g.ad (0)), .int (a1), .int (a2), .int (a3)] σ r σ' := CtI.of hg (by decide) rfl rfl (fun X h1 h2 h3 => v8_put h1 hN (res := (r, σ')) h3 h)

abbrev m8_told : MI := (cX8_told, RX8, 3, some .int, 2)
def S8_told_24 (a1 : Int32) (a2 : Int32) (σ : St) : Option (Int32 × St) := some ((-7 : Int32), σ)
def S8_told (a1 : Int32) (a2 : Int32) (σ : St) : Option (Int32 × St) := bnd (S5_has 1 a1 σ) fun r26 σ25 => if r26 = 0 then (some ((-5 : Int32), σ25)) else (if a2 < 0 then (S8_told_24 a1 a2 σ25) else (if a2 ≤ (6 : Int32) then (bnd (S5_at 1 a1 σ25) fun r32 σ31 => bnd (S7_tells r32 a2 σ31) fun r35 σ34 => some (r35, σ34)) else (S8_told_24 a1 a2 σ25)))
set_option maxRecDepth 100000 in
set_option maxHeartbeats 4000000 in
theorem v8_told_24 {g : GT} {X : XT} {a1 : Int32} {a2 : Int32} (hX : OkX g X (m8_told)) (hN : 75 ≤ g.N) {res : Int32 × St} (hQ : X.Q = QI g X res.1 res.2 ∧ X.cells = 0 ∧ X.slots = 0)    (σ : St)  (h : S8_told_24 a1 a2 σ = some res) : V g X (m8_told) 24 [] [] σ := by
  unfold S8_told_24 at h
  refine V_bipush (v := -7) (q := 26) hX dX8_told_24 (by decide) rfl ?_
  refine V_goto hX dX8_told_26 (q := 41) (by decide) ?_
  obtain ⟨f1, f2⟩ := some2 h
  rw [f1, f2] at hQ
  exact V_iret hX hQ rfl dX8_told_41
set_option maxRecDepth 100000 in
set_option maxHeartbeats 4000000 in
theorem v8_told {g : GT} {X : XT} {a1 : Int32} {a2 : Int32} (hX : OkX g X (m8_told)) (hN : 75 ≤ g.N) {res : Int32 × St} (hQ : X.Q = QI g X res.1 res.2 ∧ X.cells = 0 ∧ X.slots = 0) {σ : St} (h : S8_told a1 a2 σ = some res) : V g X (m8_told) 0 [(0, .ref (g.ad (0))), (1, .int (a1)), (2, .int (a2))] [] σ := by
  unfold S8_told at h
  refine V_aload_n (q := 1) hX dX8_told_0 0 rfl rfl ?_
  refine V_getF (r := 1) (n := 75) (c := 8) (k := 0) (nf := 11) (C := RX8) (T := TX8) (q := 4) hX rfl rfl iG8 k2_175 rfl rfl ⟨rfl, by decide⟩ hN rfl rfl rfl rfl dX8_told_1 rfl ?_
  refine V_iload_n (q := 5) hX dX8_told_4 1 rfl rfl ?_
  obtain ⟨r26, σ25, e27, h⟩ := bnd_some h
  refine V_cvI (n := 75) (c := 5) (nf := 4) (C := RX5) (T := TX5) (As := [.int (a1)]) (q := 8) hX (c5_has hX.2.2.2.2.1 hN ⟨rfl, by decide⟩ e27) (goodV_of k2_237 k2_238 k2_239 k1_2 (cons_g k3_0)) (nA := 1) (by decide) rfl rfl rfl rfl rfl ⟨rfl, by decide⟩ hN rfl rfl rfl dX8_told_5 rfl ?_
  refine V_if_ne (q := 11) (t := 14) hX dX8_told_8 (by decide) rfl (fun z28 => ?_) (fun z28 => ?_)
  · have h := ite_f z28 h
    refine V_iload_n (q := 15) hX dX8_told_14 2 rfl rfl ?_
    refine V_if_lt (q := 18) (t := 24) hX dX8_told_15 (by decide) rfl (fun z29 => ?_) (fun z29 => ?_)
    · have h := ite_t z29 h
      refine V.pick [] rfl ?_
      exact v8_told_24 hX hN hQ σ25 h
    have h := ite_f z29 h
    refine V_iload_n (q := 19) hX dX8_told_18 2 rfl rfl ?_
    refine V_bipush (v := 6) (q := 21) hX dX8_told_19 (by decide) rfl ?_
    refine V_icmp_le (q := 24) (t := 29) hX dX8_told_21 (by decide) rfl (fun z30 => ?_) (fun z30 => ?_)
    · have h := ite_t z30 h
      refine V_aload_n (q := 30) hX dX8_told_29 0 rfl rfl ?_
      refine V_getF (r := 1) (n := 75) (c := 8) (k := 0) (nf := 11) (C := RX8) (T := TX8) (q := 33) hX rfl rfl iG8 k2_175 rfl rfl ⟨rfl, by decide⟩ hN rfl rfl rfl rfl dX8_told_30 rfl ?_
      refine V_iload_n (q := 34) hX dX8_told_33 1 rfl rfl ?_
      obtain ⟨r32, σ31, e33, h⟩ := bnd_some h
      refine V_cvR (n := 75) (c := 5) (nf := 4) (C := RX5) (T := TX5) (As := [.int (a1)]) (q := 37) hX (c5_at hX.2.2.2.2.1 hN ⟨rfl, by decide⟩ e33) (goodV_of k3_5 k3_6 k3_7 k1_2 (cons_g k3_8)) (nA := 1) (by decide) rfl rfl rfl rfl rfl ⟨rfl, by decide⟩ hN rfl rfl rfl dX8_told_34 rfl ?_
      refine V_iload_n (q := 38) hX dX8_told_37 2 rfl rfl ?_
      obtain ⟨r35, σ34, e36, h⟩ := bnd_some h
      refine V_cvI (n := 75) (c := 7) (nf := 7) (C := RX7) (T := TX7) (As := [.int (a2)]) (q := 41) hX (c7_tells hX.2.2.2.2.1 hN (sh5_at ⟨rfl, by decide⟩ e33) e36) (goodV_of k3_51 k3_52 k3_53 k1_3 (cons_g k3_54)) (nA := 1) (by decide) rfl rfl rfl rfl rfl (sh5_at ⟨rfl, by decide⟩ e33) hN rfl rfl rfl dX8_told_38 rfl ?_
      obtain ⟨f1, f2⟩ := some2 h
      rw [f1, f2] at hQ
      exact V_iret hX hQ rfl dX8_told_41
    have h := ite_f z30 h
    refine V.pick [] rfl ?_
    exact v8_told_24 hX hN hQ σ25 h
  have h := ite_t z28 h
  refine V_bipush (v := -5) (q := 13) hX dX8_told_11 (by decide) rfl ?_
  obtain ⟨f1, f2⟩ := some2 h
  rw [f1, f2] at hQ
  exact V_iret hX hQ rfl dX8_told_13
set_option maxRecDepth 100000 in
set_option maxHeartbeats 4000000 in
theorem c8_told {g : GT} {l : Launch} (hg : OkG g) (hN : 75 ≤ g.N) {a1 : Int32} {a2 : Int32} {σ : St} {r : Int32} {σ' : St} (h : S8_told a1 a2 σ = some (r, σ')) : CtI g l m8_told yX8_told [.ref (g.ad (0)), .int (a1), .int (a2)] σ r σ' := CtI.of hg (by decide) rfl rfl (fun X h1 h2 h3 => v8_told h1 hN (res := (r, σ')) h3 h)

abbrev m8_areTwo : MI := (cX8_areTwo, RX8, 3, some .boolean, 2)
def S8_areTwo (a1 : Int32) (a2 : Int32) (σ : St) : Option (Int32 × St) := if a1 = a2 then (some ((0 : Int32), σ)) else (bnd (S5_has 1 a1 σ) fun r12 σ11 => if r12 = 0 then (some ((0 : Int32), σ11)) else (bnd (S5_has 1 a2 σ11) fun r16 σ15 => if r16 = 0 then (some ((0 : Int32), σ15)) else (some ((1 : Int32), σ15))))
set_option maxRecDepth 100000 in
set_option maxHeartbeats 4000000 in
theorem v8_areTwo {g : GT} {X : XT} {a1 : Int32} {a2 : Int32} (hX : OkX g X (m8_areTwo)) (hN : 75 ≤ g.N) {res : Int32 × St} (hQ : X.Q = QI g X res.1 res.2 ∧ X.cells = 0 ∧ X.slots = 0) {σ : St} (h : S8_areTwo a1 a2 σ = some res) : V g X (m8_areTwo) 0 [(0, .ref (g.ad (0))), (1, .int (a1)), (2, .int (a2))] [] σ := by
  unfold S8_areTwo at h
  refine V_iload_n (q := 1) hX dX8_areTwo_0 1 rfl rfl ?_
  refine V_iload_n (q := 2) hX dX8_areTwo_1 2 rfl rfl ?_
  refine V_icmp_eq (q := 5) (t := 31) hX dX8_areTwo_2 (by decide) rfl (fun z10 => ?_) (fun z10 => ?_)
  · have h := ite_t z10 h
    refine V_iconst (v := 0) (q := 32) hX dX8_areTwo_31 (by decide) rfl ?_
    obtain ⟨f1, f2⟩ := some2 h
    rw [f1, f2] at hQ
    exact V_zret (ty := .boolean) hX hQ rfl rfl dX8_areTwo_32
  have h := ite_f z10 h
  refine V_aload_n (q := 6) hX dX8_areTwo_5 0 rfl rfl ?_
  refine V_getF (r := 1) (n := 75) (c := 8) (k := 0) (nf := 11) (C := RX8) (T := TX8) (q := 9) hX rfl rfl iG8 k2_175 rfl rfl ⟨rfl, by decide⟩ hN rfl rfl rfl rfl dX8_areTwo_6 rfl ?_
  refine V_iload_n (q := 10) hX dX8_areTwo_9 1 rfl rfl ?_
  obtain ⟨r12, σ11, e13, h⟩ := bnd_some h
  refine V_cvI (n := 75) (c := 5) (nf := 4) (C := RX5) (T := TX5) (As := [.int (a1)]) (q := 13) hX (c5_has hX.2.2.2.2.1 hN ⟨rfl, by decide⟩ e13) (goodV_of k2_237 k2_238 k2_239 k1_2 (cons_g k3_0)) (nA := 1) (by decide) rfl rfl rfl rfl rfl ⟨rfl, by decide⟩ hN rfl rfl rfl dX8_areTwo_10 rfl ?_
  refine V_if_eq (q := 16) (t := 31) hX dX8_areTwo_13 (by decide) rfl (fun z14 => ?_) (fun z14 => ?_)
  · have h := ite_t z14 h
    refine V_iconst (v := 0) (q := 32) hX dX8_areTwo_31 (by decide) rfl ?_
    obtain ⟨f1, f2⟩ := some2 h
    rw [f1, f2] at hQ
    exact V_zret (ty := .boolean) hX hQ rfl rfl dX8_areTwo_32
  have h := ite_f z14 h
  refine V_aload_n (q := 17) hX dX8_areTwo_16 0 rfl rfl ?_
  refine V_getF (r := 1) (n := 75) (c := 8) (k := 0) (nf := 11) (C := RX8) (T := TX8) (q := 20) hX rfl rfl iG8 k2_175 rfl rfl ⟨rfl, by decide⟩ hN rfl rfl rfl rfl dX8_areTwo_17 rfl ?_
  refine V_iload_n (q := 21) hX dX8_areTwo_20 2 rfl rfl ?_
  obtain ⟨r16, σ15, e17, h⟩ := bnd_some h
  refine V_cvI (n := 75) (c := 5) (nf := 4) (C := RX5) (T := TX5) (As := [.int (a2)]) (q := 24) hX (c5_has hX.2.2.2.2.1 hN ⟨rfl, by decide⟩ e17) (goodV_of k2_237 k2_238 k2_239 k1_2 (cons_g k3_0)) (nA := 1) (by decide) rfl rfl rfl rfl rfl ⟨rfl, by decide⟩ hN rfl rfl rfl dX8_areTwo_21 rfl ?_
  refine V_if_eq (q := 27) (t := 31) hX dX8_areTwo_24 (by decide) rfl (fun z18 => ?_) (fun z18 => ?_)
  · have h := ite_t z18 h
    refine V_iconst (v := 0) (q := 32) hX dX8_areTwo_31 (by decide) rfl ?_
    obtain ⟨f1, f2⟩ := some2 h
    rw [f1, f2] at hQ
    exact V_zret (ty := .boolean) hX hQ rfl rfl dX8_areTwo_32
  have h := ite_f z18 h
  refine V_iconst (v := 1) (q := 28) hX dX8_areTwo_27 (by decide) rfl ?_
  refine V_goto hX dX8_areTwo_28 (q := 32) (by decide) ?_
  obtain ⟨f1, f2⟩ := some2 h
  rw [f1, f2] at hQ
  exact V_zret (ty := .boolean) hX hQ rfl rfl dX8_areTwo_32
set_option maxRecDepth 100000 in
set_option maxHeartbeats 4000000 in
theorem c8_areTwo {g : GT} {l : Launch} (hg : OkG g) (hN : 75 ≤ g.N) {a1 : Int32} {a2 : Int32} {σ : St} {r : Int32} {σ' : St} (h : S8_areTwo a1 a2 σ = some (r, σ')) : CtI g l m8_areTwo yX8_areTwo [.ref (g.ad (0)), .int (a1), .int (a2)] σ r σ' := CtI.of hg (by decide) rfl rfl (fun X h1 h2 h3 => v8_areTwo h1 hN (res := (r, σ')) h3 h)

abbrev m8_isPair : MI := (cX8_isPair, RX8, 2, some .boolean, 3)
def S8_isPair (a1 : Int32) (σ : St) : Option (Int32 × St) := if a1 < 0 then (some ((0 : Int32), σ)) else (bnd (S8_areTwo (a1 / (10 : Int32)) (jrem a1 (10 : Int32)) σ) fun r8 σ7 => if r8 = 0 then (some ((0 : Int32), σ7)) else (some ((1 : Int32), σ7)))
set_option maxRecDepth 100000 in
set_option maxHeartbeats 4000000 in
theorem v8_isPair {g : GT} {X : XT} {a1 : Int32} (hX : OkX g X (m8_isPair)) (hN : 75 ≤ g.N) {res : Int32 × St} (hQ : X.Q = QI g X res.1 res.2 ∧ X.cells = 0 ∧ X.slots = 0) {σ : St} (h : S8_isPair a1 σ = some res) : V g X (m8_isPair) 0 [(0, .ref (g.ad (0))), (1, .int (a1))] [] σ := by
  unfold S8_isPair at h
  refine V_iload_n (q := 1) hX dX8_isPair_0 1 rfl rfl ?_
  refine V_if_lt (q := 4) (t := 23) hX dX8_isPair_1 (by decide) rfl (fun z6 => ?_) (fun z6 => ?_)
  · have h := ite_t z6 h
    refine V_iconst (v := 0) (q := 24) hX dX8_isPair_23 (by decide) rfl ?_
    obtain ⟨f1, f2⟩ := some2 h
    rw [f1, f2] at hQ
    exact V_zret (ty := .boolean) hX hQ rfl rfl dX8_isPair_24
  have h := ite_f z6 h
  refine V_aload_n (q := 5) hX dX8_isPair_4 0 rfl rfl ?_
  refine V_iload_n (q := 6) hX dX8_isPair_5 1 rfl rfl ?_
  refine V_bipush (v := 10) (q := 8) hX dX8_isPair_6 (by decide) rfl ?_
  refine V_idiv (q := 9) hX (by decide) dX8_isPair_8 rfl ?_
  refine V_iload_n (q := 10) hX dX8_isPair_9 1 rfl rfl ?_
  refine V_bipush (v := 10) (q := 12) hX dX8_isPair_10 (by decide) rfl ?_
  refine V_irem (q := 13) hX (by decide) dX8_isPair_12 rfl ?_
  obtain ⟨r8, σ7, e9, h⟩ := bnd_some h
  refine V_cvI (n := 75) (c := 8) (nf := 11) (C := RX8) (T := TX8) (As := [.int ((a1 / (10 : Int32))), .int ((jrem a1 (10 : Int32)))]) (q := 16) hX (c8_areTwo hX.2.2.2.2.1 hN e9) (goodV_of k3_71 k3_73 kp_15 k1_1 (cons_g k3_74)) (nA := 2) (by decide) rfl rfl rfl rfl rfl ⟨rfl, by decide⟩ hN rfl rfl rfl dX8_isPair_13 rfl ?_
  refine V_if_eq (q := 19) (t := 23) hX dX8_isPair_16 (by decide) rfl (fun z10 => ?_) (fun z10 => ?_)
  · have h := ite_t z10 h
    refine V_iconst (v := 0) (q := 24) hX dX8_isPair_23 (by decide) rfl ?_
    obtain ⟨f1, f2⟩ := some2 h
    rw [f1, f2] at hQ
    exact V_zret (ty := .boolean) hX hQ rfl rfl dX8_isPair_24
  have h := ite_f z10 h
  refine V_iconst (v := 1) (q := 20) hX dX8_isPair_19 (by decide) rfl ?_
  refine V_goto hX dX8_isPair_20 (q := 24) (by decide) ?_
  obtain ⟨f1, f2⟩ := some2 h
  rw [f1, f2] at hQ
  exact V_zret (ty := .boolean) hX hQ rfl rfl dX8_isPair_24
set_option maxRecDepth 100000 in
set_option maxHeartbeats 4000000 in
theorem c8_isPair {g : GT} {l : Launch} (hg : OkG g) (hN : 75 ≤ g.N) {a1 : Int32} {σ : St} {r : Int32} {σ' : St} (h : S8_isPair a1 σ = some (r, σ')) : CtI g l m8_isPair yX8_isPair [.ref (g.ad (0)), .int (a1)] σ r σ' := CtI.of hg (by decide) rfl rfl (fun X h1 h2 h3 => v8_isPair h1 hN (res := (r, σ')) h3 h)

abbrev m8_isPlan : MI := (cX8_isPlan, RX8, 1, some .boolean, 1)
def S8_isPlan (a0 : Int32) (σ : St) : Option (Int32 × St) := if a0 < 0 then (some ((0 : Int32), σ)) else (if (262143 : Int32) < a0 then (some ((0 : Int32), σ)) else (some ((1 : Int32), σ)))
set_option maxRecDepth 100000 in
set_option maxHeartbeats 4000000 in
theorem v8_isPlan {g : GT} {X : XT} {a0 : Int32} (hX : OkX g X (m8_isPlan)) (hN : 75 ≤ g.N) {res : Int32 × St} (hQ : X.Q = QI g X res.1 res.2 ∧ X.cells = 0 ∧ X.slots = 0) {σ : St} (h : S8_isPlan a0 σ = some res) : V g X (m8_isPlan) 0 [(0, .int (a0))] [] σ := by
  unfold S8_isPlan at h
  refine V_iload_n (q := 1) hX dX8_isPlan_0 0 rfl rfl ?_
  refine V_if_lt (q := 4) (t := 15) hX dX8_isPlan_1 (by decide) rfl (fun z3 => ?_) (fun z3 => ?_)
  · have h := ite_t z3 h
    refine V_iconst (v := 0) (q := 16) hX dX8_isPlan_15 (by decide) rfl ?_
    obtain ⟨f1, f2⟩ := some2 h
    rw [f1, f2] at hQ
    exact V_zret (ty := .boolean) hX hQ rfl rfl dX8_isPlan_16
  have h := ite_f z3 h
  refine V_iload_n (q := 5) hX dX8_isPlan_4 0 rfl rfl ?_
  refine V_ldcw (v := 262143) (q := 8) hX k3_81 dX8_isPlan_5 rfl ?_
  refine V_icmp_gt (q := 11) (t := 15) hX dX8_isPlan_8 (by decide) rfl (fun z4 => ?_) (fun z4 => ?_)
  · have h := ite_t z4 h
    refine V_iconst (v := 0) (q := 16) hX dX8_isPlan_15 (by decide) rfl ?_
    obtain ⟨f1, f2⟩ := some2 h
    rw [f1, f2] at hQ
    exact V_zret (ty := .boolean) hX hQ rfl rfl dX8_isPlan_16
  have h := ite_f z4 h
  refine V_iconst (v := 1) (q := 12) hX dX8_isPlan_11 (by decide) rfl ?_
  refine V_goto hX dX8_isPlan_12 (q := 16) (by decide) ?_
  obtain ⟨f1, f2⟩ := some2 h
  rw [f1, f2] at hQ
  exact V_zret (ty := .boolean) hX hQ rfl rfl dX8_isPlan_16
set_option maxRecDepth 100000 in
set_option maxHeartbeats 4000000 in
theorem c8_isPlan {g : GT} {l : Launch} (hg : OkG g) (hN : 75 ≤ g.N) {a0 : Int32} {σ : St} {r : Int32} {σ' : St} (h : S8_isPlan a0 σ = some (r, σ')) : CtI g l m8_isPlan yX8_isPlan [.int (a0)] σ r σ' := CtI.of hg (by decide) rfl rfl (fun X h1 h2 h3 => v8_isPlan h1 hN (res := (r, σ')) h3 h)

abbrev m8_arePlans : MI := (cX8_arePlans, RX8, 2, some .boolean, 2)
def S8_arePlans (a0 : Int32) (a1 : Int32) (σ : St) : Option (Int32 × St) := bnd (S8_isPlan a0 σ) fun r10 σ9 => if r10 = 0 then (some ((0 : Int32), σ9)) else (bnd (S8_isPlan a1 σ9) fun r14 σ13 => if r14 = 0 then (some ((0 : Int32), σ13)) else (some ((1 : Int32), σ13)))
set_option maxRecDepth 100000 in
set_option maxHeartbeats 4000000 in
theorem v8_arePlans {g : GT} {X : XT} {a0 : Int32} {a1 : Int32} (hX : OkX g X (m8_arePlans)) (hN : 75 ≤ g.N) {res : Int32 × St} (hQ : X.Q = QI g X res.1 res.2 ∧ X.cells = 0 ∧ X.slots = 0) {σ : St} (h : S8_arePlans a0 a1 σ = some res) : V g X (m8_arePlans) 0 [(0, .int (a0)), (1, .int (a1))] [] σ := by
  unfold S8_arePlans at h
  refine V_iload_n (q := 1) hX dX8_arePlans_0 0 rfl rfl ?_
  obtain ⟨r10, σ9, e11, h⟩ := bnd_some h
  refine V_csI (As := [.int (a0)]) (q := 4) hX (c8_isPlan hX.2.2.2.2.1 hN e11) (goodS_of k3_78 k3_79 k1_1 (cons_g k3_80)) (nA := 1) (by decide) rfl rfl rfl rfl rfl dX8_arePlans_1 rfl ?_
  refine V_if_eq (q := 7) (t := 18) hX dX8_arePlans_4 (by decide) rfl (fun z12 => ?_) (fun z12 => ?_)
  · have h := ite_t z12 h
    refine V_iconst (v := 0) (q := 19) hX dX8_arePlans_18 (by decide) rfl ?_
    obtain ⟨f1, f2⟩ := some2 h
    rw [f1, f2] at hQ
    exact V_zret (ty := .boolean) hX hQ rfl rfl dX8_arePlans_19
  have h := ite_f z12 h
  refine V_iload_n (q := 8) hX dX8_arePlans_7 1 rfl rfl ?_
  obtain ⟨r14, σ13, e15, h⟩ := bnd_some h
  refine V_csI (As := [.int (a1)]) (q := 11) hX (c8_isPlan hX.2.2.2.2.1 hN e15) (goodS_of k3_78 k3_79 k1_1 (cons_g k3_80)) (nA := 1) (by decide) rfl rfl rfl rfl rfl dX8_arePlans_8 rfl ?_
  refine V_if_eq (q := 14) (t := 18) hX dX8_arePlans_11 (by decide) rfl (fun z16 => ?_) (fun z16 => ?_)
  · have h := ite_t z16 h
    refine V_iconst (v := 0) (q := 19) hX dX8_arePlans_18 (by decide) rfl ?_
    obtain ⟨f1, f2⟩ := some2 h
    rw [f1, f2] at hQ
    exact V_zret (ty := .boolean) hX hQ rfl rfl dX8_arePlans_19
  have h := ite_f z16 h
  refine V_iconst (v := 1) (q := 15) hX dX8_arePlans_14 (by decide) rfl ?_
  refine V_goto hX dX8_arePlans_15 (q := 19) (by decide) ?_
  obtain ⟨f1, f2⟩ := some2 h
  rw [f1, f2] at hQ
  exact V_zret (ty := .boolean) hX hQ rfl rfl dX8_arePlans_19
set_option maxRecDepth 100000 in
set_option maxHeartbeats 4000000 in
theorem c8_arePlans {g : GT} {l : Launch} (hg : OkG g) (hN : 75 ≤ g.N) {a0 : Int32} {a1 : Int32} {σ : St} {r : Int32} {σ' : St} (h : S8_arePlans a0 a1 σ = some (r, σ')) : CtI g l m8_arePlans yX8_arePlans [.int (a0), .int (a1)] σ r σ' := CtI.of hg (by decide) rfl rfl (fun X h1 h2 h3 => v8_arePlans h1 hN (res := (r, σ')) h3 h)

abbrev m8_theOne : MI := (cX8_theOne, RX8, 2, some (.object "RingOfStraw$Wrestler"), 2)
def S8_theOne (a1 : Int32) (σ : St) : Option (Nat × St) := bnd (S5_at 1 (a1 / (10 : Int32)) σ) fun r5 σ4 => some (r5, σ4)
set_option maxRecDepth 100000 in
set_option maxHeartbeats 4000000 in
theorem v8_theOne {g : GT} {X : XT} {a1 : Int32} (hX : OkX g X (m8_theOne)) (hN : 75 ≤ g.N) {res : Nat × St} (hQ : X.Q = QR g X res.1 res.2 ∧ X.cells = 0 ∧ X.slots = 0) {σ : St} (h : S8_theOne a1 σ = some res) : V g X (m8_theOne) 0 [(0, .ref (g.ad (0))), (1, .int (a1))] [] σ := by
  unfold S8_theOne at h
  refine V_aload_n (q := 1) hX dX8_theOne_0 0 rfl rfl ?_
  refine V_getF (r := 1) (n := 75) (c := 8) (k := 0) (nf := 11) (C := RX8) (T := TX8) (q := 4) hX rfl rfl iG8 k2_175 rfl rfl ⟨rfl, by decide⟩ hN rfl rfl rfl rfl dX8_theOne_1 rfl ?_
  refine V_iload_n (q := 5) hX dX8_theOne_4 1 rfl rfl ?_
  refine V_bipush (v := 10) (q := 7) hX dX8_theOne_5 (by decide) rfl ?_
  refine V_idiv (q := 8) hX (by decide) dX8_theOne_7 rfl ?_
  obtain ⟨r5, σ4, e6, h⟩ := bnd_some h
  refine V_cvR (n := 75) (c := 5) (nf := 4) (C := RX5) (T := TX5) (As := [.int ((a1 / (10 : Int32)))]) (q := 11) hX (c5_at hX.2.2.2.2.1 hN ⟨rfl, by decide⟩ e6) (goodV_of k3_5 k3_6 k3_7 k1_2 (cons_g k3_8)) (nA := 1) (by decide) rfl rfl rfl rfl rfl ⟨rfl, by decide⟩ hN rfl rfl rfl dX8_theOne_8 rfl ?_
  obtain ⟨f1, f2⟩ := some2 h
  rw [f1, f2] at hQ
  exact V_aret (C := RX7) hX hQ rfl dX8_theOne_11
set_option maxRecDepth 100000 in
set_option maxHeartbeats 4000000 in
theorem c8_theOne {g : GT} {l : Launch} (hg : OkG g) (hN : 75 ≤ g.N) {a1 : Int32} {σ : St} {r : Nat} {σ' : St} (h : S8_theOne a1 σ = some (r, σ')) : CtR g l m8_theOne yX8_theOne [.ref (g.ad (0)), .int (a1)] σ r σ' := CtR.of hg (by decide) rfl rfl (fun X h1 h2 h3 => v8_theOne h1 hN (res := (r, σ')) h3 h)
theorem sh8_theOne {a1 : Int32} {σ σ' : St} {r : Nat} (h : S8_theOne a1 σ = some (r, σ')) : Ob 75 7 r := by
  unfold S8_theOne at h
  obtain ⟨r1, σ1, e1, h⟩ := bnd_some h
  obtain ⟨e, -⟩ := some2 h
  have e : r = r1 := e
  rw [e]
  exact sh5_at ⟨rfl, by decide⟩ e1

abbrev m8_theOther : MI := (cX8_theOther, RX8, 2, some (.object "RingOfStraw$Wrestler"), 2)
def S8_theOther (a1 : Int32) (σ : St) : Option (Nat × St) := bnd (S5_at 1 (jrem a1 (10 : Int32)) σ) fun r5 σ4 => some (r5, σ4)
set_option maxRecDepth 100000 in
set_option maxHeartbeats 4000000 in
theorem v8_theOther {g : GT} {X : XT} {a1 : Int32} (hX : OkX g X (m8_theOther)) (hN : 75 ≤ g.N) {res : Nat × St} (hQ : X.Q = QR g X res.1 res.2 ∧ X.cells = 0 ∧ X.slots = 0) {σ : St} (h : S8_theOther a1 σ = some res) : V g X (m8_theOther) 0 [(0, .ref (g.ad (0))), (1, .int (a1))] [] σ := by
  unfold S8_theOther at h
  refine V_aload_n (q := 1) hX dX8_theOther_0 0 rfl rfl ?_
  refine V_getF (r := 1) (n := 75) (c := 8) (k := 0) (nf := 11) (C := RX8) (T := TX8) (q := 4) hX rfl rfl iG8 k2_175 rfl rfl ⟨rfl, by decide⟩ hN rfl rfl rfl rfl dX8_theOther_1 rfl ?_
  refine V_iload_n (q := 5) hX dX8_theOther_4 1 rfl rfl ?_
  refine V_bipush (v := 10) (q := 7) hX dX8_theOther_5 (by decide) rfl ?_
  refine V_irem (q := 8) hX (by decide) dX8_theOther_7 rfl ?_
  obtain ⟨r5, σ4, e6, h⟩ := bnd_some h
  refine V_cvR (n := 75) (c := 5) (nf := 4) (C := RX5) (T := TX5) (As := [.int ((jrem a1 (10 : Int32)))]) (q := 11) hX (c5_at hX.2.2.2.2.1 hN ⟨rfl, by decide⟩ e6) (goodV_of k3_5 k3_6 k3_7 k1_2 (cons_g k3_8)) (nA := 1) (by decide) rfl rfl rfl rfl rfl ⟨rfl, by decide⟩ hN rfl rfl rfl dX8_theOther_8 rfl ?_
  obtain ⟨f1, f2⟩ := some2 h
  rw [f1, f2] at hQ
  exact V_aret (C := RX7) hX hQ rfl dX8_theOther_11
set_option maxRecDepth 100000 in
set_option maxHeartbeats 4000000 in
theorem c8_theOther {g : GT} {l : Launch} (hg : OkG g) (hN : 75 ≤ g.N) {a1 : Int32} {σ : St} {r : Nat} {σ' : St} (h : S8_theOther a1 σ = some (r, σ')) : CtR g l m8_theOther yX8_theOther [.ref (g.ad (0)), .int (a1)] σ r σ' := CtR.of hg (by decide) rfl rfl (fun X h1 h2 h3 => v8_theOther h1 hN (res := (r, σ')) h3 h)
theorem sh8_theOther {a1 : Int32} {σ σ' : St} {r : Nat} (h : S8_theOther a1 σ = some (r, σ')) : Ob 75 7 r := by
  unfold S8_theOther at h
  obtain ⟨r1, σ1, e1, h⟩ := bnd_some h
  obtain ⟨e, -⟩ := some2 h
  have e : r = r1 := e
  rw [e]
  exact sh5_at ⟨rfl, by decide⟩ e1

abbrev m8_winnerOf : MI := (cX8_winnerOf, RX8, 3, some .int, 1)
def S8_winnerOf (a1 : Int32) (a2 : Int32) (σ : St) : Option (Int32 × St) := if (gI σ 35 5) = 0 then (some ((-1 : Int32), σ)) else (if (gI σ 35 5) ≤ 0 then (some (a2, σ)) else (some (a1, σ)))
set_option maxRecDepth 100000 in
set_option maxHeartbeats 4000000 in
theorem v8_winnerOf {g : GT} {X : XT} {a1 : Int32} {a2 : Int32} (hX : OkX g X (m8_winnerOf)) (hN : 75 ≤ g.N) {res : Int32 × St} (hQ : X.Q = QI g X res.1 res.2 ∧ X.cells = 0 ∧ X.slots = 0) {σ : St} (h : S8_winnerOf a1 a2 σ = some res) : V g X (m8_winnerOf) 0 [(0, .ref (g.ad (0))), (1, .int (a1)), (2, .int (a2))] [] σ := by
  unfold S8_winnerOf at h
  refine V_aload_n (q := 1) hX dX8_winnerOf_0 0 rfl rfl ?_
  refine V_getF (r := 35) (n := 75) (c := 8) (k := 8) (nf := 11) (C := RX8) (T := TX8) (q := 4) hX rfl rfl iG8 k2_183 rfl rfl ⟨rfl, by decide⟩ hN rfl rfl rfl rfl dX8_winnerOf_1 rfl ?_
  refine V_getI (n := 75) (c := 0) (k := 5) (nf := 6) (C := RX0) (T := TX0) (q := 7) hX rfl rfl iG0 k1_192 rfl rfl ⟨rfl, by decide⟩ hN rfl rfl dX8_winnerOf_4 rfl ?_
  refine V_if_ne (q := 10) (t := 12) hX dX8_winnerOf_7 (by decide) rfl (fun z3 => ?_) (fun z3 => ?_)
  · have h := ite_f z3 h
    refine V_aload_n (q := 13) hX dX8_winnerOf_12 0 rfl rfl ?_
    refine V_getF (r := 35) (n := 75) (c := 8) (k := 8) (nf := 11) (C := RX8) (T := TX8) (q := 16) hX rfl rfl iG8 k2_183 rfl rfl ⟨rfl, by decide⟩ hN rfl rfl rfl rfl dX8_winnerOf_13 rfl ?_
    refine V_getI (n := 75) (c := 0) (k := 5) (nf := 6) (C := RX0) (T := TX0) (q := 19) hX rfl rfl iG0 k1_192 rfl rfl ⟨rfl, by decide⟩ hN rfl rfl dX8_winnerOf_16 rfl ?_
    refine V_if_le (q := 22) (t := 26) hX dX8_winnerOf_19 (by decide) rfl (fun z4 => ?_) (fun z4 => ?_)
    · have h := ite_t z4 h
      refine V_iload_n (q := 27) hX dX8_winnerOf_26 2 rfl rfl ?_
      obtain ⟨f1, f2⟩ := some2 h
      rw [f1, f2] at hQ
      exact V_iret hX hQ rfl dX8_winnerOf_27
    have h := ite_f z4 h
    refine V_iload_n (q := 23) hX dX8_winnerOf_22 1 rfl rfl ?_
    refine V_goto hX dX8_winnerOf_23 (q := 27) (by decide) ?_
    obtain ⟨f1, f2⟩ := some2 h
    rw [f1, f2] at hQ
    exact V_iret hX hQ rfl dX8_winnerOf_27
  have h := ite_t z3 h
  refine V_iconst (v := -1) (q := 11) hX dX8_winnerOf_10 (by decide) rfl ?_
  obtain ⟨f1, f2⟩ := some2 h
  rw [f1, f2] at hQ
  exact V_iret hX hQ rfl dX8_winnerOf_11
set_option maxRecDepth 100000 in
set_option maxHeartbeats 4000000 in
theorem c8_winnerOf {g : GT} {l : Launch} (hg : OkG g) (hN : 75 ≤ g.N) {a1 : Int32} {a2 : Int32} {σ : St} {r : Int32} {σ' : St} (h : S8_winnerOf a1 a2 σ = some (r, σ')) : CtI g l m8_winnerOf yX8_winnerOf [.ref (g.ad (0)), .int (a1), .int (a2)] σ r σ' := CtI.of hg (by decide) rfl rfl (fun X h1 h2 h3 => v8_winnerOf h1 hN (res := (r, σ')) h3 h)

abbrev m8_bout : MI := (cX8_bout, RX8, 6, some .int, 5)
def S8_bout_59 (a1 : Int32) (a2 : Int32) (a3 : Int32) (a4 : Int32) (x5 : Int32) (σ : St) : Option (Int32 × St) := bnd (S8_theOne a1 σ) fun r74 σ73 => bnd (S8_theOther a1 σ73) fun r77 σ76 => bnd (S8_theLaw σ76) fun r80 σ79 => bnd (S0_pair r74 r77 r80 σ79) fun r83 σ82 => bnd (S0_goThrough a2 a3 σ82) fun r86 σ85 => if x5 = 0 then (if a4 = 0 then (bnd (S8_winnerOf (a1 / (10 : Int32)) (jrem a1 (10 : Int32)) σ85) fun r91 σ90 => some (r91, σ90)) else (some ((gI σ85 35 4), σ85))) else (bnd (S0_cellBehind (a4 - (10 : Int32)) σ85) fun r94 σ93 => some (r94, σ93))
def S8_bout_30 (a1 : Int32) (a2 : Int32) (a3 : Int32) (a4 : Int32) (s0 : Int32) (σ : St) : Option (Int32 × St) := bnd (S8_arePlans a2 a3 σ) fun r97 σ96 => if r97 = 0 then (some ((-7 : Int32), σ96)) else (if a4 = 0 then (S8_bout_59 a1 a2 a3 a4 s0 σ96) else (if a4 = (1 : Int32) then (S8_bout_59 a1 a2 a3 a4 s0 σ96) else (if s0 = 0 then (some ((-7 : Int32), σ96)) else (S8_bout_59 a1 a2 a3 a4 s0 σ96))))
def S8_bout_29 (a1 : Int32) (a2 : Int32) (a3 : Int32) (a4 : Int32) (σ : St) : Option (Int32 × St) := S8_bout_30 a1 a2 a3 a4 (0 : Int32) σ
def S8_bout (a1 : Int32) (a2 : Int32) (a3 : Int32) (a4 : Int32) (σ : St) : Option (Int32 × St) := bnd (S8_isPair a1 σ) fun r104 σ103 => if r104 = 0 then (some ((-5 : Int32), σ103)) else (if a4 < (10 : Int32) then (S8_bout_29 a1 a2 a3 a4 σ103) else (if (19 : Int32) < a4 then (S8_bout_29 a1 a2 a3 a4 σ103) else (S8_bout_30 a1 a2 a3 a4 (1 : Int32) σ103)))
set_option maxRecDepth 100000 in
set_option maxHeartbeats 4000000 in
theorem v8_bout_59 {g : GT} {X : XT} {a1 : Int32} {a2 : Int32} {a3 : Int32} {a4 : Int32} (hX : OkX g X (m8_bout)) (hN : 75 ≤ g.N) {res : Int32 × St} (hQ : X.Q = QI g X res.1 res.2 ∧ X.cells = 0 ∧ X.slots = 0)   (x5 : Int32) (σ : St)  (h : S8_bout_59 a1 a2 a3 a4 x5 σ = some res) : V g X (m8_bout) 59 [(0, .ref (g.ad (0))), (1, .int (a1)), (2, .int (a2)), (3, .int (a3)), (4, .int (a4)), (5, .int (x5))] [] σ := by
  unfold S8_bout_59 at h
  refine V_aload_n (q := 60) hX dX8_bout_59 0 rfl rfl ?_
  refine V_getF (r := 35) (n := 75) (c := 8) (k := 8) (nf := 11) (C := RX8) (T := TX8) (q := 63) hX rfl rfl iG8 k2_183 rfl rfl ⟨rfl, by decide⟩ hN rfl rfl rfl rfl dX8_bout_60 rfl ?_
  refine V_aload_n (q := 64) hX dX8_bout_63 0 rfl rfl ?_
  refine V_iload_n (q := 65) hX dX8_bout_64 1 rfl rfl ?_
  obtain ⟨r74, σ73, e75, h⟩ := bnd_some h
  refine V_cvR (n := 75) (c := 8) (nf := 11) (C := RX8) (T := TX8) (As := [.int (a1)]) (q := 68) hX (c8_theOne hX.2.2.2.2.1 hN e75) (goodV_of k3_82 k3_84 kp_16 k1_1 (cons_g k3_85)) (nA := 1) (by decide) rfl rfl rfl rfl rfl ⟨rfl, by decide⟩ hN rfl rfl rfl dX8_bout_65 rfl ?_
  refine V_aload_n (q := 69) hX dX8_bout_68 0 rfl rfl ?_
  refine V_iload_n (q := 70) hX dX8_bout_69 1 rfl rfl ?_
  obtain ⟨r77, σ76, e78, h⟩ := bnd_some h
  refine V_cvR (n := 75) (c := 8) (nf := 11) (C := RX8) (T := TX8) (As := [.int (a1)]) (q := 73) hX (c8_theOther hX.2.2.2.2.1 hN e78) (goodV_of k3_86 k3_88 kp_17 k1_1 (cons_g k3_89)) (nA := 1) (by decide) rfl rfl rfl rfl rfl ⟨rfl, by decide⟩ hN rfl rfl rfl dX8_bout_70 rfl ?_
  refine V_aload_n (q := 74) hX dX8_bout_73 0 rfl rfl ?_
  obtain ⟨r80, σ79, e81, h⟩ := bnd_some h
  refine V_cvR (n := 75) (c := 8) (nf := 11) (C := RX8) (T := TX8) (As := []) (q := 77) hX (c8_theLaw hX.2.2.2.2.1 hN e81) (goodV_of k3_1 k3_3 kp_13 k1_1 (cons_g k3_4)) (nA := 0) (by decide) rfl rfl rfl rfl rfl ⟨rfl, by decide⟩ hN rfl rfl rfl dX8_bout_74 rfl ?_
  obtain ⟨r83, σ82, e84, h⟩ := bnd_some h
  refine V_cvV (n := 75) (c := 0) (nf := 6) (C := RX0) (T := TX0) (As := [.ref (g.ad (r74)), .ref (g.ad (r77)), .ref (g.ad (r80))]) (q := 80) hX (c0_pair hX.2.2.2.2.1 hN (sh8_theOne e75) (sh8_theOther e78) (sh8_theLaw e81) e84) (goodV_of k3_90 k3_91 k3_92 k1_7 (cons_g k3_93)) (nA := 3) (by decide) rfl rfl rfl rfl rfl ⟨rfl, by decide⟩ hN rfl rfl rfl dX8_bout_77 rfl ?_
  refine V_aload_n (q := 81) hX dX8_bout_80 0 rfl rfl ?_
  refine V_getF (r := 35) (n := 75) (c := 8) (k := 8) (nf := 11) (C := RX8) (T := TX8) (q := 84) hX rfl rfl iG8 k2_183 rfl rfl ⟨rfl, by decide⟩ hN rfl rfl rfl rfl dX8_bout_81 rfl ?_
  refine V_iload_n (q := 85) hX dX8_bout_84 2 rfl rfl ?_
  refine V_iload_n (q := 86) hX dX8_bout_85 3 rfl rfl ?_
  obtain ⟨r86, σ85, e87, h⟩ := bnd_some h
  refine V_cvV (n := 75) (c := 0) (nf := 6) (C := RX0) (T := TX0) (As := [.int (a2), .int (a3)]) (q := 89) hX (c0_goThrough hX.2.2.2.2.1 hN e87) (goodV_of k3_117 k3_118 k3_119 k1_7 (cons_g k3_120)) (nA := 2) (by decide) rfl rfl rfl rfl rfl ⟨rfl, by decide⟩ hN rfl rfl rfl dX8_bout_86 rfl ?_
  refine V_iload (q := 91) hX dX8_bout_89 5 rfl rfl ?_
  refine V_if_eq (q := 94) (t := 107) hX dX8_bout_91 (by decide) rfl (fun z88 => ?_) (fun z88 => ?_)
  · have h := ite_t z88 h
    refine V_iload (q := 109) hX dX8_bout_107 4 rfl rfl ?_
    refine V_if_ne (q := 112) (t := 127) hX dX8_bout_109 (by decide) rfl (fun z89 => ?_) (fun z89 => ?_)
    · have h := ite_f z89 h
      refine V_aload_n (q := 128) hX dX8_bout_127 0 rfl rfl ?_
      refine V_getF (r := 35) (n := 75) (c := 8) (k := 8) (nf := 11) (C := RX8) (T := TX8) (q := 131) hX rfl rfl iG8 k2_183 rfl rfl ⟨rfl, by decide⟩ hN rfl rfl rfl rfl dX8_bout_128 rfl ?_
      refine V_getI (n := 75) (c := 0) (k := 4) (nf := 6) (C := RX0) (T := TX0) (q := 134) hX rfl rfl iG0 k1_190 rfl rfl ⟨rfl, by decide⟩ hN rfl rfl dX8_bout_131 rfl ?_
      obtain ⟨f1, f2⟩ := some2 h
      rw [f1, f2] at hQ
      exact V_iret hX hQ rfl dX8_bout_134
    have h := ite_t z89 h
    refine V_aload_n (q := 113) hX dX8_bout_112 0 rfl rfl ?_
    refine V_iload_n (q := 114) hX dX8_bout_113 1 rfl rfl ?_
    refine V_bipush (v := 10) (q := 116) hX dX8_bout_114 (by decide) rfl ?_
    refine V_idiv (q := 117) hX (by decide) dX8_bout_116 rfl ?_
    refine V_iload_n (q := 118) hX dX8_bout_117 1 rfl rfl ?_
    refine V_bipush (v := 10) (q := 120) hX dX8_bout_118 (by decide) rfl ?_
    refine V_irem (q := 121) hX (by decide) dX8_bout_120 rfl ?_
    obtain ⟨r91, σ90, e92, h⟩ := bnd_some h
    refine V_cvI (n := 75) (c := 8) (nf := 11) (C := RX8) (T := TX8) (As := [.int ((a1 / (10 : Int32))), .int ((jrem a1 (10 : Int32)))]) (q := 124) hX (c8_winnerOf hX.2.2.2.2.1 hN e92) (goodV_of k3_159 k3_161 kp_20 k1_1 (cons_g k3_162)) (nA := 2) (by decide) rfl rfl rfl rfl rfl ⟨rfl, by decide⟩ hN rfl rfl rfl dX8_bout_121 rfl ?_
    refine V_goto hX dX8_bout_124 (q := 134) (by decide) ?_
    obtain ⟨f1, f2⟩ := some2 h
    rw [f1, f2] at hQ
    exact V_iret hX hQ rfl dX8_bout_134
  have h := ite_f z88 h
  refine V_aload_n (q := 95) hX dX8_bout_94 0 rfl rfl ?_
  refine V_getF (r := 35) (n := 75) (c := 8) (k := 8) (nf := 11) (C := RX8) (T := TX8) (q := 98) hX rfl rfl iG8 k2_183 rfl rfl ⟨rfl, by decide⟩ hN rfl rfl rfl rfl dX8_bout_95 rfl ?_
  refine V_iload (q := 100) hX dX8_bout_98 4 rfl rfl ?_
  refine V_bipush (v := 10) (q := 102) hX dX8_bout_100 (by decide) rfl ?_
  refine V_isub (q := 103) hX dX8_bout_102 rfl ?_
  obtain ⟨r94, σ93, e95, h⟩ := bnd_some h
  refine V_cvI (n := 75) (c := 0) (nf := 6) (C := RX0) (T := TX0) (As := [.int ((a4 - (10 : Int32)))]) (q := 106) hX (c0_cellBehind hX.2.2.2.2.1 hN e95) (goodV_of k3_155 k3_156 k3_157 k1_7 (cons_g k3_158)) (nA := 1) (by decide) rfl rfl rfl rfl rfl ⟨rfl, by decide⟩ hN rfl rfl rfl dX8_bout_103 rfl ?_
  obtain ⟨f1, f2⟩ := some2 h
  rw [f1, f2] at hQ
  exact V_iret hX hQ rfl dX8_bout_106
set_option maxRecDepth 100000 in
set_option maxHeartbeats 4000000 in
theorem v8_bout_30 {g : GT} {X : XT} {a1 : Int32} {a2 : Int32} {a3 : Int32} {a4 : Int32} (hX : OkX g X (m8_bout)) (hN : 75 ≤ g.N) {res : Int32 × St} (hQ : X.Q = QI g X res.1 res.2 ∧ X.cells = 0 ∧ X.slots = 0)   (s0 : Int32) (σ : St)  (h : S8_bout_30 a1 a2 a3 a4 s0 σ = some res) : V g X (m8_bout) 30 [(0, .ref (g.ad (0))), (1, .int (a1)), (2, .int (a2)), (3, .int (a3)), (4, .int (a4))] [.int (s0)] σ := by
  unfold S8_bout_30 at h
  refine V_istore (lv' := [(5, .int (s0)), (0, .ref (g.ad (0))), (1, .int (a1)), (2, .int (a2)), (3, .int (a3)), (4, .int (a4))]) (q := 32) hX dX8_bout_30 rfl rfl rfl ?_
  refine V_iload_n (q := 33) hX dX8_bout_32 3 rfl rfl ?_
  refine V_iload_n (q := 34) hX dX8_bout_33 4 rfl rfl ?_
  obtain ⟨r97, σ96, e98, h⟩ := bnd_some h
  refine V_csI (As := [.int (a2), .int (a3)]) (q := 37) hX (c8_arePlans hX.2.2.2.2.1 hN e98) (goodS_of k3_75 k3_76 k1_1 (cons_g k3_77)) (nA := 2) (by decide) rfl rfl rfl rfl rfl dX8_bout_34 rfl ?_
  refine V_if_eq (q := 40) (t := 56) hX dX8_bout_37 (by decide) rfl (fun z99 => ?_) (fun z99 => ?_)
  · have h := ite_t z99 h
    refine V_bipush (v := -7) (q := 58) hX dX8_bout_56 (by decide) rfl ?_
    obtain ⟨f1, f2⟩ := some2 h
    rw [f1, f2] at hQ
    exact V_iret hX hQ rfl dX8_bout_58
  have h := ite_f z99 h
  refine V_iload (q := 42) hX dX8_bout_40 5 rfl rfl ?_
  refine V_if_eq (q := 45) (t := 59) hX dX8_bout_42 (by decide) rfl (fun z100 => ?_) (fun z100 => ?_)
  · have h := ite_t z100 h
    refine V.pick [1, 2, 3, 4, 5, 0] rfl ?_
    exact v8_bout_59 hX hN hQ s0 σ96 h
  have h := ite_f z100 h
  refine V_iload (q := 47) hX dX8_bout_45 5 rfl rfl ?_
  refine V_iconst (v := 1) (q := 48) hX dX8_bout_47 (by decide) rfl ?_
  refine V_icmp_eq (q := 51) (t := 59) hX dX8_bout_48 (by decide) rfl (fun z101 => ?_) (fun z101 => ?_)
  · have h := ite_t z101 h
    refine V.pick [1, 2, 3, 4, 5, 0] rfl ?_
    exact v8_bout_59 hX hN hQ s0 σ96 h
  have h := ite_f z101 h
  refine V_iload (q := 53) hX dX8_bout_51 0 rfl rfl ?_
  refine V_if_ne (q := 56) (t := 59) hX dX8_bout_53 (by decide) rfl (fun z102 => ?_) (fun z102 => ?_)
  · have h := ite_f z102 h
    refine V.pick [1, 2, 3, 4, 5, 0] rfl ?_
    exact v8_bout_59 hX hN hQ s0 σ96 h
  have h := ite_t z102 h
  refine V_bipush (v := -7) (q := 58) hX dX8_bout_56 (by decide) rfl ?_
  obtain ⟨f1, f2⟩ := some2 h
  rw [f1, f2] at hQ
  exact V_iret hX hQ rfl dX8_bout_58
set_option maxRecDepth 100000 in
set_option maxHeartbeats 4000000 in
theorem v8_bout_29 {g : GT} {X : XT} {a1 : Int32} {a2 : Int32} {a3 : Int32} {a4 : Int32} (hX : OkX g X (m8_bout)) (hN : 75 ≤ g.N) {res : Int32 × St} (hQ : X.Q = QI g X res.1 res.2 ∧ X.cells = 0 ∧ X.slots = 0)    (σ : St)  (h : S8_bout_29 a1 a2 a3 a4 σ = some res) : V g X (m8_bout) 29 [(0, .ref (g.ad (0))), (1, .int (a1)), (2, .int (a2)), (3, .int (a3)), (4, .int (a4))] [] σ := by
  unfold S8_bout_29 at h
  refine V_iconst (v := 0) (q := 30) hX dX8_bout_29 (by decide) rfl ?_
  refine V.pick [0, 1, 2, 3, 4] rfl ?_
  exact v8_bout_30 hX hN hQ (0 : Int32) σ h
set_option maxRecDepth 100000 in
set_option maxHeartbeats 4000000 in
theorem v8_bout {g : GT} {X : XT} {a1 : Int32} {a2 : Int32} {a3 : Int32} {a4 : Int32} (hX : OkX g X (m8_bout)) (hN : 75 ≤ g.N) {res : Int32 × St} (hQ : X.Q = QI g X res.1 res.2 ∧ X.cells = 0 ∧ X.slots = 0) {σ : St} (h : S8_bout a1 a2 a3 a4 σ = some res) : V g X (m8_bout) 0 [(0, .ref (g.ad (0))), (1, .int (a1)), (2, .int (a2)), (3, .int (a3)), (4, .int (a4))] [] σ := by
  unfold S8_bout at h
  refine V_aload_n (q := 1) hX dX8_bout_0 0 rfl rfl ?_
  refine V_iload_n (q := 2) hX dX8_bout_1 1 rfl rfl ?_
  obtain ⟨r104, σ103, e105, h⟩ := bnd_some h
  refine V_cvI (n := 75) (c := 8) (nf := 11) (C := RX8) (T := TX8) (As := [.int (a1)]) (q := 5) hX (c8_isPair hX.2.2.2.2.1 hN e105) (goodV_of k3_67 k3_69 kp_14 k1_1 (cons_g k3_70)) (nA := 1) (by decide) rfl rfl rfl rfl rfl ⟨rfl, by decide⟩ hN rfl rfl rfl dX8_bout_2 rfl ?_
  refine V_if_ne (q := 8) (t := 11) hX dX8_bout_5 (by decide) rfl (fun z106 => ?_) (fun z106 => ?_)
  · have h := ite_f z106 h
    refine V_iload (q := 13) hX dX8_bout_11 4 rfl rfl ?_
    refine V_bipush (v := 10) (q := 15) hX dX8_bout_13 (by decide) rfl ?_
    refine V_icmp_lt (q := 18) (t := 29) hX dX8_bout_15 (by decide) rfl (fun z107 => ?_) (fun z107 => ?_)
    · have h := ite_t z107 h
      refine V.pick [0, 1, 2, 3, 4] rfl ?_
      exact v8_bout_29 hX hN hQ σ103 h
    have h := ite_f z107 h
    refine V_iload (q := 20) hX dX8_bout_18 4 rfl rfl ?_
    refine V_bipush (v := 19) (q := 22) hX dX8_bout_20 (by decide) rfl ?_
    refine V_icmp_gt (q := 25) (t := 29) hX dX8_bout_22 (by decide) rfl (fun z108 => ?_) (fun z108 => ?_)
    · have h := ite_t z108 h
      refine V.pick [0, 1, 2, 3, 4] rfl ?_
      exact v8_bout_29 hX hN hQ σ103 h
    have h := ite_f z108 h
    refine V_iconst (v := 1) (q := 26) hX dX8_bout_25 (by decide) rfl ?_
    refine V_goto hX dX8_bout_26 (q := 30) (by decide) ?_
    refine V.pick [0, 1, 2, 3, 4] rfl ?_
    exact v8_bout_30 hX hN hQ (1 : Int32) σ103 h
  have h := ite_t z106 h
  refine V_bipush (v := -5) (q := 10) hX dX8_bout_8 (by decide) rfl ?_
  obtain ⟨f1, f2⟩ := some2 h
  rw [f1, f2] at hQ
  exact V_iret hX hQ rfl dX8_bout_10
set_option maxRecDepth 100000 in
set_option maxHeartbeats 4000000 in
theorem c8_bout {g : GT} {l : Launch} (hg : OkG g) (hN : 75 ≤ g.N) {a1 : Int32} {a2 : Int32} {a3 : Int32} {a4 : Int32} {σ : St} {r : Int32} {σ' : St} (h : S8_bout a1 a2 a3 a4 σ = some (r, σ')) : CtI g l m8_bout yX8_bout [.ref (g.ad (0)), .int (a1), .int (a2), .int (a3), .int (a4)] σ r σ' := CtI.of hg (by decide) rfl rfl (fun X h1 h2 h3 => v8_bout h1 hN (res := (r, σ')) h3 h)

abbrev m8_clash : MI := (cX8_clash, RX8, 7, none, 5)
def S8_clash_66 (a1 : Nat) (a2 : Nat) (a3 : Int32) (a4 : Int32) (x5 : Nat) (s0 : Nat) (σ : St) : Option (Unit × St) := if (5 : Int32) ≤ (gI (sI (sI σ x5 5 (jmin (999 : Int32) ((gI σ x5 5) + (1 : Int32)))) s0 6 (jmin (999 : Int32) ((gI (sI σ x5 5 (jmin (999 : Int32) ((gI σ x5 5) + (1 : Int32)))) s0 6) + (1 : Int32)))) 35 4) then (some ((), (sI (sI σ x5 5 (jmin (999 : Int32) ((gI σ x5 5) + (1 : Int32)))) s0 6 (jmin (999 : Int32) ((gI (sI σ x5 5 (jmin (999 : Int32) ((gI σ x5 5) + (1 : Int32)))) s0 6) + (1 : Int32)))))) else (some ((), (sI (sI (sI σ x5 5 (jmin (999 : Int32) ((gI σ x5 5) + (1 : Int32)))) s0 6 (jmin (999 : Int32) ((gI (sI σ x5 5 (jmin (999 : Int32) ((gI σ x5 5) + (1 : Int32)))) s0 6) + (1 : Int32)))) s0 4 (jmin (9 : Int32) ((gI (sI (sI σ x5 5 (jmin (999 : Int32) ((gI σ x5 5) + (1 : Int32)))) s0 6 (jmin (999 : Int32) ((gI (sI σ x5 5 (jmin (999 : Int32) ((gI σ x5 5) + (1 : Int32)))) s0 6) + (1 : Int32)))) s0 4) + (1 : Int32))))))
def S8_clash_49 (a1 : Nat) (a2 : Nat) (a3 : Int32) (a4 : Int32) (s0 : Nat) (σ : St) : Option (Unit × St) := if (gI σ 35 5) ≤ 0 then (S8_clash_66 a1 a2 a3 a4 s0 a1 σ) else (S8_clash_66 a1 a2 a3 a4 s0 a2 σ)
def S8_clash (a1 : Nat) (a2 : Nat) (a3 : Int32) (a4 : Int32) (σ : St) : Option (Unit × St) := bnd (S8_theLaw σ) fun r30 σ29 => bnd (S0_pair a1 a2 r30 σ29) fun r33 σ32 => bnd (S0_goThrough a3 a4 σ32) fun r36 σ35 => if (gI σ35 35 5) = 0 then (some ((), σ35)) else (if (gI σ35 35 5) ≤ 0 then (S8_clash_49 a1 a2 a3 a4 a2 σ35) else (S8_clash_49 a1 a2 a3 a4 a1 σ35))
set_option maxRecDepth 100000 in
set_option maxHeartbeats 4000000 in
theorem v8_clash_66 {g : GT} {X : XT} {a1 : Nat} {a2 : Nat} {a3 : Int32} {a4 : Int32} (hX : OkX g X (m8_clash)) (hN : 75 ≤ g.N) {res : Unit × St} (hQ : X.Q = QV g X res.2 ∧ X.cells = 0 ∧ X.slots = 0) (ha1 : Ob 75 7 a1) (ha2 : Ob 75 7 a2)  (x5 : Nat) (s0 : Nat) (σ : St) (hx5 : Ob 75 7 x5) (hs0 : Ob 75 7 s0) (h : S8_clash_66 a1 a2 a3 a4 x5 s0 σ = some res) : V g X (m8_clash) 66 [(0, .ref (g.ad (0))), (5, .ref (g.ad (x5)))] [.ref (g.ad (s0))] σ := by
  unfold S8_clash_66 at h
  refine V_astore (lv' := [(6, .ref (g.ad (s0))), (0, .ref (g.ad (0))), (5, .ref (g.ad (x5)))]) (q := 68) hX dX8_clash_66 rfl rfl rfl ?_
  refine V_aload (q := 70) hX dX8_clash_68 2 rfl rfl ?_
  refine V_sipush (v := 999) (q := 73) hX dX8_clash_70 (by decide) rfl ?_
  refine V_aload (q := 75) hX dX8_clash_73 2 rfl rfl ?_
  refine V_getI (n := 75) (c := 7) (k := 5) (nf := 7) (C := RX7) (T := TX7) (q := 78) hX rfl rfl iG7 k1_52 rfl rfl hx5 hN rfl rfl dX8_clash_75 rfl ?_
  refine V_iconst (v := 1) (q := 79) hX dX8_clash_78 (by decide) rfl ?_
  refine V_iadd (q := 80) hX dX8_clash_79 rfl ?_
  refine V_mmin (q := 83) hX k3_37 k2_91 k1_14 k2_92 rfl dX8_clash_80 rfl ?_
  refine V_putI (n := 75) (c := 7) (k := 5) (nf := 7) (C := RX7) (T := TX7) (q := 86) hX rfl rfl iG7 k1_52 rfl rfl hx5 hN rfl tyX7 tyX7_ok nmX7 rfl rfl (ty := .int) (tyX7_ok 5 (by decide)) rfl rfl dX8_clash_83 rfl ?_
  refine V_aload (q := 88) hX dX8_clash_86 0 rfl rfl ?_
  refine V_sipush (v := 999) (q := 91) hX dX8_clash_88 (by decide) rfl ?_
  refine V_aload (q := 93) hX dX8_clash_91 0 rfl rfl ?_
  refine V_getI (n := 75) (c := 7) (k := 6) (nf := 7) (C := RX7) (T := TX7) (q := 96) hX rfl rfl iG7 k1_54 rfl rfl hs0 hN rfl rfl dX8_clash_93 rfl ?_
  refine V_iconst (v := 1) (q := 97) hX dX8_clash_96 (by decide) rfl ?_
  refine V_iadd (q := 98) hX dX8_clash_97 rfl ?_
  refine V_mmin (q := 101) hX k3_37 k2_91 k1_14 k2_92 rfl dX8_clash_98 rfl ?_
  refine V_putI (n := 75) (c := 7) (k := 6) (nf := 7) (C := RX7) (T := TX7) (q := 104) hX rfl rfl iG7 k1_54 rfl rfl hs0 hN rfl tyX7 tyX7_ok nmX7 rfl rfl (ty := .int) (tyX7_ok 6 (by decide)) rfl rfl dX8_clash_101 rfl ?_
  refine V_aload_n (q := 105) hX dX8_clash_104 1 rfl rfl ?_
  refine V_getF (r := 35) (n := 75) (c := 8) (k := 8) (nf := 11) (C := RX8) (T := TX8) (q := 108) hX rfl rfl iG8 k2_183 rfl rfl ⟨rfl, by decide⟩ hN rfl rfl rfl rfl dX8_clash_105 rfl ?_
  refine V_getI (n := 75) (c := 0) (k := 4) (nf := 6) (C := RX0) (T := TX0) (q := 111) hX rfl rfl iG0 k1_190 rfl rfl ⟨rfl, by decide⟩ hN rfl rfl dX8_clash_108 rfl ?_
  refine V_iconst (v := 5) (q := 112) hX dX8_clash_111 (by decide) rfl ?_
  refine V_icmp_ge (q := 115) (t := 132) hX dX8_clash_112 (by decide) rfl (fun z27 => ?_) (fun z27 => ?_)
  · have h := ite_t z27 h
    obtain ⟨f1, f2⟩ := some2 h
    rw [f2] at hQ
    exact V_vret hX hQ rfl dX8_clash_132
  have h := ite_f z27 h
  refine V_aload (q := 117) hX dX8_clash_115 0 rfl rfl ?_
  refine V_bipush (v := 9) (q := 119) hX dX8_clash_117 (by decide) rfl ?_
  refine V_aload (q := 121) hX dX8_clash_119 0 rfl rfl ?_
  refine V_getI (n := 75) (c := 7) (k := 4) (nf := 7) (C := RX7) (T := TX7) (q := 124) hX rfl rfl iG7 k1_49 rfl rfl hs0 hN rfl rfl dX8_clash_121 rfl ?_
  refine V_iconst (v := 1) (q := 125) hX dX8_clash_124 (by decide) rfl ?_
  refine V_iadd (q := 126) hX dX8_clash_125 rfl ?_
  refine V_mmin (q := 129) hX k3_37 k2_91 k1_14 k2_92 rfl dX8_clash_126 rfl ?_
  refine V_putI (n := 75) (c := 7) (k := 4) (nf := 7) (C := RX7) (T := TX7) (q := 132) hX rfl rfl iG7 k1_49 rfl rfl hs0 hN rfl tyX7 tyX7_ok nmX7 rfl rfl (ty := .int) (tyX7_ok 4 (by decide)) rfl rfl dX8_clash_129 rfl ?_
  obtain ⟨f1, f2⟩ := some2 h
  rw [f2] at hQ
  exact V_vret hX hQ rfl dX8_clash_132
set_option maxRecDepth 100000 in
set_option maxHeartbeats 4000000 in
theorem v8_clash_49 {g : GT} {X : XT} {a1 : Nat} {a2 : Nat} {a3 : Int32} {a4 : Int32} (hX : OkX g X (m8_clash)) (hN : 75 ≤ g.N) {res : Unit × St} (hQ : X.Q = QV g X res.2 ∧ X.cells = 0 ∧ X.slots = 0) (ha1 : Ob 75 7 a1) (ha2 : Ob 75 7 a2)  (s0 : Nat) (σ : St) (hs0 : Ob 75 7 s0) (h : S8_clash_49 a1 a2 a3 a4 s0 σ = some res) : V g X (m8_clash) 49 [(0, .ref (g.ad (0))), (1, .ref (g.ad (a1))), (2, .ref (g.ad (a2)))] [.ref (g.ad (s0))] σ := by
  unfold S8_clash_49 at h
  refine V_astore (lv' := [(5, .ref (g.ad (s0))), (0, .ref (g.ad (0))), (1, .ref (g.ad (a1))), (2, .ref (g.ad (a2)))]) (q := 51) hX dX8_clash_49 rfl rfl rfl ?_
  refine V_aload_n (q := 52) hX dX8_clash_51 1 rfl rfl ?_
  refine V_getF (r := 35) (n := 75) (c := 8) (k := 8) (nf := 11) (C := RX8) (T := TX8) (q := 55) hX rfl rfl iG8 k2_183 rfl rfl ⟨rfl, by decide⟩ hN rfl rfl rfl rfl dX8_clash_52 rfl ?_
  refine V_getI (n := 75) (c := 0) (k := 5) (nf := 6) (C := RX0) (T := TX0) (q := 58) hX rfl rfl iG0 k1_192 rfl rfl ⟨rfl, by decide⟩ hN rfl rfl dX8_clash_55 rfl ?_
  refine V_if_le (q := 61) (t := 65) hX dX8_clash_58 (by decide) rfl (fun z28 => ?_) (fun z28 => ?_)
  · have h := ite_t z28 h
    refine V_aload_n (q := 66) hX dX8_clash_65 2 rfl rfl ?_
    refine V.pick [1, 0] rfl ?_
    exact v8_clash_66 hX hN hQ ha1 ha2 s0 a1 σ hs0 ha1 h
  have h := ite_f z28 h
  refine V_aload_n (q := 62) hX dX8_clash_61 3 rfl rfl ?_
  refine V_goto hX dX8_clash_62 (q := 66) (by decide) ?_
  refine V.pick [1, 0] rfl ?_
  exact v8_clash_66 hX hN hQ ha1 ha2 s0 a2 σ hs0 ha2 h
set_option maxRecDepth 100000 in
set_option maxHeartbeats 4000000 in
theorem v8_clash {g : GT} {X : XT} {a1 : Nat} {a2 : Nat} {a3 : Int32} {a4 : Int32} (hX : OkX g X (m8_clash)) (hN : 75 ≤ g.N) {res : Unit × St} (hQ : X.Q = QV g X res.2 ∧ X.cells = 0 ∧ X.slots = 0) (ha1 : Ob 75 7 a1) (ha2 : Ob 75 7 a2) {σ : St} (h : S8_clash a1 a2 a3 a4 σ = some res) : V g X (m8_clash) 0 [(0, .ref (g.ad (0))), (1, .ref (g.ad (a1))), (2, .ref (g.ad (a2))), (3, .int (a3)), (4, .int (a4))] [] σ := by
  unfold S8_clash at h
  refine V_aload_n (q := 1) hX dX8_clash_0 0 rfl rfl ?_
  refine V_getF (r := 35) (n := 75) (c := 8) (k := 8) (nf := 11) (C := RX8) (T := TX8) (q := 4) hX rfl rfl iG8 k2_183 rfl rfl ⟨rfl, by decide⟩ hN rfl rfl rfl rfl dX8_clash_1 rfl ?_
  refine V_aload_n (q := 5) hX dX8_clash_4 1 rfl rfl ?_
  refine V_aload_n (q := 6) hX dX8_clash_5 2 rfl rfl ?_
  refine V_aload_n (q := 7) hX dX8_clash_6 0 rfl rfl ?_
  obtain ⟨r30, σ29, e31, h⟩ := bnd_some h
  refine V_cvR (n := 75) (c := 8) (nf := 11) (C := RX8) (T := TX8) (As := []) (q := 10) hX (c8_theLaw hX.2.2.2.2.1 hN e31) (goodV_of k3_1 k3_3 kp_13 k1_1 (cons_g k3_4)) (nA := 0) (by decide) rfl rfl rfl rfl rfl ⟨rfl, by decide⟩ hN rfl rfl rfl dX8_clash_7 rfl ?_
  obtain ⟨r33, σ32, e34, h⟩ := bnd_some h
  refine V_cvV (n := 75) (c := 0) (nf := 6) (C := RX0) (T := TX0) (As := [.ref (g.ad (a1)), .ref (g.ad (a2)), .ref (g.ad (r30))]) (q := 13) hX (c0_pair hX.2.2.2.2.1 hN ha1 ha2 (sh8_theLaw e31) e34) (goodV_of k3_90 k3_91 k3_92 k1_7 (cons_g k3_93)) (nA := 3) (by decide) rfl rfl rfl rfl rfl ⟨rfl, by decide⟩ hN rfl rfl rfl dX8_clash_10 rfl ?_
  refine V_aload_n (q := 14) hX dX8_clash_13 0 rfl rfl ?_
  refine V_getF (r := 35) (n := 75) (c := 8) (k := 8) (nf := 11) (C := RX8) (T := TX8) (q := 17) hX rfl rfl iG8 k2_183 rfl rfl ⟨rfl, by decide⟩ hN rfl rfl rfl rfl dX8_clash_14 rfl ?_
  refine V_iload_n (q := 18) hX dX8_clash_17 3 rfl rfl ?_
  refine V_iload (q := 20) hX dX8_clash_18 4 rfl rfl ?_
  obtain ⟨r36, σ35, e37, h⟩ := bnd_some h
  refine V_cvV (n := 75) (c := 0) (nf := 6) (C := RX0) (T := TX0) (As := [.int (a3), .int (a4)]) (q := 23) hX (c0_goThrough hX.2.2.2.2.1 hN e37) (goodV_of k3_117 k3_118 k3_119 k1_7 (cons_g k3_120)) (nA := 2) (by decide) rfl rfl rfl rfl rfl ⟨rfl, by decide⟩ hN rfl rfl rfl dX8_clash_20 rfl ?_
  refine V_aload_n (q := 24) hX dX8_clash_23 0 rfl rfl ?_
  refine V_getF (r := 35) (n := 75) (c := 8) (k := 8) (nf := 11) (C := RX8) (T := TX8) (q := 27) hX rfl rfl iG8 k2_183 rfl rfl ⟨rfl, by decide⟩ hN rfl rfl rfl rfl dX8_clash_24 rfl ?_
  refine V_getI (n := 75) (c := 0) (k := 5) (nf := 6) (C := RX0) (T := TX0) (q := 30) hX rfl rfl iG0 k1_192 rfl rfl ⟨rfl, by decide⟩ hN rfl rfl dX8_clash_27 rfl ?_
  refine V_if_ne (q := 33) (t := 34) hX dX8_clash_30 (by decide) rfl (fun z38 => ?_) (fun z38 => ?_)
  · have h := ite_f z38 h
    refine V_aload_n (q := 35) hX dX8_clash_34 0 rfl rfl ?_
    refine V_getF (r := 35) (n := 75) (c := 8) (k := 8) (nf := 11) (C := RX8) (T := TX8) (q := 38) hX rfl rfl iG8 k2_183 rfl rfl ⟨rfl, by decide⟩ hN rfl rfl rfl rfl dX8_clash_35 rfl ?_
    refine V_getI (n := 75) (c := 0) (k := 5) (nf := 6) (C := RX0) (T := TX0) (q := 41) hX rfl rfl iG0 k1_192 rfl rfl ⟨rfl, by decide⟩ hN rfl rfl dX8_clash_38 rfl ?_
    refine V_if_le (q := 44) (t := 48) hX dX8_clash_41 (by decide) rfl (fun z39 => ?_) (fun z39 => ?_)
    · have h := ite_t z39 h
      refine V_aload_n (q := 49) hX dX8_clash_48 2 rfl rfl ?_
      refine V.pick [0, 1, 2] rfl ?_
      exact v8_clash_49 hX hN hQ ha1 ha2 a2 σ35 ha2 h
    have h := ite_f z39 h
    refine V_aload_n (q := 45) hX dX8_clash_44 1 rfl rfl ?_
    refine V_goto hX dX8_clash_45 (q := 49) (by decide) ?_
    refine V.pick [0, 1, 2] rfl ?_
    exact v8_clash_49 hX hN hQ ha1 ha2 a1 σ35 ha1 h
  have h := ite_t z38 h
  obtain ⟨f1, f2⟩ := some2 h
  rw [f2] at hQ
  exact V_vret hX hQ rfl dX8_clash_33
set_option maxRecDepth 100000 in
set_option maxHeartbeats 4000000 in
theorem c8_clash {g : GT} {l : Launch} (hg : OkG g) (hN : 75 ≤ g.N) {a1 : Nat} {a2 : Nat} {a3 : Int32} {a4 : Int32} (ha1 : Ob 75 7 a1) (ha2 : Ob 75 7 a2) {σ : St} {r : Unit} {σ' : St} (h : S8_clash a1 a2 a3 a4 σ = some (r, σ')) : CtV g l m8_clash yX8_clash [.ref (g.ad (0)), .ref (g.ad (a1)), .ref (g.ad (a2)), .int (a3), .int (a4)] σ σ' := CtV.of hg (by decide) rfl rfl (fun X h1 h2 h3 => v8_clash h1 hN (res := (r, σ')) h3 ha1 ha2 h)

abbrev m8_fight : MI := (cX8_fight, RX8, 5, some .int, 6)
def S8_fight (a1 : Int32) (a2 : Int32) (a3 : Int32) (a4 : Int32) (σ : St) : Option (Int32 × St) := bnd (S8_areTwo a1 a2 σ) fun r22 σ21 => if r22 = 0 then (some ((-5 : Int32), σ21)) else (bnd (S8_arePlans a3 a4 σ21) fun r26 σ25 => if r26 = 0 then (some ((-7 : Int32), σ25)) else (bnd (S5_at 1 a1 σ25) fun r30 σ29 => bnd (S5_at 1 a2 σ29) fun r33 σ32 => bnd (S8_clash r30 r33 a3 a4 σ32) fun r36 σ35 => bnd (S8_winnerOf a1 a2 σ35) fun r39 σ38 => some (r39, σ38)))
set_option maxRecDepth 100000 in
set_option maxHeartbeats 4000000 in
theorem v8_fight {g : GT} {X : XT} {a1 : Int32} {a2 : Int32} {a3 : Int32} {a4 : Int32} (hX : OkX g X (m8_fight)) (hN : 75 ≤ g.N) {res : Int32 × St} (hQ : X.Q = QI g X res.1 res.2 ∧ X.cells = 0 ∧ X.slots = 0) {σ : St} (h : S8_fight a1 a2 a3 a4 σ = some res) : V g X (m8_fight) 0 [(0, .ref (g.ad (0))), (1, .int (a1)), (2, .int (a2)), (3, .int (a3)), (4, .int (a4))] [] σ := by
  unfold S8_fight at h
  refine V_aload_n (q := 1) hX dX8_fight_0 0 rfl rfl ?_
  refine V_iload_n (q := 2) hX dX8_fight_1 1 rfl rfl ?_
  refine V_iload_n (q := 3) hX dX8_fight_2 2 rfl rfl ?_
  obtain ⟨r22, σ21, e23, h⟩ := bnd_some h
  refine V_cvI (n := 75) (c := 8) (nf := 11) (C := RX8) (T := TX8) (As := [.int (a1), .int (a2)]) (q := 6) hX (c8_areTwo hX.2.2.2.2.1 hN e23) (goodV_of k3_71 k3_73 kp_15 k1_1 (cons_g k3_74)) (nA := 2) (by decide) rfl rfl rfl rfl rfl ⟨rfl, by decide⟩ hN rfl rfl rfl dX8_fight_3 rfl ?_
  refine V_if_ne (q := 9) (t := 12) hX dX8_fight_6 (by decide) rfl (fun z24 => ?_) (fun z24 => ?_)
  · have h := ite_f z24 h
    refine V_iload_n (q := 13) hX dX8_fight_12 3 rfl rfl ?_
    refine V_iload (q := 15) hX dX8_fight_13 4 rfl rfl ?_
    obtain ⟨r26, σ25, e27, h⟩ := bnd_some h
    refine V_csI (As := [.int (a3), .int (a4)]) (q := 18) hX (c8_arePlans hX.2.2.2.2.1 hN e27) (goodS_of k3_75 k3_76 k1_1 (cons_g k3_77)) (nA := 2) (by decide) rfl rfl rfl rfl rfl dX8_fight_15 rfl ?_
    refine V_if_ne (q := 21) (t := 24) hX dX8_fight_18 (by decide) rfl (fun z28 => ?_) (fun z28 => ?_)
    · have h := ite_f z28 h
      refine V_aload_n (q := 25) hX dX8_fight_24 0 rfl rfl ?_
      refine V_aload_n (q := 26) hX dX8_fight_25 0 rfl rfl ?_
      refine V_getF (r := 1) (n := 75) (c := 8) (k := 0) (nf := 11) (C := RX8) (T := TX8) (q := 29) hX rfl rfl iG8 k2_175 rfl rfl ⟨rfl, by decide⟩ hN rfl rfl rfl rfl dX8_fight_26 rfl ?_
      refine V_iload_n (q := 30) hX dX8_fight_29 1 rfl rfl ?_
      obtain ⟨r30, σ29, e31, h⟩ := bnd_some h
      refine V_cvR (n := 75) (c := 5) (nf := 4) (C := RX5) (T := TX5) (As := [.int (a1)]) (q := 33) hX (c5_at hX.2.2.2.2.1 hN ⟨rfl, by decide⟩ e31) (goodV_of k3_5 k3_6 k3_7 k1_2 (cons_g k3_8)) (nA := 1) (by decide) rfl rfl rfl rfl rfl ⟨rfl, by decide⟩ hN rfl rfl rfl dX8_fight_30 rfl ?_
      refine V_aload_n (q := 34) hX dX8_fight_33 0 rfl rfl ?_
      refine V_getF (r := 1) (n := 75) (c := 8) (k := 0) (nf := 11) (C := RX8) (T := TX8) (q := 37) hX rfl rfl iG8 k2_175 rfl rfl ⟨rfl, by decide⟩ hN rfl rfl rfl rfl dX8_fight_34 rfl ?_
      refine V_iload_n (q := 38) hX dX8_fight_37 2 rfl rfl ?_
      obtain ⟨r33, σ32, e34, h⟩ := bnd_some h
      refine V_cvR (n := 75) (c := 5) (nf := 4) (C := RX5) (T := TX5) (As := [.int (a2)]) (q := 41) hX (c5_at hX.2.2.2.2.1 hN ⟨rfl, by decide⟩ e34) (goodV_of k3_5 k3_6 k3_7 k1_2 (cons_g k3_8)) (nA := 1) (by decide) rfl rfl rfl rfl rfl ⟨rfl, by decide⟩ hN rfl rfl rfl dX8_fight_38 rfl ?_
      refine V_iload_n (q := 42) hX dX8_fight_41 3 rfl rfl ?_
      refine V_iload (q := 44) hX dX8_fight_42 4 rfl rfl ?_
      obtain ⟨r36, σ35, e37, h⟩ := bnd_some h
      refine V_cvV (n := 75) (c := 8) (nf := 11) (C := RX8) (T := TX8) (As := [.ref (g.ad (r30)), .ref (g.ad (r33)), .int (a3), .int (a4)]) (q := 47) hX (c8_clash hX.2.2.2.2.1 hN (sh5_at ⟨rfl, by decide⟩ e31) (sh5_at ⟨rfl, by decide⟩ e34) e37) (goodV_of k3_167 k3_169 kp_21 k1_1 (cons_g k3_170)) (nA := 4) (by decide) rfl rfl rfl rfl rfl ⟨rfl, by decide⟩ hN rfl rfl rfl dX8_fight_44 rfl ?_
      refine V_aload_n (q := 48) hX dX8_fight_47 0 rfl rfl ?_
      refine V_iload_n (q := 49) hX dX8_fight_48 1 rfl rfl ?_
      refine V_iload_n (q := 50) hX dX8_fight_49 2 rfl rfl ?_
      obtain ⟨r39, σ38, e40, h⟩ := bnd_some h
      refine V_cvI (n := 75) (c := 8) (nf := 11) (C := RX8) (T := TX8) (As := [.int (a1), .int (a2)]) (q := 53) hX (c8_winnerOf hX.2.2.2.2.1 hN e40) (goodV_of k3_159 k3_161 kp_20 k1_1 (cons_g k3_162)) (nA := 2) (by decide) rfl rfl rfl rfl rfl ⟨rfl, by decide⟩ hN rfl rfl rfl dX8_fight_50 rfl ?_
      obtain ⟨f1, f2⟩ := some2 h
      rw [f1, f2] at hQ
      exact V_iret hX hQ rfl dX8_fight_53
    have h := ite_t z28 h
    refine V_bipush (v := -7) (q := 23) hX dX8_fight_21 (by decide) rfl ?_
    obtain ⟨f1, f2⟩ := some2 h
    rw [f1, f2] at hQ
    exact V_iret hX hQ rfl dX8_fight_23
  have h := ite_t z24 h
  refine V_bipush (v := -5) (q := 11) hX dX8_fight_9 (by decide) rfl ?_
  obtain ⟨f1, f2⟩ := some2 h
  rw [f1, f2] at hQ
  exact V_iret hX hQ rfl dX8_fight_11
set_option maxRecDepth 100000 in
set_option maxHeartbeats 4000000 in
theorem c8_fight {g : GT} {l : Launch} (hg : OkG g) (hN : 75 ≤ g.N) {a1 : Int32} {a2 : Int32} {a3 : Int32} {a4 : Int32} {σ : St} {r : Int32} {σ' : St} (h : S8_fight a1 a2 a3 a4 σ = some (r, σ')) : CtI g l m8_fight yX8_fight [.ref (g.ad (0)), .int (a1), .int (a2), .int (a3), .int (a4)] σ r σ' := CtI.of hg (by decide) rfl rfl (fun X h1 h2 h3 => v8_fight h1 hN (res := (r, σ')) h3 h)

abbrev m8_shortPlans : MI := (cX8_shortPlans, RX8, 1, some .int, 1)
def S8_shortPlans (a0 : Int32) (σ : St) : Option (Int32 × St) := some (((1 : Int32) <<< (((2 : Int32) * a0) &&& 31)), σ)
set_option maxRecDepth 100000 in
set_option maxHeartbeats 4000000 in
theorem v8_shortPlans {g : GT} {X : XT} {a0 : Int32} (hX : OkX g X (m8_shortPlans)) (hN : 75 ≤ g.N) {res : Int32 × St} (hQ : X.Q = QI g X res.1 res.2 ∧ X.cells = 0 ∧ X.slots = 0) {σ : St} (h : S8_shortPlans a0 σ = some res) : V g X (m8_shortPlans) 0 [(0, .int (a0))] [] σ := by
  unfold S8_shortPlans at h
  refine V_iconst (v := 1) (q := 1) hX dX8_shortPlans_0 (by decide) rfl ?_
  refine V_iconst (v := 2) (q := 2) hX dX8_shortPlans_1 (by decide) rfl ?_
  refine V_iload_n (q := 3) hX dX8_shortPlans_2 0 rfl rfl ?_
  refine V_imul (q := 4) hX dX8_shortPlans_3 rfl ?_
  refine V_ishl (q := 5) hX dX8_shortPlans_4 rfl ?_
  obtain ⟨f1, f2⟩ := some2 h
  rw [f1, f2] at hQ
  exact V_iret hX hQ rfl dX8_shortPlans_5
set_option maxRecDepth 100000 in
set_option maxHeartbeats 4000000 in
theorem c8_shortPlans {g : GT} {l : Launch} (hg : OkG g) (hN : 75 ≤ g.N) {a0 : Int32} {σ : St} {r : Int32} {σ' : St} (h : S8_shortPlans a0 σ = some (r, σ')) : CtI g l m8_shortPlans yX8_shortPlans [.int (a0)] σ r σ' := CtI.of hg (by decide) rfl rfl (fun X h1 h2 h3 => v8_shortPlans h1 hN (res := (r, σ')) h3 h)

abbrev m8_wholePlan : MI := (cX8_wholePlan, RX8, 4, some .int, 2)
def B8_wholePlan_4 (a0 : Int32) (a1 : Int32) (rec : Int32 → Int32 → St → Option (Int32 × St)) (x2 : Int32) (x3 : Int32) (σ : St) : Option (Int32 × St) := if (9 : Int32) ≤ x3 then (some (x2, σ)) else (bnd (S8_actIn a0 (jmin x3 (a1 - (1 : Int32))) σ) fun r11 σ10 => rec (x2 ||| (r11 <<< (((2 : Int32) * x3) &&& 31))) (x3 + 1) σ10)
def S8_wholePlan_4 (a0 : Int32) (a1 : Int32) : Nat → Int32 → Int32 → St → Option (Int32 × St)
  | 0, _, _, _ => none
  | n + 1, x2, x3, σ => B8_wholePlan_4 a0 a1 (S8_wholePlan_4 a0 a1 n) x2 x3 σ
def S8_wholePlan (a0 : Int32) (a1 : Int32) (σ : St) : Option (Int32 × St) := S8_wholePlan_4 a0 a1 4096 (0 : Int32) (0 : Int32) σ
set_option maxRecDepth 100000 in
set_option maxHeartbeats 4000000 in
theorem v8_wholePlan_4n {g : GT} {X : XT} {a0 : Int32} {a1 : Int32} (hX : OkX g X (m8_wholePlan)) (hN : 75 ≤ g.N) {res : Int32 × St} (hQ : X.Q = QI g X res.1 res.2 ∧ X.cells = 0 ∧ X.slots = 0)   (n : Nat) : ∀ (x2 : Int32) (x3 : Int32) (σ : St) , S8_wholePlan_4 a0 a1 n x2 x3 σ = some res → V g X (m8_wholePlan) 4 [(0, .int (a0)), (1, .int (a1)), (2, .int (x2)), (3, .int (x3))] [] σ := by
  induction n with
  | zero => intro x2 x3 σ; intro h; cases h
  | succ n ih =>
    intro x2 x3 σ h
    have h : B8_wholePlan_4 a0 a1 (S8_wholePlan_4 a0 a1 n) x2 x3 σ = some res := h
    unfold B8_wholePlan_4 at h
    refine V_iload_n (q := 5) hX dX8_wholePlan_4 3 rfl rfl ?_
    refine V_bipush (v := 9) (q := 7) hX dX8_wholePlan_5 (by decide) rfl ?_
    refine V_icmp_ge (q := 10) (t := 34) hX dX8_wholePlan_7 (by decide) rfl (fun z9 => ?_) (fun z9 => ?_)
    · have h := ite_t z9 h
      refine V_iload_n (q := 35) hX dX8_wholePlan_34 2 rfl rfl ?_
      obtain ⟨f1, f2⟩ := some2 h
      rw [f1, f2] at hQ
      exact V_iret hX hQ rfl dX8_wholePlan_35
    have h := ite_f z9 h
    refine V_iload_n (q := 11) hX dX8_wholePlan_10 2 rfl rfl ?_
    refine V_iload_n (q := 12) hX dX8_wholePlan_11 0 rfl rfl ?_
    refine V_iload_n (q := 13) hX dX8_wholePlan_12 3 rfl rfl ?_
    refine V_iload_n (q := 14) hX dX8_wholePlan_13 1 rfl rfl ?_
    refine V_iconst (v := 1) (q := 15) hX dX8_wholePlan_14 (by decide) rfl ?_
    refine V_isub (q := 16) hX dX8_wholePlan_15 rfl ?_
    refine V_mmin (q := 19) hX k3_37 k2_91 k1_14 k2_92 rfl dX8_wholePlan_16 rfl ?_
    obtain ⟨r11, σ10, e12, h⟩ := bnd_some h
    refine V_csI (As := [.int (a0), .int ((jmin x3 (a1 - (1 : Int32))))]) (q := 22) hX (c8_actIn hX.2.2.2.2.1 hN e12) (goodS_of k3_181 k3_126 k1_1 (cons_g k3_127)) (nA := 2) (by decide) rfl rfl rfl rfl rfl dX8_wholePlan_19 rfl ?_
    refine V_iconst (v := 2) (q := 23) hX dX8_wholePlan_22 (by decide) rfl ?_
    refine V_iload_n (q := 24) hX dX8_wholePlan_23 3 rfl rfl ?_
    refine V_imul (q := 25) hX dX8_wholePlan_24 rfl ?_
    refine V_ishl (q := 26) hX dX8_wholePlan_25 rfl ?_
    refine V_ior (q := 27) hX dX8_wholePlan_26 rfl ?_
    refine V_istore_n (lv' := [(2, .int ((x2 ||| (r11 <<< (((2 : Int32) * x3) &&& 31))))), (0, .int (a0)), (1, .int (a1)), (3, .int (x3))]) (q := 28) hX dX8_wholePlan_27 rfl rfl rfl ?_
    refine V_iinc (v := (x3 + 1)) (lv' := [(3, .int ((x3 + 1))), (2, .int ((x2 ||| (r11 <<< (((2 : Int32) * x3) &&& 31))))), (0, .int (a0)), (1, .int (a1))]) (q := 31) hX dX8_wholePlan_28 3 rfl (by rfl) rfl rfl rfl ?_
    refine V_goto hX dX8_wholePlan_31 (q := 4) (by decide) ?_
    refine V.pick [2, 3, 1, 0] rfl ?_
    exact ih (x2 ||| (r11 <<< (((2 : Int32) * x3) &&& 31))) (x3 + 1) σ10  h
theorem v8_wholePlan_4 {g : GT} {X : XT} {a0 : Int32} {a1 : Int32} (hX : OkX g X (m8_wholePlan)) (hN : 75 ≤ g.N) {res : Int32 × St} (hQ : X.Q = QI g X res.1 res.2 ∧ X.cells = 0 ∧ X.slots = 0) (x2 : Int32) (x3 : Int32) (σ : St) (h : S8_wholePlan_4 a0 a1 4096 x2 x3 σ = some res) : V g X (m8_wholePlan) 4 [(0, .int (a0)), (1, .int (a1)), (2, .int (x2)), (3, .int (x3))] [] σ := v8_wholePlan_4n hX hN hQ 4096 x2 x3 σ h
set_option maxRecDepth 100000 in
set_option maxHeartbeats 4000000 in
theorem v8_wholePlan {g : GT} {X : XT} {a0 : Int32} {a1 : Int32} (hX : OkX g X (m8_wholePlan)) (hN : 75 ≤ g.N) {res : Int32 × St} (hQ : X.Q = QI g X res.1 res.2 ∧ X.cells = 0 ∧ X.slots = 0) {σ : St} (h : S8_wholePlan a0 a1 σ = some res) : V g X (m8_wholePlan) 0 [(0, .int (a0)), (1, .int (a1))] [] σ := by
  unfold S8_wholePlan at h
  refine V_iconst (v := 0) (q := 1) hX dX8_wholePlan_0 (by decide) rfl ?_
  refine V_istore_n (lv' := [(2, .int ((0 : Int32))), (0, .int (a0)), (1, .int (a1))]) (q := 2) hX dX8_wholePlan_1 rfl rfl rfl ?_
  refine V_iconst (v := 0) (q := 3) hX dX8_wholePlan_2 (by decide) rfl ?_
  refine V_istore_n (lv' := [(3, .int ((0 : Int32))), (2, .int ((0 : Int32))), (0, .int (a0)), (1, .int (a1))]) (q := 4) hX dX8_wholePlan_3 rfl rfl rfl ?_
  refine V.pick [2, 3, 1, 0] rfl ?_
  exact v8_wholePlan_4 hX hN hQ (0 : Int32) (0 : Int32) σ h
set_option maxRecDepth 100000 in
set_option maxHeartbeats 4000000 in
theorem c8_wholePlan {g : GT} {l : Launch} (hg : OkG g) (hN : 75 ≤ g.N) {a0 : Int32} {a1 : Int32} {σ : St} {r : Int32} {σ' : St} (h : S8_wholePlan a0 a1 σ = some (r, σ')) : CtI g l m8_wholePlan yX8_wholePlan [.int (a0), .int (a1)] σ r σ' := CtI.of hg (by decide) rfl rfl (fun X h1 h2 h3 => v8_wholePlan h1 hN (res := (r, σ')) h3 h)
