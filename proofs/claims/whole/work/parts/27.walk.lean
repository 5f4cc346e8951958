abbrev m8_passDays : MI := (cX8_passDays, RX8, 7, none, 6)
def B8_passDays_27 (a1 : Nat) (a2 : Nat) (a3 : Int32) (rec : Int32 → Int32 → Int32 → St → Option (Unit × St)) (k3 : Int32 → St → Option (Unit × St)) (k12 : Int32 → Int32 → St → Option (Unit × St)) (x4 : Int32) (x5 : Int32) (x6 : Int32) (σ : St) : Option (Unit × St) := if (gI σ a1 1) ≤ x6 then (k12 x4 (x5 + 1) σ) else (bnd (S5_at a1 x5 σ) fun r57 σ56 => bnd (S5_at a1 x6 σ56) fun r60 σ59 => bnd (S3_at a2 x5 σ59) fun r63 σ62 => bnd (S3_at a2 x6 σ62) fun r66 σ65 => bnd (S8_clash r57 r60 r63 r66 σ65) fun r69 σ68 => rec x4 x5 (x6 + 1) σ68)
def S8_passDays_27 (a1 : Nat) (a2 : Nat) (a3 : Int32) (k3 : Int32 → St → Option (Unit × St)) (k12 : Int32 → Int32 → St → Option (Unit × St)) : Nat → Int32 → Int32 → Int32 → St → Option (Unit × St)
  | 0, _, _, _, _ => none
  | n + 1, x4, x5, x6, σ => B8_passDays_27 a1 a2 a3 (S8_passDays_27 a1 a2 a3 k3 k12 n) k3 k12 x4 x5 x6 σ
def B8_passDays_12 (a1 : Nat) (a2 : Nat) (a3 : Int32) (rec : Int32 → Int32 → St → Option (Unit × St)) (k3 : Int32 → St → Option (Unit × St)) (x4 : Int32) (x5 : Int32) (σ : St) : Option (Unit × St) := if (gI σ a1 1) ≤ x5 then (k3 (x4 + 1) σ) else (S8_passDays_27 a1 a2 a3 k3 rec 4096 x4 x5 (x5 + (1 : Int32)) σ)
def S8_passDays_12 (a1 : Nat) (a2 : Nat) (a3 : Int32) (k3 : Int32 → St → Option (Unit × St)) : Nat → Int32 → Int32 → St → Option (Unit × St)
  | 0, _, _, _ => none
  | n + 1, x4, x5, σ => B8_passDays_12 a1 a2 a3 (S8_passDays_12 a1 a2 a3 k3 n) k3 x4 x5 σ
def B8_passDays_3 (a1 : Nat) (a2 : Nat) (a3 : Int32) (rec : Int32 → St → Option (Unit × St)) (x4 : Int32) (σ : St) : Option (Unit × St) := if a3 ≤ x4 then (some ((), (sI σ a1 2 ((gI σ a1 2) + a3)))) else (S8_passDays_12 a1 a2 a3 rec 4096 x4 (0 : Int32) σ)
def S8_passDays_3 (a1 : Nat) (a2 : Nat) (a3 : Int32) : Nat → Int32 → St → Option (Unit × St)
  | 0, _, _ => none
  | n + 1, x4, σ => B8_passDays_3 a1 a2 a3 (S8_passDays_3 a1 a2 a3 n) x4 σ
def S8_passDays (a1 : Nat) (a2 : Nat) (a3 : Int32) (σ : St) : Option (Unit × St) := S8_passDays_3 a1 a2 a3 4096 (0 : Int32) σ
set_option maxRecDepth 100000 in
set_option maxHeartbeats 4000000 in
theorem v8_passDays_27n {g : GT} {X : XT} {a1 : Nat} {a2 : Nat} {a3 : Int32} (hX : OkX g X (m8_passDays)) (hN : 75 ≤ g.N) {res : Unit × St} (hQ : X.Q = QV g X res.2 ∧ X.cells = 0 ∧ X.slots = 0) (ha1 : Ob 75 5 a1) (ha2 : Ob 75 3 a2) {k3 : Int32 → St → Option (Unit × St)} (hk3 : ∀ (x4 : Int32) (σ : St), k3 x4 σ = some res → V g X (m8_passDays) 3 [(0, .ref (g.ad (0))), (1, .ref (g.ad (a1))), (2, .ref (g.ad (a2))), (3, .int (a3)), (4, .int (x4))] [] σ) {k12 : Int32 → Int32 → St → Option (Unit × St)} (hk12 : ∀ (x4 : Int32) (x5 : Int32) (σ : St), k12 x4 x5 σ = some res → V g X (m8_passDays) 12 [(0, .ref (g.ad (0))), (1, .ref (g.ad (a1))), (2, .ref (g.ad (a2))), (3, .int (a3)), (4, .int (x4)), (5, .int (x5))] [] σ) (n : Nat) : ∀ (x4 : Int32) (x5 : Int32) (x6 : Int32) (σ : St) , S8_passDays_27 a1 a2 a3 k3 k12 n x4 x5 x6 σ = some res → V g X (m8_passDays) 27 [(0, .ref (g.ad (0))), (1, .ref (g.ad (a1))), (2, .ref (g.ad (a2))), (3, .int (a3)), (4, .int (x4)), (5, .int (x5)), (6, .int (x6))] [] σ := by
  induction n with
  | zero => intro x4 x5 x6 σ; intro h; cases h
  | succ n ih =>
    intro x4 x5 x6 σ h
    have h : B8_passDays_27 a1 a2 a3 (S8_passDays_27 a1 a2 a3 k3 k12 n) k3 k12 x4 x5 x6 σ = some res := h
    unfold B8_passDays_27 at h
    refine V_iload (q := 29) hX dX8_passDays_27 6 rfl rfl ?_
    refine V_aload_n (q := 30) hX dX8_passDays_29 1 rfl rfl ?_
    refine V_getI (n := 75) (c := 5) (k := 1) (nf := 4) (C := RX5) (T := TX5) (q := 33) hX rfl rfl iG5 k1_72 rfl rfl ha1 hN rfl rfl dX8_passDays_30 rfl ?_
    refine V_icmp_ge (q := 36) (t := 70) hX dX8_passDays_33 (by decide) rfl (fun z55 => ?_) (fun z55 => ?_)
    · have h := ite_t z55 h
      refine V_iinc (v := (x5 + 1)) (lv' := [(5, .int ((x5 + 1))), (0, .ref (g.ad (0))), (1, .ref (g.ad (a1))), (2, .ref (g.ad (a2))), (3, .int (a3)), (4, .int (x4)), (6, .int (x6))]) (q := 73) hX dX8_passDays_70 5 rfl (by rfl) rfl rfl rfl ?_
      refine V_goto hX dX8_passDays_73 (q := 12) (by decide) ?_
      refine V.pick [1, 2, 3, 4, 5, 0] rfl ?_
      exact hk12 x4 (x5 + 1) σ  h
    have h := ite_f z55 h
    refine V_aload_n (q := 37) hX dX8_passDays_36 0 rfl rfl ?_
    refine V_aload_n (q := 38) hX dX8_passDays_37 1 rfl rfl ?_
    refine V_iload (q := 40) hX dX8_passDays_38 5 rfl rfl ?_
    obtain ⟨r57, σ56, e58, h⟩ := bnd_some h
    refine V_cvR (n := 75) (c := 5) (nf := 4) (C := RX5) (T := TX5) (As := [.int (x5)]) (q := 43) hX (c5_at hX.2.2.2.2.1 hN ha1 e58) (goodV_of k3_5 k3_6 k3_7 k1_2 (cons_g k3_8)) (nA := 1) (by decide) rfl rfl rfl rfl rfl ha1 hN rfl rfl rfl dX8_passDays_40 rfl ?_
    refine V_aload_n (q := 44) hX dX8_passDays_43 1 rfl rfl ?_
    refine V_iload (q := 46) hX dX8_passDays_44 6 rfl rfl ?_
    obtain ⟨r60, σ59, e61, h⟩ := bnd_some h
    refine V_cvR (n := 75) (c := 5) (nf := 4) (C := RX5) (T := TX5) (As := [.int (x6)]) (q := 49) hX (c5_at hX.2.2.2.2.1 hN ha1 e61) (goodV_of k3_5 k3_6 k3_7 k1_2 (cons_g k3_8)) (nA := 1) (by decide) rfl rfl rfl rfl rfl ha1 hN rfl rfl rfl dX8_passDays_46 rfl ?_
    refine V_aload_n (q := 50) hX dX8_passDays_49 2 rfl rfl ?_
    refine V_iload (q := 52) hX dX8_passDays_50 5 rfl rfl ?_
    obtain ⟨r63, σ62, e64, h⟩ := bnd_some h
    refine V_cvI (n := 75) (c := 3) (nf := 3) (C := RX3) (T := TX3) (As := [.int (x5)]) (q := 55) hX (c3_at hX.2.2.2.2.1 hN ha2 e64) (goodV_of k3_235 k3_236 k3_237 k1_9 (cons_g k3_238)) (nA := 1) (by decide) rfl rfl rfl rfl rfl ha2 hN rfl rfl rfl dX8_passDays_52 rfl ?_
    refine V_aload_n (q := 56) hX dX8_passDays_55 2 rfl rfl ?_
    refine V_iload (q := 58) hX dX8_passDays_56 6 rfl rfl ?_
    obtain ⟨r66, σ65, e67, h⟩ := bnd_some h
    refine V_cvI (n := 75) (c := 3) (nf := 3) (C := RX3) (T := TX3) (As := [.int (x6)]) (q := 61) hX (c3_at hX.2.2.2.2.1 hN ha2 e67) (goodV_of k3_235 k3_236 k3_237 k1_9 (cons_g k3_238)) (nA := 1) (by decide) rfl rfl rfl rfl rfl ha2 hN rfl rfl rfl dX8_passDays_58 rfl ?_
    obtain ⟨r69, σ68, e70, h⟩ := bnd_some h
    refine V_cvV (n := 75) (c := 8) (nf := 11) (C := RX8) (T := TX8) (As := [.ref (g.ad (r57)), .ref (g.ad (r60)), .int (r63), .int (r66)]) (q := 64) hX (c8_clash hX.2.2.2.2.1 hN (sh5_at ha1 e58) (sh5_at ha1 e61) e70) (goodV_of k3_167 k3_169 kp_21 k1_1 (cons_g k3_170)) (nA := 4) (by decide) rfl rfl rfl rfl rfl ⟨rfl, by decide⟩ hN rfl rfl rfl dX8_passDays_61 rfl ?_
    refine V_iinc (v := (x6 + 1)) (lv' := [(6, .int ((x6 + 1))), (0, .ref (g.ad (0))), (1, .ref (g.ad (a1))), (2, .ref (g.ad (a2))), (3, .int (a3)), (4, .int (x4)), (5, .int (x5))]) (q := 67) hX dX8_passDays_64 6 rfl (by rfl) rfl rfl rfl ?_
    refine V_goto hX dX8_passDays_67 (q := 27) (by decide) ?_
    refine V.pick [1, 2, 3, 4, 5, 6, 0] rfl ?_
    exact ih x4 x5 (x6 + 1) σ68  h
theorem v8_passDays_27 {g : GT} {X : XT} {a1 : Nat} {a2 : Nat} {a3 : Int32} (hX : OkX g X (m8_passDays)) (hN : 75 ≤ g.N) {res : Unit × St} (hQ : X.Q = QV g X res.2 ∧ X.cells = 0 ∧ X.slots = 0) (ha1 : Ob 75 5 a1) (ha2 : Ob 75 3 a2) {k3 : Int32 → St → Option (Unit × St)} (hk3 : ∀ (x4 : Int32) (σ : St), k3 x4 σ = some res → V g X (m8_passDays) 3 [(0, .ref (g.ad (0))), (1, .ref (g.ad (a1))), (2, .ref (g.ad (a2))), (3, .int (a3)), (4, .int (x4))] [] σ) {k12 : Int32 → Int32 → St → Option (Unit × St)} (hk12 : ∀ (x4 : Int32) (x5 : Int32) (σ : St), k12 x4 x5 σ = some res → V g X (m8_passDays) 12 [(0, .ref (g.ad (0))), (1, .ref (g.ad (a1))), (2, .ref (g.ad (a2))), (3, .int (a3)), (4, .int (x4)), (5, .int (x5))] [] σ) (x4 : Int32) (x5 : Int32) (x6 : Int32) (σ : St) (h : S8_passDays_27 a1 a2 a3 k3 k12 4096 x4 x5 x6 σ = some res) : V g X (m8_passDays) 27 [(0, .ref (g.ad (0))), (1, .ref (g.ad (a1))), (2, .ref (g.ad (a2))), (3, .int (a3)), (4, .int (x4)), (5, .int (x5)), (6, .int (x6))] [] σ := v8_passDays_27n hX hN hQ ha1 ha2 hk3 hk12 4096 x4 x5 x6 σ h
set_option maxRecDepth 100000 in
set_option maxHeartbeats 4000000 in
theorem v8_passDays_12n {g : GT} {X : XT} {a1 : Nat} {a2 : Nat} {a3 : Int32} (hX : OkX g X (m8_passDays)) (hN : 75 ≤ g.N) {res : Unit × St} (hQ : X.Q = QV g X res.2 ∧ X.cells = 0 ∧ X.slots = 0) (ha1 : Ob 75 5 a1) (ha2 : Ob 75 3 a2) {k3 : Int32 → St → Option (Unit × St)} (hk3 : ∀ (x4 : Int32) (σ : St), k3 x4 σ = some res → V g X (m8_passDays) 3 [(0, .ref (g.ad (0))), (1, .ref (g.ad (a1))), (2, .ref (g.ad (a2))), (3, .int (a3)), (4, .int (x4))] [] σ) (n : Nat) : ∀ (x4 : Int32) (x5 : Int32) (σ : St) , S8_passDays_12 a1 a2 a3 k3 n x4 x5 σ = some res → V g X (m8_passDays) 12 [(0, .ref (g.ad (0))), (1, .ref (g.ad (a1))), (2, .ref (g.ad (a2))), (3, .int (a3)), (4, .int (x4)), (5, .int (x5))] [] σ := by
  induction n with
  | zero => intro x4 x5 σ; intro h; cases h
  | succ n ih =>
    intro x4 x5 σ h
    have h : B8_passDays_12 a1 a2 a3 (S8_passDays_12 a1 a2 a3 k3 n) k3 x4 x5 σ = some res := h
    unfold B8_passDays_12 at h
    refine V_iload (q := 14) hX dX8_passDays_12 5 rfl rfl ?_
    refine V_aload_n (q := 15) hX dX8_passDays_14 1 rfl rfl ?_
    refine V_getI (n := 75) (c := 5) (k := 1) (nf := 4) (C := RX5) (T := TX5) (q := 18) hX rfl rfl iG5 k1_72 rfl rfl ha1 hN rfl rfl dX8_passDays_15 rfl ?_
    refine V_icmp_ge (q := 21) (t := 76) hX dX8_passDays_18 (by decide) rfl (fun z71 => ?_) (fun z71 => ?_)
    · have h := ite_t z71 h
      refine V_iinc (v := (x4 + 1)) (lv' := [(4, .int ((x4 + 1))), (0, .ref (g.ad (0))), (1, .ref (g.ad (a1))), (2, .ref (g.ad (a2))), (3, .int (a3)), (5, .int (x5))]) (q := 79) hX dX8_passDays_76 4 rfl (by rfl) rfl rfl rfl ?_
      refine V_goto hX dX8_passDays_79 (q := 3) (by decide) ?_
      refine V.pick [1, 2, 3, 4, 0] rfl ?_
      exact hk3 (x4 + 1) σ  h
    have h := ite_f z71 h
    refine V_iload (q := 23) hX dX8_passDays_21 5 rfl rfl ?_
    refine V_iconst (v := 1) (q := 24) hX dX8_passDays_23 (by decide) rfl ?_
    refine V_iadd (q := 25) hX dX8_passDays_24 rfl ?_
    refine V_istore (lv' := [(6, .int ((x5 + (1 : Int32)))), (0, .ref (g.ad (0))), (1, .ref (g.ad (a1))), (2, .ref (g.ad (a2))), (3, .int (a3)), (4, .int (x4)), (5, .int (x5))]) (q := 27) hX dX8_passDays_25 rfl rfl rfl ?_
    refine V.pick [1, 2, 3, 4, 5, 6, 0] rfl ?_
    exact v8_passDays_27 hX hN hQ ha1 ha2 hk3 ih x4 x5 (x5 + (1 : Int32)) σ h
theorem v8_passDays_12 {g : GT} {X : XT} {a1 : Nat} {a2 : Nat} {a3 : Int32} (hX : OkX g X (m8_passDays)) (hN : 75 ≤ g.N) {res : Unit × St} (hQ : X.Q = QV g X res.2 ∧ X.cells = 0 ∧ X.slots = 0) (ha1 : Ob 75 5 a1) (ha2 : Ob 75 3 a2) {k3 : Int32 → St → Option (Unit × St)} (hk3 : ∀ (x4 : Int32) (σ : St), k3 x4 σ = some res → V g X (m8_passDays) 3 [(0, .ref (g.ad (0))), (1, .ref (g.ad (a1))), (2, .ref (g.ad (a2))), (3, .int (a3)), (4, .int (x4))] [] σ) (x4 : Int32) (x5 : Int32) (σ : St) (h : S8_passDays_12 a1 a2 a3 k3 4096 x4 x5 σ = some res) : V g X (m8_passDays) 12 [(0, .ref (g.ad (0))), (1, .ref (g.ad (a1))), (2, .ref (g.ad (a2))), (3, .int (a3)), (4, .int (x4)), (5, .int (x5))] [] σ := v8_passDays_12n hX hN hQ ha1 ha2 hk3 4096 x4 x5 σ h
set_option maxRecDepth 100000 in
set_option maxHeartbeats 4000000 in
theorem v8_passDays_3n {g : GT} {X : XT} {a1 : Nat} {a2 : Nat} {a3 : Int32} (hX : OkX g X (m8_passDays)) (hN : 75 ≤ g.N) {res : Unit × St} (hQ : X.Q = QV g X res.2 ∧ X.cells = 0 ∧ X.slots = 0) (ha1 : Ob 75 5 a1) (ha2 : Ob 75 3 a2)  (n : Nat) : ∀ (x4 : Int32) (σ : St) , S8_passDays_3 a1 a2 a3 n x4 σ = some res → V g X (m8_passDays) 3 [(0, .ref (g.ad (0))), (1, .ref (g.ad (a1))), (2, .ref (g.ad (a2))), (3, .int (a3)), (4, .int (x4))] [] σ := by
  induction n with
  | zero => intro x4 σ; intro h; cases h
  | succ n ih =>
    intro x4 σ h
    have h : B8_passDays_3 a1 a2 a3 (S8_passDays_3 a1 a2 a3 n) x4 σ = some res := h
    unfold B8_passDays_3 at h
    refine V_iload (q := 5) hX dX8_passDays_3 4 rfl rfl ?_
    refine V_iload_n (q := 6) hX dX8_passDays_5 3 rfl rfl ?_
    refine V_icmp_ge (q := 9) (t := 82) hX dX8_passDays_6 (by decide) rfl (fun z72 => ?_) (fun z72 => ?_)
    · have h := ite_t z72 h
      refine V_aload_n (q := 83) hX dX8_passDays_82 1 rfl rfl ?_
      refine V_dup (q := 84) hX dX8_passDays_83 rfl rfl ?_
      refine V_getI (n := 75) (c := 5) (k := 2) (nf := 4) (C := RX5) (T := TX5) (q := 87) hX rfl rfl iG5 k1_74 rfl rfl ha1 hN rfl rfl dX8_passDays_84 rfl ?_
      refine V_iload_n (q := 88) hX dX8_passDays_87 3 rfl rfl ?_
      refine V_iadd (q := 89) hX dX8_passDays_88 rfl ?_
      refine V_putI (n := 75) (c := 5) (k := 2) (nf := 4) (C := RX5) (T := TX5) (q := 92) hX rfl rfl iG5 k1_74 rfl rfl ha1 hN rfl tyX5 tyX5_ok nmX5 rfl rfl (ty := .int) (tyX5_ok 2 (by decide)) rfl rfl dX8_passDays_89 rfl ?_
      obtain ⟨f1, f2⟩ := some2 h
      rw [f2] at hQ
      exact V_vret hX hQ rfl dX8_passDays_92
    have h := ite_f z72 h
    refine V_iconst (v := 0) (q := 10) hX dX8_passDays_9 (by decide) rfl ?_
    refine V_istore (lv' := [(5, .int ((0 : Int32))), (0, .ref (g.ad (0))), (1, .ref (g.ad (a1))), (2, .ref (g.ad (a2))), (3, .int (a3)), (4, .int (x4))]) (q := 12) hX dX8_passDays_10 rfl rfl rfl ?_
    refine V.pick [1, 2, 3, 4, 5, 0] rfl ?_
    exact v8_passDays_12 hX hN hQ ha1 ha2 ih x4 (0 : Int32) σ h
theorem v8_passDays_3 {g : GT} {X : XT} {a1 : Nat} {a2 : Nat} {a3 : Int32} (hX : OkX g X (m8_passDays)) (hN : 75 ≤ g.N) {res : Unit × St} (hQ : X.Q = QV g X res.2 ∧ X.cells = 0 ∧ X.slots = 0) (ha1 : Ob 75 5 a1) (ha2 : Ob 75 3 a2) (x4 : Int32) (σ : St) (h : S8_passDays_3 a1 a2 a3 4096 x4 σ = some res) : V g X (m8_passDays) 3 [(0, .ref (g.ad (0))), (1, .ref (g.ad (a1))), (2, .ref (g.ad (a2))), (3, .int (a3)), (4, .int (x4))] [] σ := v8_passDays_3n hX hN hQ ha1 ha2 4096 x4 σ h
set_option maxRecDepth 100000 in
set_option maxHeartbeats 4000000 in
theorem v8_passDays {g : GT} {X : XT} {a1 : Nat} {a2 : Nat} {a3 : Int32} (hX : OkX g X (m8_passDays)) (hN : 75 ≤ g.N) {res : Unit × St} (hQ : X.Q = QV g X res.2 ∧ X.cells = 0 ∧ X.slots = 0) (ha1 : Ob 75 5 a1) (ha2 : Ob 75 3 a2) {σ : St} (h : S8_passDays a1 a2 a3 σ = some res) : V g X (m8_passDays) 0 [(0, .ref (g.ad (0))), (1, .ref (g.ad (a1))), (2, .ref (g.ad (a2))), (3, .int (a3))] [] σ := by
  unfold S8_passDays at h
  refine V_iconst (v := 0) (q := 1) hX dX8_passDays_0 (by decide) rfl ?_
  refine V_istore (lv' := [(4, .int ((0 : Int32))), (0, .ref (g.ad (0))), (1, .ref (g.ad (a1))), (2, .ref (g.ad (a2))), (3, .int (a3))]) (q := 3) hX dX8_passDays_1 rfl rfl rfl ?_
  refine V.pick [1, 2, 3, 4, 0] rfl ?_
  exact v8_passDays_3 hX hN hQ ha1 ha2 (0 : Int32) σ h
set_option maxRecDepth 100000 in
set_option maxHeartbeats 4000000 in
theorem c8_passDays {g : GT} {l : Launch} (hg : OkG g) (hN : 75 ≤ g.N) {a1 : Nat} {a2 : Nat} {a3 : Int32} (ha1 : Ob 75 5 a1) (ha2 : Ob 75 3 a2) {σ : St} {r : Unit} {σ' : St} (h : S8_passDays a1 a2 a3 σ = some (r, σ')) : CtV g l m8_passDays yX8_passDays [.ref (g.ad (0)), .ref (g.ad (a1)), .ref (g.ad (a2)), .int (a3)] σ σ' := CtV.of hg (by decide) rfl rfl (fun X h1 h2 h3 => v8_passDays h1 hN (res := (r, σ')) h3 ha1 ha2 h)

abbrev m8_meet : MI := (cX8_meet, RX8, 4, some .int, 7)
def S8_meet (a1 : Int32) (a2 : Int32) (σ : St) : Option (Int32 × St) := bnd (S8_plansFault a1 σ) fun r18 σ17 => if r18 = 0 then (if a2 < (1 : Int32) then (some ((-7 : Int32), σ17)) else (if a2 ≤ (9 : Int32) then (if ((gI σ17 1 2) + a2) ≤ (999 : Int32) then (bnd (S8_sheetAt a1 σ17) fun r25 σ24 => bnd (S8_passDays 1 r25 a2 σ24) fun r28 σ27 => bnd (S5_leader 1 σ27) fun r31 σ30 => some (r31, σ30)) else (some ((-4 : Int32), σ17))) else (some ((-7 : Int32), σ17)))) else (some (r18, σ17))
set_option maxRecDepth 100000 in
set_option maxHeartbeats 4000000 in
theorem v8_meet {g : GT} {X : XT} {a1 : Int32} {a2 : Int32} (hX : OkX g X (m8_meet)) (hN : 75 ≤ g.N) {res : Int32 × St} (hQ : X.Q = QI g X res.1 res.2 ∧ X.cells = 0 ∧ X.slots = 0) {σ : St} (h : S8_meet a1 a2 σ = some res) : V g X (m8_meet) 0 [(0, .ref (g.ad (0))), (1, .int (a1)), (2, .int (a2))] [] σ := by
  unfold S8_meet at h
  refine V_aload_n (q := 1) hX dX8_meet_0 0 rfl rfl ?_
  refine V_iload_n (q := 2) hX dX8_meet_1 1 rfl rfl ?_
  obtain ⟨r18, σ17, e19, h⟩ := bnd_some h
  refine V_cvI (n := 75) (c := 8) (nf := 11) (C := RX8) (T := TX8) (As := [.int (a1)]) (q := 5) hX (c8_plansFault hX.2.2.2.2.1 hN e19) (goodV_of k3_219 k3_221 kp_24 k1_1 (cons_g k3_222)) (nA := 1) (by decide) rfl rfl rfl rfl rfl ⟨rfl, by decide⟩ hN rfl rfl rfl dX8_meet_2 rfl ?_
  refine V_istore_n (lv' := [(3, .int (r18)), (0, .ref (g.ad (0))), (1, .int (a1)), (2, .int (a2))]) (q := 6) hX dX8_meet_5 rfl rfl rfl ?_
  refine V_iload_n (q := 7) hX dX8_meet_6 0 rfl rfl ?_
  refine V_if_eq (q := 10) (t := 12) hX dX8_meet_7 (by decide) rfl (fun z20 => ?_) (fun z20 => ?_)
  · have h := ite_t z20 h
    refine V_iload_n (q := 13) hX dX8_meet_12 3 rfl rfl ?_
    refine V_iconst (v := 1) (q := 14) hX dX8_meet_13 (by decide) rfl ?_
    refine V_icmp_lt (q := 17) (t := 23) hX dX8_meet_14 (by decide) rfl (fun z21 => ?_) (fun z21 => ?_)
    · have h := ite_t z21 h
      refine V_bipush (v := -7) (q := 25) hX dX8_meet_23 (by decide) rfl ?_
      obtain ⟨f1, f2⟩ := some2 h
      rw [f1, f2] at hQ
      exact V_iret hX hQ rfl dX8_meet_25
    have h := ite_f z21 h
    refine V_iload_n (q := 18) hX dX8_meet_17 3 rfl rfl ?_
    refine V_bipush (v := 9) (q := 20) hX dX8_meet_18 (by decide) rfl ?_
    refine V_icmp_le (q := 23) (t := 26) hX dX8_meet_20 (by decide) rfl (fun z22 => ?_) (fun z22 => ?_)
    · have h := ite_t z22 h
      refine V_aload_n (q := 27) hX dX8_meet_26 1 rfl rfl ?_
      refine V_getF (r := 1) (n := 75) (c := 8) (k := 0) (nf := 11) (C := RX8) (T := TX8) (q := 30) hX rfl rfl iG8 k2_175 rfl rfl ⟨rfl, by decide⟩ hN rfl rfl rfl rfl dX8_meet_27 rfl ?_
      refine V_getI (n := 75) (c := 5) (k := 2) (nf := 4) (C := RX5) (T := TX5) (q := 33) hX rfl rfl iG5 k1_74 rfl rfl ⟨rfl, by decide⟩ hN rfl rfl dX8_meet_30 rfl ?_
      refine V_iload_n (q := 34) hX dX8_meet_33 3 rfl rfl ?_
      refine V_iadd (q := 35) hX dX8_meet_34 rfl ?_
      refine V_sipush (v := 999) (q := 38) hX dX8_meet_35 (by decide) rfl ?_
      refine V_icmp_le (q := 41) (t := 44) hX dX8_meet_38 (by decide) rfl (fun z23 => ?_) (fun z23 => ?_)
      · have h := ite_t z23 h
        refine V_aload_n (q := 45) hX dX8_meet_44 1 rfl rfl ?_
        refine V_aload_n (q := 46) hX dX8_meet_45 1 rfl rfl ?_
        refine V_getF (r := 1) (n := 75) (c := 8) (k := 0) (nf := 11) (C := RX8) (T := TX8) (q := 49) hX rfl rfl iG8 k2_175 rfl rfl ⟨rfl, by decide⟩ hN rfl rfl rfl rfl dX8_meet_46 rfl ?_
        refine V_aload_n (q := 50) hX dX8_meet_49 1 rfl rfl ?_
        refine V_iload_n (q := 51) hX dX8_meet_50 2 rfl rfl ?_
        obtain ⟨r25, σ24, e26, h⟩ := bnd_some h
        refine V_cvR (n := 75) (c := 8) (nf := 11) (C := RX8) (T := TX8) (As := [.int (a1)]) (q := 54) hX (c8_sheetAt hX.2.2.2.2.1 hN e26) (goodV_of k3_231 k3_233 kp_27 k1_1 (cons_g k3_234)) (nA := 1) (by decide) rfl rfl rfl rfl rfl ⟨rfl, by decide⟩ hN rfl rfl rfl dX8_meet_51 rfl ?_
        refine V_iload_n (q := 55) hX dX8_meet_54 3 rfl rfl ?_
        obtain ⟨r28, σ27, e29, h⟩ := bnd_some h
        refine V_cvV (n := 75) (c := 8) (nf := 11) (C := RX8) (T := TX8) (As := [.ref (g.ad (1)), .ref (g.ad (r25)), .int (a2)]) (q := 58) hX (c8_passDays hX.2.2.2.2.1 hN ⟨rfl, by decide⟩ (sh8_sheetAt e26) e29) (goodV_of k3_239 k4_1 kp_28 k1_1 (cons_g k4_2)) (nA := 3) (by decide) rfl rfl rfl rfl rfl ⟨rfl, by decide⟩ hN rfl rfl rfl dX8_meet_55 rfl ?_
        refine V_aload_n (q := 59) hX dX8_meet_58 1 rfl rfl ?_
        refine V_getF (r := 1) (n := 75) (c := 8) (k := 0) (nf := 11) (C := RX8) (T := TX8) (q := 62) hX rfl rfl iG8 k2_175 rfl rfl ⟨rfl, by decide⟩ hN rfl rfl rfl rfl dX8_meet_59 rfl ?_
        obtain ⟨r31, σ30, e32, h⟩ := bnd_some h
        refine V_cvI (n := 75) (c := 5) (nf := 4) (C := RX5) (T := TX5) (As := []) (q := 65) hX (c5_leader hX.2.2.2.2.1 hN ⟨rfl, by decide⟩ e32) (goodV_of k4_3 k4_4 k4_5 k1_2 (cons_g k4_6)) (nA := 0) (by decide) rfl rfl rfl rfl rfl ⟨rfl, by decide⟩ hN rfl rfl rfl dX8_meet_62 rfl ?_
        obtain ⟨f1, f2⟩ := some2 h
        rw [f1, f2] at hQ
        exact V_iret hX hQ rfl dX8_meet_65
      have h := ite_f z23 h
      refine V_bipush (v := -4) (q := 43) hX dX8_meet_41 (by decide) rfl ?_
      obtain ⟨f1, f2⟩ := some2 h
      rw [f1, f2] at hQ
      exact V_iret hX hQ rfl dX8_meet_43
    have h := ite_f z22 h
    refine V_bipush (v := -7) (q := 25) hX dX8_meet_23 (by decide) rfl ?_
    obtain ⟨f1, f2⟩ := some2 h
    rw [f1, f2] at hQ
    exact V_iret hX hQ rfl dX8_meet_25
  have h := ite_f z20 h
  refine V_iload_n (q := 11) hX dX8_meet_10 0 rfl rfl ?_
  obtain ⟨f1, f2⟩ := some2 h
  rw [f1, f2] at hQ
  exact V_iret hX hQ rfl dX8_meet_11
set_option maxRecDepth 100000 in
set_option maxHeartbeats 4000000 in
theorem c8_meet {g : GT} {l : Launch} (hg : OkG g) (hN : 75 ≤ g.N) {a1 : Int32} {a2 : Int32} {σ : St} {r : Int32} {σ' : St} (h : S8_meet a1 a2 σ = some (r, σ')) : CtI g l m8_meet yX8_meet [.ref (g.ad (0)), .int (a1), .int (a2)] σ r σ' := CtI.of hg (by decide) rfl rfl (fun X h1 h2 h3 => v8_meet h1 hN (res := (r, σ')) h3 h)

abbrev m8_run : MI := (cX8_run, RX8, 6, some .int, 7)
def S8_run_64 (a1 : Int32) (a2 : Int32) (a3 : Int32) (x5 : Int32) (σ : St) : Option (Int32 × St) := bnd (S5_becomesLike 9 1 σ) fun r60 σ59 => bnd (S8_sheetAt a1 σ59) fun r63 σ62 => bnd (S8_passDays 9 r63 a2 σ62) fun r66 σ65 => if x5 = 0 then (bnd (S5_leader 9 σ65) fun r70 σ69 => some (r70, σ69)) else (bnd (S5_at 9 (a3 - (10 : Int32)) σ65) fun r73 σ72 => some ((gI σ72 r73 5), σ72))
def S8_run_40 (a1 : Int32) (a2 : Int32) (a3 : Int32) (s0 : Int32) (σ : St) : Option (Int32 × St) := if a2 < 0 then (some ((-7 : Int32), σ)) else (if (9 : Int32) < a2 then (some ((-7 : Int32), σ)) else (if a3 = 0 then (S8_run_64 a1 a2 a3 s0 σ) else (if s0 = 0 then (some ((-7 : Int32), σ)) else (S8_run_64 a1 a2 a3 s0 σ))))
def S8_run_39 (a1 : Int32) (a2 : Int32) (a3 : Int32) (σ : St) : Option (Int32 × St) := S8_run_40 a1 a2 a3 (0 : Int32) σ
def S8_run (a1 : Int32) (a2 : Int32) (a3 : Int32) (σ : St) : Option (Int32 × St) := bnd (S8_plansFault a1 σ) fun r80 σ79 => if r80 = 0 then (if a3 < (10 : Int32) then (S8_run_39 a1 a2 a3 σ79) else (bnd (S5_has 1 (a3 - (10 : Int32)) σ79) fun r85 σ84 => if r85 = 0 then (S8_run_39 a1 a2 a3 σ84) else (S8_run_40 a1 a2 a3 (1 : Int32) σ84))) else (some (r80, σ79))
set_option maxRecDepth 100000 in
set_option maxHeartbeats 4000000 in
theorem v8_run_64 {g : GT} {X : XT} {a1 : Int32} {a2 : Int32} {a3 : Int32} (hX : OkX g X (m8_run)) (hN : 75 ≤ g.N) {res : Int32 × St} (hQ : X.Q = QI g X res.1 res.2 ∧ X.cells = 0 ∧ X.slots = 0)   (x5 : Int32) (σ : St)  (h : S8_run_64 a1 a2 a3 x5 σ = some res) : V g X (m8_run) 64 [(0, .ref (g.ad (0))), (1, .int (a1)), (2, .int (a2)), (3, .int (a3)), (5, .int (x5))] [] σ := by
  unfold S8_run_64 at h
  refine V_aload_n (q := 65) hX dX8_run_64 0 rfl rfl ?_
  refine V_getF (r := 9) (n := 75) (c := 8) (k := 1) (nf := 11) (C := RX8) (T := TX8) (q := 68) hX rfl rfl iG8 k2_176 rfl rfl ⟨rfl, by decide⟩ hN rfl rfl rfl rfl dX8_run_65 rfl ?_
  refine V_aload_n (q := 69) hX dX8_run_68 0 rfl rfl ?_
  refine V_getF (r := 1) (n := 75) (c := 8) (k := 0) (nf := 11) (C := RX8) (T := TX8) (q := 72) hX rfl rfl iG8 k2_175 rfl rfl ⟨rfl, by decide⟩ hN rfl rfl rfl rfl dX8_run_69 rfl ?_
  obtain ⟨r60, σ59, e61, h⟩ := bnd_some h
  refine V_cvV (n := 75) (c := 5) (nf := 4) (C := RX5) (T := TX5) (As := [.ref (g.ad (1))]) (q := 75) hX (c5_becomesLike hX.2.2.2.2.1 hN ⟨rfl, by decide⟩ ⟨rfl, by decide⟩ e61) (goodV_of k4_12 k4_13 k4_14 k1_2 (cons_g k4_15)) (nA := 1) (by decide) rfl rfl rfl rfl rfl ⟨rfl, by decide⟩ hN rfl rfl rfl dX8_run_72 rfl ?_
  refine V_aload_n (q := 76) hX dX8_run_75 0 rfl rfl ?_
  refine V_aload_n (q := 77) hX dX8_run_76 0 rfl rfl ?_
  refine V_getF (r := 9) (n := 75) (c := 8) (k := 1) (nf := 11) (C := RX8) (T := TX8) (q := 80) hX rfl rfl iG8 k2_176 rfl rfl ⟨rfl, by decide⟩ hN rfl rfl rfl rfl dX8_run_77 rfl ?_
  refine V_aload_n (q := 81) hX dX8_run_80 0 rfl rfl ?_
  refine V_iload_n (q := 82) hX dX8_run_81 1 rfl rfl ?_
  obtain ⟨r63, σ62, e64, h⟩ := bnd_some h
  refine V_cvR (n := 75) (c := 8) (nf := 11) (C := RX8) (T := TX8) (As := [.int (a1)]) (q := 85) hX (c8_sheetAt hX.2.2.2.2.1 hN e64) (goodV_of k3_231 k3_233 kp_27 k1_1 (cons_g k3_234)) (nA := 1) (by decide) rfl rfl rfl rfl rfl ⟨rfl, by decide⟩ hN rfl rfl rfl dX8_run_82 rfl ?_
  refine V_iload_n (q := 86) hX dX8_run_85 2 rfl rfl ?_
  obtain ⟨r66, σ65, e67, h⟩ := bnd_some h
  refine V_cvV (n := 75) (c := 8) (nf := 11) (C := RX8) (T := TX8) (As := [.ref (g.ad (9)), .ref (g.ad (r63)), .int (a2)]) (q := 89) hX (c8_passDays hX.2.2.2.2.1 hN ⟨rfl, by decide⟩ (sh8_sheetAt e64) e67) (goodV_of k3_239 k4_1 kp_28 k1_1 (cons_g k4_2)) (nA := 3) (by decide) rfl rfl rfl rfl rfl ⟨rfl, by decide⟩ hN rfl rfl rfl dX8_run_86 rfl ?_
  refine V_iload (q := 91) hX dX8_run_89 4 rfl rfl ?_
  refine V_if_eq (q := 94) (t := 111) hX dX8_run_91 (by decide) rfl (fun z68 => ?_) (fun z68 => ?_)
  · have h := ite_t z68 h
    refine V_aload_n (q := 112) hX dX8_run_111 0 rfl rfl ?_
    refine V_getF (r := 9) (n := 75) (c := 8) (k := 1) (nf := 11) (C := RX8) (T := TX8) (q := 115) hX rfl rfl iG8 k2_176 rfl rfl ⟨rfl, by decide⟩ hN rfl rfl rfl rfl dX8_run_112 rfl ?_
    obtain ⟨r70, σ69, e71, h⟩ := bnd_some h
    refine V_cvI (n := 75) (c := 5) (nf := 4) (C := RX5) (T := TX5) (As := []) (q := 118) hX (c5_leader hX.2.2.2.2.1 hN ⟨rfl, by decide⟩ e71) (goodV_of k4_3 k4_4 k4_5 k1_2 (cons_g k4_6)) (nA := 0) (by decide) rfl rfl rfl rfl rfl ⟨rfl, by decide⟩ hN rfl rfl rfl dX8_run_115 rfl ?_
    obtain ⟨f1, f2⟩ := some2 h
    rw [f1, f2] at hQ
    exact V_iret hX hQ rfl dX8_run_118
  have h := ite_f z68 h
  refine V_aload_n (q := 95) hX dX8_run_94 0 rfl rfl ?_
  refine V_getF (r := 9) (n := 75) (c := 8) (k := 1) (nf := 11) (C := RX8) (T := TX8) (q := 98) hX rfl rfl iG8 k2_176 rfl rfl ⟨rfl, by decide⟩ hN rfl rfl rfl rfl dX8_run_95 rfl ?_
  refine V_iload_n (q := 99) hX dX8_run_98 3 rfl rfl ?_
  refine V_bipush (v := 10) (q := 101) hX dX8_run_99 (by decide) rfl ?_
  refine V_isub (q := 102) hX dX8_run_101 rfl ?_
  obtain ⟨r73, σ72, e74, h⟩ := bnd_some h
  refine V_cvR (n := 75) (c := 5) (nf := 4) (C := RX5) (T := TX5) (As := [.int ((a3 - (10 : Int32)))]) (q := 105) hX (c5_at hX.2.2.2.2.1 hN ⟨rfl, by decide⟩ e74) (goodV_of k3_5 k3_6 k3_7 k1_2 (cons_g k3_8)) (nA := 1) (by decide) rfl rfl rfl rfl rfl ⟨rfl, by decide⟩ hN rfl rfl rfl dX8_run_102 rfl ?_
  refine V_getI (n := 75) (c := 7) (k := 5) (nf := 7) (C := RX7) (T := TX7) (q := 108) hX rfl rfl iG7 k1_52 rfl rfl (sh5_at ⟨rfl, by decide⟩ e74) hN rfl rfl dX8_run_105 rfl ?_
  refine V_goto hX dX8_run_108 (q := 118) (by decide) ?_
  obtain ⟨f1, f2⟩ := some2 h
  rw [f1, f2] at hQ
  exact V_iret hX hQ rfl dX8_run_118
set_option maxRecDepth 100000 in
set_option maxHeartbeats 4000000 in
theorem v8_run_40 {g : GT} {X : XT} {a1 : Int32} {a2 : Int32} {a3 : Int32} (hX : OkX g X (m8_run)) (hN : 75 ≤ g.N) {res : Int32 × St} (hQ : X.Q = QI g X res.1 res.2 ∧ X.cells = 0 ∧ X.slots = 0)   (s0 : Int32) (σ : St)  (h : S8_run_40 a1 a2 a3 s0 σ = some res) : V g X (m8_run) 40 [(0, .ref (g.ad (0))), (1, .int (a1)), (2, .int (a2)), (3, .int (a3))] [.int (s0)] σ := by
  unfold S8_run_40 at h
  refine V_istore (lv' := [(5, .int (s0)), (0, .ref (g.ad (0))), (1, .int (a1)), (2, .int (a2)), (3, .int (a3))]) (q := 42) hX dX8_run_40 rfl rfl rfl ?_
  refine V_iload_n (q := 43) hX dX8_run_42 3 rfl rfl ?_
  refine V_if_lt (q := 46) (t := 61) hX dX8_run_43 (by decide) rfl (fun z75 => ?_) (fun z75 => ?_)
  · have h := ite_t z75 h
    refine V_bipush (v := -7) (q := 63) hX dX8_run_61 (by decide) rfl ?_
    obtain ⟨f1, f2⟩ := some2 h
    rw [f1, f2] at hQ
    exact V_iret hX hQ rfl dX8_run_63
  have h := ite_f z75 h
  refine V_iload_n (q := 47) hX dX8_run_46 3 rfl rfl ?_
  refine V_bipush (v := 9) (q := 49) hX dX8_run_47 (by decide) rfl ?_
  refine V_icmp_gt (q := 52) (t := 61) hX dX8_run_49 (by decide) rfl (fun z76 => ?_) (fun z76 => ?_)
  · have h := ite_t z76 h
    refine V_bipush (v := -7) (q := 63) hX dX8_run_61 (by decide) rfl ?_
    obtain ⟨f1, f2⟩ := some2 h
    rw [f1, f2] at hQ
    exact V_iret hX hQ rfl dX8_run_63
  have h := ite_f z76 h
  refine V_iload_n (q := 53) hX dX8_run_52 4 rfl rfl ?_
  refine V_if_eq (q := 56) (t := 64) hX dX8_run_53 (by decide) rfl (fun z77 => ?_) (fun z77 => ?_)
  · have h := ite_t z77 h
    refine V.pick [1, 2, 3, 4, 0] rfl ?_
    exact v8_run_64 hX hN hQ s0 σ h
  have h := ite_f z77 h
  refine V_iload (q := 58) hX dX8_run_56 0 rfl rfl ?_
  refine V_if_ne (q := 61) (t := 64) hX dX8_run_58 (by decide) rfl (fun z78 => ?_) (fun z78 => ?_)
  · have h := ite_f z78 h
    refine V.pick [1, 2, 3, 4, 0] rfl ?_
    exact v8_run_64 hX hN hQ s0 σ h
  have h := ite_t z78 h
  refine V_bipush (v := -7) (q := 63) hX dX8_run_61 (by decide) rfl ?_
  obtain ⟨f1, f2⟩ := some2 h
  rw [f1, f2] at hQ
  exact V_iret hX hQ rfl dX8_run_63
set_option maxRecDepth 100000 in
set_option maxHeartbeats 4000000 in
theorem v8_run_39 {g : GT} {X : XT} {a1 : Int32} {a2 : Int32} {a3 : Int32} (hX : OkX g X (m8_run)) (hN : 75 ≤ g.N) {res : Int32 × St} (hQ : X.Q = QI g X res.1 res.2 ∧ X.cells = 0 ∧ X.slots = 0)    (σ : St)  (h : S8_run_39 a1 a2 a3 σ = some res) : V g X (m8_run) 39 [(0, .ref (g.ad (0))), (1, .int (a1)), (2, .int (a2)), (3, .int (a3))] [] σ := by
  unfold S8_run_39 at h
  refine V_iconst (v := 0) (q := 40) hX dX8_run_39 (by decide) rfl ?_
  refine V.pick [0, 1, 2, 3] rfl ?_
  exact v8_run_40 hX hN hQ (0 : Int32) σ h
set_option maxRecDepth 100000 in
set_option maxHeartbeats 4000000 in
theorem v8_run {g : GT} {X : XT} {a1 : Int32} {a2 : Int32} {a3 : Int32} (hX : OkX g X (m8_run)) (hN : 75 ≤ g.N) {res : Int32 × St} (hQ : X.Q = QI g X res.1 res.2 ∧ X.cells = 0 ∧ X.slots = 0) {σ : St} (h : S8_run a1 a2 a3 σ = some res) : V g X (m8_run) 0 [(0, .ref (g.ad (0))), (1, .int (a1)), (2, .int (a2)), (3, .int (a3))] [] σ := by
  unfold S8_run at h
  refine V_aload_n (q := 1) hX dX8_run_0 0 rfl rfl ?_
  refine V_iload_n (q := 2) hX dX8_run_1 1 rfl rfl ?_
  obtain ⟨r80, σ79, e81, h⟩ := bnd_some h
  refine V_cvI (n := 75) (c := 8) (nf := 11) (C := RX8) (T := TX8) (As := [.int (a1)]) (q := 5) hX (c8_plansFault hX.2.2.2.2.1 hN e81) (goodV_of k3_219 k3_221 kp_24 k1_1 (cons_g k3_222)) (nA := 1) (by decide) rfl rfl rfl rfl rfl ⟨rfl, by decide⟩ hN rfl rfl rfl dX8_run_2 rfl ?_
  refine V_istore (lv' := [(4, .int (r80)), (0, .ref (g.ad (0))), (1, .int (a1)), (2, .int (a2)), (3, .int (a3))]) (q := 7) hX dX8_run_5 rfl rfl rfl ?_
  refine V_iload (q := 9) hX dX8_run_7 0 rfl rfl ?_
  refine V_if_eq (q := 12) (t := 15) hX dX8_run_9 (by decide) rfl (fun z82 => ?_) (fun z82 => ?_)
  · have h := ite_t z82 h
    refine V_iload_n (q := 16) hX dX8_run_15 4 rfl rfl ?_
    refine V_bipush (v := 10) (q := 18) hX dX8_run_16 (by decide) rfl ?_
    refine V_icmp_lt (q := 21) (t := 39) hX dX8_run_18 (by decide) rfl (fun z83 => ?_) (fun z83 => ?_)
    · have h := ite_t z83 h
      refine V.pick [1, 2, 3, 4] rfl ?_
      exact v8_run_39 hX hN hQ σ79 h
    have h := ite_f z83 h
    refine V_aload_n (q := 22) hX dX8_run_21 1 rfl rfl ?_
    refine V_getF (r := 1) (n := 75) (c := 8) (k := 0) (nf := 11) (C := RX8) (T := TX8) (q := 25) hX rfl rfl iG8 k2_175 rfl rfl ⟨rfl, by decide⟩ hN rfl rfl rfl rfl dX8_run_22 rfl ?_
    refine V_iload_n (q := 26) hX dX8_run_25 4 rfl rfl ?_
    refine V_bipush (v := 10) (q := 28) hX dX8_run_26 (by decide) rfl ?_
    refine V_isub (q := 29) hX dX8_run_28 rfl ?_
    obtain ⟨r85, σ84, e86, h⟩ := bnd_some h
    refine V_cvI (n := 75) (c := 5) (nf := 4) (C := RX5) (T := TX5) (As := [.int ((a3 - (10 : Int32)))]) (q := 32) hX (c5_has hX.2.2.2.2.1 hN ⟨rfl, by decide⟩ e86) (goodV_of k2_237 k2_238 k2_239 k1_2 (cons_g k3_0)) (nA := 1) (by decide) rfl rfl rfl rfl rfl ⟨rfl, by decide⟩ hN rfl rfl rfl dX8_run_29 rfl ?_
    refine V_if_eq (q := 35) (t := 39) hX dX8_run_32 (by decide) rfl (fun z87 => ?_) (fun z87 => ?_)
    · have h := ite_t z87 h
      refine V.pick [1, 2, 3, 4] rfl ?_
      exact v8_run_39 hX hN hQ σ84 h
    have h := ite_f z87 h
    refine V_iconst (v := 1) (q := 36) hX dX8_run_35 (by decide) rfl ?_
    refine V_goto hX dX8_run_36 (q := 40) (by decide) ?_
    refine V.pick [1, 2, 3, 4] rfl ?_
    exact v8_run_40 hX hN hQ (1 : Int32) σ84 h
  have h := ite_f z82 h
  refine V_iload (q := 14) hX dX8_run_12 0 rfl rfl ?_
  obtain ⟨f1, f2⟩ := some2 h
  rw [f1, f2] at hQ
  exact V_iret hX hQ rfl dX8_run_14
set_option maxRecDepth 100000 in
set_option maxHeartbeats 4000000 in
theorem c8_run {g : GT} {l : Launch} (hg : OkG g) (hN : 75 ≤ g.N) {a1 : Int32} {a2 : Int32} {a3 : Int32} {σ : St} {r : Int32} {σ' : St} (h : S8_run a1 a2 a3 σ = some (r, σ')) : CtI g l m8_run yX8_run [.ref (g.ad (0)), .int (a1), .int (a2), .int (a3)] σ r σ' := CtI.of hg (by decide) rfl rfl (fun X h1 h2 h3 => v8_run h1 hN (res := (r, σ')) h3 h)

abbrev m8_cellsFault : MI := (cX8_cellsFault, RX8, 3, some .int, 3)
def S8_cellsFault (a1 : Int32) (σ : St) : Option (Int32 × St) := bnd (S8_sheetFault a1 σ) fun r10 σ9 => if r10 = 0 then (bnd (S8_sheetAt a1 σ9) fun r14 σ13 => if (gI σ13 r14 2) ≤ (9 : Int32) then (some ((0 : Int32), σ13)) else (some ((-2 : Int32), σ13))) else (some (r10, σ9))
set_option maxRecDepth 100000 in
set_option maxHeartbeats 4000000 in
theorem v8_cellsFault {g : GT} {X : XT} {a1 : Int32} (hX : OkX g X (m8_cellsFault)) (hN : 75 ≤ g.N) {res : Int32 × St} (hQ : X.Q = QI g X res.1 res.2 ∧ X.cells = 0 ∧ X.slots = 0) {σ : St} (h : S8_cellsFault a1 σ = some res) : V g X (m8_cellsFault) 0 [(0, .ref (g.ad (0))), (1, .int (a1))] [] σ := by
  unfold S8_cellsFault at h
  refine V_aload_n (q := 1) hX dX8_cellsFault_0 0 rfl rfl ?_
  refine V_iload_n (q := 2) hX dX8_cellsFault_1 1 rfl rfl ?_
  obtain ⟨r10, σ9, e11, h⟩ := bnd_some h
  refine V_cvI (n := 75) (c := 8) (nf := 11) (C := RX8) (T := TX8) (As := [.int (a1)]) (q := 5) hX (c8_sheetFault hX.2.2.2.2.1 hN e11) (goodV_of k3_223 k3_225 kp_25 k1_1 (cons_g k3_226)) (nA := 1) (by decide) rfl rfl rfl rfl rfl ⟨rfl, by decide⟩ hN rfl rfl rfl dX8_cellsFault_2 rfl ?_
  refine V_istore_n (lv' := [(2, .int (r10)), (0, .ref (g.ad (0))), (1, .int (a1))]) (q := 6) hX dX8_cellsFault_5 rfl rfl rfl ?_
  refine V_iload_n (q := 7) hX dX8_cellsFault_6 0 rfl rfl ?_
  refine V_if_eq (q := 10) (t := 12) hX dX8_cellsFault_7 (by decide) rfl (fun z12 => ?_) (fun z12 => ?_)
  · have h := ite_t z12 h
    refine V_aload_n (q := 13) hX dX8_cellsFault_12 1 rfl rfl ?_
    refine V_iload_n (q := 14) hX dX8_cellsFault_13 2 rfl rfl ?_
    obtain ⟨r14, σ13, e15, h⟩ := bnd_some h
    refine V_cvR (n := 75) (c := 8) (nf := 11) (C := RX8) (T := TX8) (As := [.int (a1)]) (q := 17) hX (c8_sheetAt hX.2.2.2.2.1 hN e15) (goodV_of k3_231 k3_233 kp_27 k1_1 (cons_g k3_234)) (nA := 1) (by decide) rfl rfl rfl rfl rfl ⟨rfl, by decide⟩ hN rfl rfl rfl dX8_cellsFault_14 rfl ?_
    refine V_getI (n := 75) (c := 3) (k := 2) (nf := 3) (C := RX3) (T := TX3) (q := 20) hX rfl rfl iG3 k1_218 rfl rfl (sh8_sheetAt  e15) hN rfl rfl dX8_cellsFault_17 rfl ?_
    refine V_bipush (v := 9) (q := 22) hX dX8_cellsFault_20 (by decide) rfl ?_
    refine V_icmp_le (q := 25) (t := 30) hX dX8_cellsFault_22 (by decide) rfl (fun z16 => ?_) (fun z16 => ?_)
    · have h := ite_t z16 h
      refine V_iconst (v := 0) (q := 31) hX dX8_cellsFault_30 (by decide) rfl ?_
      obtain ⟨f1, f2⟩ := some2 h
      rw [f1, f2] at hQ
      exact V_iret hX hQ rfl dX8_cellsFault_31
    have h := ite_f z16 h
    refine V_bipush (v := -2) (q := 27) hX dX8_cellsFault_25 (by decide) rfl ?_
    refine V_goto hX dX8_cellsFault_27 (q := 31) (by decide) ?_
    obtain ⟨f1, f2⟩ := some2 h
    rw [f1, f2] at hQ
    exact V_iret hX hQ rfl dX8_cellsFault_31
  have h := ite_f z12 h
  refine V_iload_n (q := 11) hX dX8_cellsFault_10 0 rfl rfl ?_
  obtain ⟨f1, f2⟩ := some2 h
  rw [f1, f2] at hQ
  exact V_iret hX hQ rfl dX8_cellsFault_11
set_option maxRecDepth 100000 in
set_option maxHeartbeats 4000000 in
theorem c8_cellsFault {g : GT} {l : Launch} (hg : OkG g) (hN : 75 ≤ g.N) {a1 : Int32} {σ : St} {r : Int32} {σ' : St} (h : S8_cellsFault a1 σ = some (r, σ')) : CtI g l m8_cellsFault yX8_cellsFault [.ref (g.ad (0)), .int (a1)] σ r σ' := CtI.of hg (by decide) rfl rfl (fun X h1 h2 h3 => v8_cellsFault h1 hN (res := (r, σ')) h3 h)

abbrev m8_toldFault : MI := (cX8_toldFault, RX8, 6, some .int, 4)
def S8_toldFault (a1 : Int32) (a2 : Int32) (a3 : Int32) (a4 : Int32) (σ : St) : Option (Int32 × St) := bnd (S8_cellsFault a1 σ) fun r14 σ13 => if r14 = 0 then (bnd (S8_isPair a2 σ13) fun r18 σ17 => if r18 = 0 then (some ((-5 : Int32), σ17)) else (bnd (S8_arePlans a3 a4 σ17) fun r22 σ21 => if r22 = 0 then (some ((-7 : Int32), σ21)) else (some ((0 : Int32), σ21)))) else (some (r14, σ13))
set_option maxRecDepth 100000 in
set_option maxHeartbeats 4000000 in
theorem v8_toldFault {g : GT} {X : XT} {a1 : Int32} {a2 : Int32} {a3 : Int32} {a4 : Int32} (hX : OkX g X (m8_toldFault)) (hN : 75 ≤ g.N) {res : Int32 × St} (hQ : X.Q = QI g X res.1 res.2 ∧ X.cells = 0 ∧ X.slots = 0) {σ : St} (h : S8_toldFault a1 a2 a3 a4 σ = some res) : V g X (m8_toldFault) 0 [(0, .ref (g.ad (0))), (1, .int (a1)), (2, .int (a2)), (3, .int (a3)), (4, .int (a4))] [] σ := by
  unfold S8_toldFault at h
  refine V_aload_n (q := 1) hX dX8_toldFault_0 0 rfl rfl ?_
  refine V_iload_n (q := 2) hX dX8_toldFault_1 1 rfl rfl ?_
  obtain ⟨r14, σ13, e15, h⟩ := bnd_some h
  refine V_cvI (n := 75) (c := 8) (nf := 11) (C := RX8) (T := TX8) (As := [.int (a1)]) (q := 5) hX (c8_cellsFault hX.2.2.2.2.1 hN e15) (goodV_of k4_25 k4_27 kp_30 k1_1 (cons_g k4_28)) (nA := 1) (by decide) rfl rfl rfl rfl rfl ⟨rfl, by decide⟩ hN rfl rfl rfl dX8_toldFault_2 rfl ?_
  refine V_istore (lv' := [(5, .int (r14)), (0, .ref (g.ad (0))), (1, .int (a1)), (2, .int (a2)), (3, .int (a3)), (4, .int (a4))]) (q := 7) hX dX8_toldFault_5 rfl rfl rfl ?_
  refine V_iload (q := 9) hX dX8_toldFault_7 0 rfl rfl ?_
  refine V_if_eq (q := 12) (t := 15) hX dX8_toldFault_9 (by decide) rfl (fun z16 => ?_) (fun z16 => ?_)
  · have h := ite_t z16 h
    refine V_aload_n (q := 16) hX dX8_toldFault_15 1 rfl rfl ?_
    refine V_iload_n (q := 17) hX dX8_toldFault_16 3 rfl rfl ?_
    obtain ⟨r18, σ17, e19, h⟩ := bnd_some h
    refine V_cvI (n := 75) (c := 8) (nf := 11) (C := RX8) (T := TX8) (As := [.int (a2)]) (q := 20) hX (c8_isPair hX.2.2.2.2.1 hN e19) (goodV_of k3_67 k3_69 kp_14 k1_1 (cons_g k3_70)) (nA := 1) (by decide) rfl rfl rfl rfl rfl ⟨rfl, by decide⟩ hN rfl rfl rfl dX8_toldFault_17 rfl ?_
    refine V_if_ne (q := 23) (t := 26) hX dX8_toldFault_20 (by decide) rfl (fun z20 => ?_) (fun z20 => ?_)
    · have h := ite_f z20 h
      refine V_iload_n (q := 27) hX dX8_toldFault_26 4 rfl rfl ?_
      refine V_iload (q := 29) hX dX8_toldFault_27 5 rfl rfl ?_
      obtain ⟨r22, σ21, e23, h⟩ := bnd_some h
      refine V_csI (As := [.int (a3), .int (a4)]) (q := 32) hX (c8_arePlans hX.2.2.2.2.1 hN e23) (goodS_of k3_75 k3_76 k1_1 (cons_g k3_77)) (nA := 2) (by decide) rfl rfl rfl rfl rfl dX8_toldFault_29 rfl ?_
      refine V_if_eq (q := 35) (t := 39) hX dX8_toldFault_32 (by decide) rfl (fun z24 => ?_) (fun z24 => ?_)
      · have h := ite_t z24 h
        refine V_bipush (v := -7) (q := 41) hX dX8_toldFault_39 (by decide) rfl ?_
        obtain ⟨f1, f2⟩ := some2 h
        rw [f1, f2] at hQ
        exact V_iret hX hQ rfl dX8_toldFault_41
      have h := ite_f z24 h
      refine V_iconst (v := 0) (q := 36) hX dX8_toldFault_35 (by decide) rfl ?_
      refine V_goto hX dX8_toldFault_36 (q := 41) (by decide) ?_
      obtain ⟨f1, f2⟩ := some2 h
      rw [f1, f2] at hQ
      exact V_iret hX hQ rfl dX8_toldFault_41
    have h := ite_t z20 h
    refine V_bipush (v := -5) (q := 25) hX dX8_toldFault_23 (by decide) rfl ?_
    obtain ⟨f1, f2⟩ := some2 h
    rw [f1, f2] at hQ
    exact V_iret hX hQ rfl dX8_toldFault_25
  have h := ite_f z16 h
  refine V_iload (q := 14) hX dX8_toldFault_12 0 rfl rfl ?_
  obtain ⟨f1, f2⟩ := some2 h
  rw [f1, f2] at hQ
  exact V_iret hX hQ rfl dX8_toldFault_14
set_option maxRecDepth 100000 in
set_option maxHeartbeats 4000000 in
theorem c8_toldFault {g : GT} {l : Launch} (hg : OkG g) (hN : 75 ≤ g.N) {a1 : Int32} {a2 : Int32} {a3 : Int32} {a4 : Int32} {σ : St} {r : Int32} {σ' : St} (h : S8_toldFault a1 a2 a3 a4 σ = some (r, σ')) : CtI g l m8_toldFault yX8_toldFault [.ref (g.ad (0)), .int (a1), .int (a2), .int (a3), .int (a4)] σ r σ' := CtI.of hg (by decide) rfl rfl (fun X h1 h2 h3 => v8_toldFault h1 hN (res := (r, σ')) h3 h)

abbrev m8_judge : MI := (cX8_judge, RX8, 6, some .int, 5)
def S8_judge (a1 : Int32) (a2 : Int32) (a3 : Int32) (a4 : Int32) (σ : St) : Option (Int32 × St) := bnd (S8_toldFault a1 a2 a3 a4 σ) fun r27 σ26 => if r27 = 0 then (bnd (S8_theOne a2 σ26) fun r31 σ30 => bnd (S8_theOther a2 σ30) fun r34 σ33 => bnd (S8_theLaw σ33) fun r37 σ36 => bnd (S0_pair r31 r34 r37 σ36) fun r40 σ39 => bnd (S0_goThrough a3 a4 σ39) fun r43 σ42 => bnd (S8_sheetAt a1 σ42) fun r46 σ45 => bnd (S0_firstOtherwise r46 σ45) fun r49 σ48 => some (r49, σ48)) else (some (r27, σ26))
set_option maxRecDepth 100000 in
set_option maxHeartbeats 4000000 in
theorem v8_judge {g : GT} {X : XT} {a1 : Int32} {a2 : Int32} {a3 : Int32} {a4 : Int32} (hX : OkX g X (m8_judge)) (hN : 75 ≤ g.N) {res : Int32 × St} (hQ : X.Q = QI g X res.1 res.2 ∧ X.cells = 0 ∧ X.slots = 0) {σ : St} (h : S8_judge a1 a2 a3 a4 σ = some res) : V g X (m8_judge) 0 [(0, .ref (g.ad (0))), (1, .int (a1)), (2, .int (a2)), (3, .int (a3)), (4, .int (a4))] [] σ := by
  unfold S8_judge at h
  refine V_aload_n (q := 1) hX dX8_judge_0 0 rfl rfl ?_
  refine V_iload_n (q := 2) hX dX8_judge_1 1 rfl rfl ?_
  refine V_iload_n (q := 3) hX dX8_judge_2 2 rfl rfl ?_
  refine V_iload_n (q := 4) hX dX8_judge_3 3 rfl rfl ?_
  refine V_iload (q := 6) hX dX8_judge_4 4 rfl rfl ?_
  obtain ⟨r27, σ26, e28, h⟩ := bnd_some h
  refine V_cvI (n := 75) (c := 8) (nf := 11) (C := RX8) (T := TX8) (As := [.int (a1), .int (a2), .int (a3), .int (a4)]) (q := 9) hX (c8_toldFault hX.2.2.2.2.1 hN e28) (goodV_of k4_21 k4_23 kp_29 k1_1 (cons_g k4_24)) (nA := 4) (by decide) rfl rfl rfl rfl rfl ⟨rfl, by decide⟩ hN rfl rfl rfl dX8_judge_6 rfl ?_
  refine V_istore (lv' := [(5, .int (r27)), (0, .ref (g.ad (0))), (1, .int (a1)), (2, .int (a2)), (3, .int (a3)), (4, .int (a4))]) (q := 11) hX dX8_judge_9 rfl rfl rfl ?_
  refine V_iload (q := 13) hX dX8_judge_11 0 rfl rfl ?_
  refine V_if_eq (q := 16) (t := 19) hX dX8_judge_13 (by decide) rfl (fun z29 => ?_) (fun z29 => ?_)
  · have h := ite_t z29 h
    refine V_aload_n (q := 20) hX dX8_judge_19 1 rfl rfl ?_
    refine V_getF (r := 35) (n := 75) (c := 8) (k := 8) (nf := 11) (C := RX8) (T := TX8) (q := 23) hX rfl rfl iG8 k2_183 rfl rfl ⟨rfl, by decide⟩ hN rfl rfl rfl rfl dX8_judge_20 rfl ?_
    refine V_aload_n (q := 24) hX dX8_judge_23 1 rfl rfl ?_
    refine V_iload_n (q := 25) hX dX8_judge_24 3 rfl rfl ?_
    obtain ⟨r31, σ30, e32, h⟩ := bnd_some h
    refine V_cvR (n := 75) (c := 8) (nf := 11) (C := RX8) (T := TX8) (As := [.int (a2)]) (q := 28) hX (c8_theOne hX.2.2.2.2.1 hN e32) (goodV_of k3_82 k3_84 kp_16 k1_1 (cons_g k3_85)) (nA := 1) (by decide) rfl rfl rfl rfl rfl ⟨rfl, by decide⟩ hN rfl rfl rfl dX8_judge_25 rfl ?_
    refine V_aload_n (q := 29) hX dX8_judge_28 1 rfl rfl ?_
    refine V_iload_n (q := 30) hX dX8_judge_29 3 rfl rfl ?_
    obtain ⟨r34, σ33, e35, h⟩ := bnd_some h
    refine V_cvR (n := 75) (c := 8) (nf := 11) (C := RX8) (T := TX8) (As := [.int (a2)]) (q := 33) hX (c8_theOther hX.2.2.2.2.1 hN e35) (goodV_of k3_86 k3_88 kp_17 k1_1 (cons_g k3_89)) (nA := 1) (by decide) rfl rfl rfl rfl rfl ⟨rfl, by decide⟩ hN rfl rfl rfl dX8_judge_30 rfl ?_
    refine V_aload_n (q := 34) hX dX8_judge_33 1 rfl rfl ?_
    obtain ⟨r37, σ36, e38, h⟩ := bnd_some h
    refine V_cvR (n := 75) (c := 8) (nf := 11) (C := RX8) (T := TX8) (As := []) (q := 37) hX (c8_theLaw hX.2.2.2.2.1 hN e38) (goodV_of k3_1 k3_3 kp_13 k1_1 (cons_g k3_4)) (nA := 0) (by decide) rfl rfl rfl rfl rfl ⟨rfl, by decide⟩ hN rfl rfl rfl dX8_judge_34 rfl ?_
    obtain ⟨r40, σ39, e41, h⟩ := bnd_some h
    refine V_cvV (n := 75) (c := 0) (nf := 6) (C := RX0) (T := TX0) (As := [.ref (g.ad (r31)), .ref (g.ad (r34)), .ref (g.ad (r37))]) (q := 40) hX (c0_pair hX.2.2.2.2.1 hN (sh8_theOne e32) (sh8_theOther e35) (sh8_theLaw e38) e41) (goodV_of k3_90 k3_91 k3_92 k1_7 (cons_g k3_93)) (nA := 3) (by decide) rfl rfl rfl rfl rfl ⟨rfl, by decide⟩ hN rfl rfl rfl dX8_judge_37 rfl ?_
    refine V_aload_n (q := 41) hX dX8_judge_40 1 rfl rfl ?_
    refine V_getF (r := 35) (n := 75) (c := 8) (k := 8) (nf := 11) (C := RX8) (T := TX8) (q := 44) hX rfl rfl iG8 k2_183 rfl rfl ⟨rfl, by decide⟩ hN rfl rfl rfl rfl dX8_judge_41 rfl ?_
    refine V_iload_n (q := 45) hX dX8_judge_44 4 rfl rfl ?_
    refine V_iload (q := 47) hX dX8_judge_45 5 rfl rfl ?_
    obtain ⟨r43, σ42, e44, h⟩ := bnd_some h
    refine V_cvV (n := 75) (c := 0) (nf := 6) (C := RX0) (T := TX0) (As := [.int (a3), .int (a4)]) (q := 50) hX (c0_goThrough hX.2.2.2.2.1 hN e44) (goodV_of k3_117 k3_118 k3_119 k1_7 (cons_g k3_120)) (nA := 2) (by decide) rfl rfl rfl rfl rfl ⟨rfl, by decide⟩ hN rfl rfl rfl dX8_judge_47 rfl ?_
    refine V_aload_n (q := 51) hX dX8_judge_50 1 rfl rfl ?_
    refine V_getF (r := 35) (n := 75) (c := 8) (k := 8) (nf := 11) (C := RX8) (T := TX8) (q := 54) hX rfl rfl iG8 k2_183 rfl rfl ⟨rfl, by decide⟩ hN rfl rfl rfl rfl dX8_judge_51 rfl ?_
    refine V_aload_n (q := 55) hX dX8_judge_54 1 rfl rfl ?_
    refine V_iload_n (q := 56) hX dX8_judge_55 2 rfl rfl ?_
    obtain ⟨r46, σ45, e47, h⟩ := bnd_some h
    refine V_cvR (n := 75) (c := 8) (nf := 11) (C := RX8) (T := TX8) (As := [.int (a1)]) (q := 59) hX (c8_sheetAt hX.2.2.2.2.1 hN e47) (goodV_of k3_231 k3_233 kp_27 k1_1 (cons_g k3_234)) (nA := 1) (by decide) rfl rfl rfl rfl rfl ⟨rfl, by decide⟩ hN rfl rfl rfl dX8_judge_56 rfl ?_
    obtain ⟨r49, σ48, e50, h⟩ := bnd_some h
    refine V_cvI (n := 75) (c := 0) (nf := 6) (C := RX0) (T := TX0) (As := [.ref (g.ad (r46))]) (q := 62) hX (c0_firstOtherwise hX.2.2.2.2.1 hN (sh8_sheetAt e47) e50) (goodV_of k4_29 k4_30 k4_31 k1_7 (cons_g k4_32)) (nA := 1) (by decide) rfl rfl rfl rfl rfl ⟨rfl, by decide⟩ hN rfl rfl rfl dX8_judge_59 rfl ?_
    obtain ⟨f1, f2⟩ := some2 h
    rw [f1, f2] at hQ
    exact V_iret hX hQ rfl dX8_judge_62
  have h := ite_f z29 h
  refine V_iload (q := 18) hX dX8_judge_16 0 rfl rfl ?_
  obtain ⟨f1, f2⟩ := some2 h
  rw [f1, f2] at hQ
  exact V_iret hX hQ rfl dX8_judge_18
set_option maxRecDepth 100000 in
set_option maxHeartbeats 4000000 in
theorem c8_judge {g : GT} {l : Launch} (hg : OkG g) (hN : 75 ≤ g.N) {a1 : Int32} {a2 : Int32} {a3 : Int32} {a4 : Int32} {σ : St} {r : Int32} {σ' : St} (h : S8_judge a1 a2 a3 a4 σ = some (r, σ')) : CtI g l m8_judge yX8_judge [.ref (g.ad (0)), .int (a1), .int (a2), .int (a3), .int (a4)] σ r σ' := CtI.of hg (by decide) rfl rfl (fun X h1 h2 h3 => v8_judge h1 hN (res := (r, σ')) h3 h)

abbrev m8_wouldBeSo : MI := (cX8_wouldBeSo, RX8, 7, some .boolean, 5)
def S8_wouldBeSo (a1 : Int32) (a2 : Int32) (a3 : Int32) (a4 : Int32) (a5 : Int32) (a6 : Int32) (σ : St) : Option (Int32 × St) := bnd (S8_theOne a2 σ) fun r30 σ29 => bnd (S7_becomesLike 25 r30 σ29) fun r33 σ32 => bnd (S7_becomes 25 a5 a6 σ32) fun r36 σ35 => bnd (S8_theOther a2 σ35) fun r39 σ38 => bnd (S8_theLaw σ38) fun r42 σ41 => bnd (S0_pair 25 r39 r42 σ41) fun r45 σ44 => bnd (S0_goThrough a3 a4 σ44) fun r48 σ47 => bnd (S8_sheetAt a1 σ47) fun r51 σ50 => bnd (S0_firstOtherwise r51 σ50) fun r54 σ53 => if 0 ≤ r54 then (some ((0 : Int32), σ53)) else (some ((1 : Int32), σ53))
set_option maxRecDepth 100000 in
set_option maxHeartbeats 4000000 in
theorem v8_wouldBeSo {g : GT} {X : XT} {a1 : Int32} {a2 : Int32} {a3 : Int32} {a4 : Int32} {a5 : Int32} {a6 : Int32} (hX : OkX g X (m8_wouldBeSo)) (hN : 75 ≤ g.N) {res : Int32 × St} (hQ : X.Q = QI g X res.1 res.2 ∧ X.cells = 0 ∧ X.slots = 0) {σ : St} (h : S8_wouldBeSo a1 a2 a3 a4 a5 a6 σ = some res) : V g X (m8_wouldBeSo) 0 [(0, .ref (g.ad (0))), (1, .int (a1)), (2, .int (a2)), (3, .int (a3)), (4, .int (a4)), (5, .int (a5)), (6, .int (a6))] [] σ := by
  unfold S8_wouldBeSo at h
  refine V_aload_n (q := 1) hX dX8_wouldBeSo_0 0 rfl rfl ?_
  refine V_getF (r := 25) (n := 75) (c := 8) (k := 3) (nf := 11) (C := RX8) (T := TX8) (q := 4) hX rfl rfl iG8 k2_178 rfl rfl ⟨rfl, by decide⟩ hN rfl rfl rfl rfl dX8_wouldBeSo_1 rfl ?_
  refine V_aload_n (q := 5) hX dX8_wouldBeSo_4 0 rfl rfl ?_
  refine V_iload_n (q := 6) hX dX8_wouldBeSo_5 2 rfl rfl ?_
  obtain ⟨r30, σ29, e31, h⟩ := bnd_some h
  refine V_cvR (n := 75) (c := 8) (nf := 11) (C := RX8) (T := TX8) (As := [.int (a2)]) (q := 9) hX (c8_theOne hX.2.2.2.2.1 hN e31) (goodV_of k3_82 k3_84 kp_16 k1_1 (cons_g k3_85)) (nA := 1) (by decide) rfl rfl rfl rfl rfl ⟨rfl, by decide⟩ hN rfl rfl rfl dX8_wouldBeSo_6 rfl ?_
  obtain ⟨r33, σ32, e34, h⟩ := bnd_some h
  refine V_cvV (n := 75) (c := 7) (nf := 7) (C := RX7) (T := TX7) (As := [.ref (g.ad (r30))]) (q := 12) hX (c7_becomesLike hX.2.2.2.2.1 hN ⟨rfl, by decide⟩ (sh8_theOne e31) e34) (goodV_of k3_202 k3_203 k3_204 k1_3 (cons_g k3_205)) (nA := 1) (by decide) rfl rfl rfl rfl rfl ⟨rfl, by decide⟩ hN rfl rfl rfl dX8_wouldBeSo_9 rfl ?_
  refine V_aload_n (q := 13) hX dX8_wouldBeSo_12 0 rfl rfl ?_
  refine V_getF (r := 25) (n := 75) (c := 8) (k := 3) (nf := 11) (C := RX8) (T := TX8) (q := 16) hX rfl rfl iG8 k2_178 rfl rfl ⟨rfl, by decide⟩ hN rfl rfl rfl rfl dX8_wouldBeSo_13 rfl ?_
  refine V_iload (q := 18) hX dX8_wouldBeSo_16 5 rfl rfl ?_
  refine V_iload (q := 20) hX dX8_wouldBeSo_18 6 rfl rfl ?_
  obtain ⟨r36, σ35, e37, h⟩ := bnd_some h
  refine V_cvV (n := 75) (c := 7) (nf := 7) (C := RX7) (T := TX7) (As := [.int (a5), .int (a6)]) (q := 23) hX (c7_becomes hX.2.2.2.2.1 hN ⟨rfl, by decide⟩ e37) (goodV_of k3_55 k3_56 k3_57 k1_3 (cons_g k3_58)) (nA := 2) (by decide) rfl rfl rfl rfl rfl ⟨rfl, by decide⟩ hN rfl rfl rfl dX8_wouldBeSo_20 rfl ?_
  refine V_aload_n (q := 24) hX dX8_wouldBeSo_23 0 rfl rfl ?_
  refine V_getF (r := 35) (n := 75) (c := 8) (k := 8) (nf := 11) (C := RX8) (T := TX8) (q := 27) hX rfl rfl iG8 k2_183 rfl rfl ⟨rfl, by decide⟩ hN rfl rfl rfl rfl dX8_wouldBeSo_24 rfl ?_
  refine V_aload_n (q := 28) hX dX8_wouldBeSo_27 0 rfl rfl ?_
  refine V_getF (r := 25) (n := 75) (c := 8) (k := 3) (nf := 11) (C := RX8) (T := TX8) (q := 31) hX rfl rfl iG8 k2_178 rfl rfl ⟨rfl, by decide⟩ hN rfl rfl rfl rfl dX8_wouldBeSo_28 rfl ?_
  refine V_aload_n (q := 32) hX dX8_wouldBeSo_31 0 rfl rfl ?_
  refine V_iload_n (q := 33) hX dX8_wouldBeSo_32 2 rfl rfl ?_
  obtain ⟨r39, σ38, e40, h⟩ := bnd_some h
  refine V_cvR (n := 75) (c := 8) (nf := 11) (C := RX8) (T := TX8) (As := [.int (a2)]) (q := 36) hX (c8_theOther hX.2.2.2.2.1 hN e40) (goodV_of k3_86 k3_88 kp_17 k1_1 (cons_g k3_89)) (nA := 1) (by decide) rfl rfl rfl rfl rfl ⟨rfl, by decide⟩ hN rfl rfl rfl dX8_wouldBeSo_33 rfl ?_
  refine V_aload_n (q := 37) hX dX8_wouldBeSo_36 0 rfl rfl ?_
  obtain ⟨r42, σ41, e43, h⟩ := bnd_some h
  refine V_cvR (n := 75) (c := 8) (nf := 11) (C := RX8) (T := TX8) (As := []) (q := 40) hX (c8_theLaw hX.2.2.2.2.1 hN e43) (goodV_of k3_1 k3_3 kp_13 k1_1 (cons_g k3_4)) (nA := 0) (by decide) rfl rfl rfl rfl rfl ⟨rfl, by decide⟩ hN rfl rfl rfl dX8_wouldBeSo_37 rfl ?_
  obtain ⟨r45, σ44, e46, h⟩ := bnd_some h
  refine V_cvV (n := 75) (c := 0) (nf := 6) (C := RX0) (T := TX0) (As := [.ref (g.ad (25)), .ref (g.ad (r39)), .ref (g.ad (r42))]) (q := 43) hX (c0_pair hX.2.2.2.2.1 hN ⟨rfl, by decide⟩ (sh8_theOther e40) (sh8_theLaw e43) e46) (goodV_of k3_90 k3_91 k3_92 k1_7 (cons_g k3_93)) (nA := 3) (by decide) rfl rfl rfl rfl rfl ⟨rfl, by decide⟩ hN rfl rfl rfl dX8_wouldBeSo_40 rfl ?_
  refine V_aload_n (q := 44) hX dX8_wouldBeSo_43 0 rfl rfl ?_
  refine V_getF (r := 35) (n := 75) (c := 8) (k := 8) (nf := 11) (C := RX8) (T := TX8) (q := 47) hX rfl rfl iG8 k2_183 rfl rfl ⟨rfl, by decide⟩ hN rfl rfl rfl rfl dX8_wouldBeSo_44 rfl ?_
  refine V_iload_n (q := 48) hX dX8_wouldBeSo_47 3 rfl rfl ?_
  refine V_iload (q := 50) hX dX8_wouldBeSo_48 4 rfl rfl ?_
  obtain ⟨r48, σ47, e49, h⟩ := bnd_some h
  refine V_cvV (n := 75) (c := 0) (nf := 6) (C := RX0) (T := TX0) (As := [.int (a3), .int (a4)]) (q := 53) hX (c0_goThrough hX.2.2.2.2.1 hN e49) (goodV_of k3_117 k3_118 k3_119 k1_7 (cons_g k3_120)) (nA := 2) (by decide) rfl rfl rfl rfl rfl ⟨rfl, by decide⟩ hN rfl rfl rfl dX8_wouldBeSo_50 rfl ?_
  refine V_aload_n (q := 54) hX dX8_wouldBeSo_53 0 rfl rfl ?_
  refine V_getF (r := 35) (n := 75) (c := 8) (k := 8) (nf := 11) (C := RX8) (T := TX8) (q := 57) hX rfl rfl iG8 k2_183 rfl rfl ⟨rfl, by decide⟩ hN rfl rfl rfl rfl dX8_wouldBeSo_54 rfl ?_
  refine V_aload_n (q := 58) hX dX8_wouldBeSo_57 0 rfl rfl ?_
  refine V_iload_n (q := 59) hX dX8_wouldBeSo_58 1 rfl rfl ?_
  obtain ⟨r51, σ50, e52, h⟩ := bnd_some h
  refine V_cvR (n := 75) (c := 8) (nf := 11) (C := RX8) (T := TX8) (As := [.int (a1)]) (q := 62) hX (c8_sheetAt hX.2.2.2.2.1 hN e52) (goodV_of k3_231 k3_233 kp_27 k1_1 (cons_g k3_234)) (nA := 1) (by decide) rfl rfl rfl rfl rfl ⟨rfl, by decide⟩ hN rfl rfl rfl dX8_wouldBeSo_59 rfl ?_
  obtain ⟨r54, σ53, e55, h⟩ := bnd_some h
  refine V_cvI (n := 75) (c := 0) (nf := 6) (C := RX0) (T := TX0) (As := [.ref (g.ad (r51))]) (q := 65) hX (c0_firstOtherwise hX.2.2.2.2.1 hN (sh8_sheetAt e52) e55) (goodV_of k4_29 k4_30 k4_31 k1_7 (cons_g k4_32)) (nA := 1) (by decide) rfl rfl rfl rfl rfl ⟨rfl, by decide⟩ hN rfl rfl rfl dX8_wouldBeSo_62 rfl ?_
  refine V_if_ge (q := 68) (t := 72) hX dX8_wouldBeSo_65 (by decide) rfl (fun z56 => ?_) (fun z56 => ?_)
  · have h := ite_t z56 h
    refine V_iconst (v := 0) (q := 73) hX dX8_wouldBeSo_72 (by decide) rfl ?_
    obtain ⟨f1, f2⟩ := some2 h
    rw [f1, f2] at hQ
    exact V_zret (ty := .boolean) hX hQ rfl rfl dX8_wouldBeSo_73
  have h := ite_f z56 h
  refine V_iconst (v := 1) (q := 69) hX dX8_wouldBeSo_68 (by decide) rfl ?_
  refine V_goto hX dX8_wouldBeSo_69 (q := 73) (by decide) ?_
  obtain ⟨f1, f2⟩ := some2 h
  rw [f1, f2] at hQ
  exact V_zret (ty := .boolean) hX hQ rfl rfl dX8_wouldBeSo_73
set_option maxRecDepth 100000 in
set_option maxHeartbeats 4000000 in
theorem c8_wouldBeSo {g : GT} {l : Launch} (hg : OkG g) (hN : 75 ≤ g.N) {a1 : Int32} {a2 : Int32} {a3 : Int32} {a4 : Int32} {a5 : Int32} {a6 : Int32} {σ : St} {r : Int32} {σ' : St} (h : S8_wouldBeSo a1 a2 a3 a4 a5 a6 σ = some (r, σ')) : CtI g l m8_wouldBeSo yX8_wouldBeSo [.ref (g.ad (0)), .int (a1), .int (a2), .int (a3), .int (a4), .int (a5), .int (a6)] σ r σ' := CtI.of hg (by decide) rfl rfl (fun X h1 h2 h3 => v8_wouldBeSo h1 hN (res := (r, σ')) h3 h)

abbrev m8_kinds : MI := (cX8_kinds, RX8, 10, some .int, 6)
def S8_kinds_106 (a1 : Int32) (a2 : Int32) (a3 : Int32) (a4 : Int32) (a5 : Int32) (k62 : Int32 → Int32 → Int32 → St → Option (Int32 × St)) (x7 : Int32) (x9 : Int32) (s0 : Int32) (s1 : Int32) (σ : St) : Option (Int32 × St) := k62 x7 (s0 ||| s1) (x9 + 1) σ
def S8_kinds_77 (a1 : Int32) (a2 : Int32) (a3 : Int32) (a4 : Int32) (a5 : Int32) (k62 : Int32 → Int32 → Int32 → St → Option (Int32 × St)) (x7 : Int32) (x8 : Int32) (x9 : Int32) (s0 : Int32) (s1 : Int32) (σ : St) : Option (Int32 × St) := if s1 ≤ s0 then (some (x8, σ)) else (bnd (S8_wouldBeSo a1 a2 a3 a4 x7 x9 σ) fun r45 σ44 => if r45 = 0 then (S8_kinds_106 a1 a2 a3 a4 a5 k62 x7 x9 x8 (0 : Int32) σ44) else (S8_kinds_106 a1 a2 a3 a4 a5 k62 x7 x9 x8 ((1 : Int32) <<< (x9 &&& 31)) σ44))
def B8_kinds_62 (a1 : Int32) (a2 : Int32) (a3 : Int32) (a4 : Int32) (a5 : Int32) (rec : Int32 → Int32 → Int32 → St → Option (Int32 × St)) (x7 : Int32) (x8 : Int32) (x9 : Int32) (σ : St) : Option (Int32 × St) := if x7 = (5 : Int32) then (S8_kinds_77 a1 a2 a3 a4 a5 rec x7 x8 x9 x9 (6 : Int32) σ) else (S8_kinds_77 a1 a2 a3 a4 a5 rec x7 x8 x9 x9 (10 : Int32) σ)
def S8_kinds_62 (a1 : Int32) (a2 : Int32) (a3 : Int32) (a4 : Int32) (a5 : Int32) : Nat → Int32 → Int32 → Int32 → St → Option (Int32 × St)
  | 0, _, _, _, _ => none
  | n + 1, x7, x8, x9, σ => B8_kinds_62 a1 a2 a3 a4 a5 (S8_kinds_62 a1 a2 a3 a4 a5 n) x7 x8 x9 σ
def S8_kinds_54 (a1 : Int32) (a2 : Int32) (a3 : Int32) (a4 : Int32) (a5 : Int32) (s0 : Int32) (σ : St) : Option (Int32 × St) := S8_kinds_62 a1 a2 a3 a4 a5 4096 s0 (0 : Int32) (0 : Int32) σ
def S8_kinds (a1 : Int32) (a2 : Int32) (a3 : Int32) (a4 : Int32) (a5 : Int32) (σ : St) : Option (Int32 × St) := bnd (S8_toldFault a1 a2 a3 a4 σ) fun r50 σ49 => if r50 = 0 then (if a5 < 0 then (some ((-7 : Int32), σ49)) else (if a5 ≤ (2 : Int32) then (if a5 = 0 then (S8_kinds_54 a1 a2 a3 a4 a5 (5 : Int32) σ49) else (if a5 = (1 : Int32) then (S8_kinds_54 a1 a2 a3 a4 a5 (6 : Int32) σ49) else (S8_kinds_54 a1 a2 a3 a4 a5 (2 : Int32) σ49))) else (some ((-7 : Int32), σ49)))) else (some (r50, σ49))
set_option maxRecDepth 100000 in
set_option maxHeartbeats 4000000 in
theorem v8_kinds_106 {g : GT} {X : XT} {a1 : Int32} {a2 : Int32} {a3 : Int32} {a4 : Int32} {a5 : Int32} (hX : OkX g X (m8_kinds)) (hN : 75 ≤ g.N) {res : Int32 × St} (hQ : X.Q = QI g X res.1 res.2 ∧ X.cells = 0 ∧ X.slots = 0)  {k62 : Int32 → Int32 → Int32 → St → Option (Int32 × St)} (hk62 : ∀ (x7 : Int32) (x8 : Int32) (x9 : Int32) (σ : St), k62 x7 x8 x9 σ = some res → V g X (m8_kinds) 62 [(0, .ref (g.ad (0))), (1, .int (a1)), (2, .int (a2)), (3, .int (a3)), (4, .int (a4)), (7, .int (x7)), (8, .int (x8)), (9, .int (x9))] [] σ) (x7 : Int32) (x9 : Int32) (s0 : Int32) (s1 : Int32) (σ : St)  (h : S8_kinds_106 a1 a2 a3 a4 a5 k62 x7 x9 s0 s1 σ = some res) : V g X (m8_kinds) 106 [(0, .ref (g.ad (0))), (1, .int (a1)), (2, .int (a2)), (3, .int (a3)), (4, .int (a4)), (7, .int (x7)), (9, .int (x9))] [.int (s1), .int (s0)] σ := by
  unfold S8_kinds_106 at h
  refine V_ior (q := 107) hX dX8_kinds_106 rfl ?_
  refine V_istore (lv' := [(8, .int ((s0 ||| s1))), (0, .ref (g.ad (0))), (1, .int (a1)), (2, .int (a2)), (3, .int (a3)), (4, .int (a4)), (7, .int (x7)), (9, .int (x9))]) (q := 109) hX dX8_kinds_107 rfl rfl rfl ?_
  refine V_iinc (v := (x9 + 1)) (lv' := [(9, .int ((x9 + 1))), (8, .int ((s0 ||| s1))), (0, .ref (g.ad (0))), (1, .int (a1)), (2, .int (a2)), (3, .int (a3)), (4, .int (a4)), (7, .int (x7))]) (q := 112) hX dX8_kinds_109 7 rfl (by rfl) rfl rfl rfl ?_
  refine V_goto hX dX8_kinds_112 (q := 62) (by decide) ?_
  refine V.pick [2, 3, 4, 5, 6, 7, 1, 0] rfl ?_
  exact hk62 x7 (s0 ||| s1) (x9 + 1) σ  h
set_option maxRecDepth 100000 in
set_option maxHeartbeats 4000000 in
theorem v8_kinds_77 {g : GT} {X : XT} {a1 : Int32} {a2 : Int32} {a3 : Int32} {a4 : Int32} {a5 : Int32} (hX : OkX g X (m8_kinds)) (hN : 75 ≤ g.N) {res : Int32 × St} (hQ : X.Q = QI g X res.1 res.2 ∧ X.cells = 0 ∧ X.slots = 0)  {k62 : Int32 → Int32 → Int32 → St → Option (Int32 × St)} (hk62 : ∀ (x7 : Int32) (x8 : Int32) (x9 : Int32) (σ : St), k62 x7 x8 x9 σ = some res → V g X (m8_kinds) 62 [(0, .ref (g.ad (0))), (1, .int (a1)), (2, .int (a2)), (3, .int (a3)), (4, .int (a4)), (7, .int (x7)), (8, .int (x8)), (9, .int (x9))] [] σ) (x7 : Int32) (x8 : Int32) (x9 : Int32) (s0 : Int32) (s1 : Int32) (σ : St)  (h : S8_kinds_77 a1 a2 a3 a4 a5 k62 x7 x8 x9 s0 s1 σ = some res) : V g X (m8_kinds) 77 [(0, .ref (g.ad (0))), (1, .int (a1)), (2, .int (a2)), (3, .int (a3)), (4, .int (a4)), (7, .int (x7)), (8, .int (x8)), (9, .int (x9))] [.int (s1), .int (s0)] σ := by
  unfold S8_kinds_77 at h
  refine V_icmp_ge (q := 80) (t := 115) hX dX8_kinds_77 (by decide) rfl (fun z43 => ?_) (fun z43 => ?_)
  · have h := ite_t z43 h
    refine V_iload (q := 117) hX dX8_kinds_115 6 rfl rfl ?_
    obtain ⟨f1, f2⟩ := some2 h
    rw [f1, f2] at hQ
    exact V_iret hX hQ rfl dX8_kinds_117
  have h := ite_f z43 h
  refine V_iload (q := 82) hX dX8_kinds_80 6 rfl rfl ?_
  refine V_aload_n (q := 83) hX dX8_kinds_82 0 rfl rfl ?_
  refine V_iload_n (q := 84) hX dX8_kinds_83 1 rfl rfl ?_
  refine V_iload_n (q := 85) hX dX8_kinds_84 2 rfl rfl ?_
  refine V_iload_n (q := 86) hX dX8_kinds_85 3 rfl rfl ?_
  refine V_iload (q := 88) hX dX8_kinds_86 4 rfl rfl ?_
  refine V_iload (q := 90) hX dX8_kinds_88 5 rfl rfl ?_
  refine V_iload (q := 92) hX dX8_kinds_90 7 rfl rfl ?_
  obtain ⟨r45, σ44, e46, h⟩ := bnd_some h
  refine V_cvI (n := 75) (c := 8) (nf := 11) (C := RX8) (T := TX8) (As := [.int (a1), .int (a2), .int (a3), .int (a4), .int (x7), .int (x9)]) (q := 95) hX (c8_wouldBeSo hX.2.2.2.2.1 hN e46) (goodV_of k4_39 k4_41 kp_31 k1_1 (cons_g k4_42)) (nA := 6) (by decide) rfl rfl rfl rfl rfl ⟨rfl, by decide⟩ hN rfl rfl rfl dX8_kinds_92 rfl ?_
  refine V_if_eq (q := 98) (t := 105) hX dX8_kinds_95 (by decide) rfl (fun z47 => ?_) (fun z47 => ?_)
  · have h := ite_t z47 h
    refine V_iconst (v := 0) (q := 106) hX dX8_kinds_105 (by decide) rfl ?_
    refine V.pick [0, 1, 2, 3, 4, 5, 7] rfl ?_
    exact v8_kinds_106 hX hN hQ hk62 x7 x9 x8 (0 : Int32) σ44 h
  have h := ite_f z47 h
  refine V_iconst (v := 1) (q := 99) hX dX8_kinds_98 (by decide) rfl ?_
  refine V_iload (q := 101) hX dX8_kinds_99 7 rfl rfl ?_
  refine V_ishl (q := 102) hX dX8_kinds_101 rfl ?_
  refine V_goto hX dX8_kinds_102 (q := 106) (by decide) ?_
  refine V.pick [0, 1, 2, 3, 4, 5, 7] rfl ?_
  exact v8_kinds_106 hX hN hQ hk62 x7 x9 x8 ((1 : Int32) <<< (x9 &&& 31)) σ44 h
set_option maxRecDepth 100000 in
set_option maxHeartbeats 4000000 in
theorem v8_kinds_62n {g : GT} {X : XT} {a1 : Int32} {a2 : Int32} {a3 : Int32} {a4 : Int32} {a5 : Int32} (hX : OkX g X (m8_kinds)) (hN : 75 ≤ g.N) {res : Int32 × St} (hQ : X.Q = QI g X res.1 res.2 ∧ X.cells = 0 ∧ X.slots = 0)   (n : Nat) : ∀ (x7 : Int32) (x8 : Int32) (x9 : Int32) (σ : St) , S8_kinds_62 a1 a2 a3 a4 a5 n x7 x8 x9 σ = some res → V g X (m8_kinds) 62 [(0, .ref (g.ad (0))), (1, .int (a1)), (2, .int (a2)), (3, .int (a3)), (4, .int (a4)), (7, .int (x7)), (8, .int (x8)), (9, .int (x9))] [] σ := by
  induction n with
  | zero => intro x7 x8 x9 σ; intro h; cases h
  | succ n ih =>
    intro x7 x8 x9 σ h
    have h : B8_kinds_62 a1 a2 a3 a4 a5 (S8_kinds_62 a1 a2 a3 a4 a5 n) x7 x8 x9 σ = some res := h
    unfold B8_kinds_62 at h
    refine V_iload (q := 64) hX dX8_kinds_62 7 rfl rfl ?_
    refine V_iload (q := 66) hX dX8_kinds_64 5 rfl rfl ?_
    refine V_iconst (v := 5) (q := 67) hX dX8_kinds_66 (by decide) rfl ?_
    refine V_icmp_ne (q := 70) (t := 75) hX dX8_kinds_67 (by decide) rfl (fun z48 => ?_) (fun z48 => ?_)
    · have h := ite_f z48 h
      refine V_bipush (v := 10) (q := 77) hX dX8_kinds_75 (by decide) rfl ?_
      refine V.pick [0, 1, 2, 3, 4, 5, 6, 7] rfl ?_
      exact v8_kinds_77 hX hN hQ ih x7 x8 x9 x9 (10 : Int32) σ h
    have h := ite_t z48 h
    refine V_bipush (v := 6) (q := 72) hX dX8_kinds_70 (by decide) rfl ?_
    refine V_goto hX dX8_kinds_72 (q := 77) (by decide) ?_
    refine V.pick [0, 1, 2, 3, 4, 5, 6, 7] rfl ?_
    exact v8_kinds_77 hX hN hQ ih x7 x8 x9 x9 (6 : Int32) σ h
theorem v8_kinds_62 {g : GT} {X : XT} {a1 : Int32} {a2 : Int32} {a3 : Int32} {a4 : Int32} {a5 : Int32} (hX : OkX g X (m8_kinds)) (hN : 75 ≤ g.N) {res : Int32 × St} (hQ : X.Q = QI g X res.1 res.2 ∧ X.cells = 0 ∧ X.slots = 0) (x7 : Int32) (x8 : Int32) (x9 : Int32) (σ : St) (h : S8_kinds_62 a1 a2 a3 a4 a5 4096 x7 x8 x9 σ = some res) : V g X (m8_kinds) 62 [(0, .ref (g.ad (0))), (1, .int (a1)), (2, .int (a2)), (3, .int (a3)), (4, .int (a4)), (7, .int (x7)), (8, .int (x8)), (9, .int (x9))] [] σ := v8_kinds_62n hX hN hQ 4096 x7 x8 x9 σ h
set_option maxRecDepth 100000 in
set_option maxHeartbeats 4000000 in
theorem v8_kinds_54 {g : GT} {X : XT} {a1 : Int32} {a2 : Int32} {a3 : Int32} {a4 : Int32} {a5 : Int32} (hX : OkX g X (m8_kinds)) (hN : 75 ≤ g.N) {res : Int32 × St} (hQ : X.Q = QI g X res.1 res.2 ∧ X.cells = 0 ∧ X.slots = 0)   (s0 : Int32) (σ : St)  (h : S8_kinds_54 a1 a2 a3 a4 a5 s0 σ = some res) : V g X (m8_kinds) 54 [(0, .ref (g.ad (0))), (1, .int (a1)), (2, .int (a2)), (3, .int (a3)), (4, .int (a4))] [.int (s0)] σ := by
  unfold S8_kinds_54 at h
  refine V_istore (lv' := [(7, .int (s0)), (0, .ref (g.ad (0))), (1, .int (a1)), (2, .int (a2)), (3, .int (a3)), (4, .int (a4))]) (q := 56) hX dX8_kinds_54 rfl rfl rfl ?_
  refine V_iconst (v := 0) (q := 57) hX dX8_kinds_56 (by decide) rfl ?_
  refine V_istore (lv' := [(8, .int ((0 : Int32))), (7, .int (s0)), (0, .ref (g.ad (0))), (1, .int (a1)), (2, .int (a2)), (3, .int (a3)), (4, .int (a4))]) (q := 59) hX dX8_kinds_57 rfl rfl rfl ?_
  refine V_iconst (v := 0) (q := 60) hX dX8_kinds_59 (by decide) rfl ?_
  refine V_istore (lv' := [(9, .int ((0 : Int32))), (8, .int ((0 : Int32))), (7, .int (s0)), (0, .ref (g.ad (0))), (1, .int (a1)), (2, .int (a2)), (3, .int (a3)), (4, .int (a4))]) (q := 62) hX dX8_kinds_60 rfl rfl rfl ?_
  refine V.pick [3, 4, 5, 6, 7, 2, 1, 0] rfl ?_
  exact v8_kinds_62 hX hN hQ s0 (0 : Int32) (0 : Int32) σ h
set_option maxRecDepth 100000 in
set_option maxHeartbeats 4000000 in
theorem v8_kinds {g : GT} {X : XT} {a1 : Int32} {a2 : Int32} {a3 : Int32} {a4 : Int32} {a5 : Int32} (hX : OkX g X (m8_kinds)) (hN : 75 ≤ g.N) {res : Int32 × St} (hQ : X.Q = QI g X res.1 res.2 ∧ X.cells = 0 ∧ X.slots = 0) {σ : St} (h : S8_kinds a1 a2 a3 a4 a5 σ = some res) : V g X (m8_kinds) 0 [(0, .ref (g.ad (0))), (1, .int (a1)), (2, .int (a2)), (3, .int (a3)), (4, .int (a4)), (5, .int (a5))] [] σ := by
  unfold S8_kinds at h
  refine V_aload_n (q := 1) hX dX8_kinds_0 0 rfl rfl ?_
  refine V_iload_n (q := 2) hX dX8_kinds_1 1 rfl rfl ?_
  refine V_iload_n (q := 3) hX dX8_kinds_2 2 rfl rfl ?_
  refine V_iload_n (q := 4) hX dX8_kinds_3 3 rfl rfl ?_
  refine V_iload (q := 6) hX dX8_kinds_4 4 rfl rfl ?_
  obtain ⟨r50, σ49, e51, h⟩ := bnd_some h
  refine V_cvI (n := 75) (c := 8) (nf := 11) (C := RX8) (T := TX8) (As := [.int (a1), .int (a2), .int (a3), .int (a4)]) (q := 9) hX (c8_toldFault hX.2.2.2.2.1 hN e51) (goodV_of k4_21 k4_23 kp_29 k1_1 (cons_g k4_24)) (nA := 4) (by decide) rfl rfl rfl rfl rfl ⟨rfl, by decide⟩ hN rfl rfl rfl dX8_kinds_6 rfl ?_
  refine V_istore (lv' := [(6, .int (r50)), (0, .ref (g.ad (0))), (1, .int (a1)), (2, .int (a2)), (3, .int (a3)), (4, .int (a4)), (5, .int (a5))]) (q := 11) hX dX8_kinds_9 rfl rfl rfl ?_
  refine V_iload (q := 13) hX dX8_kinds_11 0 rfl rfl ?_
  refine V_if_eq (q := 16) (t := 19) hX dX8_kinds_13 (by decide) rfl (fun z52 => ?_) (fun z52 => ?_)
  · have h := ite_t z52 h
    refine V_iload (q := 21) hX dX8_kinds_19 6 rfl rfl ?_
    refine V_if_lt (q := 24) (t := 30) hX dX8_kinds_21 (by decide) rfl (fun z53 => ?_) (fun z53 => ?_)
    · have h := ite_t z53 h
      refine V_bipush (v := -7) (q := 32) hX dX8_kinds_30 (by decide) rfl ?_
      obtain ⟨f1, f2⟩ := some2 h
      rw [f1, f2] at hQ
      exact V_iret hX hQ rfl dX8_kinds_32
    have h := ite_f z53 h
    refine V_iload (q := 26) hX dX8_kinds_24 6 rfl rfl ?_
    refine V_iconst (v := 2) (q := 27) hX dX8_kinds_26 (by decide) rfl ?_
    refine V_icmp_le (q := 30) (t := 33) hX dX8_kinds_27 (by decide) rfl (fun z54 => ?_) (fun z54 => ?_)
    · have h := ite_t z54 h
      refine V_iload (q := 35) hX dX8_kinds_33 6 rfl rfl ?_
      refine V_if_ne (q := 38) (t := 42) hX dX8_kinds_35 (by decide) rfl (fun z55 => ?_) (fun z55 => ?_)
      · have h := ite_f z55 h
        refine V_iload (q := 44) hX dX8_kinds_42 6 rfl rfl ?_
        refine V_iconst (v := 1) (q := 45) hX dX8_kinds_44 (by decide) rfl ?_
        refine V_icmp_ne (q := 48) (t := 53) hX dX8_kinds_45 (by decide) rfl (fun z56 => ?_) (fun z56 => ?_)
        · have h := ite_f z56 h
          refine V_iconst (v := 2) (q := 54) hX dX8_kinds_53 (by decide) rfl ?_
          refine V.pick [1, 2, 3, 4, 5] rfl ?_
          exact v8_kinds_54 hX hN hQ (2 : Int32) σ49 h
        have h := ite_t z56 h
        refine V_bipush (v := 6) (q := 50) hX dX8_kinds_48 (by decide) rfl ?_
        refine V_goto hX dX8_kinds_50 (q := 54) (by decide) ?_
        refine V.pick [1, 2, 3, 4, 5] rfl ?_
        exact v8_kinds_54 hX hN hQ (6 : Int32) σ49 h
      have h := ite_t z55 h
      refine V_iconst (v := 5) (q := 39) hX dX8_kinds_38 (by decide) rfl ?_
      refine V_goto hX dX8_kinds_39 (q := 54) (by decide) ?_
      refine V.pick [1, 2, 3, 4, 5] rfl ?_
      exact v8_kinds_54 hX hN hQ (5 : Int32) σ49 h
    have h := ite_f z54 h
    refine V_bipush (v := -7) (q := 32) hX dX8_kinds_30 (by decide) rfl ?_
    obtain ⟨f1, f2⟩ := some2 h
    rw [f1, f2] at hQ
    exact V_iret hX hQ rfl dX8_kinds_32
  have h := ite_f z52 h
  refine V_iload (q := 18) hX dX8_kinds_16 0 rfl rfl ?_
  obtain ⟨f1, f2⟩ := some2 h
  rw [f1, f2] at hQ
  exact V_iret hX hQ rfl dX8_kinds_18
set_option maxRecDepth 100000 in
set_option maxHeartbeats 4000000 in
theorem c8_kinds {g : GT} {l : Launch} (hg : OkG g) (hN : 75 ≤ g.N) {a1 : Int32} {a2 : Int32} {a3 : Int32} {a4 : Int32} {a5 : Int32} {σ : St} {r : Int32} {σ' : St} (h : S8_kinds a1 a2 a3 a4 a5 σ = some (r, σ')) : CtI g l m8_kinds yX8_kinds [.ref (g.ad (0)), .int (a1), .int (a2), .int (a3), .int (a4), .int (a5)] σ r σ' := CtI.of hg (by decide) rfl rfl (fun X h1 h2 h3 => v8_kinds h1 hN (res := (r, σ')) h3 h)

abbrev m8_acts : MI := (cX8_acts, RX8, 10, some .int, 5)
def S8_acts_123 (a1 : Int32) (a2 : Int32) (a3 : Int32) (a4 : Int32) (a5 : Int32) (k73 : Int32 → Int32 → St → Option (Int32 × St)) (x9 : Int32) (s0 : Int32) (s1 : Int32) (σ : St) : Option (Int32 × St) := k73 (s0 ||| s1) (x9 + 1) σ
def B8_acts_73 (a1 : Int32) (a2 : Int32) (a3 : Int32) (a4 : Int32) (a5 : Int32) (rec : Int32 → Int32 → St → Option (Int32 × St)) (x8 : Int32) (x9 : Int32) (σ : St) : Option (Int32 × St) := if (4 : Int32) ≤ x9 then (some (x8, σ)) else (bnd (S0_goThrough ((a3 &&& (((3 : Int32) <<< (((2 : Int32) * a5) &&& 31)) ^^^ (-1 : Int32))) ||| (x9 <<< (((2 : Int32) * a5) &&& 31))) a4 σ) fun r90 σ89 => bnd (S8_sheetAt a1 σ89) fun r93 σ92 => bnd (S0_firstOtherwise r93 σ92) fun r96 σ95 => if 0 ≤ r96 then (S8_acts_123 a1 a2 a3 a4 a5 rec x9 x8 (0 : Int32) σ95) else (S8_acts_123 a1 a2 a3 a4 a5 rec x9 x8 ((1 : Int32) <<< (x9 &&& 31)) σ95))
def S8_acts_73 (a1 : Int32) (a2 : Int32) (a3 : Int32) (a4 : Int32) (a5 : Int32) : Nat → Int32 → Int32 → St → Option (Int32 × St)
  | 0, _, _, _ => none
  | n + 1, x8, x9, σ => B8_acts_73 a1 a2 a3 a4 a5 (S8_acts_73 a1 a2 a3 a4 a5 n) x8 x9 σ
def S8_acts (a1 : Int32) (a2 : Int32) (a3 : Int32) (a4 : Int32) (a5 : Int32) (σ : St) : Option (Int32 × St) := bnd (S8_toldFault a1 a2 a3 a4 σ) fun r100 σ99 => if r100 = 0 then (if a5 < 0 then (some ((-7 : Int32), σ99)) else (if a5 < (9 : Int32) then (bnd (S8_theOne a2 σ99) fun r106 σ105 => bnd (S8_theOther a2 σ105) fun r109 σ108 => bnd (S8_theLaw σ108) fun r112 σ111 => bnd (S0_pair r106 r109 r112 σ111) fun r115 σ114 => S8_acts_73 a1 a2 a3 a4 a5 4096 (0 : Int32) (0 : Int32) σ114) else (some ((-7 : Int32), σ99)))) else (some (r100, σ99))
set_option maxRecDepth 100000 in
set_option maxHeartbeats 4000000 in
theorem v8_acts_123 {g : GT} {X : XT} {a1 : Int32} {a2 : Int32} {a3 : Int32} {a4 : Int32} {a5 : Int32} (hX : OkX g X (m8_acts)) (hN : 75 ≤ g.N) {res : Int32 × St} (hQ : X.Q = QI g X res.1 res.2 ∧ X.cells = 0 ∧ X.slots = 0)  {k73 : Int32 → Int32 → St → Option (Int32 × St)} (hk73 : ∀ (x8 : Int32) (x9 : Int32) (σ : St), k73 x8 x9 σ = some res → V g X (m8_acts) 73 [(0, .ref (g.ad (0))), (1, .int (a1)), (4, .int (a4)), (5, .int (a5)), (7, .int ((a3 &&& (((3 : Int32) <<< (((2 : Int32) * a5) &&& 31)) ^^^ (-1 : Int32))))), (8, .int (x8)), (9, .int (x9))] [] σ) (x9 : Int32) (s0 : Int32) (s1 : Int32) (σ : St)  (h : S8_acts_123 a1 a2 a3 a4 a5 k73 x9 s0 s1 σ = some res) : V g X (m8_acts) 123 [(0, .ref (g.ad (0))), (1, .int (a1)), (4, .int (a4)), (5, .int (a5)), (7, .int ((a3 &&& (((3 : Int32) <<< (((2 : Int32) * a5) &&& 31)) ^^^ (-1 : Int32))))), (9, .int (x9))] [.int (s1), .int (s0)] σ := by
  unfold S8_acts_123 at h
  refine V_ior (q := 124) hX dX8_acts_123 rfl ?_
  refine V_istore (lv' := [(8, .int ((s0 ||| s1))), (0, .ref (g.ad (0))), (1, .int (a1)), (4, .int (a4)), (5, .int (a5)), (7, .int ((a3 &&& (((3 : Int32) <<< (((2 : Int32) * a5) &&& 31)) ^^^ (-1 : Int32))))), (9, .int (x9))]) (q := 126) hX dX8_acts_124 rfl rfl rfl ?_
  refine V_iinc (v := (x9 + 1)) (lv' := [(9, .int ((x9 + 1))), (8, .int ((s0 ||| s1))), (0, .ref (g.ad (0))), (1, .int (a1)), (4, .int (a4)), (5, .int (a5)), (7, .int ((a3 &&& (((3 : Int32) <<< (((2 : Int32) * a5) &&& 31)) ^^^ (-1 : Int32)))))]) (q := 129) hX dX8_acts_126 6 rfl (by rfl) rfl rfl rfl ?_
  refine V_goto hX dX8_acts_129 (q := 73) (by decide) ?_
  refine V.pick [2, 3, 4, 5, 6, 1, 0] rfl ?_
  exact hk73 (s0 ||| s1) (x9 + 1) σ  h
set_option maxRecDepth 100000 in
set_option maxHeartbeats 4000000 in
theorem v8_acts_73n {g : GT} {X : XT} {a1 : Int32} {a2 : Int32} {a3 : Int32} {a4 : Int32} {a5 : Int32} (hX : OkX g X (m8_acts)) (hN : 75 ≤ g.N) {res : Int32 × St} (hQ : X.Q = QI g X res.1 res.2 ∧ X.cells = 0 ∧ X.slots = 0)   (n : Nat) : ∀ (x8 : Int32) (x9 : Int32) (σ : St) , S8_acts_73 a1 a2 a3 a4 a5 n x8 x9 σ = some res → V g X (m8_acts) 73 [(0, .ref (g.ad (0))), (1, .int (a1)), (4, .int (a4)), (5, .int (a5)), (7, .int ((a3 &&& (((3 : Int32) <<< (((2 : Int32) * a5) &&& 31)) ^^^ (-1 : Int32))))), (8, .int (x8)), (9, .int (x9))] [] σ := by
  induction n with
  | zero => intro x8 x9 σ; intro h; cases h
  | succ n ih =>
    intro x8 x9 σ h
    have h : B8_acts_73 a1 a2 a3 a4 a5 (S8_acts_73 a1 a2 a3 a4 a5 n) x8 x9 σ = some res := h
    unfold B8_acts_73 at h
    refine V_iload (q := 75) hX dX8_acts_73 6 rfl rfl ?_
    refine V_iconst (v := 4) (q := 76) hX dX8_acts_75 (by decide) rfl ?_
    refine V_icmp_ge (q := 79) (t := 132) hX dX8_acts_76 (by decide) rfl (fun z88 => ?_) (fun z88 => ?_)
    · have h := ite_t z88 h
      refine V_iload (q := 134) hX dX8_acts_132 5 rfl rfl ?_
      obtain ⟨f1, f2⟩ := some2 h
      rw [f1, f2] at hQ
      exact V_iret hX hQ rfl dX8_acts_134
    have h := ite_f z88 h
    refine V_aload_n (q := 80) hX dX8_acts_79 0 rfl rfl ?_
    refine V_getF (r := 35) (n := 75) (c := 8) (k := 8) (nf := 11) (C := RX8) (T := TX8) (q := 83) hX rfl rfl iG8 k2_183 rfl rfl ⟨rfl, by decide⟩ hN rfl rfl rfl rfl dX8_acts_80 rfl ?_
    refine V_iload (q := 85) hX dX8_acts_83 4 rfl rfl ?_
    refine V_iload (q := 87) hX dX8_acts_85 6 rfl rfl ?_
    refine V_iconst (v := 2) (q := 88) hX dX8_acts_87 (by decide) rfl ?_
    refine V_iload (q := 90) hX dX8_acts_88 3 rfl rfl ?_
    refine V_imul (q := 91) hX dX8_acts_90 rfl ?_
    refine V_ishl (q := 92) hX dX8_acts_91 rfl ?_
    refine V_ior (q := 93) hX dX8_acts_92 rfl ?_
    refine V_iload (q := 95) hX dX8_acts_93 2 rfl rfl ?_
    obtain ⟨r90, σ89, e91, h⟩ := bnd_some h
    refine V_cvV (n := 75) (c := 0) (nf := 6) (C := RX0) (T := TX0) (As := [.int (((a3 &&& (((3 : Int32) <<< (((2 : Int32) * a5) &&& 31)) ^^^ (-1 : Int32))) ||| (x9 <<< (((2 : Int32) * a5) &&& 31)))), .int (a4)]) (q := 98) hX (c0_goThrough hX.2.2.2.2.1 hN e91) (goodV_of k3_117 k3_118 k3_119 k1_7 (cons_g k3_120)) (nA := 2) (by decide) rfl rfl rfl rfl rfl ⟨rfl, by decide⟩ hN rfl rfl rfl dX8_acts_95 rfl ?_
    refine V_iload (q := 100) hX dX8_acts_98 5 rfl rfl ?_
    refine V_aload_n (q := 101) hX dX8_acts_100 0 rfl rfl ?_
    refine V_getF (r := 35) (n := 75) (c := 8) (k := 8) (nf := 11) (C := RX8) (T := TX8) (q := 104) hX rfl rfl iG8 k2_183 rfl rfl ⟨rfl, by decide⟩ hN rfl rfl rfl rfl dX8_acts_101 rfl ?_
    refine V_aload_n (q := 105) hX dX8_acts_104 0 rfl rfl ?_
    refine V_iload_n (q := 106) hX dX8_acts_105 1 rfl rfl ?_
    obtain ⟨r93, σ92, e94, h⟩ := bnd_some h
    refine V_cvR (n := 75) (c := 8) (nf := 11) (C := RX8) (T := TX8) (As := [.int (a1)]) (q := 109) hX (c8_sheetAt hX.2.2.2.2.1 hN e94) (goodV_of k3_231 k3_233 kp_27 k1_1 (cons_g k3_234)) (nA := 1) (by decide) rfl rfl rfl rfl rfl ⟨rfl, by decide⟩ hN rfl rfl rfl dX8_acts_106 rfl ?_
    obtain ⟨r96, σ95, e97, h⟩ := bnd_some h
    refine V_cvI (n := 75) (c := 0) (nf := 6) (C := RX0) (T := TX0) (As := [.ref (g.ad (r93))]) (q := 112) hX (c0_firstOtherwise hX.2.2.2.2.1 hN (sh8_sheetAt e94) e97) (goodV_of k4_29 k4_30 k4_31 k1_7 (cons_g k4_32)) (nA := 1) (by decide) rfl rfl rfl rfl rfl ⟨rfl, by decide⟩ hN rfl rfl rfl dX8_acts_109 rfl ?_
    refine V_if_ge (q := 115) (t := 122) hX dX8_acts_112 (by decide) rfl (fun z98 => ?_) (fun z98 => ?_)
    · have h := ite_t z98 h
      refine V_iconst (v := 0) (q := 123) hX dX8_acts_122 (by decide) rfl ?_
      refine V.pick [0, 1, 2, 3, 4, 6] rfl ?_
      exact v8_acts_123 hX hN hQ ih x9 x8 (0 : Int32) σ95 h
    have h := ite_f z98 h
    refine V_iconst (v := 1) (q := 116) hX dX8_acts_115 (by decide) rfl ?_
    refine V_iload (q := 118) hX dX8_acts_116 6 rfl rfl ?_
    refine V_ishl (q := 119) hX dX8_acts_118 rfl ?_
    refine V_goto hX dX8_acts_119 (q := 123) (by decide) ?_
    refine V.pick [0, 1, 2, 3, 4, 6] rfl ?_
    exact v8_acts_123 hX hN hQ ih x9 x8 ((1 : Int32) <<< (x9 &&& 31)) σ95 h
theorem v8_acts_73 {g : GT} {X : XT} {a1 : Int32} {a2 : Int32} {a3 : Int32} {a4 : Int32} {a5 : Int32} (hX : OkX g X (m8_acts)) (hN : 75 ≤ g.N) {res : Int32 × St} (hQ : X.Q = QI g X res.1 res.2 ∧ X.cells = 0 ∧ X.slots = 0) (x8 : Int32) (x9 : Int32) (σ : St) (h : S8_acts_73 a1 a2 a3 a4 a5 4096 x8 x9 σ = some res) : V g X (m8_acts) 73 [(0, .ref (g.ad (0))), (1, .int (a1)), (4, .int (a4)), (5, .int (a5)), (7, .int ((a3 &&& (((3 : Int32) <<< (((2 : Int32) * a5) &&& 31)) ^^^ (-1 : Int32))))), (8, .int (x8)), (9, .int (x9))] [] σ := v8_acts_73n hX hN hQ 4096 x8 x9 σ h
set_option maxRecDepth 100000 in
set_option maxHeartbeats 4000000 in
theorem v8_acts {g : GT} {X : XT} {a1 : Int32} {a2 : Int32} {a3 : Int32} {a4 : Int32} {a5 : Int32} (hX : OkX g X (m8_acts)) (hN : 75 ≤ g.N) {res : Int32 × St} (hQ : X.Q = QI g X res.1 res.2 ∧ X.cells = 0 ∧ X.slots = 0) {σ : St} (h : S8_acts a1 a2 a3 a4 a5 σ = some res) : V g X (m8_acts) 0 [(0, .ref (g.ad (0))), (1, .int (a1)), (2, .int (a2)), (3, .int (a3)), (4, .int (a4)), (5, .int (a5))] [] σ := by
  unfold S8_acts at h
  refine V_aload_n (q := 1) hX dX8_acts_0 0 rfl rfl ?_
  refine V_iload_n (q := 2) hX dX8_acts_1 1 rfl rfl ?_
  refine V_iload_n (q := 3) hX dX8_acts_2 2 rfl rfl ?_
  refine V_iload_n (q := 4) hX dX8_acts_3 3 rfl rfl ?_
  refine V_iload (q := 6) hX dX8_acts_4 4 rfl rfl ?_
  obtain ⟨r100, σ99, e101, h⟩ := bnd_some h
  refine V_cvI (n := 75) (c := 8) (nf := 11) (C := RX8) (T := TX8) (As := [.int (a1), .int (a2), .int (a3), .int (a4)]) (q := 9) hX (c8_toldFault hX.2.2.2.2.1 hN e101) (goodV_of k4_21 k4_23 kp_29 k1_1 (cons_g k4_24)) (nA := 4) (by decide) rfl rfl rfl rfl rfl ⟨rfl, by decide⟩ hN rfl rfl rfl dX8_acts_6 rfl ?_
  refine V_istore (lv' := [(6, .int (r100)), (0, .ref (g.ad (0))), (1, .int (a1)), (2, .int (a2)), (3, .int (a3)), (4, .int (a4)), (5, .int (a5))]) (q := 11) hX dX8_acts_9 rfl rfl rfl ?_
  refine V_iload (q := 13) hX dX8_acts_11 0 rfl rfl ?_
  refine V_if_eq (q := 16) (t := 19) hX dX8_acts_13 (by decide) rfl (fun z102 => ?_) (fun z102 => ?_)
  · have h := ite_t z102 h
    refine V_iload (q := 21) hX dX8_acts_19 6 rfl rfl ?_
    refine V_if_lt (q := 24) (t := 31) hX dX8_acts_21 (by decide) rfl (fun z103 => ?_) (fun z103 => ?_)
    · have h := ite_t z103 h
      refine V_bipush (v := -7) (q := 33) hX dX8_acts_31 (by decide) rfl ?_
      obtain ⟨f1, f2⟩ := some2 h
      rw [f1, f2] at hQ
      exact V_iret hX hQ rfl dX8_acts_33
    have h := ite_f z103 h
    refine V_iload (q := 26) hX dX8_acts_24 6 rfl rfl ?_
    refine V_bipush (v := 9) (q := 28) hX dX8_acts_26 (by decide) rfl ?_
    refine V_icmp_lt (q := 31) (t := 34) hX dX8_acts_28 (by decide) rfl (fun z104 => ?_) (fun z104 => ?_)
    · have h := ite_t z104 h
      refine V_aload_n (q := 35) hX dX8_acts_34 1 rfl rfl ?_
      refine V_getF (r := 35) (n := 75) (c := 8) (k := 8) (nf := 11) (C := RX8) (T := TX8) (q := 38) hX rfl rfl iG8 k2_183 rfl rfl ⟨rfl, by decide⟩ hN rfl rfl rfl rfl dX8_acts_35 rfl ?_
      refine V_aload_n (q := 39) hX dX8_acts_38 1 rfl rfl ?_
      refine V_iload_n (q := 40) hX dX8_acts_39 3 rfl rfl ?_
      obtain ⟨r106, σ105, e107, h⟩ := bnd_some h
      refine V_cvR (n := 75) (c := 8) (nf := 11) (C := RX8) (T := TX8) (As := [.int (a2)]) (q := 43) hX (c8_theOne hX.2.2.2.2.1 hN e107) (goodV_of k3_82 k3_84 kp_16 k1_1 (cons_g k3_85)) (nA := 1) (by decide) rfl rfl rfl rfl rfl ⟨rfl, by decide⟩ hN rfl rfl rfl dX8_acts_40 rfl ?_
      refine V_aload_n (q := 44) hX dX8_acts_43 1 rfl rfl ?_
      refine V_iload_n (q := 45) hX dX8_acts_44 3 rfl rfl ?_
      obtain ⟨r109, σ108, e110, h⟩ := bnd_some h
      refine V_cvR (n := 75) (c := 8) (nf := 11) (C := RX8) (T := TX8) (As := [.int (a2)]) (q := 48) hX (c8_theOther hX.2.2.2.2.1 hN e110) (goodV_of k3_86 k3_88 kp_17 k1_1 (cons_g k3_89)) (nA := 1) (by decide) rfl rfl rfl rfl rfl ⟨rfl, by decide⟩ hN rfl rfl rfl dX8_acts_45 rfl ?_
      refine V_aload_n (q := 49) hX dX8_acts_48 1 rfl rfl ?_
      obtain ⟨r112, σ111, e113, h⟩ := bnd_some h
      refine V_cvR (n := 75) (c := 8) (nf := 11) (C := RX8) (T := TX8) (As := []) (q := 52) hX (c8_theLaw hX.2.2.2.2.1 hN e113) (goodV_of k3_1 k3_3 kp_13 k1_1 (cons_g k3_4)) (nA := 0) (by decide) rfl rfl rfl rfl rfl ⟨rfl, by decide⟩ hN rfl rfl rfl dX8_acts_49 rfl ?_
      obtain ⟨r115, σ114, e116, h⟩ := bnd_some h
      refine V_cvV (n := 75) (c := 0) (nf := 6) (C := RX0) (T := TX0) (As := [.ref (g.ad (r106)), .ref (g.ad (r109)), .ref (g.ad (r112))]) (q := 55) hX (c0_pair hX.2.2.2.2.1 hN (sh8_theOne e107) (sh8_theOther e110) (sh8_theLaw e113) e116) (goodV_of k3_90 k3_91 k3_92 k1_7 (cons_g k3_93)) (nA := 3) (by decide) rfl rfl rfl rfl rfl ⟨rfl, by decide⟩ hN rfl rfl rfl dX8_acts_52 rfl ?_
      refine V_iload_n (q := 56) hX dX8_acts_55 4 rfl rfl ?_
      refine V_iconst (v := 3) (q := 57) hX dX8_acts_56 (by decide) rfl ?_
      refine V_iconst (v := 2) (q := 58) hX dX8_acts_57 (by decide) rfl ?_
      refine V_iload (q := 60) hX dX8_acts_58 6 rfl rfl ?_
      refine V_imul (q := 61) hX dX8_acts_60 rfl ?_
      refine V_ishl (q := 62) hX dX8_acts_61 rfl ?_
      refine V_iconst (v := -1) (q := 63) hX dX8_acts_62 (by decide) rfl ?_
      refine V_ixor (q := 64) hX dX8_acts_63 rfl ?_
      refine V_iand (q := 65) hX dX8_acts_64 rfl ?_
      refine V_istore (lv' := [(7, .int ((a3 &&& (((3 : Int32) <<< (((2 : Int32) * a5) &&& 31)) ^^^ (-1 : Int32))))), (6, .int (r100)), (0, .ref (g.ad (0))), (1, .int (a1)), (2, .int (a2)), (3, .int (a3)), (4, .int (a4)), (5, .int (a5))]) (q := 67) hX dX8_acts_65 rfl rfl rfl ?_
      refine V_iconst (v := 0) (q := 68) hX dX8_acts_67 (by decide) rfl ?_
      refine V_istore (lv' := [(8, .int ((0 : Int32))), (7, .int ((a3 &&& (((3 : Int32) <<< (((2 : Int32) * a5) &&& 31)) ^^^ (-1 : Int32))))), (6, .int (r100)), (0, .ref (g.ad (0))), (1, .int (a1)), (2, .int (a2)), (3, .int (a3)), (4, .int (a4)), (5, .int (a5))]) (q := 70) hX dX8_acts_68 rfl rfl rfl ?_
      refine V_iconst (v := 0) (q := 71) hX dX8_acts_70 (by decide) rfl ?_
      refine V_istore (lv' := [(9, .int ((0 : Int32))), (8, .int ((0 : Int32))), (7, .int ((a3 &&& (((3 : Int32) <<< (((2 : Int32) * a5) &&& 31)) ^^^ (-1 : Int32))))), (6, .int (r100)), (0, .ref (g.ad (0))), (1, .int (a1)), (2, .int (a2)), (3, .int (a3)), (4, .int (a4)), (5, .int (a5))]) (q := 73) hX dX8_acts_71 rfl rfl rfl ?_
      refine V.pick [4, 5, 8, 9, 2, 1, 0] rfl ?_
      exact v8_acts_73 hX hN hQ (0 : Int32) (0 : Int32) σ114 h
    have h := ite_f z104 h
    refine V_bipush (v := -7) (q := 33) hX dX8_acts_31 (by decide) rfl ?_
    obtain ⟨f1, f2⟩ := some2 h
    rw [f1, f2] at hQ
    exact V_iret hX hQ rfl dX8_acts_33
  have h := ite_f z102 h
  refine V_iload (q := 18) hX dX8_acts_16 0 rfl rfl ?_
  obtain ⟨f1, f2⟩ := some2 h
  rw [f1, f2] at hQ
  exact V_iret hX hQ rfl dX8_acts_18
set_option maxRecDepth 100000 in
set_option maxHeartbeats 4000000 in
theorem c8_acts {g : GT} {l : Launch} (hg : OkG g) (hN : 75 ≤ g.N) {a1 : Int32} {a2 : Int32} {a3 : Int32} {a4 : Int32} {a5 : Int32} {σ : St} {r : Int32} {σ' : St} (h : S8_acts a1 a2 a3 a4 a5 σ = some (r, σ')) : CtI g l m8_acts yX8_acts [.ref (g.ad (0)), .int (a1), .int (a2), .int (a3), .int (a4), .int (a5)] σ r σ' := CtI.of hg (by decide) rfl rfl (fun X h1 h2 h3 => v8_acts h1 hN (res := (r, σ')) h3 h)

abbrev m8_heavy : MI := (cX8_heavy, RX8, 11, some .int, 6)
def S8_heavy_110 (a1 : Int32) (a2 : Int32) (a3 : Int32) (a4 : Int32) (a5 : Int32) (k70 : Int32 → Int32 → Int32 → Int32 → St → Option (Int32 × St)) (x7 : Int32) (x8 : Int32) (x9 : Int32) (x10 : Int32) (σ : St) : Option (Int32 × St) := k70 x7 x8 x9 (x10 + 1) σ
def S8_heavy_105 (a1 : Int32) (a2 : Int32) (a3 : Int32) (a4 : Int32) (a5 : Int32) (k70 : Int32 → Int32 → Int32 → Int32 → St → Option (Int32 × St)) (x7 : Int32) (x9 : Int32) (x10 : Int32) (s0 : Int32) (σ : St) : Option (Int32 × St) := S8_heavy_110 a1 a2 a3 a4 a5 k70 x7 s0 (x9 + 1) x10 σ
def B8_heavy_70 (a1 : Int32) (a2 : Int32) (a3 : Int32) (a4 : Int32) (a5 : Int32) (rec : Int32 → Int32 → Int32 → Int32 → St → Option (Int32 × St)) (x7 : Int32) (x8 : Int32) (x9 : Int32) (x10 : Int32) (σ : St) : Option (Int32 × St) := if (99 : Int32) < x10 then (if (jrem a5 (10 : Int32)) = 0 then (some (x9, σ)) else (some (x8, σ))) else (bnd (S8_wouldBeSo a1 a2 a3 a4 x7 x10 σ) fun r52 σ51 => if r52 = 0 then (S8_heavy_110 a1 a2 a3 a4 a5 rec x7 x8 x9 x10 σ51) else (if x9 = 0 then (S8_heavy_105 a1 a2 a3 a4 a5 rec x7 x9 x10 x10 σ51) else (S8_heavy_105 a1 a2 a3 a4 a5 rec x7 x9 x10 x8 σ51)))
def S8_heavy_70 (a1 : Int32) (a2 : Int32) (a3 : Int32) (a4 : Int32) (a5 : Int32) : Nat → Int32 → Int32 → Int32 → Int32 → St → Option (Int32 × St)
  | 0, _, _, _, _, _ => none
  | n + 1, x7, x8, x9, x10, σ => B8_heavy_70 a1 a2 a3 a4 a5 (S8_heavy_70 a1 a2 a3 a4 a5 n) x7 x8 x9 x10 σ
def S8_heavy_59 (a1 : Int32) (a2 : Int32) (a3 : Int32) (a4 : Int32) (a5 : Int32) (s0 : Int32) (σ : St) : Option (Int32 × St) := S8_heavy_70 a1 a2 a3 a4 a5 4096 s0 (-1 : Int32) (0 : Int32) (0 : Int32) σ
def S8_heavy_47 (a1 : Int32) (a2 : Int32) (a3 : Int32) (a4 : Int32) (a5 : Int32) (σ : St) : Option (Int32 × St) := if (10 : Int32) ≤ a5 then (S8_heavy_59 a1 a2 a3 a4 a5 (1 : Int32) σ) else (S8_heavy_59 a1 a2 a3 a4 a5 (0 : Int32) σ)
def S8_heavy (a1 : Int32) (a2 : Int32) (a3 : Int32) (a4 : Int32) (a5 : Int32) (σ : St) : Option (Int32 × St) := bnd (S8_toldFault a1 a2 a3 a4 σ) fun r58 σ57 => if r58 = 0 then (if a5 = 0 then (S8_heavy_47 a1 a2 a3 a4 a5 σ57) else (if a5 = (1 : Int32) then (S8_heavy_47 a1 a2 a3 a4 a5 σ57) else (if a5 = (10 : Int32) then (S8_heavy_47 a1 a2 a3 a4 a5 σ57) else (if a5 = (11 : Int32) then (S8_heavy_47 a1 a2 a3 a4 a5 σ57) else (some ((-7 : Int32), σ57)))))) else (some (r58, σ57))
set_option maxRecDepth 100000 in
set_option maxHeartbeats 4000000 in
theorem v8_heavy_110 {g : GT} {X : XT} {a1 : Int32} {a2 : Int32} {a3 : Int32} {a4 : Int32} {a5 : Int32} (hX : OkX g X (m8_heavy)) (hN : 75 ≤ g.N) {res : Int32 × St} (hQ : X.Q = QI g X res.1 res.2 ∧ X.cells = 0 ∧ X.slots = 0)  {k70 : Int32 → Int32 → Int32 → Int32 → St → Option (Int32 × St)} (hk70 : ∀ (x7 : Int32) (x8 : Int32) (x9 : Int32) (x10 : Int32) (σ : St), k70 x7 x8 x9 x10 σ = some res → V g X (m8_heavy) 70 [(0, .ref (g.ad (0))), (1, .int (a1)), (2, .int (a2)), (3, .int (a3)), (4, .int (a4)), (5, .int (a5)), (7, .int (x7)), (8, .int (x8)), (9, .int (x9)), (10, .int (x10))] [] σ) (x7 : Int32) (x8 : Int32) (x9 : Int32) (x10 : Int32) (σ : St)  (h : S8_heavy_110 a1 a2 a3 a4 a5 k70 x7 x8 x9 x10 σ = some res) : V g X (m8_heavy) 110 [(0, .ref (g.ad (0))), (1, .int (a1)), (2, .int (a2)), (3, .int (a3)), (4, .int (a4)), (5, .int (a5)), (7, .int (x7)), (8, .int (x8)), (9, .int (x9)), (10, .int (x10))] [] σ := by
  unfold S8_heavy_110 at h
  refine V_iinc (v := (x10 + 1)) (lv' := [(10, .int ((x10 + 1))), (0, .ref (g.ad (0))), (1, .int (a1)), (2, .int (a2)), (3, .int (a3)), (4, .int (a4)), (5, .int (a5)), (7, .int (x7)), (8, .int (x8)), (9, .int (x9))]) (q := 113) hX dX8_heavy_110 9 rfl (by rfl) rfl rfl rfl ?_
  refine V_goto hX dX8_heavy_113 (q := 70) (by decide) ?_
  refine V.pick [1, 2, 3, 4, 5, 6, 7, 8, 9, 0] rfl ?_
  exact hk70 x7 x8 x9 (x10 + 1) σ  h
set_option maxRecDepth 100000 in
set_option maxHeartbeats 4000000 in
theorem v8_heavy_105 {g : GT} {X : XT} {a1 : Int32} {a2 : Int32} {a3 : Int32} {a4 : Int32} {a5 : Int32} (hX : OkX g X (m8_heavy)) (hN : 75 ≤ g.N) {res : Int32 × St} (hQ : X.Q = QI g X res.1 res.2 ∧ X.cells = 0 ∧ X.slots = 0)  {k70 : Int32 → Int32 → Int32 → Int32 → St → Option (Int32 × St)} (hk70 : ∀ (x7 : Int32) (x8 : Int32) (x9 : Int32) (x10 : Int32) (σ : St), k70 x7 x8 x9 x10 σ = some res → V g X (m8_heavy) 70 [(0, .ref (g.ad (0))), (1, .int (a1)), (2, .int (a2)), (3, .int (a3)), (4, .int (a4)), (5, .int (a5)), (7, .int (x7)), (8, .int (x8)), (9, .int (x9)), (10, .int (x10))] [] σ) (x7 : Int32) (x9 : Int32) (x10 : Int32) (s0 : Int32) (σ : St)  (h : S8_heavy_105 a1 a2 a3 a4 a5 k70 x7 x9 x10 s0 σ = some res) : V g X (m8_heavy) 105 [(0, .ref (g.ad (0))), (1, .int (a1)), (2, .int (a2)), (3, .int (a3)), (4, .int (a4)), (5, .int (a5)), (7, .int (x7)), (9, .int (x9)), (10, .int (x10))] [.int (s0)] σ := by
  unfold S8_heavy_105 at h
  refine V_istore (lv' := [(8, .int (s0)), (0, .ref (g.ad (0))), (1, .int (a1)), (2, .int (a2)), (3, .int (a3)), (4, .int (a4)), (5, .int (a5)), (7, .int (x7)), (9, .int (x9)), (10, .int (x10))]) (q := 107) hX dX8_heavy_105 rfl rfl rfl ?_
  refine V_iinc (v := (x9 + 1)) (lv' := [(9, .int ((x9 + 1))), (8, .int (s0)), (0, .ref (g.ad (0))), (1, .int (a1)), (2, .int (a2)), (3, .int (a3)), (4, .int (a4)), (5, .int (a5)), (7, .int (x7)), (10, .int (x10))]) (q := 110) hX dX8_heavy_107 8 rfl (by rfl) rfl rfl rfl ?_
  refine V.pick [2, 3, 4, 5, 6, 7, 8, 1, 0, 9] rfl ?_
  exact v8_heavy_110 hX hN hQ hk70 x7 s0 (x9 + 1) x10 σ h
set_option maxRecDepth 100000 in
set_option maxHeartbeats 4000000 in
theorem v8_heavy_70n {g : GT} {X : XT} {a1 : Int32} {a2 : Int32} {a3 : Int32} {a4 : Int32} {a5 : Int32} (hX : OkX g X (m8_heavy)) (hN : 75 ≤ g.N) {res : Int32 × St} (hQ : X.Q = QI g X res.1 res.2 ∧ X.cells = 0 ∧ X.slots = 0)   (n : Nat) : ∀ (x7 : Int32) (x8 : Int32) (x9 : Int32) (x10 : Int32) (σ : St) , S8_heavy_70 a1 a2 a3 a4 a5 n x7 x8 x9 x10 σ = some res → V g X (m8_heavy) 70 [(0, .ref (g.ad (0))), (1, .int (a1)), (2, .int (a2)), (3, .int (a3)), (4, .int (a4)), (5, .int (a5)), (7, .int (x7)), (8, .int (x8)), (9, .int (x9)), (10, .int (x10))] [] σ := by
  induction n with
  | zero => intro x7 x8 x9 x10 σ; intro h; cases h
  | succ n ih =>
    intro x7 x8 x9 x10 σ h
    have h : B8_heavy_70 a1 a2 a3 a4 a5 (S8_heavy_70 a1 a2 a3 a4 a5 n) x7 x8 x9 x10 σ = some res := h
    unfold B8_heavy_70 at h
    refine V_iload (q := 72) hX dX8_heavy_70 9 rfl rfl ?_
    refine V_bipush (v := 99) (q := 74) hX dX8_heavy_72 (by decide) rfl ?_
    refine V_icmp_gt (q := 77) (t := 116) hX dX8_heavy_74 (by decide) rfl (fun z49 => ?_) (fun z49 => ?_)
    · have h := ite_t z49 h
      refine V_iload (q := 118) hX dX8_heavy_116 5 rfl rfl ?_
      refine V_bipush (v := 10) (q := 120) hX dX8_heavy_118 (by decide) rfl ?_
      refine V_irem (q := 121) hX (by decide) dX8_heavy_120 rfl ?_
      refine V_if_ne (q := 124) (t := 129) hX dX8_heavy_121 (by decide) rfl (fun z50 => ?_) (fun z50 => ?_)
      · have h := ite_f z50 h
        refine V_iload (q := 131) hX dX8_heavy_129 7 rfl rfl ?_
        obtain ⟨f1, f2⟩ := some2 h
        rw [f1, f2] at hQ
        exact V_iret hX hQ rfl dX8_heavy_131
      have h := ite_t z50 h
      refine V_iload (q := 126) hX dX8_heavy_124 8 rfl rfl ?_
      refine V_goto hX dX8_heavy_126 (q := 131) (by decide) ?_
      obtain ⟨f1, f2⟩ := some2 h
      rw [f1, f2] at hQ
      exact V_iret hX hQ rfl dX8_heavy_131
    have h := ite_f z49 h
    refine V_aload_n (q := 78) hX dX8_heavy_77 0 rfl rfl ?_
    refine V_iload_n (q := 79) hX dX8_heavy_78 1 rfl rfl ?_
    refine V_iload_n (q := 80) hX dX8_heavy_79 2 rfl rfl ?_
    refine V_iload_n (q := 81) hX dX8_heavy_80 3 rfl rfl ?_
    refine V_iload (q := 83) hX dX8_heavy_81 4 rfl rfl ?_
    refine V_iload (q := 85) hX dX8_heavy_83 6 rfl rfl ?_
    refine V_iload (q := 87) hX dX8_heavy_85 9 rfl rfl ?_
    obtain ⟨r52, σ51, e53, h⟩ := bnd_some h
    refine V_cvI (n := 75) (c := 8) (nf := 11) (C := RX8) (T := TX8) (As := [.int (a1), .int (a2), .int (a3), .int (a4), .int (x7), .int (x10)]) (q := 90) hX (c8_wouldBeSo hX.2.2.2.2.1 hN e53) (goodV_of k4_39 k4_41 kp_31 k1_1 (cons_g k4_42)) (nA := 6) (by decide) rfl rfl rfl rfl rfl ⟨rfl, by decide⟩ hN rfl rfl rfl dX8_heavy_87 rfl ?_
    refine V_if_eq (q := 93) (t := 110) hX dX8_heavy_90 (by decide) rfl (fun z54 => ?_) (fun z54 => ?_)
    · have h := ite_t z54 h
      refine V.pick [0, 1, 2, 3, 4, 5, 6, 7, 8, 9] rfl ?_
      exact v8_heavy_110 hX hN hQ ih x7 x8 x9 x10 σ51 h
    have h := ite_f z54 h
    refine V_iload (q := 95) hX dX8_heavy_93 8 rfl rfl ?_
    refine V_if_ne (q := 98) (t := 103) hX dX8_heavy_95 (by decide) rfl (fun z55 => ?_) (fun z55 => ?_)
    · have h := ite_f z55 h
      refine V_iload (q := 105) hX dX8_heavy_103 7 rfl rfl ?_
      refine V.pick [0, 1, 2, 3, 4, 5, 6, 8, 9] rfl ?_
      exact v8_heavy_105 hX hN hQ ih x7 x9 x10 x8 σ51 h
    have h := ite_t z55 h
    refine V_iload (q := 100) hX dX8_heavy_98 9 rfl rfl ?_
    refine V_goto hX dX8_heavy_100 (q := 105) (by decide) ?_
    refine V.pick [0, 1, 2, 3, 4, 5, 6, 8, 9] rfl ?_
    exact v8_heavy_105 hX hN hQ ih x7 x9 x10 x10 σ51 h
theorem v8_heavy_70 {g : GT} {X : XT} {a1 : Int32} {a2 : Int32} {a3 : Int32} {a4 : Int32} {a5 : Int32} (hX : OkX g X (m8_heavy)) (hN : 75 ≤ g.N) {res : Int32 × St} (hQ : X.Q = QI g X res.1 res.2 ∧ X.cells = 0 ∧ X.slots = 0) (x7 : Int32) (x8 : Int32) (x9 : Int32) (x10 : Int32) (σ : St) (h : S8_heavy_70 a1 a2 a3 a4 a5 4096 x7 x8 x9 x10 σ = some res) : V g X (m8_heavy) 70 [(0, .ref (g.ad (0))), (1, .int (a1)), (2, .int (a2)), (3, .int (a3)), (4, .int (a4)), (5, .int (a5)), (7, .int (x7)), (8, .int (x8)), (9, .int (x9)), (10, .int (x10))] [] σ := v8_heavy_70n hX hN hQ 4096 x7 x8 x9 x10 σ h
set_option maxRecDepth 100000 in
set_option maxHeartbeats 4000000 in
theorem v8_heavy_59 {g : GT} {X : XT} {a1 : Int32} {a2 : Int32} {a3 : Int32} {a4 : Int32} {a5 : Int32} (hX : OkX g X (m8_heavy)) (hN : 75 ≤ g.N) {res : Int32 × St} (hQ : X.Q = QI g X res.1 res.2 ∧ X.cells = 0 ∧ X.slots = 0)   (s0 : Int32) (σ : St)  (h : S8_heavy_59 a1 a2 a3 a4 a5 s0 σ = some res) : V g X (m8_heavy) 59 [(0, .ref (g.ad (0))), (1, .int (a1)), (2, .int (a2)), (3, .int (a3)), (4, .int (a4)), (5, .int (a5))] [.int (s0)] σ := by
  unfold S8_heavy_59 at h
  refine V_istore (lv' := [(7, .int (s0)), (0, .ref (g.ad (0))), (1, .int (a1)), (2, .int (a2)), (3, .int (a3)), (4, .int (a4)), (5, .int (a5))]) (q := 61) hX dX8_heavy_59 rfl rfl rfl ?_
  refine V_iconst (v := -1) (q := 62) hX dX8_heavy_61 (by decide) rfl ?_
  refine V_istore (lv' := [(8, .int ((-1 : Int32))), (7, .int (s0)), (0, .ref (g.ad (0))), (1, .int (a1)), (2, .int (a2)), (3, .int (a3)), (4, .int (a4)), (5, .int (a5))]) (q := 64) hX dX8_heavy_62 rfl rfl rfl ?_
  refine V_iconst (v := 0) (q := 65) hX dX8_heavy_64 (by decide) rfl ?_
  refine V_istore (lv' := [(9, .int ((0 : Int32))), (8, .int ((-1 : Int32))), (7, .int (s0)), (0, .ref (g.ad (0))), (1, .int (a1)), (2, .int (a2)), (3, .int (a3)), (4, .int (a4)), (5, .int (a5))]) (q := 67) hX dX8_heavy_65 rfl rfl rfl ?_
  refine V_iconst (v := 0) (q := 68) hX dX8_heavy_67 (by decide) rfl ?_
  refine V_istore (lv' := [(10, .int ((0 : Int32))), (9, .int ((0 : Int32))), (8, .int ((-1 : Int32))), (7, .int (s0)), (0, .ref (g.ad (0))), (1, .int (a1)), (2, .int (a2)), (3, .int (a3)), (4, .int (a4)), (5, .int (a5))]) (q := 70) hX dX8_heavy_68 rfl rfl rfl ?_
  refine V.pick [4, 5, 6, 7, 8, 9, 3, 2, 1, 0] rfl ?_
  exact v8_heavy_70 hX hN hQ s0 (-1 : Int32) (0 : Int32) (0 : Int32) σ h
set_option maxRecDepth 100000 in
set_option maxHeartbeats 4000000 in
theorem v8_heavy_47 {g : GT} {X : XT} {a1 : Int32} {a2 : Int32} {a3 : Int32} {a4 : Int32} {a5 : Int32} (hX : OkX g X (m8_heavy)) (hN : 75 ≤ g.N) {res : Int32 × St} (hQ : X.Q = QI g X res.1 res.2 ∧ X.cells = 0 ∧ X.slots = 0)    (σ : St)  (h : S8_heavy_47 a1 a2 a3 a4 a5 σ = some res) : V g X (m8_heavy) 47 [(0, .ref (g.ad (0))), (1, .int (a1)), (2, .int (a2)), (3, .int (a3)), (4, .int (a4)), (5, .int (a5))] [] σ := by
  unfold S8_heavy_47 at h
  refine V_iload (q := 49) hX dX8_heavy_47 5 rfl rfl ?_
  refine V_bipush (v := 10) (q := 51) hX dX8_heavy_49 (by decide) rfl ?_
  refine V_icmp_ge (q := 54) (t := 58) hX dX8_heavy_51 (by decide) rfl (fun z56 => ?_) (fun z56 => ?_)
  · have h := ite_t z56 h
    refine V_iconst (v := 1) (q := 59) hX dX8_heavy_58 (by decide) rfl ?_
    refine V.pick [0, 1, 2, 3, 4, 5] rfl ?_
    exact v8_heavy_59 hX hN hQ (1 : Int32) σ h
  have h := ite_f z56 h
  refine V_iconst (v := 0) (q := 55) hX dX8_heavy_54 (by decide) rfl ?_
  refine V_goto hX dX8_heavy_55 (q := 59) (by decide) ?_
  refine V.pick [0, 1, 2, 3, 4, 5] rfl ?_
  exact v8_heavy_59 hX hN hQ (0 : Int32) σ h
set_option maxRecDepth 100000 in
set_option maxHeartbeats 4000000 in
theorem v8_heavy {g : GT} {X : XT} {a1 : Int32} {a2 : Int32} {a3 : Int32} {a4 : Int32} {a5 : Int32} (hX : OkX g X (m8_heavy)) (hN : 75 ≤ g.N) {res : Int32 × St} (hQ : X.Q = QI g X res.1 res.2 ∧ X.cells = 0 ∧ X.slots = 0) {σ : St} (h : S8_heavy a1 a2 a3 a4 a5 σ = some res) : V g X (m8_heavy) 0 [(0, .ref (g.ad (0))), (1, .int (a1)), (2, .int (a2)), (3, .int (a3)), (4, .int (a4)), (5, .int (a5))] [] σ := by
  unfold S8_heavy at h
  refine V_aload_n (q := 1) hX dX8_heavy_0 0 rfl rfl ?_
  refine V_iload_n (q := 2) hX dX8_heavy_1 1 rfl rfl ?_
  refine V_iload_n (q := 3) hX dX8_heavy_2 2 rfl rfl ?_
  refine V_iload_n (q := 4) hX dX8_heavy_3 3 rfl rfl ?_
  refine V_iload (q := 6) hX dX8_heavy_4 4 rfl rfl ?_
  obtain ⟨r58, σ57, e59, h⟩ := bnd_some h
  refine V_cvI (n := 75) (c := 8) (nf := 11) (C := RX8) (T := TX8) (As := [.int (a1), .int (a2), .int (a3), .int (a4)]) (q := 9) hX (c8_toldFault hX.2.2.2.2.1 hN e59) (goodV_of k4_21 k4_23 kp_29 k1_1 (cons_g k4_24)) (nA := 4) (by decide) rfl rfl rfl rfl rfl ⟨rfl, by decide⟩ hN rfl rfl rfl dX8_heavy_6 rfl ?_
  refine V_istore (lv' := [(6, .int (r58)), (0, .ref (g.ad (0))), (1, .int (a1)), (2, .int (a2)), (3, .int (a3)), (4, .int (a4)), (5, .int (a5))]) (q := 11) hX dX8_heavy_9 rfl rfl rfl ?_
  refine V_iload (q := 13) hX dX8_heavy_11 0 rfl rfl ?_
  refine V_if_eq (q := 16) (t := 19) hX dX8_heavy_13 (by decide) rfl (fun z60 => ?_) (fun z60 => ?_)
  · have h := ite_t z60 h
    refine V_iload (q := 21) hX dX8_heavy_19 6 rfl rfl ?_
    refine V_if_eq (q := 24) (t := 47) hX dX8_heavy_21 (by decide) rfl (fun z61 => ?_) (fun z61 => ?_)
    · have h := ite_t z61 h
      refine V.pick [1, 2, 3, 4, 5, 6] rfl ?_
      exact v8_heavy_47 hX hN hQ σ57 h
    have h := ite_f z61 h
    refine V_iload (q := 26) hX dX8_heavy_24 6 rfl rfl ?_
    refine V_iconst (v := 1) (q := 27) hX dX8_heavy_26 (by decide) rfl ?_
    refine V_icmp_eq (q := 30) (t := 47) hX dX8_heavy_27 (by decide) rfl (fun z62 => ?_) (fun z62 => ?_)
    · have h := ite_t z62 h
      refine V.pick [1, 2, 3, 4, 5, 6] rfl ?_
      exact v8_heavy_47 hX hN hQ σ57 h
    have h := ite_f z62 h
    refine V_iload (q := 32) hX dX8_heavy_30 6 rfl rfl ?_
    refine V_bipush (v := 10) (q := 34) hX dX8_heavy_32 (by decide) rfl ?_
    refine V_icmp_eq (q := 37) (t := 47) hX dX8_heavy_34 (by decide) rfl (fun z63 => ?_) (fun z63 => ?_)
    · have h := ite_t z63 h
      refine V.pick [1, 2, 3, 4, 5, 6] rfl ?_
      exact v8_heavy_47 hX hN hQ σ57 h
    have h := ite_f z63 h
    refine V_iload (q := 39) hX dX8_heavy_37 6 rfl rfl ?_
    refine V_bipush (v := 11) (q := 41) hX dX8_heavy_39 (by decide) rfl ?_
    refine V_icmp_eq (q := 44) (t := 47) hX dX8_heavy_41 (by decide) rfl (fun z64 => ?_) (fun z64 => ?_)
    · have h := ite_t z64 h
      refine V.pick [1, 2, 3, 4, 5, 6] rfl ?_
      exact v8_heavy_47 hX hN hQ σ57 h
    have h := ite_f z64 h
    refine V_bipush (v := -7) (q := 46) hX dX8_heavy_44 (by decide) rfl ?_
    obtain ⟨f1, f2⟩ := some2 h
    rw [f1, f2] at hQ
    exact V_iret hX hQ rfl dX8_heavy_46
  have h := ite_f z60 h
  refine V_iload (q := 18) hX dX8_heavy_16 0 rfl rfl ?_
  obtain ⟨f1, f2⟩ := some2 h
  rw [f1, f2] at hQ
  exact V_iret hX hQ rfl dX8_heavy_18
set_option maxRecDepth 100000 in
set_option maxHeartbeats 4000000 in
theorem c8_heavy {g : GT} {l : Launch} (hg : OkG g) (hN : 75 ≤ g.N) {a1 : Int32} {a2 : Int32} {a3 : Int32} {a4 : Int32} {a5 : Int32} {σ : St} {r : Int32} {σ' : St} (h : S8_heavy a1 a2 a3 a4 a5 σ = some (r, σ')) : CtI g l m8_heavy yX8_heavy [.ref (g.ad (0)), .int (a1), .int (a2), .int (a3), .int (a4), .int (a5)] σ r σ' := CtI.of hg (by decide) rfl rfl (fun X h1 h2 h3 => v8_heavy h1 hN (res := (r, σ')) h3 h)
