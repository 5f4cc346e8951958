abbrev m9_image : MI := (cX9_image, RX9, 2, some .int, 1)
def B9_image_7 (rec : Int32 → St → Option (Int32 × St)) (x1 : Int32) (σ : St) : Option (Int32 × St) := if (30 : Int32) ≤ x1 then (some ((gI (sI (sI (sI σ 83 ((0 : Int32)).toNatClampNeg (gI σ 75 0)) 83 ((1 : Int32)).toNatClampNeg (gI (sI σ 83 ((0 : Int32)).toNatClampNeg (gI σ 75 0)) 75 4)) 83 ((2 : Int32)).toNatClampNeg (gI (sI (sI σ 83 ((0 : Int32)).toNatClampNeg (gI σ 75 0)) 83 ((1 : Int32)).toNatClampNeg (gI (sI σ 83 ((0 : Int32)).toNatClampNeg (gI σ 75 0)) 75 4)) 75 10)) 75 0), (sI (sI (sI σ 83 ((0 : Int32)).toNatClampNeg (gI σ 75 0)) 83 ((1 : Int32)).toNatClampNeg (gI (sI σ 83 ((0 : Int32)).toNatClampNeg (gI σ 75 0)) 75 4)) 83 ((2 : Int32)).toNatClampNeg (gI (sI (sI σ 83 ((0 : Int32)).toNatClampNeg (gI σ 75 0)) 83 ((1 : Int32)).toNatClampNeg (gI (sI σ 83 ((0 : Int32)).toNatClampNeg (gI σ 75 0)) 75 4)) 75 10)))) else (if inb x1 30 then (if inb x1 30 then (rec (x1 + 1) (sI σ 82 (x1).toNatClampNeg (gI σ 78 (x1).toNatClampNeg))) else none) else none)
def S9_image_7 : Nat → Int32 → St → Option (Int32 × St)
  | 0, _, _ => none
  | n + 1, x1, σ => B9_image_7 (S9_image_7 n) x1 σ
def S9_image (σ : St) : Option (Int32 × St) := S9_image_7 4096 (0 : Int32) (sI σ 75 11 (1 : Int32))
set_option maxRecDepth 100000 in
set_option maxHeartbeats 4000000 in
theorem v9_image_7n {g : GT} {X : XT} (hX : OkX g X (m9_image)) (hN : 95 ≤ g.N) {res : Int32 × St} (hQ : X.Q = QI g X res.1 res.2 ∧ X.cells = 0 ∧ X.slots = 0)   (n : Nat) : ∀ (x1 : Int32) (σ : St) , S9_image_7 n x1 σ = some res → V g X (m9_image) 7 [(0, .ref (g.ad (75))), (1, .int (x1))] [] σ := by
  induction n with
  | zero => intro x1 σ; intro h; cases h
  | succ n ih =>
    intro x1 σ h
    have h : B9_image_7 (S9_image_7 n) x1 σ = some res := h
    unfold B9_image_7 at h
    refine V_iload_n (q := 8) hX dX9_image_7 1 rfl rfl ?_
    refine V_bipush (v := 30) (q := 10) hX dX9_image_8 (by decide) rfl ?_
    refine V_icmp_ge (q := 13) (t := 31) hX dX9_image_10 (by decide) rfl (fun z5 => ?_) (fun z5 => ?_)
    · have h := ite_t z5 h
      refine V_aload_n (q := 32) hX dX9_image_31 0 rfl rfl ?_
      refine V_getF (r := 83) (n := 95) (c := 9) (k := 13) (nf := 39) (C := RX9) (T := TX9) (q := 35) hX rfl rfl iG9 k4_195 rfl rfl ⟨rfl, by decide⟩ hN rfl rfl rfl rfl dX9_image_32 rfl ?_
      refine V_iconst (v := 0) (q := 36) hX dX9_image_35 (by decide) rfl ?_
      refine V_aload_n (q := 37) hX dX9_image_36 0 rfl rfl ?_
      refine V_getI (n := 95) (c := 9) (k := 0) (nf := 39) (C := RX9) (T := TX9) (q := 40) hX rfl rfl iG9 k4_182 rfl rfl ⟨rfl, by decide⟩ hN rfl rfl dX9_image_37 rfl ?_
      refine V_iast (n := 95) (len := 3) (q := 41) hX ⟨rfl, rfl, by decide⟩ hN (by show inb _ _; decide) dX9_image_40 rfl ?_
      refine V_aload_n (q := 42) hX dX9_image_41 0 rfl rfl ?_
      refine V_getF (r := 83) (n := 95) (c := 9) (k := 13) (nf := 39) (C := RX9) (T := TX9) (q := 45) hX rfl rfl iG9 k4_195 rfl rfl ⟨rfl, by decide⟩ hN rfl rfl rfl rfl dX9_image_42 rfl ?_
      refine V_iconst (v := 1) (q := 46) hX dX9_image_45 (by decide) rfl ?_
      refine V_aload_n (q := 47) hX dX9_image_46 0 rfl rfl ?_
      refine V_getI (n := 95) (c := 9) (k := 4) (nf := 39) (C := RX9) (T := TX9) (q := 50) hX rfl rfl iG9 k4_186 rfl rfl ⟨rfl, by decide⟩ hN rfl rfl dX9_image_47 rfl ?_
      refine V_iast (n := 95) (len := 3) (q := 51) hX ⟨rfl, rfl, by decide⟩ hN (by show inb _ _; decide) dX9_image_50 rfl ?_
      refine V_aload_n (q := 52) hX dX9_image_51 0 rfl rfl ?_
      refine V_getF (r := 83) (n := 95) (c := 9) (k := 13) (nf := 39) (C := RX9) (T := TX9) (q := 55) hX rfl rfl iG9 k4_195 rfl rfl ⟨rfl, by decide⟩ hN rfl rfl rfl rfl dX9_image_52 rfl ?_
      refine V_iconst (v := 2) (q := 56) hX dX9_image_55 (by decide) rfl ?_
      refine V_aload_n (q := 57) hX dX9_image_56 0 rfl rfl ?_
      refine V_getI (n := 95) (c := 9) (k := 10) (nf := 39) (C := RX9) (T := TX9) (q := 60) hX rfl rfl iG9 k4_192 rfl rfl ⟨rfl, by decide⟩ hN rfl rfl dX9_image_57 rfl ?_
      refine V_iast (n := 95) (len := 3) (q := 61) hX ⟨rfl, rfl, by decide⟩ hN (by show inb _ _; decide) dX9_image_60 rfl ?_
      refine V_aload_n (q := 62) hX dX9_image_61 0 rfl rfl ?_
      refine V_getI (n := 95) (c := 9) (k := 0) (nf := 39) (C := RX9) (T := TX9) (q := 65) hX rfl rfl iG9 k4_182 rfl rfl ⟨rfl, by decide⟩ hN rfl rfl dX9_image_62 rfl ?_
      obtain ⟨f1, f2⟩ := some2 h
      rw [f1, f2] at hQ
      exact V_iret hX hQ rfl dX9_image_65
    have h := ite_f z5 h
    refine V_aload_n (q := 14) hX dX9_image_13 0 rfl rfl ?_
    refine V_getF (r := 82) (n := 95) (c := 9) (k := 12) (nf := 39) (C := RX9) (T := TX9) (q := 17) hX rfl rfl iG9 k4_194 rfl rfl ⟨rfl, by decide⟩ hN rfl rfl rfl rfl dX9_image_14 rfl ?_
    refine V_iload_n (q := 18) hX dX9_image_17 1 rfl rfl ?_
    refine V_aload_n (q := 19) hX dX9_image_18 0 rfl rfl ?_
    refine V_getF (r := 78) (n := 95) (c := 9) (k := 3) (nf := 39) (C := RX9) (T := TX9) (q := 22) hX rfl rfl iG9 k4_185 rfl rfl ⟨rfl, by decide⟩ hN rfl rfl rfl rfl dX9_image_19 rfl ?_
    refine V_iload_n (q := 23) hX dX9_image_22 1 rfl rfl ?_
    obtain ⟨z6, h⟩ := chk_t h
    refine V_iald (n := 95) (len := 30) (q := 24) hX ⟨rfl, rfl, by decide⟩ hN z6 dX9_image_23 rfl ?_
    obtain ⟨z7, h⟩ := chk_t h
    refine V_iast (n := 95) (len := 30) (q := 25) hX ⟨rfl, rfl, by decide⟩ hN z7 dX9_image_24 rfl ?_
    refine V_iinc (v := (x1 + 1)) (lv' := [(1, .int ((x1 + 1))), (0, .ref (g.ad (75)))]) (q := 28) hX dX9_image_25 1 rfl (by rfl) rfl rfl rfl ?_
    refine V_goto hX dX9_image_28 (q := 7) (by decide) ?_
    refine V.pick [1, 0] rfl ?_
    exact ih (x1 + 1) (sI σ 82 (x1).toNatClampNeg (gI σ 78 (x1).toNatClampNeg))  h
theorem v9_image_7 {g : GT} {X : XT} (hX : OkX g X (m9_image)) (hN : 95 ≤ g.N) {res : Int32 × St} (hQ : X.Q = QI g X res.1 res.2 ∧ X.cells = 0 ∧ X.slots = 0) (x1 : Int32) (σ : St) (h : S9_image_7 4096 x1 σ = some res) : V g X (m9_image) 7 [(0, .ref (g.ad (75))), (1, .int (x1))] [] σ := v9_image_7n hX hN hQ 4096 x1 σ h
set_option maxRecDepth 100000 in
set_option maxHeartbeats 4000000 in
theorem v9_image {g : GT} {X : XT} (hX : OkX g X (m9_image)) (hN : 95 ≤ g.N) {res : Int32 × St} (hQ : X.Q = QI g X res.1 res.2 ∧ X.cells = 0 ∧ X.slots = 0) {σ : St} (h : S9_image σ = some res) : V g X (m9_image) 0 [(0, .ref (g.ad (75)))] [] σ := by
  unfold S9_image at h
  refine V_aload_n (q := 1) hX dX9_image_0 0 rfl rfl ?_
  refine V_iconst (v := 1) (q := 2) hX dX9_image_1 (by decide) rfl ?_
  refine V_putI (n := 95) (c := 9) (k := 11) (nf := 39) (C := RX9) (T := TX9) (q := 5) hX rfl rfl iG9 k4_193 rfl rfl ⟨rfl, by decide⟩ hN rfl tyX9 tyX9_ok nmX9 rfl rfl (ty := .boolean) (tyX9_ok 11 (by decide)) rfl rfl dX9_image_2 rfl ?_
  refine V_iconst (v := 0) (q := 6) hX dX9_image_5 (by decide) rfl ?_
  refine V_istore_n (lv' := [(1, .int ((0 : Int32))), (0, .ref (g.ad (75)))]) (q := 7) hX dX9_image_6 rfl rfl rfl ?_
  refine V.pick [1, 0] rfl ?_
  exact v9_image_7 hX hN hQ (0 : Int32) (sI σ 75 11 (1 : Int32)) h
set_option maxRecDepth 100000 in
set_option maxHeartbeats 4000000 in
theorem c9_image {g : GT} {l : Launch} (hg : OkG g) (hN : 95 ≤ g.N) {σ : St} {r : Int32} {σ' : St} (h : S9_image σ = some (r, σ')) : CtI g l m9_image yX9_image [.ref (g.ad (75))] σ r σ' := CtI.of hg (by decide) rfl rfl (fun X h1 h2 h3 => v9_image h1 hN (res := (r, σ')) h3 h)

abbrev m9_back : MI := (cX9_back, RX9, 2, some .int, 1)
def B9_back_12 (rec : Int32 → St → Option (Int32 × St)) (x1 : Int32) (σ : St) : Option (Int32 × St) := if (30 : Int32) ≤ x1 then (some ((gI (sI (sI (sI σ 75 0 (gI σ 83 ((0 : Int32)).toNatClampNeg)) 75 4 (gI (sI σ 75 0 (gI σ 83 ((0 : Int32)).toNatClampNeg)) 83 ((1 : Int32)).toNatClampNeg)) 75 10 (gI (sI (sI σ 75 0 (gI σ 83 ((0 : Int32)).toNatClampNeg)) 75 4 (gI (sI σ 75 0 (gI σ 83 ((0 : Int32)).toNatClampNeg)) 83 ((1 : Int32)).toNatClampNeg)) 83 ((2 : Int32)).toNatClampNeg)) 75 0), (sI (sI (sI σ 75 0 (gI σ 83 ((0 : Int32)).toNatClampNeg)) 75 4 (gI (sI σ 75 0 (gI σ 83 ((0 : Int32)).toNatClampNeg)) 83 ((1 : Int32)).toNatClampNeg)) 75 10 (gI (sI (sI σ 75 0 (gI σ 83 ((0 : Int32)).toNatClampNeg)) 75 4 (gI (sI σ 75 0 (gI σ 83 ((0 : Int32)).toNatClampNeg)) 83 ((1 : Int32)).toNatClampNeg)) 83 ((2 : Int32)).toNatClampNeg)))) else (if inb x1 30 then (if inb x1 30 then (rec (x1 + 1) (sI σ 78 (x1).toNatClampNeg (gI σ 82 (x1).toNatClampNeg))) else none) else none)
def S9_back_12 : Nat → Int32 → St → Option (Int32 × St)
  | 0, _, _ => none
  | n + 1, x1, σ => B9_back_12 (S9_back_12 n) x1 σ
def S9_back (σ : St) : Option (Int32 × St) := if (gI σ 75 11) = 0 then (some ((-3 : Int32), σ)) else (S9_back_12 4096 (0 : Int32) σ)
set_option maxRecDepth 100000 in
set_option maxHeartbeats 4000000 in
theorem v9_back_12n {g : GT} {X : XT} (hX : OkX g X (m9_back)) (hN : 95 ≤ g.N) {res : Int32 × St} (hQ : X.Q = QI g X res.1 res.2 ∧ X.cells = 0 ∧ X.slots = 0)   (n : Nat) : ∀ (x1 : Int32) (σ : St) , S9_back_12 n x1 σ = some res → V g X (m9_back) 12 [(0, .ref (g.ad (75))), (1, .int (x1))] [] σ := by
  induction n with
  | zero => intro x1 σ; intro h; cases h
  | succ n ih =>
    intro x1 σ h
    have h : B9_back_12 (S9_back_12 n) x1 σ = some res := h
    unfold B9_back_12 at h
    refine V_iload_n (q := 13) hX dX9_back_12 1 rfl rfl ?_
    refine V_bipush (v := 30) (q := 15) hX dX9_back_13 (by decide) rfl ?_
    refine V_icmp_ge (q := 18) (t := 36) hX dX9_back_15 (by decide) rfl (fun z7 => ?_) (fun z7 => ?_)
    · have h := ite_t z7 h
      refine V_aload_n (q := 37) hX dX9_back_36 0 rfl rfl ?_
      refine V_aload_n (q := 38) hX dX9_back_37 0 rfl rfl ?_
      refine V_getF (r := 83) (n := 95) (c := 9) (k := 13) (nf := 39) (C := RX9) (T := TX9) (q := 41) hX rfl rfl iG9 k4_195 rfl rfl ⟨rfl, by decide⟩ hN rfl rfl rfl rfl dX9_back_38 rfl ?_
      refine V_iconst (v := 0) (q := 42) hX dX9_back_41 (by decide) rfl ?_
      refine V_iald (n := 95) (len := 3) (q := 43) hX ⟨rfl, rfl, by decide⟩ hN (by show inb _ _; decide) dX9_back_42 rfl ?_
      refine V_putI (n := 95) (c := 9) (k := 0) (nf := 39) (C := RX9) (T := TX9) (q := 46) hX rfl rfl iG9 k4_182 rfl rfl ⟨rfl, by decide⟩ hN rfl tyX9 tyX9_ok nmX9 rfl rfl (ty := .int) (tyX9_ok 0 (by decide)) rfl rfl dX9_back_43 rfl ?_
      refine V_aload_n (q := 47) hX dX9_back_46 0 rfl rfl ?_
      refine V_aload_n (q := 48) hX dX9_back_47 0 rfl rfl ?_
      refine V_getF (r := 83) (n := 95) (c := 9) (k := 13) (nf := 39) (C := RX9) (T := TX9) (q := 51) hX rfl rfl iG9 k4_195 rfl rfl ⟨rfl, by decide⟩ hN rfl rfl rfl rfl dX9_back_48 rfl ?_
      refine V_iconst (v := 1) (q := 52) hX dX9_back_51 (by decide) rfl ?_
      refine V_iald (n := 95) (len := 3) (q := 53) hX ⟨rfl, rfl, by decide⟩ hN (by show inb _ _; decide) dX9_back_52 rfl ?_
      refine V_putI (n := 95) (c := 9) (k := 4) (nf := 39) (C := RX9) (T := TX9) (q := 56) hX rfl rfl iG9 k4_186 rfl rfl ⟨rfl, by decide⟩ hN rfl tyX9 tyX9_ok nmX9 rfl rfl (ty := .int) (tyX9_ok 4 (by decide)) rfl rfl dX9_back_53 rfl ?_
      refine V_aload_n (q := 57) hX dX9_back_56 0 rfl rfl ?_
      refine V_aload_n (q := 58) hX dX9_back_57 0 rfl rfl ?_
      refine V_getF (r := 83) (n := 95) (c := 9) (k := 13) (nf := 39) (C := RX9) (T := TX9) (q := 61) hX rfl rfl iG9 k4_195 rfl rfl ⟨rfl, by decide⟩ hN rfl rfl rfl rfl dX9_back_58 rfl ?_
      refine V_iconst (v := 2) (q := 62) hX dX9_back_61 (by decide) rfl ?_
      refine V_iald (n := 95) (len := 3) (q := 63) hX ⟨rfl, rfl, by decide⟩ hN (by show inb _ _; decide) dX9_back_62 rfl ?_
      refine V_putI (n := 95) (c := 9) (k := 10) (nf := 39) (C := RX9) (T := TX9) (q := 66) hX rfl rfl iG9 k4_192 rfl rfl ⟨rfl, by decide⟩ hN rfl tyX9 tyX9_ok nmX9 rfl rfl (ty := .int) (tyX9_ok 10 (by decide)) rfl rfl dX9_back_63 rfl ?_
      refine V_aload_n (q := 67) hX dX9_back_66 0 rfl rfl ?_
      refine V_getI (n := 95) (c := 9) (k := 0) (nf := 39) (C := RX9) (T := TX9) (q := 70) hX rfl rfl iG9 k4_182 rfl rfl ⟨rfl, by decide⟩ hN rfl rfl dX9_back_67 rfl ?_
      obtain ⟨f1, f2⟩ := some2 h
      rw [f1, f2] at hQ
      exact V_iret hX hQ rfl dX9_back_70
    have h := ite_f z7 h
    refine V_aload_n (q := 19) hX dX9_back_18 0 rfl rfl ?_
    refine V_getF (r := 78) (n := 95) (c := 9) (k := 3) (nf := 39) (C := RX9) (T := TX9) (q := 22) hX rfl rfl iG9 k4_185 rfl rfl ⟨rfl, by decide⟩ hN rfl rfl rfl rfl dX9_back_19 rfl ?_
    refine V_iload_n (q := 23) hX dX9_back_22 1 rfl rfl ?_
    refine V_aload_n (q := 24) hX dX9_back_23 0 rfl rfl ?_
    refine V_getF (r := 82) (n := 95) (c := 9) (k := 12) (nf := 39) (C := RX9) (T := TX9) (q := 27) hX rfl rfl iG9 k4_194 rfl rfl ⟨rfl, by decide⟩ hN rfl rfl rfl rfl dX9_back_24 rfl ?_
    refine V_iload_n (q := 28) hX dX9_back_27 1 rfl rfl ?_
    obtain ⟨z8, h⟩ := chk_t h
    refine V_iald (n := 95) (len := 30) (q := 29) hX ⟨rfl, rfl, by decide⟩ hN z8 dX9_back_28 rfl ?_
    obtain ⟨z9, h⟩ := chk_t h
    refine V_iast (n := 95) (len := 30) (q := 30) hX ⟨rfl, rfl, by decide⟩ hN z9 dX9_back_29 rfl ?_
    refine V_iinc (v := (x1 + 1)) (lv' := [(1, .int ((x1 + 1))), (0, .ref (g.ad (75)))]) (q := 33) hX dX9_back_30 1 rfl (by rfl) rfl rfl rfl ?_
    refine V_goto hX dX9_back_33 (q := 12) (by decide) ?_
    refine V.pick [1, 0] rfl ?_
    exact ih (x1 + 1) (sI σ 78 (x1).toNatClampNeg (gI σ 82 (x1).toNatClampNeg))  h
theorem v9_back_12 {g : GT} {X : XT} (hX : OkX g X (m9_back)) (hN : 95 ≤ g.N) {res : Int32 × St} (hQ : X.Q = QI g X res.1 res.2 ∧ X.cells = 0 ∧ X.slots = 0) (x1 : Int32) (σ : St) (h : S9_back_12 4096 x1 σ = some res) : V g X (m9_back) 12 [(0, .ref (g.ad (75))), (1, .int (x1))] [] σ := v9_back_12n hX hN hQ 4096 x1 σ h
set_option maxRecDepth 100000 in
set_option maxHeartbeats 4000000 in
theorem v9_back {g : GT} {X : XT} (hX : OkX g X (m9_back)) (hN : 95 ≤ g.N) {res : Int32 × St} (hQ : X.Q = QI g X res.1 res.2 ∧ X.cells = 0 ∧ X.slots = 0) {σ : St} (h : S9_back σ = some res) : V g X (m9_back) 0 [(0, .ref (g.ad (75)))] [] σ := by
  unfold S9_back at h
  refine V_aload_n (q := 1) hX dX9_back_0 0 rfl rfl ?_
  refine V_getI (n := 95) (c := 9) (k := 11) (nf := 39) (C := RX9) (T := TX9) (q := 4) hX rfl rfl iG9 k4_193 rfl rfl ⟨rfl, by decide⟩ hN rfl rfl dX9_back_1 rfl ?_
  refine V_if_ne (q := 7) (t := 10) hX dX9_back_4 (by decide) rfl (fun z10 => ?_) (fun z10 => ?_)
  · have h := ite_f z10 h
    refine V_iconst (v := 0) (q := 11) hX dX9_back_10 (by decide) rfl ?_
    refine V_istore_n (lv' := [(1, .int ((0 : Int32))), (0, .ref (g.ad (75)))]) (q := 12) hX dX9_back_11 rfl rfl rfl ?_
    refine V.pick [1, 0] rfl ?_
    exact v9_back_12 hX hN hQ (0 : Int32) σ h
  have h := ite_t z10 h
  refine V_bipush (v := -3) (q := 9) hX dX9_back_7 (by decide) rfl ?_
  obtain ⟨f1, f2⟩ := some2 h
  rw [f1, f2] at hQ
  exact V_iret hX hQ rfl dX9_back_9
set_option maxRecDepth 100000 in
set_option maxHeartbeats 4000000 in
theorem c9_back {g : GT} {l : Launch} (hg : OkG g) (hN : 95 ≤ g.N) {σ : St} {r : Int32} {σ' : St} (h : S9_back σ = some (r, σ')) : CtI g l m9_back yX9_back [.ref (g.ad (75))] σ r σ' := CtI.of hg (by decide) rfl rfl (fun X h1 h2 h3 => v9_back h1 hN (res := (r, σ')) h3 h)

abbrev m9_sheet : MI := (cX9_sheet, RX9, 5, some .int, 2)
def B9_sheet_70 (a1 : Int32) (a2 : Int32) (a3 : Int32) (rec : Int32 → St → Option (Int32 × St)) (x4 : Int32) (σ : St) : Option (Int32 × St) := if (40 : Int32) ≤ x4 then (some ((1 : Int32), σ)) else (if inb (((40 : Int32) * a1) + x4) 160 then (rec (x4 + 1) (sI σ 86 ((((40 : Int32) * a1) + x4)).toNatClampNeg (0 : Int32))) else none)
def S9_sheet_70 (a1 : Int32) (a2 : Int32) (a3 : Int32) : Nat → Int32 → St → Option (Int32 × St)
  | 0, _, _ => none
  | n + 1, x4, σ => B9_sheet_70 a1 a2 a3 (S9_sheet_70 a1 a2 a3 n) x4 σ
def S9_sheet_66 (a1 : Int32) (a2 : Int32) (a3 : Int32) (s2 : Int32) (σ : St) : Option (Int32 × St) := if inb a1 4 then (S9_sheet_70 a1 a2 a3 4096 (0 : Int32) (sI σ 85 (a1).toNatClampNeg s2)) else none
def S9_sheet_44 (a1 : Int32) (a2 : Int32) (a3 : Int32) (σ : St) : Option (Int32 × St) := if inb a1 4 then (if a2 = (-1 : Int32) then (S9_sheet_66 a1 a2 a3 (0 : Int32) (sI σ 84 (a1).toNatClampNeg a2)) else (S9_sheet_66 a1 a2 a3 a3 (sI σ 84 (a1).toNatClampNeg a2))) else none
def S9_sheet_32 (a1 : Int32) (a2 : Int32) (a3 : Int32) (σ : St) : Option (Int32 × St) := if a2 = (-1 : Int32) then (S9_sheet_44 a1 a2 a3 σ) else (if 0 ≤ a3 then (S9_sheet_44 a1 a2 a3 σ) else (some ((-14 : Int32), σ)))
def S9_sheet (a1 : Int32) (a2 : Int32) (a3 : Int32) (σ : St) : Option (Int32 × St) := bnd (S9_in a1 (0 : Int32) (3 : Int32) σ) fun r43 σ42 => if r43 = 0 then (some ((-2 : Int32), σ42)) else (bnd (S9_in a2 (-1 : Int32) (2 : Int32) σ42) fun r47 σ46 => if r47 = 0 then (some ((-2 : Int32), σ46)) else (if a2 = (-1 : Int32) then (S9_sheet_32 a1 a2 a3 σ46) else (if a3 ≤ (40 : Int32) then (S9_sheet_32 a1 a2 a3 σ46) else (some ((-2 : Int32), σ46)))))
set_option maxRecDepth 100000 in
set_option maxHeartbeats 4000000 in
theorem v9_sheet_70n {g : GT} {X : XT} {a1 : Int32} {a2 : Int32} {a3 : Int32} (hX : OkX g X (m9_sheet)) (hN : 95 ≤ g.N) {res : Int32 × St} (hQ : X.Q = QI g X res.1 res.2 ∧ X.cells = 0 ∧ X.slots = 0)   (n : Nat) : ∀ (x4 : Int32) (σ : St) , S9_sheet_70 a1 a2 a3 n x4 σ = some res → V g X (m9_sheet) 70 [(0, .ref (g.ad (75))), (1, .int (a1)), (4, .int (x4))] [] σ := by
  induction n with
  | zero => intro x4 σ; intro h; cases h
  | succ n ih =>
    intro x4 σ h
    have h : B9_sheet_70 a1 a2 a3 (S9_sheet_70 a1 a2 a3 n) x4 σ = some res := h
    unfold B9_sheet_70 at h
    refine V_iload (q := 72) hX dX9_sheet_70 2 rfl rfl ?_
    refine V_bipush (v := 40) (q := 74) hX dX9_sheet_72 (by decide) rfl ?_
    refine V_icmp_ge (q := 77) (t := 96) hX dX9_sheet_74 (by decide) rfl (fun z35 => ?_) (fun z35 => ?_)
    · have h := ite_t z35 h
      refine V_iconst (v := 1) (q := 97) hX dX9_sheet_96 (by decide) rfl ?_
      obtain ⟨f1, f2⟩ := some2 h
      rw [f1, f2] at hQ
      exact V_iret hX hQ rfl dX9_sheet_97
    have h := ite_f z35 h
    refine V_aload_n (q := 78) hX dX9_sheet_77 0 rfl rfl ?_
    refine V_getF (r := 86) (n := 95) (c := 9) (k := 16) (nf := 39) (C := RX9) (T := TX9) (q := 81) hX rfl rfl iG9 k4_198 rfl rfl ⟨rfl, by decide⟩ hN rfl rfl rfl rfl dX9_sheet_78 rfl ?_
    refine V_bipush (v := 40) (q := 83) hX dX9_sheet_81 (by decide) rfl ?_
    refine V_iload_n (q := 84) hX dX9_sheet_83 1 rfl rfl ?_
    refine V_imul (q := 85) hX dX9_sheet_84 rfl ?_
    refine V_iload (q := 87) hX dX9_sheet_85 2 rfl rfl ?_
    refine V_iadd (q := 88) hX dX9_sheet_87 rfl ?_
    refine V_iconst (v := 0) (q := 89) hX dX9_sheet_88 (by decide) rfl ?_
    obtain ⟨z36, h⟩ := chk_t h
    refine V_iast (n := 95) (len := 160) (q := 90) hX ⟨rfl, rfl, by decide⟩ hN z36 dX9_sheet_89 rfl ?_
    refine V_iinc (v := (x4 + 1)) (lv' := [(4, .int ((x4 + 1))), (0, .ref (g.ad (75))), (1, .int (a1))]) (q := 93) hX dX9_sheet_90 2 rfl (by rfl) rfl rfl rfl ?_
    refine V_goto hX dX9_sheet_93 (q := 70) (by decide) ?_
    refine V.pick [1, 2, 0] rfl ?_
    exact ih (x4 + 1) (sI σ 86 ((((40 : Int32) * a1) + x4)).toNatClampNeg (0 : Int32))  h
theorem v9_sheet_70 {g : GT} {X : XT} {a1 : Int32} {a2 : Int32} {a3 : Int32} (hX : OkX g X (m9_sheet)) (hN : 95 ≤ g.N) {res : Int32 × St} (hQ : X.Q = QI g X res.1 res.2 ∧ X.cells = 0 ∧ X.slots = 0) (x4 : Int32) (σ : St) (h : S9_sheet_70 a1 a2 a3 4096 x4 σ = some res) : V g X (m9_sheet) 70 [(0, .ref (g.ad (75))), (1, .int (a1)), (4, .int (x4))] [] σ := v9_sheet_70n hX hN hQ 4096 x4 σ h
set_option maxRecDepth 100000 in
set_option maxHeartbeats 4000000 in
theorem v9_sheet_66 {g : GT} {X : XT} {a1 : Int32} {a2 : Int32} {a3 : Int32} (hX : OkX g X (m9_sheet)) (hN : 95 ≤ g.N) {res : Int32 × St} (hQ : X.Q = QI g X res.1 res.2 ∧ X.cells = 0 ∧ X.slots = 0)   (s2 : Int32) (σ : St)  (h : S9_sheet_66 a1 a2 a3 s2 σ = some res) : V g X (m9_sheet) 66 [(0, .ref (g.ad (75))), (1, .int (a1))] [.int (s2), .int (a1), .ref (g.ad (85))] σ := by
  unfold S9_sheet_66 at h
  obtain ⟨z37, h⟩ := chk_t h
  refine V_iast (n := 95) (len := 4) (q := 67) hX ⟨rfl, rfl, by decide⟩ hN z37 dX9_sheet_66 rfl ?_
  refine V_iconst (v := 0) (q := 68) hX dX9_sheet_67 (by decide) rfl ?_
  refine V_istore (lv' := [(4, .int ((0 : Int32))), (0, .ref (g.ad (75))), (1, .int (a1))]) (q := 70) hX dX9_sheet_68 rfl rfl rfl ?_
  refine V.pick [1, 2, 0] rfl ?_
  exact v9_sheet_70 hX hN hQ (0 : Int32) (sI σ 85 (a1).toNatClampNeg s2) h
set_option maxRecDepth 100000 in
set_option maxHeartbeats 4000000 in
theorem v9_sheet_44 {g : GT} {X : XT} {a1 : Int32} {a2 : Int32} {a3 : Int32} (hX : OkX g X (m9_sheet)) (hN : 95 ≤ g.N) {res : Int32 × St} (hQ : X.Q = QI g X res.1 res.2 ∧ X.cells = 0 ∧ X.slots = 0)    (σ : St)  (h : S9_sheet_44 a1 a2 a3 σ = some res) : V g X (m9_sheet) 44 [(0, .ref (g.ad (75))), (1, .int (a1)), (2, .int (a2)), (3, .int (a3))] [] σ := by
  unfold S9_sheet_44 at h
  refine V_aload_n (q := 45) hX dX9_sheet_44 0 rfl rfl ?_
  refine V_getF (r := 84) (n := 95) (c := 9) (k := 14) (nf := 39) (C := RX9) (T := TX9) (q := 48) hX rfl rfl iG9 k4_196 rfl rfl ⟨rfl, by decide⟩ hN rfl rfl rfl rfl dX9_sheet_45 rfl ?_
  refine V_iload_n (q := 49) hX dX9_sheet_48 1 rfl rfl ?_
  refine V_iload_n (q := 50) hX dX9_sheet_49 2 rfl rfl ?_
  obtain ⟨z38, h⟩ := chk_t h
  refine V_iast (n := 95) (len := 4) (q := 51) hX ⟨rfl, rfl, by decide⟩ hN z38 dX9_sheet_50 rfl ?_
  refine V_aload_n (q := 52) hX dX9_sheet_51 0 rfl rfl ?_
  refine V_getF (r := 85) (n := 95) (c := 9) (k := 15) (nf := 39) (C := RX9) (T := TX9) (q := 55) hX rfl rfl iG9 k4_197 rfl rfl ⟨rfl, by decide⟩ hN rfl rfl rfl rfl dX9_sheet_52 rfl ?_
  refine V_iload_n (q := 56) hX dX9_sheet_55 1 rfl rfl ?_
  refine V_iload_n (q := 57) hX dX9_sheet_56 2 rfl rfl ?_
  refine V_iconst (v := -1) (q := 58) hX dX9_sheet_57 (by decide) rfl ?_
  refine V_icmp_ne (q := 61) (t := 65) hX dX9_sheet_58 (by decide) rfl (fun z39 => ?_) (fun z39 => ?_)
  · have h := ite_f z39 h
    refine V_iload_n (q := 66) hX dX9_sheet_65 3 rfl rfl ?_
    refine V.pick [0, 1] rfl ?_
    exact v9_sheet_66 hX hN hQ a3 (sI σ 84 (a1).toNatClampNeg a2) h
  have h := ite_t z39 h
  refine V_iconst (v := 0) (q := 62) hX dX9_sheet_61 (by decide) rfl ?_
  refine V_goto hX dX9_sheet_62 (q := 66) (by decide) ?_
  refine V.pick [0, 1] rfl ?_
  exact v9_sheet_66 hX hN hQ (0 : Int32) (sI σ 84 (a1).toNatClampNeg a2) h
set_option maxRecDepth 100000 in
set_option maxHeartbeats 4000000 in
theorem v9_sheet_32 {g : GT} {X : XT} {a1 : Int32} {a2 : Int32} {a3 : Int32} (hX : OkX g X (m9_sheet)) (hN : 95 ≤ g.N) {res : Int32 × St} (hQ : X.Q = QI g X res.1 res.2 ∧ X.cells = 0 ∧ X.slots = 0)    (σ : St)  (h : S9_sheet_32 a1 a2 a3 σ = some res) : V g X (m9_sheet) 32 [(0, .ref (g.ad (75))), (1, .int (a1)), (2, .int (a2)), (3, .int (a3))] [] σ := by
  unfold S9_sheet_32 at h
  refine V_iload_n (q := 33) hX dX9_sheet_32 2 rfl rfl ?_
  refine V_iconst (v := -1) (q := 34) hX dX9_sheet_33 (by decide) rfl ?_
  refine V_icmp_eq (q := 37) (t := 44) hX dX9_sheet_34 (by decide) rfl (fun z40 => ?_) (fun z40 => ?_)
  · have h := ite_t z40 h
    refine V.pick [0, 1, 2, 3] rfl ?_
    exact v9_sheet_44 hX hN hQ σ h
  have h := ite_f z40 h
  refine V_iload_n (q := 38) hX dX9_sheet_37 3 rfl rfl ?_
  refine V_if_ge (q := 41) (t := 44) hX dX9_sheet_38 (by decide) rfl (fun z41 => ?_) (fun z41 => ?_)
  · have h := ite_t z41 h
    refine V.pick [0, 1, 2, 3] rfl ?_
    exact v9_sheet_44 hX hN hQ σ h
  have h := ite_f z41 h
  refine V_bipush (v := -14) (q := 43) hX dX9_sheet_41 (by decide) rfl ?_
  obtain ⟨f1, f2⟩ := some2 h
  rw [f1, f2] at hQ
  exact V_iret hX hQ rfl dX9_sheet_43
set_option maxRecDepth 100000 in
set_option maxHeartbeats 4000000 in
theorem v9_sheet {g : GT} {X : XT} {a1 : Int32} {a2 : Int32} {a3 : Int32} (hX : OkX g X (m9_sheet)) (hN : 95 ≤ g.N) {res : Int32 × St} (hQ : X.Q = QI g X res.1 res.2 ∧ X.cells = 0 ∧ X.slots = 0) {σ : St} (h : S9_sheet a1 a2 a3 σ = some res) : V g X (m9_sheet) 0 [(0, .ref (g.ad (75))), (1, .int (a1)), (2, .int (a2)), (3, .int (a3))] [] σ := by
  unfold S9_sheet at h
  refine V_iload_n (q := 1) hX dX9_sheet_0 1 rfl rfl ?_
  refine V_iconst (v := 0) (q := 2) hX dX9_sheet_1 (by decide) rfl ?_
  refine V_iconst (v := 3) (q := 3) hX dX9_sheet_2 (by decide) rfl ?_
  obtain ⟨r43, σ42, e44, h⟩ := bnd_some h
  refine V_csI (As := [.int (a1), .int ((0 : Int32)), .int ((3 : Int32))]) (q := 6) hX (c9_in hX.2.2.2.2.1 hN e44) (goodS_of k4_143 k4_144 k1_16 (cons_g k4_145)) (nA := 3) (by decide) rfl rfl rfl rfl rfl dX9_sheet_3 rfl ?_
  refine V_if_eq (q := 9) (t := 29) hX dX9_sheet_6 (by decide) rfl (fun z45 => ?_) (fun z45 => ?_)
  · have h := ite_t z45 h
    refine V_bipush (v := -2) (q := 31) hX dX9_sheet_29 (by decide) rfl ?_
    obtain ⟨f1, f2⟩ := some2 h
    rw [f1, f2] at hQ
    exact V_iret hX hQ rfl dX9_sheet_31
  have h := ite_f z45 h
  refine V_iload_n (q := 10) hX dX9_sheet_9 2 rfl rfl ?_
  refine V_iconst (v := -1) (q := 11) hX dX9_sheet_10 (by decide) rfl ?_
  refine V_iconst (v := 2) (q := 12) hX dX9_sheet_11 (by decide) rfl ?_
  obtain ⟨r47, σ46, e48, h⟩ := bnd_some h
  refine V_csI (As := [.int (a2), .int ((-1 : Int32)), .int ((2 : Int32))]) (q := 15) hX (c9_in hX.2.2.2.2.1 hN e48) (goodS_of k4_143 k4_144 k1_16 (cons_g k4_145)) (nA := 3) (by decide) rfl rfl rfl rfl rfl dX9_sheet_12 rfl ?_
  refine V_if_eq (q := 18) (t := 29) hX dX9_sheet_15 (by decide) rfl (fun z49 => ?_) (fun z49 => ?_)
  · have h := ite_t z49 h
    refine V_bipush (v := -2) (q := 31) hX dX9_sheet_29 (by decide) rfl ?_
    obtain ⟨f1, f2⟩ := some2 h
    rw [f1, f2] at hQ
    exact V_iret hX hQ rfl dX9_sheet_31
  have h := ite_f z49 h
  refine V_iload_n (q := 19) hX dX9_sheet_18 2 rfl rfl ?_
  refine V_iconst (v := -1) (q := 20) hX dX9_sheet_19 (by decide) rfl ?_
  refine V_icmp_eq (q := 23) (t := 32) hX dX9_sheet_20 (by decide) rfl (fun z50 => ?_) (fun z50 => ?_)
  · have h := ite_t z50 h
    refine V.pick [0, 1, 2, 3] rfl ?_
    exact v9_sheet_32 hX hN hQ σ46 h
  have h := ite_f z50 h
  refine V_iload_n (q := 24) hX dX9_sheet_23 3 rfl rfl ?_
  refine V_bipush (v := 40) (q := 26) hX dX9_sheet_24 (by decide) rfl ?_
  refine V_icmp_le (q := 29) (t := 32) hX dX9_sheet_26 (by decide) rfl (fun z51 => ?_) (fun z51 => ?_)
  · have h := ite_t z51 h
    refine V.pick [0, 1, 2, 3] rfl ?_
    exact v9_sheet_32 hX hN hQ σ46 h
  have h := ite_f z51 h
  refine V_bipush (v := -2) (q := 31) hX dX9_sheet_29 (by decide) rfl ?_
  obtain ⟨f1, f2⟩ := some2 h
  rw [f1, f2] at hQ
  exact V_iret hX hQ rfl dX9_sheet_31
set_option maxRecDepth 100000 in
set_option maxHeartbeats 4000000 in
theorem c9_sheet {g : GT} {l : Launch} (hg : OkG g) (hN : 95 ≤ g.N) {a1 : Int32} {a2 : Int32} {a3 : Int32} {σ : St} {r : Int32} {σ' : St} (h : S9_sheet a1 a2 a3 σ = some (r, σ')) : CtI g l m9_sheet yX9_sheet [.ref (g.ad (75)), .int (a1), .int (a2), .int (a3)] σ r σ' := CtI.of hg (by decide) rfl rfl (fun X h1 h2 h3 => v9_sheet h1 hN (res := (r, σ')) h3 h)

abbrev m9_cell : MI := (cX9_cell, RX9, 4, some .int, 2)
def S9_cell_84 (a1 : Int32) (a2 : Int32) (a3 : Int32) (s2 : Int32) (σ : St) : Option (Int32 × St) := if inb (((40 : Int32) * a1) + a2) 160 then (some ((1 : Int32), (sI σ 86 ((((40 : Int32) * a1) + a2)).toNatClampNeg s2))) else none
def S9_cell (a1 : Int32) (a2 : Int32) (a3 : Int32) (σ : St) : Option (Int32 × St) := bnd (S9_in a1 (0 : Int32) (3 : Int32) σ) fun r35 σ34 => if r35 = 0 then (some ((-2 : Int32), σ34)) else (if inb a1 4 then (if (gI σ34 84 (a1).toNatClampNeg) = (-1 : Int32) then (some ((-11 : Int32), σ34)) else (if inb a1 4 then (bnd (S9_in a2 (0 : Int32) ((gI σ34 85 (a1).toNatClampNeg) - (1 : Int32)) σ34) fun r42 σ41 => if r42 = 0 then (some ((-12 : Int32), σ41)) else (if inb a1 4 then (if (gI σ41 84 (a1).toNatClampNeg) = 0 then (S9_cell_84 a1 a2 a3 ((a3).toInt8.toInt32) σ41) else (if inb a1 4 then (if (gI σ41 84 (a1).toNatClampNeg) = (1 : Int32) then (S9_cell_84 a1 a2 a3 ((a3).toInt16.toInt32) σ41) else (S9_cell_84 a1 a2 a3 a3 σ41)) else none)) else none)) else none)) else none)
set_option maxRecDepth 100000 in
set_option maxHeartbeats 4000000 in
theorem v9_cell_84 {g : GT} {X : XT} {a1 : Int32} {a2 : Int32} {a3 : Int32} (hX : OkX g X (m9_cell)) (hN : 95 ≤ g.N) {res : Int32 × St} (hQ : X.Q = QI g X res.1 res.2 ∧ X.cells = 0 ∧ X.slots = 0)   (s2 : Int32) (σ : St)  (h : S9_cell_84 a1 a2 a3 s2 σ = some res) : V g X (m9_cell) 84 [] [.int (s2), .int ((((40 : Int32) * a1) + a2)), .ref (g.ad (86))] σ := by
  unfold S9_cell_84 at h
  obtain ⟨z33, h⟩ := chk_t h
  refine V_iast (n := 95) (len := 160) (q := 85) hX ⟨rfl, rfl, by decide⟩ hN z33 dX9_cell_84 rfl ?_
  refine V_iconst (v := 1) (q := 86) hX dX9_cell_85 (by decide) rfl ?_
  obtain ⟨f1, f2⟩ := some2 h
  rw [f1, f2] at hQ
  exact V_iret hX hQ rfl dX9_cell_86
set_option maxRecDepth 100000 in
set_option maxHeartbeats 4000000 in
theorem v9_cell {g : GT} {X : XT} {a1 : Int32} {a2 : Int32} {a3 : Int32} (hX : OkX g X (m9_cell)) (hN : 95 ≤ g.N) {res : Int32 × St} (hQ : X.Q = QI g X res.1 res.2 ∧ X.cells = 0 ∧ X.slots = 0) {σ : St} (h : S9_cell a1 a2 a3 σ = some res) : V g X (m9_cell) 0 [(0, .ref (g.ad (75))), (1, .int (a1)), (2, .int (a2)), (3, .int (a3))] [] σ := by
  unfold S9_cell at h
  refine V_iload_n (q := 1) hX dX9_cell_0 1 rfl rfl ?_
  refine V_iconst (v := 0) (q := 2) hX dX9_cell_1 (by decide) rfl ?_
  refine V_iconst (v := 3) (q := 3) hX dX9_cell_2 (by decide) rfl ?_
  obtain ⟨r35, σ34, e36, h⟩ := bnd_some h
  refine V_csI (As := [.int (a1), .int ((0 : Int32)), .int ((3 : Int32))]) (q := 6) hX (c9_in hX.2.2.2.2.1 hN e36) (goodS_of k4_143 k4_144 k1_16 (cons_g k4_145)) (nA := 3) (by decide) rfl rfl rfl rfl rfl dX9_cell_3 rfl ?_
  refine V_if_ne (q := 9) (t := 12) hX dX9_cell_6 (by decide) rfl (fun z37 => ?_) (fun z37 => ?_)
  · have h := ite_f z37 h
    refine V_aload_n (q := 13) hX dX9_cell_12 0 rfl rfl ?_
    refine V_getF (r := 84) (n := 95) (c := 9) (k := 14) (nf := 39) (C := RX9) (T := TX9) (q := 16) hX rfl rfl iG9 k4_196 rfl rfl ⟨rfl, by decide⟩ hN rfl rfl rfl rfl dX9_cell_13 rfl ?_
    refine V_iload_n (q := 17) hX dX9_cell_16 1 rfl rfl ?_
    obtain ⟨z38, h⟩ := chk_t h
    refine V_iald (n := 95) (len := 4) (q := 18) hX ⟨rfl, rfl, by decide⟩ hN z38 dX9_cell_17 rfl ?_
    refine V_iconst (v := -1) (q := 19) hX dX9_cell_18 (by decide) rfl ?_
    refine V_icmp_ne (q := 22) (t := 25) hX dX9_cell_19 (by decide) rfl (fun z39 => ?_) (fun z39 => ?_)
    · have h := ite_f z39 h
      refine V_iload_n (q := 26) hX dX9_cell_25 2 rfl rfl ?_
      refine V_iconst (v := 0) (q := 27) hX dX9_cell_26 (by decide) rfl ?_
      refine V_aload_n (q := 28) hX dX9_cell_27 0 rfl rfl ?_
      refine V_getF (r := 85) (n := 95) (c := 9) (k := 15) (nf := 39) (C := RX9) (T := TX9) (q := 31) hX rfl rfl iG9 k4_197 rfl rfl ⟨rfl, by decide⟩ hN rfl rfl rfl rfl dX9_cell_28 rfl ?_
      refine V_iload_n (q := 32) hX dX9_cell_31 1 rfl rfl ?_
      obtain ⟨z40, h⟩ := chk_t h
      refine V_iald (n := 95) (len := 4) (q := 33) hX ⟨rfl, rfl, by decide⟩ hN z40 dX9_cell_32 rfl ?_
      refine V_iconst (v := 1) (q := 34) hX dX9_cell_33 (by decide) rfl ?_
      refine V_isub (q := 35) hX dX9_cell_34 rfl ?_
      obtain ⟨r42, σ41, e43, h⟩ := bnd_some h
      refine V_csI (As := [.int (a2), .int ((0 : Int32)), .int (((gI σ34 85 (a1).toNatClampNeg) - (1 : Int32)))]) (q := 38) hX (c9_in hX.2.2.2.2.1 hN e43) (goodS_of k4_143 k4_144 k1_16 (cons_g k4_145)) (nA := 3) (by decide) rfl rfl rfl rfl rfl dX9_cell_35 rfl ?_
      refine V_if_ne (q := 41) (t := 44) hX dX9_cell_38 (by decide) rfl (fun z44 => ?_) (fun z44 => ?_)
      · have h := ite_f z44 h
        refine V_aload_n (q := 45) hX dX9_cell_44 0 rfl rfl ?_
        refine V_getF (r := 86) (n := 95) (c := 9) (k := 16) (nf := 39) (C := RX9) (T := TX9) (q := 48) hX rfl rfl iG9 k4_198 rfl rfl ⟨rfl, by decide⟩ hN rfl rfl rfl rfl dX9_cell_45 rfl ?_
        refine V_bipush (v := 40) (q := 50) hX dX9_cell_48 (by decide) rfl ?_
        refine V_iload_n (q := 51) hX dX9_cell_50 1 rfl rfl ?_
        refine V_imul (q := 52) hX dX9_cell_51 rfl ?_
        refine V_iload_n (q := 53) hX dX9_cell_52 2 rfl rfl ?_
        refine V_iadd (q := 54) hX dX9_cell_53 rfl ?_
        refine V_aload_n (q := 55) hX dX9_cell_54 0 rfl rfl ?_
        refine V_getF (r := 84) (n := 95) (c := 9) (k := 14) (nf := 39) (C := RX9) (T := TX9) (q := 58) hX rfl rfl iG9 k4_196 rfl rfl ⟨rfl, by decide⟩ hN rfl rfl rfl rfl dX9_cell_55 rfl ?_
        refine V_iload_n (q := 59) hX dX9_cell_58 1 rfl rfl ?_
        obtain ⟨z45, h⟩ := chk_t h
        refine V_iald (n := 95) (len := 4) (q := 60) hX ⟨rfl, rfl, by decide⟩ hN z45 dX9_cell_59 rfl ?_
        refine V_if_ne (q := 63) (t := 68) hX dX9_cell_60 (by decide) rfl (fun z46 => ?_) (fun z46 => ?_)
        · have h := ite_f z46 h
          refine V_aload_n (q := 69) hX dX9_cell_68 0 rfl rfl ?_
          refine V_getF (r := 84) (n := 95) (c := 9) (k := 14) (nf := 39) (C := RX9) (T := TX9) (q := 72) hX rfl rfl iG9 k4_196 rfl rfl ⟨rfl, by decide⟩ hN rfl rfl rfl rfl dX9_cell_69 rfl ?_
          refine V_iload_n (q := 73) hX dX9_cell_72 1 rfl rfl ?_
          obtain ⟨z47, h⟩ := chk_t h
          refine V_iald (n := 95) (len := 4) (q := 74) hX ⟨rfl, rfl, by decide⟩ hN z47 dX9_cell_73 rfl ?_
          refine V_iconst (v := 1) (q := 75) hX dX9_cell_74 (by decide) rfl ?_
          refine V_icmp_ne (q := 78) (t := 83) hX dX9_cell_75 (by decide) rfl (fun z48 => ?_) (fun z48 => ?_)
          · have h := ite_f z48 h
            refine V_iload_n (q := 84) hX dX9_cell_83 3 rfl rfl ?_
            refine V.pick [] rfl ?_
            exact v9_cell_84 hX hN hQ a3 σ41 h
          have h := ite_t z48 h
          refine V_iload_n (q := 79) hX dX9_cell_78 3 rfl rfl ?_
          refine V_i2s (q := 80) hX dX9_cell_79 rfl ?_
          refine V_goto hX dX9_cell_80 (q := 84) (by decide) ?_
          refine V.pick [] rfl ?_
          exact v9_cell_84 hX hN hQ ((a3).toInt16.toInt32) σ41 h
        have h := ite_t z46 h
        refine V_iload_n (q := 64) hX dX9_cell_63 3 rfl rfl ?_
        refine V_i2b (q := 65) hX dX9_cell_64 rfl ?_
        refine V_goto hX dX9_cell_65 (q := 84) (by decide) ?_
        refine V.pick [] rfl ?_
        exact v9_cell_84 hX hN hQ ((a3).toInt8.toInt32) σ41 h
      have h := ite_t z44 h
      refine V_bipush (v := -12) (q := 43) hX dX9_cell_41 (by decide) rfl ?_
      obtain ⟨f1, f2⟩ := some2 h
      rw [f1, f2] at hQ
      exact V_iret hX hQ rfl dX9_cell_43
    have h := ite_t z39 h
    refine V_bipush (v := -11) (q := 24) hX dX9_cell_22 (by decide) rfl ?_
    obtain ⟨f1, f2⟩ := some2 h
    rw [f1, f2] at hQ
    exact V_iret hX hQ rfl dX9_cell_24
  have h := ite_t z37 h
  refine V_bipush (v := -2) (q := 11) hX dX9_cell_9 (by decide) rfl ?_
  obtain ⟨f1, f2⟩ := some2 h
  rw [f1, f2] at hQ
  exact V_iret hX hQ rfl dX9_cell_11
set_option maxRecDepth 100000 in
set_option maxHeartbeats 4000000 in
theorem c9_cell {g : GT} {l : Launch} (hg : OkG g) (hN : 95 ≤ g.N) {a1 : Int32} {a2 : Int32} {a3 : Int32} {σ : St} {r : Int32} {σ' : St} (h : S9_cell a1 a2 a3 σ = some (r, σ')) : CtI g l m9_cell yX9_cell [.ref (g.ad (75)), .int (a1), .int (a2), .int (a3)] σ r σ' := CtI.of hg (by decide) rfl rfl (fun X h1 h2 h3 => v9_cell h1 hN (res := (r, σ')) h3 h)

abbrev m9_copy : MI := (cX9_copy, RX9, 10, some .int, 2)
def S9_copy_173 (a1 : Int32) (a2 : Int32) (a3 : Int32) (a4 : Int32) (a5 : Int32) (k147 : Int32 → St → Option (Int32 × St)) (x8 : Int32) (s0 : Int32) (σ : St) : Option (Int32 × St) := if inb ((((40 : Int32) * a1) + a2) + s0) 160 then (if inb ((((40 : Int32) * a3) + a4) + s0) 160 then (k147 (x8 + 1) (sI σ 86 (((((40 : Int32) * a3) + a4) + s0)).toNatClampNeg (gI σ 86 (((((40 : Int32) * a1) + a2) + s0)).toNatClampNeg))) else none) else none
def B9_copy_147 (a1 : Int32) (a2 : Int32) (a3 : Int32) (a4 : Int32) (a5 : Int32) (rec : Int32 → St → Option (Int32 × St)) (x8 : Int32) (σ : St) : Option (Int32 × St) := if a5 ≤ x8 then (some (a5, σ)) else (if (((40 : Int32) * a3) + a4) ≤ (((40 : Int32) * a1) + a2) then (S9_copy_173 a1 a2 a3 a4 a5 rec x8 x8 σ) else (S9_copy_173 a1 a2 a3 a4 a5 rec x8 ((a5 - (1 : Int32)) - x8) σ))
def S9_copy_147 (a1 : Int32) (a2 : Int32) (a3 : Int32) (a4 : Int32) (a5 : Int32) : Nat → Int32 → St → Option (Int32 × St)
  | 0, _, _ => none
  | n + 1, x8, σ => B9_copy_147 a1 a2 a3 a4 a5 (S9_copy_147 a1 a2 a3 a4 a5 n) x8 σ
def S9_copy (a1 : Int32) (a2 : Int32) (a3 : Int32) (a4 : Int32) (a5 : Int32) (σ : St) : Option (Int32 × St) := bnd (S9_in a1 (0 : Int32) (3 : Int32) σ) fun r96 σ95 => if r96 = 0 then (some ((-2 : Int32), σ95)) else (bnd (S9_in a3 (0 : Int32) (3 : Int32) σ95) fun r100 σ99 => if r100 = 0 then (some ((-2 : Int32), σ99)) else (if inb a1 4 then (if (gI σ99 84 (a1).toNatClampNeg) = (-1 : Int32) then (some ((-11 : Int32), σ99)) else (if inb a3 4 then (if (gI σ99 84 (a3).toNatClampNeg) = (-1 : Int32) then (some ((-11 : Int32), σ99)) else (if inb a1 4 then (if inb a3 4 then (if (gI σ99 84 (a1).toNatClampNeg) = (gI σ99 84 (a3).toNatClampNeg) then (if a5 < 0 then (some ((-12 : Int32), σ99)) else (if a2 < 0 then (some ((-12 : Int32), σ99)) else (if a4 < 0 then (some ((-12 : Int32), σ99)) else (if inb a1 4 then (if (gI σ99 85 (a1).toNatClampNeg) < a2 then (some ((-12 : Int32), σ99)) else (if inb a3 4 then (if (gI σ99 85 (a3).toNatClampNeg) < a4 then (some ((-12 : Int32), σ99)) else (if inb a1 4 then (if ((gI σ99 85 (a1).toNatClampNeg) - a2) < a5 then (some ((-12 : Int32), σ99)) else (if inb a3 4 then (if a5 ≤ ((gI σ99 85 (a3).toNatClampNeg) - a4) then (S9_copy_147 a1 a2 a3 a4 a5 4096 (0 : Int32) σ99) else (some ((-12 : Int32), σ99))) else none)) else none)) else none)) else none)))) else (some ((-13 : Int32), σ99))) else none) else none)) else none)) else none))
set_option maxRecDepth 100000 in
set_option maxHeartbeats 4000000 in
theorem v9_copy_173 {g : GT} {X : XT} {a1 : Int32} {a2 : Int32} {a3 : Int32} {a4 : Int32} {a5 : Int32} (hX : OkX g X (m9_copy)) (hN : 95 ≤ g.N) {res : Int32 × St} (hQ : X.Q = QI g X res.1 res.2 ∧ X.cells = 0 ∧ X.slots = 0)  {k147 : Int32 → St → Option (Int32 × St)} (hk147 : ∀ (x8 : Int32) (σ : St), k147 x8 σ = some res → V g X (m9_copy) 147 [(0, .ref (g.ad (75))), (5, .int (a5)), (6, .int ((((40 : Int32) * a1) + a2))), (7, .int ((((40 : Int32) * a3) + a4))), (8, .int (x8))] [] σ) (x8 : Int32) (s0 : Int32) (σ : St)  (h : S9_copy_173 a1 a2 a3 a4 a5 k147 x8 s0 σ = some res) : V g X (m9_copy) 173 [(0, .ref (g.ad (75))), (5, .int (a5)), (6, .int ((((40 : Int32) * a1) + a2))), (7, .int ((((40 : Int32) * a3) + a4))), (8, .int (x8))] [.int (s0)] σ := by
  unfold S9_copy_173 at h
  refine V_istore (lv' := [(9, .int (s0)), (0, .ref (g.ad (75))), (5, .int (a5)), (6, .int ((((40 : Int32) * a1) + a2))), (7, .int ((((40 : Int32) * a3) + a4))), (8, .int (x8))]) (q := 175) hX dX9_copy_173 rfl rfl rfl ?_
  refine V_aload_n (q := 176) hX dX9_copy_175 1 rfl rfl ?_
  refine V_getF (r := 86) (n := 95) (c := 9) (k := 16) (nf := 39) (C := RX9) (T := TX9) (q := 179) hX rfl rfl iG9 k4_198 rfl rfl ⟨rfl, by decide⟩ hN rfl rfl rfl rfl dX9_copy_176 rfl ?_
  refine V_iload (q := 181) hX dX9_copy_179 4 rfl rfl ?_
  refine V_iload (q := 183) hX dX9_copy_181 0 rfl rfl ?_
  refine V_iadd (q := 184) hX dX9_copy_183 rfl ?_
  refine V_aload_n (q := 185) hX dX9_copy_184 1 rfl rfl ?_
  refine V_getF (r := 86) (n := 95) (c := 9) (k := 16) (nf := 39) (C := RX9) (T := TX9) (q := 188) hX rfl rfl iG9 k4_198 rfl rfl ⟨rfl, by decide⟩ hN rfl rfl rfl rfl dX9_copy_185 rfl ?_
  refine V_iload (q := 190) hX dX9_copy_188 3 rfl rfl ?_
  refine V_iload (q := 192) hX dX9_copy_190 0 rfl rfl ?_
  refine V_iadd (q := 193) hX dX9_copy_192 rfl ?_
  obtain ⟨z91, h⟩ := chk_t h
  refine V_iald (n := 95) (len := 160) (q := 194) hX ⟨rfl, rfl, by decide⟩ hN z91 dX9_copy_193 rfl ?_
  obtain ⟨z92, h⟩ := chk_t h
  refine V_iast (n := 95) (len := 160) (q := 195) hX ⟨rfl, rfl, by decide⟩ hN z92 dX9_copy_194 rfl ?_
  refine V_iinc (v := (x8 + 1)) (lv' := [(8, .int ((x8 + 1))), (9, .int (s0)), (0, .ref (g.ad (75))), (5, .int (a5)), (6, .int ((((40 : Int32) * a1) + a2))), (7, .int ((((40 : Int32) * a3) + a4)))]) (q := 198) hX dX9_copy_195 5 rfl (by rfl) rfl rfl rfl ?_
  refine V_goto hX dX9_copy_198 (q := 147) (by decide) ?_
  refine V.pick [2, 3, 4, 5, 0] rfl ?_
  exact hk147 (x8 + 1) (sI σ 86 (((((40 : Int32) * a3) + a4) + s0)).toNatClampNeg (gI σ 86 (((((40 : Int32) * a1) + a2) + s0)).toNatClampNeg))  h
set_option maxRecDepth 100000 in
set_option maxHeartbeats 4000000 in
theorem v9_copy_147n {g : GT} {X : XT} {a1 : Int32} {a2 : Int32} {a3 : Int32} {a4 : Int32} {a5 : Int32} (hX : OkX g X (m9_copy)) (hN : 95 ≤ g.N) {res : Int32 × St} (hQ : X.Q = QI g X res.1 res.2 ∧ X.cells = 0 ∧ X.slots = 0)   (n : Nat) : ∀ (x8 : Int32) (σ : St) , S9_copy_147 a1 a2 a3 a4 a5 n x8 σ = some res → V g X (m9_copy) 147 [(0, .ref (g.ad (75))), (5, .int (a5)), (6, .int ((((40 : Int32) * a1) + a2))), (7, .int ((((40 : Int32) * a3) + a4))), (8, .int (x8))] [] σ := by
  induction n with
  | zero => intro x8 σ; intro h; cases h
  | succ n ih =>
    intro x8 σ h
    have h : B9_copy_147 a1 a2 a3 a4 a5 (S9_copy_147 a1 a2 a3 a4 a5 n) x8 σ = some res := h
    unfold B9_copy_147 at h
    refine V_iload (q := 149) hX dX9_copy_147 4 rfl rfl ?_
    refine V_iload (q := 151) hX dX9_copy_149 1 rfl rfl ?_
    refine V_icmp_ge (q := 154) (t := 201) hX dX9_copy_151 (by decide) rfl (fun z93 => ?_) (fun z93 => ?_)
    · have h := ite_t z93 h
      refine V_iload (q := 203) hX dX9_copy_201 1 rfl rfl ?_
      obtain ⟨f1, f2⟩ := some2 h
      rw [f1, f2] at hQ
      exact V_iret hX hQ rfl dX9_copy_203
    have h := ite_f z93 h
    refine V_iload (q := 156) hX dX9_copy_154 2 rfl rfl ?_
    refine V_iload (q := 158) hX dX9_copy_156 3 rfl rfl ?_
    refine V_icmp_ge (q := 161) (t := 171) hX dX9_copy_158 (by decide) rfl (fun z94 => ?_) (fun z94 => ?_)
    · have h := ite_t z94 h
      refine V_iload (q := 173) hX dX9_copy_171 4 rfl rfl ?_
      refine V.pick [0, 1, 2, 3, 4] rfl ?_
      exact v9_copy_173 hX hN hQ ih x8 x8 σ h
    have h := ite_f z94 h
    refine V_iload (q := 163) hX dX9_copy_161 1 rfl rfl ?_
    refine V_iconst (v := 1) (q := 164) hX dX9_copy_163 (by decide) rfl ?_
    refine V_isub (q := 165) hX dX9_copy_164 rfl ?_
    refine V_iload (q := 167) hX dX9_copy_165 4 rfl rfl ?_
    refine V_isub (q := 168) hX dX9_copy_167 rfl ?_
    refine V_goto hX dX9_copy_168 (q := 173) (by decide) ?_
    refine V.pick [0, 1, 2, 3, 4] rfl ?_
    exact v9_copy_173 hX hN hQ ih x8 ((a5 - (1 : Int32)) - x8) σ h
theorem v9_copy_147 {g : GT} {X : XT} {a1 : Int32} {a2 : Int32} {a3 : Int32} {a4 : Int32} {a5 : Int32} (hX : OkX g X (m9_copy)) (hN : 95 ≤ g.N) {res : Int32 × St} (hQ : X.Q = QI g X res.1 res.2 ∧ X.cells = 0 ∧ X.slots = 0) (x8 : Int32) (σ : St) (h : S9_copy_147 a1 a2 a3 a4 a5 4096 x8 σ = some res) : V g X (m9_copy) 147 [(0, .ref (g.ad (75))), (5, .int (a5)), (6, .int ((((40 : Int32) * a1) + a2))), (7, .int ((((40 : Int32) * a3) + a4))), (8, .int (x8))] [] σ := v9_copy_147n hX hN hQ 4096 x8 σ h
set_option maxRecDepth 100000 in
set_option maxHeartbeats 4000000 in
theorem v9_copy {g : GT} {X : XT} {a1 : Int32} {a2 : Int32} {a3 : Int32} {a4 : Int32} {a5 : Int32} (hX : OkX g X (m9_copy)) (hN : 95 ≤ g.N) {res : Int32 × St} (hQ : X.Q = QI g X res.1 res.2 ∧ X.cells = 0 ∧ X.slots = 0) {σ : St} (h : S9_copy a1 a2 a3 a4 a5 σ = some res) : V g X (m9_copy) 0 [(0, .ref (g.ad (75))), (1, .int (a1)), (2, .int (a2)), (3, .int (a3)), (4, .int (a4)), (5, .int (a5))] [] σ := by
  unfold S9_copy at h
  refine V_iload_n (q := 1) hX dX9_copy_0 1 rfl rfl ?_
  refine V_iconst (v := 0) (q := 2) hX dX9_copy_1 (by decide) rfl ?_
  refine V_iconst (v := 3) (q := 3) hX dX9_copy_2 (by decide) rfl ?_
  obtain ⟨r96, σ95, e97, h⟩ := bnd_some h
  refine V_csI (As := [.int (a1), .int ((0 : Int32)), .int ((3 : Int32))]) (q := 6) hX (c9_in hX.2.2.2.2.1 hN e97) (goodS_of k4_143 k4_144 k1_16 (cons_g k4_145)) (nA := 3) (by decide) rfl rfl rfl rfl rfl dX9_copy_3 rfl ?_
  refine V_if_eq (q := 9) (t := 18) hX dX9_copy_6 (by decide) rfl (fun z98 => ?_) (fun z98 => ?_)
  · have h := ite_t z98 h
    refine V_bipush (v := -2) (q := 20) hX dX9_copy_18 (by decide) rfl ?_
    obtain ⟨f1, f2⟩ := some2 h
    rw [f1, f2] at hQ
    exact V_iret hX hQ rfl dX9_copy_20
  have h := ite_f z98 h
  refine V_iload_n (q := 10) hX dX9_copy_9 3 rfl rfl ?_
  refine V_iconst (v := 0) (q := 11) hX dX9_copy_10 (by decide) rfl ?_
  refine V_iconst (v := 3) (q := 12) hX dX9_copy_11 (by decide) rfl ?_
  obtain ⟨r100, σ99, e101, h⟩ := bnd_some h
  refine V_csI (As := [.int (a3), .int ((0 : Int32)), .int ((3 : Int32))]) (q := 15) hX (c9_in hX.2.2.2.2.1 hN e101) (goodS_of k4_143 k4_144 k1_16 (cons_g k4_145)) (nA := 3) (by decide) rfl rfl rfl rfl rfl dX9_copy_12 rfl ?_
  refine V_if_ne (q := 18) (t := 21) hX dX9_copy_15 (by decide) rfl (fun z102 => ?_) (fun z102 => ?_)
  · have h := ite_f z102 h
    refine V_aload_n (q := 22) hX dX9_copy_21 0 rfl rfl ?_
    refine V_getF (r := 84) (n := 95) (c := 9) (k := 14) (nf := 39) (C := RX9) (T := TX9) (q := 25) hX rfl rfl iG9 k4_196 rfl rfl ⟨rfl, by decide⟩ hN rfl rfl rfl rfl dX9_copy_22 rfl ?_
    refine V_iload_n (q := 26) hX dX9_copy_25 1 rfl rfl ?_
    obtain ⟨z103, h⟩ := chk_t h
    refine V_iald (n := 95) (len := 4) (q := 27) hX ⟨rfl, rfl, by decide⟩ hN z103 dX9_copy_26 rfl ?_
    refine V_iconst (v := -1) (q := 28) hX dX9_copy_27 (by decide) rfl ?_
    refine V_icmp_eq (q := 31) (t := 41) hX dX9_copy_28 (by decide) rfl (fun z104 => ?_) (fun z104 => ?_)
    · have h := ite_t z104 h
      refine V_bipush (v := -11) (q := 43) hX dX9_copy_41 (by decide) rfl ?_
      obtain ⟨f1, f2⟩ := some2 h
      rw [f1, f2] at hQ
      exact V_iret hX hQ rfl dX9_copy_43
    have h := ite_f z104 h
    refine V_aload_n (q := 32) hX dX9_copy_31 0 rfl rfl ?_
    refine V_getF (r := 84) (n := 95) (c := 9) (k := 14) (nf := 39) (C := RX9) (T := TX9) (q := 35) hX rfl rfl iG9 k4_196 rfl rfl ⟨rfl, by decide⟩ hN rfl rfl rfl rfl dX9_copy_32 rfl ?_
    refine V_iload_n (q := 36) hX dX9_copy_35 3 rfl rfl ?_
    obtain ⟨z105, h⟩ := chk_t h
    refine V_iald (n := 95) (len := 4) (q := 37) hX ⟨rfl, rfl, by decide⟩ hN z105 dX9_copy_36 rfl ?_
    refine V_iconst (v := -1) (q := 38) hX dX9_copy_37 (by decide) rfl ?_
    refine V_icmp_ne (q := 41) (t := 44) hX dX9_copy_38 (by decide) rfl (fun z106 => ?_) (fun z106 => ?_)
    · have h := ite_f z106 h
      refine V_aload_n (q := 45) hX dX9_copy_44 0 rfl rfl ?_
      refine V_getF (r := 84) (n := 95) (c := 9) (k := 14) (nf := 39) (C := RX9) (T := TX9) (q := 48) hX rfl rfl iG9 k4_196 rfl rfl ⟨rfl, by decide⟩ hN rfl rfl rfl rfl dX9_copy_45 rfl ?_
      refine V_iload_n (q := 49) hX dX9_copy_48 1 rfl rfl ?_
      obtain ⟨z107, h⟩ := chk_t h
      refine V_iald (n := 95) (len := 4) (q := 50) hX ⟨rfl, rfl, by decide⟩ hN z107 dX9_copy_49 rfl ?_
      refine V_aload_n (q := 51) hX dX9_copy_50 0 rfl rfl ?_
      refine V_getF (r := 84) (n := 95) (c := 9) (k := 14) (nf := 39) (C := RX9) (T := TX9) (q := 54) hX rfl rfl iG9 k4_196 rfl rfl ⟨rfl, by decide⟩ hN rfl rfl rfl rfl dX9_copy_51 rfl ?_
      refine V_iload_n (q := 55) hX dX9_copy_54 3 rfl rfl ?_
      obtain ⟨z108, h⟩ := chk_t h
      refine V_iald (n := 95) (len := 4) (q := 56) hX ⟨rfl, rfl, by decide⟩ hN z108 dX9_copy_55 rfl ?_
      refine V_icmp_eq (q := 59) (t := 62) hX dX9_copy_56 (by decide) rfl (fun z109 => ?_) (fun z109 => ?_)
      · have h := ite_t z109 h
        refine V_iload (q := 64) hX dX9_copy_62 5 rfl rfl ?_
        refine V_if_lt (q := 67) (t := 124) hX dX9_copy_64 (by decide) rfl (fun z110 => ?_) (fun z110 => ?_)
        · have h := ite_t z110 h
          refine V_bipush (v := -12) (q := 126) hX dX9_copy_124 (by decide) rfl ?_
          obtain ⟨f1, f2⟩ := some2 h
          rw [f1, f2] at hQ
          exact V_iret hX hQ rfl dX9_copy_126
        have h := ite_f z110 h
        refine V_iload_n (q := 68) hX dX9_copy_67 2 rfl rfl ?_
        refine V_if_lt (q := 71) (t := 124) hX dX9_copy_68 (by decide) rfl (fun z111 => ?_) (fun z111 => ?_)
        · have h := ite_t z111 h
          refine V_bipush (v := -12) (q := 126) hX dX9_copy_124 (by decide) rfl ?_
          obtain ⟨f1, f2⟩ := some2 h
          rw [f1, f2] at hQ
          exact V_iret hX hQ rfl dX9_copy_126
        have h := ite_f z111 h
        refine V_iload (q := 73) hX dX9_copy_71 4 rfl rfl ?_
        refine V_if_lt (q := 76) (t := 124) hX dX9_copy_73 (by decide) rfl (fun z112 => ?_) (fun z112 => ?_)
        · have h := ite_t z112 h
          refine V_bipush (v := -12) (q := 126) hX dX9_copy_124 (by decide) rfl ?_
          obtain ⟨f1, f2⟩ := some2 h
          rw [f1, f2] at hQ
          exact V_iret hX hQ rfl dX9_copy_126
        have h := ite_f z112 h
        refine V_iload_n (q := 77) hX dX9_copy_76 2 rfl rfl ?_
        refine V_aload_n (q := 78) hX dX9_copy_77 0 rfl rfl ?_
        refine V_getF (r := 85) (n := 95) (c := 9) (k := 15) (nf := 39) (C := RX9) (T := TX9) (q := 81) hX rfl rfl iG9 k4_197 rfl rfl ⟨rfl, by decide⟩ hN rfl rfl rfl rfl dX9_copy_78 rfl ?_
        refine V_iload_n (q := 82) hX dX9_copy_81 1 rfl rfl ?_
        obtain ⟨z113, h⟩ := chk_t h
        refine V_iald (n := 95) (len := 4) (q := 83) hX ⟨rfl, rfl, by decide⟩ hN z113 dX9_copy_82 rfl ?_
        refine V_icmp_gt (q := 86) (t := 124) hX dX9_copy_83 (by decide) rfl (fun z114 => ?_) (fun z114 => ?_)
        · have h := ite_t z114 h
          refine V_bipush (v := -12) (q := 126) hX dX9_copy_124 (by decide) rfl ?_
          obtain ⟨f1, f2⟩ := some2 h
          rw [f1, f2] at hQ
          exact V_iret hX hQ rfl dX9_copy_126
        have h := ite_f z114 h
        refine V_iload (q := 88) hX dX9_copy_86 4 rfl rfl ?_
        refine V_aload_n (q := 89) hX dX9_copy_88 0 rfl rfl ?_
        refine V_getF (r := 85) (n := 95) (c := 9) (k := 15) (nf := 39) (C := RX9) (T := TX9) (q := 92) hX rfl rfl iG9 k4_197 rfl rfl ⟨rfl, by decide⟩ hN rfl rfl rfl rfl dX9_copy_89 rfl ?_
        refine V_iload_n (q := 93) hX dX9_copy_92 3 rfl rfl ?_
        obtain ⟨z115, h⟩ := chk_t h
        refine V_iald (n := 95) (len := 4) (q := 94) hX ⟨rfl, rfl, by decide⟩ hN z115 dX9_copy_93 rfl ?_
        refine V_icmp_gt (q := 97) (t := 124) hX dX9_copy_94 (by decide) rfl (fun z116 => ?_) (fun z116 => ?_)
        · have h := ite_t z116 h
          refine V_bipush (v := -12) (q := 126) hX dX9_copy_124 (by decide) rfl ?_
          obtain ⟨f1, f2⟩ := some2 h
          rw [f1, f2] at hQ
          exact V_iret hX hQ rfl dX9_copy_126
        have h := ite_f z116 h
        refine V_iload (q := 99) hX dX9_copy_97 5 rfl rfl ?_
        refine V_aload_n (q := 100) hX dX9_copy_99 0 rfl rfl ?_
        refine V_getF (r := 85) (n := 95) (c := 9) (k := 15) (nf := 39) (C := RX9) (T := TX9) (q := 103) hX rfl rfl iG9 k4_197 rfl rfl ⟨rfl, by decide⟩ hN rfl rfl rfl rfl dX9_copy_100 rfl ?_
        refine V_iload_n (q := 104) hX dX9_copy_103 1 rfl rfl ?_
        obtain ⟨z117, h⟩ := chk_t h
        refine V_iald (n := 95) (len := 4) (q := 105) hX ⟨rfl, rfl, by decide⟩ hN z117 dX9_copy_104 rfl ?_
        refine V_iload_n (q := 106) hX dX9_copy_105 2 rfl rfl ?_
        refine V_isub (q := 107) hX dX9_copy_106 rfl ?_
        refine V_icmp_gt (q := 110) (t := 124) hX dX9_copy_107 (by decide) rfl (fun z118 => ?_) (fun z118 => ?_)
        · have h := ite_t z118 h
          refine V_bipush (v := -12) (q := 126) hX dX9_copy_124 (by decide) rfl ?_
          obtain ⟨f1, f2⟩ := some2 h
          rw [f1, f2] at hQ
          exact V_iret hX hQ rfl dX9_copy_126
        have h := ite_f z118 h
        refine V_iload (q := 112) hX dX9_copy_110 5 rfl rfl ?_
        refine V_aload_n (q := 113) hX dX9_copy_112 0 rfl rfl ?_
        refine V_getF (r := 85) (n := 95) (c := 9) (k := 15) (nf := 39) (C := RX9) (T := TX9) (q := 116) hX rfl rfl iG9 k4_197 rfl rfl ⟨rfl, by decide⟩ hN rfl rfl rfl rfl dX9_copy_113 rfl ?_
        refine V_iload_n (q := 117) hX dX9_copy_116 3 rfl rfl ?_
        obtain ⟨z119, h⟩ := chk_t h
        refine V_iald (n := 95) (len := 4) (q := 118) hX ⟨rfl, rfl, by decide⟩ hN z119 dX9_copy_117 rfl ?_
        refine V_iload (q := 120) hX dX9_copy_118 4 rfl rfl ?_
        refine V_isub (q := 121) hX dX9_copy_120 rfl ?_
        refine V_icmp_le (q := 124) (t := 127) hX dX9_copy_121 (by decide) rfl (fun z120 => ?_) (fun z120 => ?_)
        · have h := ite_t z120 h
          refine V_bipush (v := 40) (q := 129) hX dX9_copy_127 (by decide) rfl ?_
          refine V_iload_n (q := 130) hX dX9_copy_129 1 rfl rfl ?_
          refine V_imul (q := 131) hX dX9_copy_130 rfl ?_
          refine V_iload_n (q := 132) hX dX9_copy_131 2 rfl rfl ?_
          refine V_iadd (q := 133) hX dX9_copy_132 rfl ?_
          refine V_istore (lv' := [(6, .int ((((40 : Int32) * a1) + a2))), (0, .ref (g.ad (75))), (1, .int (a1)), (2, .int (a2)), (3, .int (a3)), (4, .int (a4)), (5, .int (a5))]) (q := 135) hX dX9_copy_133 rfl rfl rfl ?_
          refine V_bipush (v := 40) (q := 137) hX dX9_copy_135 (by decide) rfl ?_
          refine V_iload_n (q := 138) hX dX9_copy_137 4 rfl rfl ?_
          refine V_imul (q := 139) hX dX9_copy_138 rfl ?_
          refine V_iload (q := 141) hX dX9_copy_139 5 rfl rfl ?_
          refine V_iadd (q := 142) hX dX9_copy_141 rfl ?_
          refine V_istore (lv' := [(7, .int ((((40 : Int32) * a3) + a4))), (6, .int ((((40 : Int32) * a1) + a2))), (0, .ref (g.ad (75))), (1, .int (a1)), (2, .int (a2)), (3, .int (a3)), (4, .int (a4)), (5, .int (a5))]) (q := 144) hX dX9_copy_142 rfl rfl rfl ?_
          refine V_iconst (v := 0) (q := 145) hX dX9_copy_144 (by decide) rfl ?_
          refine V_istore (lv' := [(8, .int ((0 : Int32))), (7, .int ((((40 : Int32) * a3) + a4))), (6, .int ((((40 : Int32) * a1) + a2))), (0, .ref (g.ad (75))), (1, .int (a1)), (2, .int (a2)), (3, .int (a3)), (4, .int (a4)), (5, .int (a5))]) (q := 147) hX dX9_copy_145 rfl rfl rfl ?_
          refine V.pick [3, 8, 2, 1, 0] rfl ?_
          exact v9_copy_147 hX hN hQ (0 : Int32) σ99 h
        have h := ite_f z120 h
        refine V_bipush (v := -12) (q := 126) hX dX9_copy_124 (by decide) rfl ?_
        obtain ⟨f1, f2⟩ := some2 h
        rw [f1, f2] at hQ
        exact V_iret hX hQ rfl dX9_copy_126
      have h := ite_f z109 h
      refine V_bipush (v := -13) (q := 61) hX dX9_copy_59 (by decide) rfl ?_
      obtain ⟨f1, f2⟩ := some2 h
      rw [f1, f2] at hQ
      exact V_iret hX hQ rfl dX9_copy_61
    have h := ite_t z106 h
    refine V_bipush (v := -11) (q := 43) hX dX9_copy_41 (by decide) rfl ?_
    obtain ⟨f1, f2⟩ := some2 h
    rw [f1, f2] at hQ
    exact V_iret hX hQ rfl dX9_copy_43
  have h := ite_t z102 h
  refine V_bipush (v := -2) (q := 20) hX dX9_copy_18 (by decide) rfl ?_
  obtain ⟨f1, f2⟩ := some2 h
  rw [f1, f2] at hQ
  exact V_iret hX hQ rfl dX9_copy_20
set_option maxRecDepth 100000 in
set_option maxHeartbeats 4000000 in
theorem c9_copy {g : GT} {l : Launch} (hg : OkG g) (hN : 95 ≤ g.N) {a1 : Int32} {a2 : Int32} {a3 : Int32} {a4 : Int32} {a5 : Int32} {σ : St} {r : Int32} {σ' : St} (h : S9_copy a1 a2 a3 a4 a5 σ = some (r, σ')) : CtI g l m9_copy yX9_copy [.ref (g.ad (75)), .int (a1), .int (a2), .int (a3), .int (a4), .int (a5)] σ r σ' := CtI.of hg (by decide) rfl rfl (fun X h1 h2 h3 => v9_copy h1 hN (res := (r, σ')) h3 h)

abbrev m9_menBy : MI := (cX9_menBy, RX9, 9, some .int, 3)
def S9_menBy_144 (a1 : Int32) (a2 : Int32) (a3 : Int32) (a4 : Int32) (k64 : Int32 → Int32 → St → Option (Int32 × St)) (x6 : Int32) (s0 : Int32) (s1 : Int32) (σ : St) : Option (Int32 × St) := k64 (s0 + s1) (x6 + 1) σ
def B9_menBy_64 (a1 : Int32) (a2 : Int32) (a3 : Int32) (a4 : Int32) (rec : Int32 → Int32 → St → Option (Int32 × St)) (x5 : Int32) (x6 : Int32) (σ : St) : Option (Int32 × St) := if a4 ≤ x6 then (some (x5, σ)) else (if a3 < 0 then (some ((-12 : Int32), σ)) else (if (a3 + ((2 : Int32) * x6)) < a3 then (some ((-12 : Int32), σ)) else (if inb a1 4 then (if (a3 + ((2 : Int32) * x6)) ≤ ((gI σ 85 (a1).toNatClampNeg) - (2 : Int32)) then (if inb (((40 : Int32) * a1) + (a3 + ((2 : Int32) * x6))) 160 then (if inb ((((40 : Int32) * a1) + (a3 + ((2 : Int32) * x6))) + (1 : Int32)) 160 then (bnd (S9_man (gI σ 86 ((((40 : Int32) * a1) + (a3 + ((2 : Int32) * x6)))).toNatClampNeg) (gI σ 86 (((((40 : Int32) * a1) + (a3 + ((2 : Int32) * x6))) + (1 : Int32))).toNatClampNeg) σ) fun r90 σ89 => if r90 < 0 then (S9_menBy_144 a1 a2 a3 a4 rec x6 x5 (0 : Int32) σ89) else (S9_menBy_144 a1 a2 a3 a4 rec x6 x5 (1 : Int32) σ89)) else none) else none) else (some ((-12 : Int32), σ))) else none)))
def S9_menBy_64 (a1 : Int32) (a2 : Int32) (a3 : Int32) (a4 : Int32) : Nat → Int32 → Int32 → St → Option (Int32 × St)
  | 0, _, _, _ => none
  | n + 1, x5, x6, σ => B9_menBy_64 a1 a2 a3 a4 (S9_menBy_64 a1 a2 a3 a4 n) x5 x6 σ
def S9_menBy (a1 : Int32) (a2 : Int32) (a3 : Int32) (a4 : Int32) (σ : St) : Option (Int32 × St) := bnd (S9_in a1 (0 : Int32) (3 : Int32) σ) fun r94 σ93 => if r94 = 0 then (some ((-2 : Int32), σ93)) else (bnd (S9_in a2 (0 : Int32) (2 : Int32) σ93) fun r98 σ97 => if r98 = 0 then (some ((-2 : Int32), σ97)) else (bnd (S9_in a4 (0 : Int32) (6 : Int32) σ97) fun r102 σ101 => if r102 = 0 then (some ((-2 : Int32), σ101)) else (if inb a1 4 then (if (gI σ101 84 (a1).toNatClampNeg) = (-1 : Int32) then (some ((-11 : Int32), σ101)) else (if inb a1 4 then (if (gI σ101 84 (a1).toNatClampNeg) = a2 then (S9_menBy_64 a1 a2 a3 a4 4096 (0 : Int32) (0 : Int32) σ101) else (some ((-13 : Int32), σ101))) else none)) else none)))
set_option maxRecDepth 100000 in
set_option maxHeartbeats 4000000 in
theorem v9_menBy_144 {g : GT} {X : XT} {a1 : Int32} {a2 : Int32} {a3 : Int32} {a4 : Int32} (hX : OkX g X (m9_menBy)) (hN : 95 ≤ g.N) {res : Int32 × St} (hQ : X.Q = QI g X res.1 res.2 ∧ X.cells = 0 ∧ X.slots = 0)  {k64 : Int32 → Int32 → St → Option (Int32 × St)} (hk64 : ∀ (x5 : Int32) (x6 : Int32) (σ : St), k64 x5 x6 σ = some res → V g X (m9_menBy) 64 [(0, .ref (g.ad (75))), (1, .int (a1)), (3, .int (a3)), (4, .int (a4)), (5, .int (x5)), (6, .int (x6))] [] σ) (x6 : Int32) (s0 : Int32) (s1 : Int32) (σ : St)  (h : S9_menBy_144 a1 a2 a3 a4 k64 x6 s0 s1 σ = some res) : V g X (m9_menBy) 144 [(0, .ref (g.ad (75))), (1, .int (a1)), (3, .int (a3)), (4, .int (a4)), (6, .int (x6))] [.int (s1), .int (s0)] σ := by
  unfold S9_menBy_144 at h
  refine V_iadd (q := 145) hX dX9_menBy_144 rfl ?_
  refine V_istore (lv' := [(5, .int ((s0 + s1))), (0, .ref (g.ad (75))), (1, .int (a1)), (3, .int (a3)), (4, .int (a4)), (6, .int (x6))]) (q := 147) hX dX9_menBy_145 rfl rfl rfl ?_
  refine V_iinc (v := (x6 + 1)) (lv' := [(6, .int ((x6 + 1))), (5, .int ((s0 + s1))), (0, .ref (g.ad (75))), (1, .int (a1)), (3, .int (a3)), (4, .int (a4))]) (q := 150) hX dX9_menBy_147 5 rfl (by rfl) rfl rfl rfl ?_
  refine V_goto hX dX9_menBy_150 (q := 64) (by decide) ?_
  refine V.pick [2, 3, 4, 5, 1, 0] rfl ?_
  exact hk64 (s0 + s1) (x6 + 1) σ  h
set_option maxRecDepth 100000 in
set_option maxHeartbeats 4000000 in
theorem v9_menBy_64n {g : GT} {X : XT} {a1 : Int32} {a2 : Int32} {a3 : Int32} {a4 : Int32} (hX : OkX g X (m9_menBy)) (hN : 95 ≤ g.N) {res : Int32 × St} (hQ : X.Q = QI g X res.1 res.2 ∧ X.cells = 0 ∧ X.slots = 0)   (n : Nat) : ∀ (x5 : Int32) (x6 : Int32) (σ : St) , S9_menBy_64 a1 a2 a3 a4 n x5 x6 σ = some res → V g X (m9_menBy) 64 [(0, .ref (g.ad (75))), (1, .int (a1)), (3, .int (a3)), (4, .int (a4)), (5, .int (x5)), (6, .int (x6))] [] σ := by
  induction n with
  | zero => intro x5 x6 σ; intro h; cases h
  | succ n ih =>
    intro x5 x6 σ h
    have h : B9_menBy_64 a1 a2 a3 a4 (S9_menBy_64 a1 a2 a3 a4 n) x5 x6 σ = some res := h
    unfold B9_menBy_64 at h
    refine V_iload (q := 66) hX dX9_menBy_64 5 rfl rfl ?_
    refine V_iload (q := 68) hX dX9_menBy_66 3 rfl rfl ?_
    refine V_icmp_ge (q := 71) (t := 153) hX dX9_menBy_68 (by decide) rfl (fun z82 => ?_) (fun z82 => ?_)
    · have h := ite_t z82 h
      refine V_iload (q := 155) hX dX9_menBy_153 4 rfl rfl ?_
      obtain ⟨f1, f2⟩ := some2 h
      rw [f1, f2] at hQ
      exact V_iret hX hQ rfl dX9_menBy_155
    have h := ite_f z82 h
    refine V_iload_n (q := 72) hX dX9_menBy_71 2 rfl rfl ?_
    refine V_iconst (v := 2) (q := 73) hX dX9_menBy_72 (by decide) rfl ?_
    refine V_iload (q := 75) hX dX9_menBy_73 5 rfl rfl ?_
    refine V_imul (q := 76) hX dX9_menBy_75 rfl ?_
    refine V_iadd (q := 77) hX dX9_menBy_76 rfl ?_
    refine V_istore (lv' := [(7, .int ((a3 + ((2 : Int32) * x6)))), (0, .ref (g.ad (75))), (1, .int (a1)), (3, .int (a3)), (4, .int (a4)), (5, .int (x5)), (6, .int (x6))]) (q := 79) hX dX9_menBy_77 rfl rfl rfl ?_
    refine V_iload_n (q := 80) hX dX9_menBy_79 3 rfl rfl ?_
    refine V_if_lt (q := 83) (t := 102) hX dX9_menBy_80 (by decide) rfl (fun z83 => ?_) (fun z83 => ?_)
    · have h := ite_t z83 h
      refine V_bipush (v := -12) (q := 104) hX dX9_menBy_102 (by decide) rfl ?_
      obtain ⟨f1, f2⟩ := some2 h
      rw [f1, f2] at hQ
      exact V_iret hX hQ rfl dX9_menBy_104
    have h := ite_f z83 h
    refine V_iload (q := 85) hX dX9_menBy_83 0 rfl rfl ?_
    refine V_iload_n (q := 86) hX dX9_menBy_85 3 rfl rfl ?_
    refine V_icmp_lt (q := 89) (t := 102) hX dX9_menBy_86 (by decide) rfl (fun z84 => ?_) (fun z84 => ?_)
    · have h := ite_t z84 h
      refine V_bipush (v := -12) (q := 104) hX dX9_menBy_102 (by decide) rfl ?_
      obtain ⟨f1, f2⟩ := some2 h
      rw [f1, f2] at hQ
      exact V_iret hX hQ rfl dX9_menBy_104
    have h := ite_f z84 h
    refine V_iload (q := 91) hX dX9_menBy_89 0 rfl rfl ?_
    refine V_aload_n (q := 92) hX dX9_menBy_91 1 rfl rfl ?_
    refine V_getF (r := 85) (n := 95) (c := 9) (k := 15) (nf := 39) (C := RX9) (T := TX9) (q := 95) hX rfl rfl iG9 k4_197 rfl rfl ⟨rfl, by decide⟩ hN rfl rfl rfl rfl dX9_menBy_92 rfl ?_
    refine V_iload_n (q := 96) hX dX9_menBy_95 2 rfl rfl ?_
    obtain ⟨z85, h⟩ := chk_t h
    refine V_iald (n := 95) (len := 4) (q := 97) hX ⟨rfl, rfl, by decide⟩ hN z85 dX9_menBy_96 rfl ?_
    refine V_iconst (v := 2) (q := 98) hX dX9_menBy_97 (by decide) rfl ?_
    refine V_isub (q := 99) hX dX9_menBy_98 rfl ?_
    refine V_icmp_le (q := 102) (t := 105) hX dX9_menBy_99 (by decide) rfl (fun z86 => ?_) (fun z86 => ?_)
    · have h := ite_t z86 h
      refine V_bipush (v := 40) (q := 107) hX dX9_menBy_105 (by decide) rfl ?_
      refine V_iload_n (q := 108) hX dX9_menBy_107 2 rfl rfl ?_
      refine V_imul (q := 109) hX dX9_menBy_108 rfl ?_
      refine V_iload (q := 111) hX dX9_menBy_109 0 rfl rfl ?_
      refine V_iadd (q := 112) hX dX9_menBy_111 rfl ?_
      refine V_istore (lv' := [(8, .int ((((40 : Int32) * a1) + (a3 + ((2 : Int32) * x6))))), (7, .int ((a3 + ((2 : Int32) * x6)))), (0, .ref (g.ad (75))), (1, .int (a1)), (3, .int (a3)), (4, .int (a4)), (5, .int (x5)), (6, .int (x6))]) (q := 114) hX dX9_menBy_112 rfl rfl rfl ?_
      refine V_iload (q := 116) hX dX9_menBy_114 6 rfl rfl ?_
      refine V_aload_n (q := 117) hX dX9_menBy_116 2 rfl rfl ?_
      refine V_aload_n (q := 118) hX dX9_menBy_117 2 rfl rfl ?_
      refine V_getF (r := 86) (n := 95) (c := 9) (k := 16) (nf := 39) (C := RX9) (T := TX9) (q := 121) hX rfl rfl iG9 k4_198 rfl rfl ⟨rfl, by decide⟩ hN rfl rfl rfl rfl dX9_menBy_118 rfl ?_
      refine V_iload (q := 123) hX dX9_menBy_121 0 rfl rfl ?_
      obtain ⟨z87, h⟩ := chk_t h
      refine V_iald (n := 95) (len := 160) (q := 124) hX ⟨rfl, rfl, by decide⟩ hN z87 dX9_menBy_123 rfl ?_
      refine V_aload_n (q := 125) hX dX9_menBy_124 2 rfl rfl ?_
      refine V_getF (r := 86) (n := 95) (c := 9) (k := 16) (nf := 39) (C := RX9) (T := TX9) (q := 128) hX rfl rfl iG9 k4_198 rfl rfl ⟨rfl, by decide⟩ hN rfl rfl rfl rfl dX9_menBy_125 rfl ?_
      refine V_iload (q := 130) hX dX9_menBy_128 0 rfl rfl ?_
      refine V_iconst (v := 1) (q := 131) hX dX9_menBy_130 (by decide) rfl ?_
      refine V_iadd (q := 132) hX dX9_menBy_131 rfl ?_
      obtain ⟨z88, h⟩ := chk_t h
      refine V_iald (n := 95) (len := 160) (q := 133) hX ⟨rfl, rfl, by decide⟩ hN z88 dX9_menBy_132 rfl ?_
      obtain ⟨r90, σ89, e91, h⟩ := bnd_some h
      refine V_cvI (n := 95) (c := 9) (nf := 39) (C := RX9) (T := TX9) (As := [.int ((gI σ 86 ((((40 : Int32) * a1) + (a3 + ((2 : Int32) * x6)))).toNatClampNeg)), .int ((gI σ 86 (((((40 : Int32) * a1) + (a3 + ((2 : Int32) * x6))) + (1 : Int32))).toNatClampNeg))]) (q := 136) hX (c9_man hX.2.2.2.2.1 hN e91) (goodV_of k6_57 k5_99 k5_100 k1_16 (cons_g k5_101)) (nA := 2) (by decide) rfl rfl rfl rfl rfl ⟨rfl, by decide⟩ hN rfl rfl rfl dX9_menBy_133 rfl ?_
      refine V_if_lt (q := 139) (t := 143) hX dX9_menBy_136 (by decide) rfl (fun z92 => ?_) (fun z92 => ?_)
      · have h := ite_t z92 h
        refine V_iconst (v := 0) (q := 144) hX dX9_menBy_143 (by decide) rfl ?_
        refine V.pick [2, 3, 4, 5, 7] rfl ?_
        exact v9_menBy_144 hX hN hQ ih x6 x5 (0 : Int32) σ89 h
      have h := ite_f z92 h
      refine V_iconst (v := 1) (q := 140) hX dX9_menBy_139 (by decide) rfl ?_
      refine V_goto hX dX9_menBy_140 (q := 144) (by decide) ?_
      refine V.pick [2, 3, 4, 5, 7] rfl ?_
      exact v9_menBy_144 hX hN hQ ih x6 x5 (1 : Int32) σ89 h
    have h := ite_f z86 h
    refine V_bipush (v := -12) (q := 104) hX dX9_menBy_102 (by decide) rfl ?_
    obtain ⟨f1, f2⟩ := some2 h
    rw [f1, f2] at hQ
    exact V_iret hX hQ rfl dX9_menBy_104
theorem v9_menBy_64 {g : GT} {X : XT} {a1 : Int32} {a2 : Int32} {a3 : Int32} {a4 : Int32} (hX : OkX g X (m9_menBy)) (hN : 95 ≤ g.N) {res : Int32 × St} (hQ : X.Q = QI g X res.1 res.2 ∧ X.cells = 0 ∧ X.slots = 0) (x5 : Int32) (x6 : Int32) (σ : St) (h : S9_menBy_64 a1 a2 a3 a4 4096 x5 x6 σ = some res) : V g X (m9_menBy) 64 [(0, .ref (g.ad (75))), (1, .int (a1)), (3, .int (a3)), (4, .int (a4)), (5, .int (x5)), (6, .int (x6))] [] σ := v9_menBy_64n hX hN hQ 4096 x5 x6 σ h
set_option maxRecDepth 100000 in
set_option maxHeartbeats 4000000 in
theorem v9_menBy {g : GT} {X : XT} {a1 : Int32} {a2 : Int32} {a3 : Int32} {a4 : Int32} (hX : OkX g X (m9_menBy)) (hN : 95 ≤ g.N) {res : Int32 × St} (hQ : X.Q = QI g X res.1 res.2 ∧ X.cells = 0 ∧ X.slots = 0) {σ : St} (h : S9_menBy a1 a2 a3 a4 σ = some res) : V g X (m9_menBy) 0 [(0, .ref (g.ad (75))), (1, .int (a1)), (2, .int (a2)), (3, .int (a3)), (4, .int (a4))] [] σ := by
  unfold S9_menBy at h
  refine V_iload_n (q := 1) hX dX9_menBy_0 1 rfl rfl ?_
  refine V_iconst (v := 0) (q := 2) hX dX9_menBy_1 (by decide) rfl ?_
  refine V_iconst (v := 3) (q := 3) hX dX9_menBy_2 (by decide) rfl ?_
  obtain ⟨r94, σ93, e95, h⟩ := bnd_some h
  refine V_csI (As := [.int (a1), .int ((0 : Int32)), .int ((3 : Int32))]) (q := 6) hX (c9_in hX.2.2.2.2.1 hN e95) (goodS_of k4_143 k4_144 k1_16 (cons_g k4_145)) (nA := 3) (by decide) rfl rfl rfl rfl rfl dX9_menBy_3 rfl ?_
  refine V_if_eq (q := 9) (t := 29) hX dX9_menBy_6 (by decide) rfl (fun z96 => ?_) (fun z96 => ?_)
  · have h := ite_t z96 h
    refine V_bipush (v := -2) (q := 31) hX dX9_menBy_29 (by decide) rfl ?_
    obtain ⟨f1, f2⟩ := some2 h
    rw [f1, f2] at hQ
    exact V_iret hX hQ rfl dX9_menBy_31
  have h := ite_f z96 h
  refine V_iload_n (q := 10) hX dX9_menBy_9 2 rfl rfl ?_
  refine V_iconst (v := 0) (q := 11) hX dX9_menBy_10 (by decide) rfl ?_
  refine V_iconst (v := 2) (q := 12) hX dX9_menBy_11 (by decide) rfl ?_
  obtain ⟨r98, σ97, e99, h⟩ := bnd_some h
  refine V_csI (As := [.int (a2), .int ((0 : Int32)), .int ((2 : Int32))]) (q := 15) hX (c9_in hX.2.2.2.2.1 hN e99) (goodS_of k4_143 k4_144 k1_16 (cons_g k4_145)) (nA := 3) (by decide) rfl rfl rfl rfl rfl dX9_menBy_12 rfl ?_
  refine V_if_eq (q := 18) (t := 29) hX dX9_menBy_15 (by decide) rfl (fun z100 => ?_) (fun z100 => ?_)
  · have h := ite_t z100 h
    refine V_bipush (v := -2) (q := 31) hX dX9_menBy_29 (by decide) rfl ?_
    obtain ⟨f1, f2⟩ := some2 h
    rw [f1, f2] at hQ
    exact V_iret hX hQ rfl dX9_menBy_31
  have h := ite_f z100 h
  refine V_iload (q := 20) hX dX9_menBy_18 4 rfl rfl ?_
  refine V_iconst (v := 0) (q := 21) hX dX9_menBy_20 (by decide) rfl ?_
  refine V_bipush (v := 6) (q := 23) hX dX9_menBy_21 (by decide) rfl ?_
  obtain ⟨r102, σ101, e103, h⟩ := bnd_some h
  refine V_csI (As := [.int (a4), .int ((0 : Int32)), .int ((6 : Int32))]) (q := 26) hX (c9_in hX.2.2.2.2.1 hN e103) (goodS_of k4_143 k4_144 k1_16 (cons_g k4_145)) (nA := 3) (by decide) rfl rfl rfl rfl rfl dX9_menBy_23 rfl ?_
  refine V_if_ne (q := 29) (t := 32) hX dX9_menBy_26 (by decide) rfl (fun z104 => ?_) (fun z104 => ?_)
  · have h := ite_f z104 h
    refine V_aload_n (q := 33) hX dX9_menBy_32 0 rfl rfl ?_
    refine V_getF (r := 84) (n := 95) (c := 9) (k := 14) (nf := 39) (C := RX9) (T := TX9) (q := 36) hX rfl rfl iG9 k4_196 rfl rfl ⟨rfl, by decide⟩ hN rfl rfl rfl rfl dX9_menBy_33 rfl ?_
    refine V_iload_n (q := 37) hX dX9_menBy_36 1 rfl rfl ?_
    obtain ⟨z105, h⟩ := chk_t h
    refine V_iald (n := 95) (len := 4) (q := 38) hX ⟨rfl, rfl, by decide⟩ hN z105 dX9_menBy_37 rfl ?_
    refine V_iconst (v := -1) (q := 39) hX dX9_menBy_38 (by decide) rfl ?_
    refine V_icmp_ne (q := 42) (t := 45) hX dX9_menBy_39 (by decide) rfl (fun z106 => ?_) (fun z106 => ?_)
    · have h := ite_f z106 h
      refine V_aload_n (q := 46) hX dX9_menBy_45 0 rfl rfl ?_
      refine V_getF (r := 84) (n := 95) (c := 9) (k := 14) (nf := 39) (C := RX9) (T := TX9) (q := 49) hX rfl rfl iG9 k4_196 rfl rfl ⟨rfl, by decide⟩ hN rfl rfl rfl rfl dX9_menBy_46 rfl ?_
      refine V_iload_n (q := 50) hX dX9_menBy_49 1 rfl rfl ?_
      obtain ⟨z107, h⟩ := chk_t h
      refine V_iald (n := 95) (len := 4) (q := 51) hX ⟨rfl, rfl, by decide⟩ hN z107 dX9_menBy_50 rfl ?_
      refine V_iload_n (q := 52) hX dX9_menBy_51 2 rfl rfl ?_
      refine V_icmp_eq (q := 55) (t := 58) hX dX9_menBy_52 (by decide) rfl (fun z108 => ?_) (fun z108 => ?_)
      · have h := ite_t z108 h
        refine V_iconst (v := 0) (q := 59) hX dX9_menBy_58 (by decide) rfl ?_
        refine V_istore (lv' := [(5, .int ((0 : Int32))), (0, .ref (g.ad (75))), (1, .int (a1)), (2, .int (a2)), (3, .int (a3)), (4, .int (a4))]) (q := 61) hX dX9_menBy_59 rfl rfl rfl ?_
        refine V_iconst (v := 0) (q := 62) hX dX9_menBy_61 (by decide) rfl ?_
        refine V_istore (lv' := [(6, .int ((0 : Int32))), (5, .int ((0 : Int32))), (0, .ref (g.ad (75))), (1, .int (a1)), (2, .int (a2)), (3, .int (a3)), (4, .int (a4))]) (q := 64) hX dX9_menBy_62 rfl rfl rfl ?_
        refine V.pick [2, 3, 5, 6, 1, 0] rfl ?_
        exact v9_menBy_64 hX hN hQ (0 : Int32) (0 : Int32) σ101 h
      have h := ite_f z108 h
      refine V_bipush (v := -13) (q := 57) hX dX9_menBy_55 (by decide) rfl ?_
      obtain ⟨f1, f2⟩ := some2 h
      rw [f1, f2] at hQ
      exact V_iret hX hQ rfl dX9_menBy_57
    have h := ite_t z106 h
    refine V_bipush (v := -11) (q := 44) hX dX9_menBy_42 (by decide) rfl ?_
    obtain ⟨f1, f2⟩ := some2 h
    rw [f1, f2] at hQ
    exact V_iret hX hQ rfl dX9_menBy_44
  have h := ite_t z104 h
  refine V_bipush (v := -2) (q := 31) hX dX9_menBy_29 (by decide) rfl ?_
  obtain ⟨f1, f2⟩ := some2 h
  rw [f1, f2] at hQ
  exact V_iret hX hQ rfl dX9_menBy_31
set_option maxRecDepth 100000 in
set_option maxHeartbeats 4000000 in
theorem c9_menBy {g : GT} {l : Launch} (hg : OkG g) (hN : 95 ≤ g.N) {a1 : Int32} {a2 : Int32} {a3 : Int32} {a4 : Int32} {σ : St} {r : Int32} {σ' : St} (h : S9_menBy a1 a2 a3 a4 σ = some (r, σ')) : CtI g l m9_menBy yX9_menBy [.ref (g.ad (75)), .int (a1), .int (a2), .int (a3), .int (a4)] σ r σ' := CtI.of hg (by decide) rfl rfl (fun X h1 h2 h3 => v9_menBy h1 hN (res := (r, σ')) h3 h)

abbrev m9_isUnder : MI := (cX9_isUnder, RX9, 2, some .boolean, 1)
def S9_isUnder_29 (a0 : Int32) (a1 : Int32) (σ : St) : Option (Int32 × St) := some ((1 : Int32), σ)
def S9_isUnder_19 (a0 : Int32) (a1 : Int32) (σ : St) : Option (Int32 × St) := if a1 = (2 : Int32) then (if a0 = (4 : Int32) then (S9_isUnder_29 a0 a1 σ) else (some ((0 : Int32), σ))) else (some ((0 : Int32), σ))
def S9_isUnder (a0 : Int32) (a1 : Int32) (σ : St) : Option (Int32 × St) := if a1 = 0 then (S9_isUnder_29 a0 a1 σ) else (if a0 = a1 then (S9_isUnder_29 a0 a1 σ) else (if a1 = (1 : Int32) then (if a0 = (3 : Int32) then (S9_isUnder_29 a0 a1 σ) else (S9_isUnder_19 a0 a1 σ)) else (S9_isUnder_19 a0 a1 σ)))
set_option maxRecDepth 100000 in
set_option maxHeartbeats 4000000 in
theorem v9_isUnder_29 {g : GT} {X : XT} {a0 : Int32} {a1 : Int32} (hX : OkX g X (m9_isUnder)) (hN : 95 ≤ g.N) {res : Int32 × St} (hQ : X.Q = QI g X res.1 res.2 ∧ X.cells = 0 ∧ X.slots = 0)    (σ : St)  (h : S9_isUnder_29 a0 a1 σ = some res) : V g X (m9_isUnder) 29 [] [] σ := by
  unfold S9_isUnder_29 at h
  refine V_iconst (v := 1) (q := 30) hX dX9_isUnder_29 (by decide) rfl ?_
  refine V_goto hX dX9_isUnder_30 (q := 34) (by decide) ?_
  obtain ⟨f1, f2⟩ := some2 h
  rw [f1, f2] at hQ
  exact V_zret (ty := .boolean) hX hQ rfl rfl dX9_isUnder_34
set_option maxRecDepth 100000 in
set_option maxHeartbeats 4000000 in
theorem v9_isUnder_19 {g : GT} {X : XT} {a0 : Int32} {a1 : Int32} (hX : OkX g X (m9_isUnder)) (hN : 95 ≤ g.N) {res : Int32 × St} (hQ : X.Q = QI g X res.1 res.2 ∧ X.cells = 0 ∧ X.slots = 0)    (σ : St)  (h : S9_isUnder_19 a0 a1 σ = some res) : V g X (m9_isUnder) 19 [(0, .int (a0)), (1, .int (a1))] [] σ := by
  unfold S9_isUnder_19 at h
  refine V_iload_n (q := 20) hX dX9_isUnder_19 1 rfl rfl ?_
  refine V_iconst (v := 2) (q := 21) hX dX9_isUnder_20 (by decide) rfl ?_
  refine V_icmp_ne (q := 24) (t := 33) hX dX9_isUnder_21 (by decide) rfl (fun z13 => ?_) (fun z13 => ?_)
  · have h := ite_f z13 h
    refine V_iconst (v := 0) (q := 34) hX dX9_isUnder_33 (by decide) rfl ?_
    obtain ⟨f1, f2⟩ := some2 h
    rw [f1, f2] at hQ
    exact V_zret (ty := .boolean) hX hQ rfl rfl dX9_isUnder_34
  have h := ite_t z13 h
  refine V_iload_n (q := 25) hX dX9_isUnder_24 0 rfl rfl ?_
  refine V_iconst (v := 4) (q := 26) hX dX9_isUnder_25 (by decide) rfl ?_
  refine V_icmp_ne (q := 29) (t := 33) hX dX9_isUnder_26 (by decide) rfl (fun z14 => ?_) (fun z14 => ?_)
  · have h := ite_f z14 h
    refine V_iconst (v := 0) (q := 34) hX dX9_isUnder_33 (by decide) rfl ?_
    obtain ⟨f1, f2⟩ := some2 h
    rw [f1, f2] at hQ
    exact V_zret (ty := .boolean) hX hQ rfl rfl dX9_isUnder_34
  have h := ite_t z14 h
  refine V.pick [] rfl ?_
  exact v9_isUnder_29 hX hN hQ σ h
set_option maxRecDepth 100000 in
set_option maxHeartbeats 4000000 in
theorem v9_isUnder {g : GT} {X : XT} {a0 : Int32} {a1 : Int32} (hX : OkX g X (m9_isUnder)) (hN : 95 ≤ g.N) {res : Int32 × St} (hQ : X.Q = QI g X res.1 res.2 ∧ X.cells = 0 ∧ X.slots = 0) {σ : St} (h : S9_isUnder a0 a1 σ = some res) : V g X (m9_isUnder) 0 [(0, .int (a0)), (1, .int (a1))] [] σ := by
  unfold S9_isUnder at h
  refine V_iload_n (q := 1) hX dX9_isUnder_0 1 rfl rfl ?_
  refine V_if_eq (q := 4) (t := 29) hX dX9_isUnder_1 (by decide) rfl (fun z15 => ?_) (fun z15 => ?_)
  · have h := ite_t z15 h
    refine V.pick [] rfl ?_
    exact v9_isUnder_29 hX hN hQ σ h
  have h := ite_f z15 h
  refine V_iload_n (q := 5) hX dX9_isUnder_4 0 rfl rfl ?_
  refine V_iload_n (q := 6) hX dX9_isUnder_5 1 rfl rfl ?_
  refine V_icmp_eq (q := 9) (t := 29) hX dX9_isUnder_6 (by decide) rfl (fun z16 => ?_) (fun z16 => ?_)
  · have h := ite_t z16 h
    refine V.pick [] rfl ?_
    exact v9_isUnder_29 hX hN hQ σ h
  have h := ite_f z16 h
  refine V_iload_n (q := 10) hX dX9_isUnder_9 1 rfl rfl ?_
  refine V_iconst (v := 1) (q := 11) hX dX9_isUnder_10 (by decide) rfl ?_
  refine V_icmp_ne (q := 14) (t := 19) hX dX9_isUnder_11 (by decide) rfl (fun z17 => ?_) (fun z17 => ?_)
  · have h := ite_f z17 h
    refine V.pick [0, 1] rfl ?_
    exact v9_isUnder_19 hX hN hQ σ h
  have h := ite_t z17 h
  refine V_iload_n (q := 15) hX dX9_isUnder_14 0 rfl rfl ?_
  refine V_iconst (v := 3) (q := 16) hX dX9_isUnder_15 (by decide) rfl ?_
  refine V_icmp_eq (q := 19) (t := 29) hX dX9_isUnder_16 (by decide) rfl (fun z18 => ?_) (fun z18 => ?_)
  · have h := ite_t z18 h
    refine V.pick [] rfl ?_
    exact v9_isUnder_29 hX hN hQ σ h
  have h := ite_f z18 h
  refine V.pick [0, 1] rfl ?_
  exact v9_isUnder_19 hX hN hQ σ h
set_option maxRecDepth 100000 in
set_option maxHeartbeats 4000000 in
theorem c9_isUnder {g : GT} {l : Launch} (hg : OkG g) (hN : 95 ≤ g.N) {a0 : Int32} {a1 : Int32} {σ : St} {r : Int32} {σ' : St} (h : S9_isUnder a0 a1 σ = some (r, σ')) : CtI g l m9_isUnder yX9_isUnder [.int (a0), .int (a1)] σ r σ' := CtI.of hg (by decide) rfl rfl (fun X h1 h2 h3 => v9_isUnder h1 hN (res := (r, σ')) h3 h)

abbrev m9_taken : MI := (cX9_taken, RX9, 3, some .int, 2)
def S9_taken (a1 : Int32) (a2 : Int32) (σ : St) : Option (Int32 × St) := bnd (S9_in a2 (0 : Int32) (6 : Int32) σ) fun r20 σ19 => if r20 = 0 then (some ((-2 : Int32), σ19)) else (bnd (S9_in a1 (0 : Int32) (11 : Int32) σ19) fun r24 σ23 => if r24 = 0 then (some ((-12 : Int32), σ23)) else (if (jrem a1 (6 : Int32)) < (gI σ23 75 0) then (if a1 < (6 : Int32) then (if (6 : Int32) ≤ a2 then (some ((-13 : Int32), σ23)) else (if inb a1 6 then (bnd (S9_isUnder (gI σ23 76 (a1).toNatClampNeg) a2 σ23) fun r32 σ31 => if r32 = 0 then (some ((-13 : Int32), σ31)) else (some (a1, σ31))) else none)) else (if a2 = (6 : Int32) then (if inb (((5 : Int32) * (a1 - (6 : Int32))) + (3 : Int32)) 30 then (some ((gI σ23 78 ((((5 : Int32) * (a1 - (6 : Int32))) + (3 : Int32))).toNatClampNeg), σ23)) else none) else (some ((-13 : Int32), σ23)))) else (some ((-11 : Int32), σ23))))
set_option maxRecDepth 100000 in
set_option maxHeartbeats 4000000 in
theorem v9_taken {g : GT} {X : XT} {a1 : Int32} {a2 : Int32} (hX : OkX g X (m9_taken)) (hN : 95 ≤ g.N) {res : Int32 × St} (hQ : X.Q = QI g X res.1 res.2 ∧ X.cells = 0 ∧ X.slots = 0) {σ : St} (h : S9_taken a1 a2 σ = some res) : V g X (m9_taken) 0 [(0, .ref (g.ad (75))), (1, .int (a1)), (2, .int (a2))] [] σ := by
  unfold S9_taken at h
  refine V_iload_n (q := 1) hX dX9_taken_0 2 rfl rfl ?_
  refine V_iconst (v := 0) (q := 2) hX dX9_taken_1 (by decide) rfl ?_
  refine V_bipush (v := 6) (q := 4) hX dX9_taken_2 (by decide) rfl ?_
  obtain ⟨r20, σ19, e21, h⟩ := bnd_some h
  refine V_csI (As := [.int (a2), .int ((0 : Int32)), .int ((6 : Int32))]) (q := 7) hX (c9_in hX.2.2.2.2.1 hN e21) (goodS_of k4_143 k4_144 k1_16 (cons_g k4_145)) (nA := 3) (by decide) rfl rfl rfl rfl rfl dX9_taken_4 rfl ?_
  refine V_if_ne (q := 10) (t := 13) hX dX9_taken_7 (by decide) rfl (fun z22 => ?_) (fun z22 => ?_)
  · have h := ite_f z22 h
    refine V_iload_n (q := 14) hX dX9_taken_13 1 rfl rfl ?_
    refine V_iconst (v := 0) (q := 15) hX dX9_taken_14 (by decide) rfl ?_
    refine V_bipush (v := 11) (q := 17) hX dX9_taken_15 (by decide) rfl ?_
    obtain ⟨r24, σ23, e25, h⟩ := bnd_some h
    refine V_csI (As := [.int (a1), .int ((0 : Int32)), .int ((11 : Int32))]) (q := 20) hX (c9_in hX.2.2.2.2.1 hN e25) (goodS_of k4_143 k4_144 k1_16 (cons_g k4_145)) (nA := 3) (by decide) rfl rfl rfl rfl rfl dX9_taken_17 rfl ?_
    refine V_if_ne (q := 23) (t := 26) hX dX9_taken_20 (by decide) rfl (fun z26 => ?_) (fun z26 => ?_)
    · have h := ite_f z26 h
      refine V_iload_n (q := 27) hX dX9_taken_26 1 rfl rfl ?_
      refine V_bipush (v := 6) (q := 29) hX dX9_taken_27 (by decide) rfl ?_
      refine V_irem (q := 30) hX (by decide) dX9_taken_29 rfl ?_
      refine V_aload_n (q := 31) hX dX9_taken_30 0 rfl rfl ?_
      refine V_getI (n := 95) (c := 9) (k := 0) (nf := 39) (C := RX9) (T := TX9) (q := 34) hX rfl rfl iG9 k4_182 rfl rfl ⟨rfl, by decide⟩ hN rfl rfl dX9_taken_31 rfl ?_
      refine V_icmp_lt (q := 37) (t := 40) hX dX9_taken_34 (by decide) rfl (fun z27 => ?_) (fun z27 => ?_)
      · have h := ite_t z27 h
        refine V_iload_n (q := 41) hX dX9_taken_40 1 rfl rfl ?_
        refine V_bipush (v := 6) (q := 43) hX dX9_taken_41 (by decide) rfl ?_
        refine V_icmp_lt (q := 46) (t := 71) hX dX9_taken_43 (by decide) rfl (fun z28 => ?_) (fun z28 => ?_)
        · have h := ite_t z28 h
          refine V_iload_n (q := 72) hX dX9_taken_71 2 rfl rfl ?_
          refine V_bipush (v := 6) (q := 74) hX dX9_taken_72 (by decide) rfl ?_
          refine V_icmp_ge (q := 77) (t := 94) hX dX9_taken_74 (by decide) rfl (fun z29 => ?_) (fun z29 => ?_)
          · have h := ite_t z29 h
            refine V_bipush (v := -13) (q := 96) hX dX9_taken_94 (by decide) rfl ?_
            obtain ⟨f1, f2⟩ := some2 h
            rw [f1, f2] at hQ
            exact V_iret hX hQ rfl dX9_taken_96
          have h := ite_f z29 h
          refine V_aload_n (q := 78) hX dX9_taken_77 0 rfl rfl ?_
          refine V_getF (r := 76) (n := 95) (c := 9) (k := 1) (nf := 39) (C := RX9) (T := TX9) (q := 81) hX rfl rfl iG9 k4_183 rfl rfl ⟨rfl, by decide⟩ hN rfl rfl rfl rfl dX9_taken_78 rfl ?_
          refine V_iload_n (q := 82) hX dX9_taken_81 1 rfl rfl ?_
          obtain ⟨z30, h⟩ := chk_t h
          refine V_iald (n := 95) (len := 6) (q := 83) hX ⟨rfl, rfl, by decide⟩ hN z30 dX9_taken_82 rfl ?_
          refine V_iload_n (q := 84) hX dX9_taken_83 2 rfl rfl ?_
          obtain ⟨r32, σ31, e33, h⟩ := bnd_some h
          refine V_csI (As := [.int ((gI σ23 76 (a1).toNatClampNeg)), .int (a2)]) (q := 87) hX (c9_isUnder hX.2.2.2.2.1 hN e33) (goodS_of k6_62 k6_63 k1_16 (cons_g k6_64)) (nA := 2) (by decide) rfl rfl rfl rfl rfl dX9_taken_84 rfl ?_
          refine V_if_eq (q := 90) (t := 94) hX dX9_taken_87 (by decide) rfl (fun z34 => ?_) (fun z34 => ?_)
          · have h := ite_t z34 h
            refine V_bipush (v := -13) (q := 96) hX dX9_taken_94 (by decide) rfl ?_
            obtain ⟨f1, f2⟩ := some2 h
            rw [f1, f2] at hQ
            exact V_iret hX hQ rfl dX9_taken_96
          have h := ite_f z34 h
          refine V_iload_n (q := 91) hX dX9_taken_90 1 rfl rfl ?_
          refine V_goto hX dX9_taken_91 (q := 96) (by decide) ?_
          obtain ⟨f1, f2⟩ := some2 h
          rw [f1, f2] at hQ
          exact V_iret hX hQ rfl dX9_taken_96
        have h := ite_f z28 h
        refine V_iload_n (q := 47) hX dX9_taken_46 2 rfl rfl ?_
        refine V_bipush (v := 6) (q := 49) hX dX9_taken_47 (by decide) rfl ?_
        refine V_icmp_ne (q := 52) (t := 68) hX dX9_taken_49 (by decide) rfl (fun z35 => ?_) (fun z35 => ?_)
        · have h := ite_f z35 h
          refine V_bipush (v := -13) (q := 70) hX dX9_taken_68 (by decide) rfl ?_
          obtain ⟨f1, f2⟩ := some2 h
          rw [f1, f2] at hQ
          exact V_iret hX hQ rfl dX9_taken_70
        have h := ite_t z35 h
        refine V_aload_n (q := 53) hX dX9_taken_52 0 rfl rfl ?_
        refine V_getF (r := 78) (n := 95) (c := 9) (k := 3) (nf := 39) (C := RX9) (T := TX9) (q := 56) hX rfl rfl iG9 k4_185 rfl rfl ⟨rfl, by decide⟩ hN rfl rfl rfl rfl dX9_taken_53 rfl ?_
        refine V_iconst (v := 5) (q := 57) hX dX9_taken_56 (by decide) rfl ?_
        refine V_iload_n (q := 58) hX dX9_taken_57 1 rfl rfl ?_
        refine V_bipush (v := 6) (q := 60) hX dX9_taken_58 (by decide) rfl ?_
        refine V_isub (q := 61) hX dX9_taken_60 rfl ?_
        refine V_imul (q := 62) hX dX9_taken_61 rfl ?_
        refine V_iconst (v := 3) (q := 63) hX dX9_taken_62 (by decide) rfl ?_
        refine V_iadd (q := 64) hX dX9_taken_63 rfl ?_
        obtain ⟨z36, h⟩ := chk_t h
        refine V_iald (n := 95) (len := 30) (q := 65) hX ⟨rfl, rfl, by decide⟩ hN z36 dX9_taken_64 rfl ?_
        refine V_goto hX dX9_taken_65 (q := 70) (by decide) ?_
        obtain ⟨f1, f2⟩ := some2 h
        rw [f1, f2] at hQ
        exact V_iret hX hQ rfl dX9_taken_70
      have h := ite_f z27 h
      refine V_bipush (v := -11) (q := 39) hX dX9_taken_37 (by decide) rfl ?_
      obtain ⟨f1, f2⟩ := some2 h
      rw [f1, f2] at hQ
      exact V_iret hX hQ rfl dX9_taken_39
    have h := ite_t z26 h
    refine V_bipush (v := -12) (q := 25) hX dX9_taken_23 (by decide) rfl ?_
    obtain ⟨f1, f2⟩ := some2 h
    rw [f1, f2] at hQ
    exact V_iret hX hQ rfl dX9_taken_25
  have h := ite_t z22 h
  refine V_bipush (v := -2) (q := 12) hX dX9_taken_10 (by decide) rfl ?_
  obtain ⟨f1, f2⟩ := some2 h
  rw [f1, f2] at hQ
  exact V_iret hX hQ rfl dX9_taken_12
set_option maxRecDepth 100000 in
set_option maxHeartbeats 4000000 in
theorem c9_taken {g : GT} {l : Launch} (hg : OkG g) (hN : 95 ≤ g.N) {a1 : Int32} {a2 : Int32} {σ : St} {r : Int32} {σ' : St} (h : S9_taken a1 a2 σ = some (r, σ')) : CtI g l m9_taken yX9_taken [.ref (g.ad (75)), .int (a1), .int (a2)] σ r σ' := CtI.of hg (by decide) rfl rfl (fun X h1 h2 h3 => v9_taken h1 hN (res := (r, σ')) h3 h)
