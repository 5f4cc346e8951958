abbrev m6_endOf : MI := (cX6_endOf, RX6, 2, some .int, 1)
def S6_endOf (o : Nat) (a1 : Int32) (σ : St) : Option (Int32 × St) := if a1 < 0 then (some ((0 : Int32), σ)) else (if (3 : Int32) ≤ a1 then (some ((0 : Int32), σ)) else (if inb a1 3 then (some ((gI σ (o + 2) (a1).toNatClampNeg), σ)) else none))
set_option maxRecDepth 100000 in
set_option maxHeartbeats 4000000 in
theorem v6_endOf {g : GT} {X : XT} {o : Nat} {a1 : Int32} (hX : OkX g X (m6_endOf)) (hN : 75 ≤ g.N) {res : Int32 × St} (hQ : X.Q = QI g X res.1 res.2 ∧ X.cells = 0 ∧ X.slots = 0) (ho : Ob 75 6 o) {σ : St} (h : S6_endOf o a1 σ = some res) : V g X (m6_endOf) 0 [(0, .ref (g.ad (o))), (1, .int (a1))] [] σ := by
  unfold S6_endOf at h
  refine V_iload_n (q := 1) hX dX6_endOf_0 1 rfl rfl ?_
  refine V_if_lt (q := 4) (t := 22) hX dX6_endOf_1 (by decide) rfl (fun z4 => ?_) (fun z4 => ?_)
  · have h := ite_t z4 h
    refine V_iconst (v := 0) (q := 23) hX dX6_endOf_22 (by decide) rfl ?_
    obtain ⟨f1, f2⟩ := some2 h
    rw [f1, f2] at hQ
    exact V_iret hX hQ rfl dX6_endOf_23
  have h := ite_f z4 h
  refine V_iload_n (q := 5) hX dX6_endOf_4 1 rfl rfl ?_
  refine V_aload_n (q := 6) hX dX6_endOf_5 0 rfl rfl ?_
  refine V_getF (r := (o + 2)) (n := 75) (c := 6) (k := 1) (nf := 3) (C := RX6) (T := TX6) (q := 9) hX rfl rfl iG6 k1_102 rfl rfl ho hN rfl rfl rfl (rf6b ho) dX6_endOf_6 rfl ?_
  refine V_alen (n := 75) (len := 3) (v := 3) (q := 10) hX (ar6b ho) hN (by decide) dX6_endOf_9 rfl ?_
  refine V_icmp_ge (q := 13) (t := 22) hX dX6_endOf_10 (by decide) rfl (fun z5 => ?_) (fun z5 => ?_)
  · have h := ite_t z5 h
    refine V_iconst (v := 0) (q := 23) hX dX6_endOf_22 (by decide) rfl ?_
    obtain ⟨f1, f2⟩ := some2 h
    rw [f1, f2] at hQ
    exact V_iret hX hQ rfl dX6_endOf_23
  have h := ite_f z5 h
  refine V_aload_n (q := 14) hX dX6_endOf_13 0 rfl rfl ?_
  refine V_getF (r := (o + 2)) (n := 75) (c := 6) (k := 1) (nf := 3) (C := RX6) (T := TX6) (q := 17) hX rfl rfl iG6 k1_102 rfl rfl ho hN rfl rfl rfl (rf6b ho) dX6_endOf_14 rfl ?_
  refine V_iload_n (q := 18) hX dX6_endOf_17 1 rfl rfl ?_
  obtain ⟨z6, h⟩ := chk_t h
  refine V_iald (n := 75) (len := 3) (q := 19) hX (ar6b ho) hN z6 dX6_endOf_18 rfl ?_
  refine V_goto hX dX6_endOf_19 (q := 23) (by decide) ?_
  obtain ⟨f1, f2⟩ := some2 h
  rw [f1, f2] at hQ
  exact V_iret hX hQ rfl dX6_endOf_23
set_option maxRecDepth 100000 in
set_option maxHeartbeats 4000000 in
theorem c6_endOf {g : GT} {l : Launch} (hg : OkG g) (hN : 75 ≤ g.N) {o : Nat} {a1 : Int32} (ho : Ob 75 6 o) {σ : St} {r : Int32} {σ' : St} (h : S6_endOf o a1 σ = some (r, σ')) : CtI g l m6_endOf yX6_endOf [.ref (g.ad (o)), .int (a1)] σ r σ' := CtI.of hg (by decide) rfl rfl (fun X h1 h2 h3 => v6_endOf h1 hN (res := (r, σ')) h3 ho h)

abbrev m2_isName : MI := (cX2_isName, RX2, 1, some .boolean, 1)
def S2_isName (a0 : Int32) (σ : St) : Option (Int32 × St) := if (-a0) < (100 : Int32) then (some ((0 : Int32), σ)) else (if (106 : Int32) ≤ (-a0) then (some ((0 : Int32), σ)) else (some ((1 : Int32), σ)))
set_option maxRecDepth 100000 in
set_option maxHeartbeats 4000000 in
theorem v2_isName {g : GT} {X : XT} {a0 : Int32} (hX : OkX g X (m2_isName)) (hN : 75 ≤ g.N) {res : Int32 × St} (hQ : X.Q = QI g X res.1 res.2 ∧ X.cells = 0 ∧ X.slots = 0) {σ : St} (h : S2_isName a0 σ = some res) : V g X (m2_isName) 0 [(0, .int (a0))] [] σ := by
  unfold S2_isName at h
  refine V_iload_n (q := 1) hX dX2_isName_0 0 rfl rfl ?_
  refine V_ineg (q := 2) hX dX2_isName_1 rfl ?_
  refine V_bipush (v := 100) (q := 4) hX dX2_isName_2 (by decide) rfl ?_
  refine V_icmp_lt (q := 7) (t := 18) hX dX2_isName_4 (by decide) rfl (fun z3 => ?_) (fun z3 => ?_)
  · have h := ite_t z3 h
    refine V_iconst (v := 0) (q := 19) hX dX2_isName_18 (by decide) rfl ?_
    obtain ⟨f1, f2⟩ := some2 h
    rw [f1, f2] at hQ
    exact V_zret (ty := .boolean) hX hQ rfl rfl dX2_isName_19
  have h := ite_f z3 h
  refine V_iload_n (q := 8) hX dX2_isName_7 0 rfl rfl ?_
  refine V_ineg (q := 9) hX dX2_isName_8 rfl ?_
  refine V_bipush (v := 106) (q := 11) hX dX2_isName_9 (by decide) rfl ?_
  refine V_icmp_ge (q := 14) (t := 18) hX dX2_isName_11 (by decide) rfl (fun z4 => ?_) (fun z4 => ?_)
  · have h := ite_t z4 h
    refine V_iconst (v := 0) (q := 19) hX dX2_isName_18 (by decide) rfl ?_
    obtain ⟨f1, f2⟩ := some2 h
    rw [f1, f2] at hQ
    exact V_zret (ty := .boolean) hX hQ rfl rfl dX2_isName_19
  have h := ite_f z4 h
  refine V_iconst (v := 1) (q := 15) hX dX2_isName_14 (by decide) rfl ?_
  refine V_goto hX dX2_isName_15 (q := 19) (by decide) ?_
  obtain ⟨f1, f2⟩ := some2 h
  rw [f1, f2] at hQ
  exact V_zret (ty := .boolean) hX hQ rfl rfl dX2_isName_19
set_option maxRecDepth 100000 in
set_option maxHeartbeats 4000000 in
theorem c2_isName {g : GT} {l : Launch} (hg : OkG g) (hN : 75 ≤ g.N) {a0 : Int32} {σ : St} {r : Int32} {σ' : St} (h : S2_isName a0 σ = some (r, σ')) : CtI g l m2_isName yX2_isName [.int (a0)] σ r σ' := CtI.of hg (by decide) rfl rfl (fun X h1 h2 h3 => v2_isName h1 hN (res := (r, σ')) h3 h)

abbrev m2_named : MI := (cX2_named, RX2, 5, some .int, 1)
def S2_named (a0 : Int32) (a1 : Nat) (a2 : Int32) (a3 : Int32) (a4 : Int32) (σ : St) : Option (Int32 × St) := if (a0 - (100 : Int32)) = 0 then (some ((gI σ a1 2), σ)) else (if (a0 - (100 : Int32)) = 1 then (some ((gI σ a1 3), σ)) else (if (a0 - (100 : Int32)) = 2 then (some (a2, σ)) else (if (a0 - (100 : Int32)) = 3 then (some (a3, σ)) else (if (a0 - (100 : Int32)) = 4 then (some (a4, σ)) else (some ((gI σ a1 4), σ))))))
set_option maxRecDepth 100000 in
set_option maxHeartbeats 4000000 in
theorem v2_named {g : GT} {X : XT} {a0 : Int32} {a1 : Nat} {a2 : Int32} {a3 : Int32} {a4 : Int32} (hX : OkX g X (m2_named)) (hN : 75 ≤ g.N) {res : Int32 × St} (hQ : X.Q = QI g X res.1 res.2 ∧ X.cells = 0 ∧ X.slots = 0) (ha1 : Ob 75 7 a1) {σ : St} (h : S2_named a0 a1 a2 a3 a4 σ = some res) : V g X (m2_named) 0 [(0, .int (a0)), (1, .ref (g.ad (a1))), (2, .int (a2)), (3, .int (a3)), (4, .int (a4))] [] σ := by
  unfold S2_named at h
  refine V_iload_n (q := 1) hX dX2_named_0 0 rfl rfl ?_
  refine V_bipush (v := 100) (q := 3) hX dX2_named_1 (by decide) rfl ?_
  refine V_isub (q := 4) hX dX2_named_3 rfl ?_
  by_cases z6 : (a0 - (100 : Int32)) = 0
  · have h := ite_t z6 h
    refine V_tsw (q := 40) (off := 36) hX dX2_named_4 (by rw [z6]; decide) (by rw [z6]; decide) (by rw [z6]; decide) (by decide) ?_
    refine V_aload_n (q := 41) hX dX2_named_40 1 rfl rfl ?_
    refine V_getI (n := 75) (c := 7) (k := 2) (nf := 7) (C := RX7) (T := TX7) (q := 44) hX rfl rfl iG7 k1_43 rfl rfl ha1 hN rfl rfl dX2_named_41 rfl ?_
    obtain ⟨f1, f2⟩ := some2 h
    rw [f1, f2] at hQ
    exact V_iret hX hQ rfl dX2_named_44
  have h := ite_f z6 h
  by_cases z7 : (a0 - (100 : Int32)) = 1
  · have h := ite_t z7 h
    refine V_tsw (q := 45) (off := 41) hX dX2_named_4 (by rw [z7]; decide) (by rw [z7]; decide) (by rw [z7]; decide) (by decide) ?_
    refine V_aload_n (q := 46) hX dX2_named_45 1 rfl rfl ?_
    refine V_getI (n := 75) (c := 7) (k := 3) (nf := 7) (C := RX7) (T := TX7) (q := 49) hX rfl rfl iG7 k1_45 rfl rfl ha1 hN rfl rfl dX2_named_46 rfl ?_
    obtain ⟨f1, f2⟩ := some2 h
    rw [f1, f2] at hQ
    exact V_iret hX hQ rfl dX2_named_49
  have h := ite_f z7 h
  by_cases z8 : (a0 - (100 : Int32)) = 2
  · have h := ite_t z8 h
    refine V_tsw (q := 50) (off := 46) hX dX2_named_4 (by rw [z8]; decide) (by rw [z8]; decide) (by rw [z8]; decide) (by decide) ?_
    refine V_iload_n (q := 51) hX dX2_named_50 2 rfl rfl ?_
    obtain ⟨f1, f2⟩ := some2 h
    rw [f1, f2] at hQ
    exact V_iret hX hQ rfl dX2_named_51
  have h := ite_f z8 h
  by_cases z9 : (a0 - (100 : Int32)) = 3
  · have h := ite_t z9 h
    refine V_tsw (q := 52) (off := 48) hX dX2_named_4 (by rw [z9]; decide) (by rw [z9]; decide) (by rw [z9]; decide) (by decide) ?_
    refine V_iload_n (q := 53) hX dX2_named_52 3 rfl rfl ?_
    obtain ⟨f1, f2⟩ := some2 h
    rw [f1, f2] at hQ
    exact V_iret hX hQ rfl dX2_named_53
  have h := ite_f z9 h
  by_cases z10 : (a0 - (100 : Int32)) = 4
  · have h := ite_t z10 h
    refine V_tsw (q := 54) (off := 50) hX dX2_named_4 (by rw [z10]; decide) (by rw [z10]; decide) (by rw [z10]; decide) (by decide) ?_
    refine V_iload (q := 56) hX dX2_named_54 4 rfl rfl ?_
    obtain ⟨f1, f2⟩ := some2 h
    rw [f1, f2] at hQ
    exact V_iret hX hQ rfl dX2_named_56
  have h := ite_f z10 h
  refine V_tswD (q := 57) hX dX2_named_4 (by have y0 := neI (v := 0) (by decide) z6; have y1 := neI (v := 1) (by decide) z7; have y2 := neI (v := 2) (by decide) z8; have y3 := neI (v := 3) (by decide) z9; have y4 := neI (v := 4) (by decide) z10; omega) (by decide) ?_
  refine V_aload_n (q := 58) hX dX2_named_57 1 rfl rfl ?_
  refine V_getI (n := 75) (c := 7) (k := 4) (nf := 7) (C := RX7) (T := TX7) (q := 61) hX rfl rfl iG7 k1_47 rfl rfl ha1 hN rfl rfl dX2_named_58 rfl ?_
  obtain ⟨f1, f2⟩ := some2 h
  rw [f1, f2] at hQ
  exact V_iret hX hQ rfl dX2_named_61
set_option maxRecDepth 100000 in
set_option maxHeartbeats 4000000 in
theorem c2_named {g : GT} {l : Launch} (hg : OkG g) (hN : 75 ≤ g.N) {a0 : Int32} {a1 : Nat} {a2 : Int32} {a3 : Int32} {a4 : Int32} (ha1 : Ob 75 7 a1) {σ : St} {r : Int32} {σ' : St} (h : S2_named a0 a1 a2 a3 a4 σ = some (r, σ')) : CtI g l m2_named yX2_named [.int (a0), .ref (g.ad (a1)), .int (a2), .int (a3), .int (a4)] σ r σ' := CtI.of hg (by decide) rfl rfl (fun X h1 h2 h3 => v2_named h1 hN (res := (r, σ')) h3 ha1 h)

abbrev m2_turned : MI := (cX2_turned, RX2, 2, some .int, 1)
def S2_turned (a0 : Int32) (a1 : Int32) (σ : St) : Option (Int32 × St) := if a0 = (-1 : Int32) then (some ((-a1), σ)) else (if a1 = 0 then (some ((1 : Int32), σ)) else (some ((0 : Int32), σ)))
set_option maxRecDepth 100000 in
set_option maxHeartbeats 4000000 in
theorem v2_turned {g : GT} {X : XT} {a0 : Int32} {a1 : Int32} (hX : OkX g X (m2_turned)) (hN : 75 ≤ g.N) {res : Int32 × St} (hQ : X.Q = QI g X res.1 res.2 ∧ X.cells = 0 ∧ X.slots = 0) {σ : St} (h : S2_turned a0 a1 σ = some res) : V g X (m2_turned) 0 [(0, .int (a0)), (1, .int (a1))] [] σ := by
  unfold S2_turned at h
  refine V_iload_n (q := 1) hX dX2_turned_0 0 rfl rfl ?_
  refine V_iconst (v := -1) (q := 2) hX dX2_turned_1 (by decide) rfl ?_
  refine V_icmp_ne (q := 5) (t := 10) hX dX2_turned_2 (by decide) rfl (fun z3 => ?_) (fun z3 => ?_)
  · have h := ite_f z3 h
    refine V_iload_n (q := 11) hX dX2_turned_10 1 rfl rfl ?_
    refine V_if_ne (q := 14) (t := 18) hX dX2_turned_11 (by decide) rfl (fun z4 => ?_) (fun z4 => ?_)
    · have h := ite_f z4 h
      refine V_iconst (v := 0) (q := 19) hX dX2_turned_18 (by decide) rfl ?_
      obtain ⟨f1, f2⟩ := some2 h
      rw [f1, f2] at hQ
      exact V_iret hX hQ rfl dX2_turned_19
    have h := ite_t z4 h
    refine V_iconst (v := 1) (q := 15) hX dX2_turned_14 (by decide) rfl ?_
    refine V_goto hX dX2_turned_15 (q := 19) (by decide) ?_
    obtain ⟨f1, f2⟩ := some2 h
    rw [f1, f2] at hQ
    exact V_iret hX hQ rfl dX2_turned_19
  have h := ite_t z3 h
  refine V_iload_n (q := 6) hX dX2_turned_5 1 rfl rfl ?_
  refine V_ineg (q := 7) hX dX2_turned_6 rfl ?_
  refine V_goto hX dX2_turned_7 (q := 19) (by decide) ?_
  obtain ⟨f1, f2⟩ := some2 h
  rw [f1, f2] at hQ
  exact V_iret hX hQ rfl dX2_turned_19
set_option maxRecDepth 100000 in
set_option maxHeartbeats 4000000 in
theorem c2_turned {g : GT} {l : Launch} (hg : OkG g) (hN : 75 ≤ g.N) {a0 : Int32} {a1 : Int32} {σ : St} {r : Int32} {σ' : St} (h : S2_turned a0 a1 σ = some (r, σ')) : CtI g l m2_turned yX2_turned [.int (a0), .int (a1)] σ r σ' := CtI.of hg (by decide) rfl rfl (fun X h1 h2 h3 => v2_turned h1 hN (res := (r, σ')) h3 h)

abbrev m2_joined : MI := (cX2_joined, RX2, 3, some .int, 1)
def S2_joined_116 (a0 : Int32) (a1 : Int32) (a2 : Int32) (σ : St) : Option (Int32 × St) := some ((1 : Int32), σ)
def S2_joined (a0 : Int32) (a1 : Int32) (a2 : Int32) (σ : St) : Option (Int32 × St) := if a0 = 42 then (some ((a1 * a2), σ)) else (if a0 = 43 then (some ((a1 + a2), σ)) else (if a0 = 45 then (some ((a1 - a2), σ)) else (if a0 = 60 then (if a2 ≤ a1 then (some ((0 : Int32), σ)) else (some ((1 : Int32), σ))) else (if a0 = 61 then (if a1 = a2 then (some ((1 : Int32), σ)) else (some ((0 : Int32), σ))) else (if a0 = 110 then (if a1 = 0 then (some ((0 : Int32), σ)) else (if a2 = 0 then (some ((0 : Int32), σ)) else (some ((1 : Int32), σ)))) else (if a1 = 0 then (if a2 = 0 then (some ((0 : Int32), σ)) else (S2_joined_116 a0 a1 a2 σ)) else (S2_joined_116 a0 a1 a2 σ)))))))
set_option maxRecDepth 100000 in
set_option maxHeartbeats 4000000 in
theorem v2_joined_116 {g : GT} {X : XT} {a0 : Int32} {a1 : Int32} {a2 : Int32} (hX : OkX g X (m2_joined)) (hN : 75 ≤ g.N) {res : Int32 × St} (hQ : X.Q = QI g X res.1 res.2 ∧ X.cells = 0 ∧ X.slots = 0)    (σ : St)  (h : S2_joined_116 a0 a1 a2 σ = some res) : V g X (m2_joined) 116 [] [] σ := by
  unfold S2_joined_116 at h
  refine V_iconst (v := 1) (q := 117) hX dX2_joined_116 (by decide) rfl ?_
  refine V_goto hX dX2_joined_117 (q := 121) (by decide) ?_
  obtain ⟨f1, f2⟩ := some2 h
  rw [f1, f2] at hQ
  exact V_iret hX hQ rfl dX2_joined_121
set_option maxRecDepth 100000 in
set_option maxHeartbeats 4000000 in
theorem v2_joined {g : GT} {X : XT} {a0 : Int32} {a1 : Int32} {a2 : Int32} (hX : OkX g X (m2_joined)) (hN : 75 ≤ g.N) {res : Int32 × St} (hQ : X.Q = QI g X res.1 res.2 ∧ X.cells = 0 ∧ X.slots = 0) {σ : St} (h : S2_joined a0 a1 a2 σ = some res) : V g X (m2_joined) 0 [(0, .int (a0)), (1, .int (a1)), (2, .int (a2))] [] σ := by
  unfold S2_joined at h
  refine V_iload_n (q := 1) hX dX2_joined_0 0 rfl rfl ?_
  by_cases z25 : a0 = 42
  · have h := ite_t z25 h
    refine V_lsw (q := 68) (off := 67) hX dX2_joined_1 (by decide) (by rw [z25]; try decide) (by decide) ?_
    refine V_iload_n (q := 69) hX dX2_joined_68 1 rfl rfl ?_
    refine V_iload_n (q := 70) hX dX2_joined_69 2 rfl rfl ?_
    refine V_imul (q := 71) hX dX2_joined_70 rfl ?_
    obtain ⟨f1, f2⟩ := some2 h
    rw [f1, f2] at hQ
    exact V_iret hX hQ rfl dX2_joined_71
  have h := ite_f z25 h
  by_cases z26 : a0 = 43
  · have h := ite_t z26 h
    refine V_lsw (q := 60) (off := 59) hX dX2_joined_1 (by decide) (by rw [z26]; try decide) (by decide) ?_
    refine V_iload_n (q := 61) hX dX2_joined_60 1 rfl rfl ?_
    refine V_iload_n (q := 62) hX dX2_joined_61 2 rfl rfl ?_
    refine V_iadd (q := 63) hX dX2_joined_62 rfl ?_
    obtain ⟨f1, f2⟩ := some2 h
    rw [f1, f2] at hQ
    exact V_iret hX hQ rfl dX2_joined_63
  have h := ite_f z26 h
  by_cases z27 : a0 = 45
  · have h := ite_t z27 h
    refine V_lsw (q := 64) (off := 63) hX dX2_joined_1 (by decide) (by rw [z27]; try decide) (by decide) ?_
    refine V_iload_n (q := 65) hX dX2_joined_64 1 rfl rfl ?_
    refine V_iload_n (q := 66) hX dX2_joined_65 2 rfl rfl ?_
    refine V_isub (q := 67) hX dX2_joined_66 rfl ?_
    obtain ⟨f1, f2⟩ := some2 h
    rw [f1, f2] at hQ
    exact V_iret hX hQ rfl dX2_joined_67
  have h := ite_f z27 h
  by_cases z28 : a0 = 60
  · have h := ite_t z28 h
    refine V_lsw (q := 72) (off := 71) hX dX2_joined_1 (by decide) (by rw [z28]; try decide) (by decide) ?_
    refine V_iload_n (q := 73) hX dX2_joined_72 1 rfl rfl ?_
    refine V_iload_n (q := 74) hX dX2_joined_73 2 rfl rfl ?_
    refine V_icmp_ge (q := 77) (t := 81) hX dX2_joined_74 (by decide) rfl (fun z29 => ?_) (fun z29 => ?_)
    · have h := ite_t z29 h
      refine V_iconst (v := 0) (q := 82) hX dX2_joined_81 (by decide) rfl ?_
      obtain ⟨f1, f2⟩ := some2 h
      rw [f1, f2] at hQ
      exact V_iret hX hQ rfl dX2_joined_82
    have h := ite_f z29 h
    refine V_iconst (v := 1) (q := 78) hX dX2_joined_77 (by decide) rfl ?_
    refine V_goto hX dX2_joined_78 (q := 82) (by decide) ?_
    obtain ⟨f1, f2⟩ := some2 h
    rw [f1, f2] at hQ
    exact V_iret hX hQ rfl dX2_joined_82
  have h := ite_f z28 h
  by_cases z30 : a0 = 61
  · have h := ite_t z30 h
    refine V_lsw (q := 83) (off := 82) hX dX2_joined_1 (by decide) (by rw [z30]; try decide) (by decide) ?_
    refine V_iload_n (q := 84) hX dX2_joined_83 1 rfl rfl ?_
    refine V_iload_n (q := 85) hX dX2_joined_84 2 rfl rfl ?_
    refine V_icmp_ne (q := 88) (t := 92) hX dX2_joined_85 (by decide) rfl (fun z31 => ?_) (fun z31 => ?_)
    · have h := ite_f z31 h
      refine V_iconst (v := 0) (q := 93) hX dX2_joined_92 (by decide) rfl ?_
      obtain ⟨f1, f2⟩ := some2 h
      rw [f1, f2] at hQ
      exact V_iret hX hQ rfl dX2_joined_93
    have h := ite_t z31 h
    refine V_iconst (v := 1) (q := 89) hX dX2_joined_88 (by decide) rfl ?_
    refine V_goto hX dX2_joined_89 (q := 93) (by decide) ?_
    obtain ⟨f1, f2⟩ := some2 h
    rw [f1, f2] at hQ
    exact V_iret hX hQ rfl dX2_joined_93
  have h := ite_f z30 h
  by_cases z32 : a0 = 110
  · have h := ite_t z32 h
    refine V_lsw (q := 94) (off := 93) hX dX2_joined_1 (by decide) (by rw [z32]; try decide) (by decide) ?_
    refine V_iload_n (q := 95) hX dX2_joined_94 1 rfl rfl ?_
    refine V_if_eq (q := 98) (t := 106) hX dX2_joined_95 (by decide) rfl (fun z33 => ?_) (fun z33 => ?_)
    · have h := ite_t z33 h
      refine V_iconst (v := 0) (q := 107) hX dX2_joined_106 (by decide) rfl ?_
      obtain ⟨f1, f2⟩ := some2 h
      rw [f1, f2] at hQ
      exact V_iret hX hQ rfl dX2_joined_107
    have h := ite_f z33 h
    refine V_iload_n (q := 99) hX dX2_joined_98 2 rfl rfl ?_
    refine V_if_eq (q := 102) (t := 106) hX dX2_joined_99 (by decide) rfl (fun z34 => ?_) (fun z34 => ?_)
    · have h := ite_t z34 h
      refine V_iconst (v := 0) (q := 107) hX dX2_joined_106 (by decide) rfl ?_
      obtain ⟨f1, f2⟩ := some2 h
      rw [f1, f2] at hQ
      exact V_iret hX hQ rfl dX2_joined_107
    have h := ite_f z34 h
    refine V_iconst (v := 1) (q := 103) hX dX2_joined_102 (by decide) rfl ?_
    refine V_goto hX dX2_joined_103 (q := 107) (by decide) ?_
    obtain ⟨f1, f2⟩ := some2 h
    rw [f1, f2] at hQ
    exact V_iret hX hQ rfl dX2_joined_107
  have h := ite_f z32 h
  refine V_lsw (q := 108) (off := 107) hX dX2_joined_1 (by decide) (by have y0 := neI (v := 42) (by decide) z25; have y1 := neI (v := 43) (by decide) z26; have y2 := neI (v := 45) (by decide) z27; have y3 := neI (v := 60) (by decide) z28; have y4 := neI (v := 61) (by decide) z30; have y5 := neI (v := 110) (by decide) z32; simp [Op.lookupswitch.offset, Ne.symm, *]) (by decide) ?_
  refine V_iload_n (q := 109) hX dX2_joined_108 1 rfl rfl ?_
  refine V_if_ne (q := 112) (t := 116) hX dX2_joined_109 (by decide) rfl (fun z35 => ?_) (fun z35 => ?_)
  · have h := ite_f z35 h
    refine V.pick [] rfl ?_
    exact v2_joined_116 hX hN hQ σ h
  have h := ite_t z35 h
  refine V_iload_n (q := 113) hX dX2_joined_112 2 rfl rfl ?_
  refine V_if_eq (q := 116) (t := 120) hX dX2_joined_113 (by decide) rfl (fun z36 => ?_) (fun z36 => ?_)
  · have h := ite_t z36 h
    refine V_iconst (v := 0) (q := 121) hX dX2_joined_120 (by decide) rfl ?_
    obtain ⟨f1, f2⟩ := some2 h
    rw [f1, f2] at hQ
    exact V_iret hX hQ rfl dX2_joined_121
  have h := ite_f z36 h
  refine V.pick [] rfl ?_
  exact v2_joined_116 hX hN hQ σ h
set_option maxRecDepth 100000 in
set_option maxHeartbeats 4000000 in
theorem c2_joined {g : GT} {l : Launch} (hg : OkG g) (hN : 75 ≤ g.N) {a0 : Int32} {a1 : Int32} {a2 : Int32} {σ : St} {r : Int32} {σ' : St} (h : S2_joined a0 a1 a2 σ = some (r, σ')) : CtI g l m2_joined yX2_joined [.int (a0), .int (a1), .int (a2)] σ r σ' := CtI.of hg (by decide) rfl rfl (fun X h1 h2 h3 => v2_joined h1 hN (res := (r, σ')) h3 h)

abbrev m8_within : MI := (cX8_within, RX8, 3, some .int, 1)
def S8_within (a0 : Int32) (a1 : Int32) (a2 : Int32) (σ : St) : Option (Int32 × St) := some ((jmax a1 (jmin a2 a0)), σ)
set_option maxRecDepth 100000 in
set_option maxHeartbeats 4000000 in
theorem v8_within {g : GT} {X : XT} {a0 : Int32} {a1 : Int32} {a2 : Int32} (hX : OkX g X (m8_within)) (hN : 75 ≤ g.N) {res : Int32 × St} (hQ : X.Q = QI g X res.1 res.2 ∧ X.cells = 0 ∧ X.slots = 0) {σ : St} (h : S8_within a0 a1 a2 σ = some res) : V g X (m8_within) 0 [(0, .int (a0)), (1, .int (a1)), (2, .int (a2))] [] σ := by
  unfold S8_within at h
  refine V_iload_n (q := 1) hX dX8_within_0 1 rfl rfl ?_
  refine V_iload_n (q := 2) hX dX8_within_1 2 rfl rfl ?_
  refine V_iload_n (q := 3) hX dX8_within_2 0 rfl rfl ?_
  refine V_mmin (q := 6) hX k3_37 k2_91 k1_14 k2_92 rfl dX8_within_3 rfl ?_
  refine V_mmax (q := 9) hX k3_38 k2_88 k1_14 k2_89 rfl dX8_within_6 rfl ?_
  obtain ⟨f1, f2⟩ := some2 h
  rw [f1, f2] at hQ
  exact V_iret hX hQ rfl dX8_within_9
set_option maxRecDepth 100000 in
set_option maxHeartbeats 4000000 in
theorem c8_within {g : GT} {l : Launch} (hg : OkG g) (hN : 75 ≤ g.N) {a0 : Int32} {a1 : Int32} {a2 : Int32} {σ : St} {r : Int32} {σ' : St} (h : S8_within a0 a1 a2 σ = some (r, σ')) : CtI g l m8_within yX8_within [.int (a0), .int (a1), .int (a2)] σ r σ' := CtI.of hg (by decide) rfl rfl (fun X h1 h2 h3 => v8_within h1 hN (res := (r, σ')) h3 h)

abbrev m2_says : MI := (cX2_says, RX2, 11, some .int, 2)
def S2_says_209 (a1 : Nat) (a2 : Int32) (a3 : Nat) (a4 : Int32) (a5 : Int32) (a6 : Int32) (k49 : Int32 → Int32 → Int32 → St → Option (Int32 × St)) (x7 : Int32) (x8 : Int32) (x9 : Int32) (σ : St) : Option (Int32 × St) := k49 x7 x8 (x9 + 1) σ
def S2_says_117 (a1 : Nat) (a2 : Int32) (a3 : Nat) (a4 : Int32) (a5 : Int32) (a6 : Int32) (k49 : Int32 → Int32 → Int32 → St → Option (Int32 × St)) (x7 : Int32) (x8 : Int32) (x9 : Int32) (s1 : Int32) (s2 : Int32) (σ : St) : Option (Int32 × St) := if inb s1 160 then (S2_says_209 a1 a2 a3 a4 a5 a6 k49 (x7 + 1) x8 x9 (sI σ 34 (s1).toNatClampNeg s2)) else none
def S2_says_78 (a1 : Nat) (a2 : Int32) (a3 : Nat) (a4 : Int32) (a5 : Int32) (a6 : Int32) (k49 : Int32 → Int32 → Int32 → St → Option (Int32 × St)) (x7 : Int32) (x8 : Int32) (x9 : Int32) (x10 : Int32) (σ : St) : Option (Int32 × St) := if (160 : Int32) ≤ x7 then (S2_says_209 a1 a2 a3 a4 a5 a6 k49 x7 x8 x9 σ) else (if x10 < 0 then (bnd (S2_named (-x10) a3 a4 a5 a6 σ) fun r136 σ135 => S2_says_117 a1 a2 a3 a4 a5 a6 k49 x7 x8 x9 x7 r136 σ135) else (S2_says_117 a1 a2 a3 a4 a5 a6 k49 x7 x8 x9 x7 x10 σ))
def S2_says_137 (a1 : Nat) (a2 : Int32) (a3 : Nat) (a4 : Int32) (a5 : Int32) (a6 : Int32) (k49 : Int32 → Int32 → Int32 → St → Option (Int32 × St)) (x7 : Int32) (x8 : Int32) (x9 : Int32) (x10 : Int32) (σ : St) : Option (Int32 × St) := if x7 < (1 : Int32) then (S2_says_209 a1 a2 a3 a4 a5 a6 k49 x7 x8 x9 σ) else (if inb (x7 - (1 : Int32)) 160 then (bnd (S2_turned x10 (gI σ 34 ((x7 - (1 : Int32))).toNatClampNeg) σ) fun r141 σ140 => if inb (x7 - (1 : Int32)) 160 then (S2_says_209 a1 a2 a3 a4 a5 a6 k49 x7 x8 x9 (sI σ140 34 ((x7 - (1 : Int32))).toNatClampNeg r141)) else none) else none)
def B2_says_49 (a1 : Nat) (a2 : Int32) (a3 : Nat) (a4 : Int32) (a5 : Int32) (a6 : Int32) (rec : Int32 → Int32 → Int32 → St → Option (Int32 × St)) (x7 : Int32) (x8 : Int32) (x9 : Int32) (σ : St) : Option (Int32 × St) := if x8 ≤ x9 then (if (1 : Int32) ≤ x7 then (if inb (x7 - (1 : Int32)) 160 then (if inb a2 3 then (if inb a2 3 then (bnd (S8_within (gI σ 34 ((x7 - (1 : Int32))).toNatClampNeg) (leastF (a2).toNatClampNeg) (mostF (a2).toNatClampNeg) σ) fun r150 σ149 => some (r150, σ149)) else none) else none) else none) else (some ((0 : Int32), σ))) else (if inb x9 160 then (if 0 ≤ (gI σ (a1 + 1) (x9).toNatClampNeg) then (S2_says_78 a1 a2 a3 a4 a5 a6 rec x7 x8 x9 (gI σ (a1 + 1) (x9).toNatClampNeg) σ) else (bnd (S2_isName (gI σ (a1 + 1) (x9).toNatClampNeg) σ) fun r155 σ154 => if r155 = 0 then (if (gI σ (a1 + 1) (x9).toNatClampNeg) = (-1 : Int32) then (S2_says_137 a1 a2 a3 a4 a5 a6 rec x7 x8 x9 (gI σ (a1 + 1) (x9).toNatClampNeg) σ154) else (if (gI σ (a1 + 1) (x9).toNatClampNeg) = (-111 : Int32) then (S2_says_137 a1 a2 a3 a4 a5 a6 rec x7 x8 x9 (gI σ (a1 + 1) (x9).toNatClampNeg) σ154) else (if x7 < (2 : Int32) then (S2_says_209 a1 a2 a3 a4 a5 a6 rec x7 x8 x9 σ154) else (if inb ((x7 + (-1)) - (1 : Int32)) 160 then (if inb (x7 + (-1)) 160 then (bnd (S2_joined (-(gI σ (a1 + 1) (x9).toNatClampNeg)) (gI σ154 34 (((x7 + (-1)) - (1 : Int32))).toNatClampNeg) (gI σ154 34 ((x7 + (-1))).toNatClampNeg) σ154) fun r164 σ163 => if inb ((x7 + (-1)) - (1 : Int32)) 160 then (S2_says_209 a1 a2 a3 a4 a5 a6 rec (x7 + (-1)) x8 x9 (sI σ163 34 (((x7 + (-1)) - (1 : Int32))).toNatClampNeg r164)) else none) else none) else none)))) else (S2_says_78 a1 a2 a3 a4 a5 a6 rec x7 x8 x9 (gI σ (a1 + 1) (x9).toNatClampNeg) σ154))) else none)
def S2_says_49 (a1 : Nat) (a2 : Int32) (a3 : Nat) (a4 : Int32) (a5 : Int32) (a6 : Int32) : Nat → Int32 → Int32 → Int32 → St → Option (Int32 × St)
  | 0, _, _, _, _ => none
  | n + 1, x7, x8, x9, σ => B2_says_49 a1 a2 a3 a4 a5 a6 (S2_says_49 a1 a2 a3 a4 a5 a6 n) x7 x8 x9 σ
def S2_says (a1 : Nat) (a2 : Int32) (a3 : Nat) (a4 : Int32) (a5 : Int32) (a6 : Int32) (σ : St) : Option (Int32 × St) := if a2 < 0 then (some ((0 : Int32), σ)) else (if (3 : Int32) ≤ a2 then (some ((0 : Int32), σ)) else (if a2 < (3 : Int32) then (bnd (S6_endOf a1 a2 σ) fun r171 σ170 => bnd (S6_endOf a1 (a2 - (1 : Int32)) σ170) fun r174 σ173 => S2_says_49 a1 a2 a3 a4 a5 a6 4096 (0 : Int32) (jmin r171 (160 : Int32)) r174 σ173) else (some ((0 : Int32), σ))))
set_option maxRecDepth 100000 in
set_option maxHeartbeats 4000000 in
theorem v2_says_209 {g : GT} {X : XT} {a1 : Nat} {a2 : Int32} {a3 : Nat} {a4 : Int32} {a5 : Int32} {a6 : Int32} (hX : OkX g X (m2_says)) (hN : 75 ≤ g.N) {res : Int32 × St} (hQ : X.Q = QI g X res.1 res.2 ∧ X.cells = 0 ∧ X.slots = 0) (ha1 : Ob 75 6 a1) (ha3 : Ob 75 7 a3) {k49 : Int32 → Int32 → Int32 → St → Option (Int32 × St)} (hk49 : ∀ (x7 : Int32) (x8 : Int32) (x9 : Int32) (σ : St), k49 x7 x8 x9 σ = some res → V g X (m2_says) 49 [(0, .ref (g.ad (33))), (1, .ref (g.ad (a1))), (2, .int (a2)), (3, .ref (g.ad (a3))), (4, .int (a4)), (5, .int (a5)), (6, .int (a6)), (7, .int (x7)), (8, .int (x8)), (9, .int (x9))] [] σ) (x7 : Int32) (x8 : Int32) (x9 : Int32) (σ : St)  (h : S2_says_209 a1 a2 a3 a4 a5 a6 k49 x7 x8 x9 σ = some res) : V g X (m2_says) 209 [(0, .ref (g.ad (33))), (1, .ref (g.ad (a1))), (2, .int (a2)), (3, .ref (g.ad (a3))), (4, .int (a4)), (5, .int (a5)), (6, .int (a6)), (7, .int (x7)), (8, .int (x8)), (9, .int (x9))] [] σ := by
  unfold S2_says_209 at h
  refine V_iinc (v := (x9 + 1)) (lv' := [(9, .int ((x9 + 1))), (0, .ref (g.ad (33))), (1, .ref (g.ad (a1))), (2, .int (a2)), (3, .ref (g.ad (a3))), (4, .int (a4)), (5, .int (a5)), (6, .int (a6)), (7, .int (x7)), (8, .int (x8))]) (q := 212) hX dX2_says_209 9 rfl (by rfl) rfl rfl rfl ?_
  refine V_goto hX dX2_says_212 (q := 49) (by decide) ?_
  refine V.pick [1, 2, 3, 4, 5, 6, 7, 8, 9, 0] rfl ?_
  exact hk49 x7 x8 (x9 + 1) σ  h
set_option maxRecDepth 100000 in
set_option maxHeartbeats 4000000 in
theorem v2_says_117 {g : GT} {X : XT} {a1 : Nat} {a2 : Int32} {a3 : Nat} {a4 : Int32} {a5 : Int32} {a6 : Int32} (hX : OkX g X (m2_says)) (hN : 75 ≤ g.N) {res : Int32 × St} (hQ : X.Q = QI g X res.1 res.2 ∧ X.cells = 0 ∧ X.slots = 0) (ha1 : Ob 75 6 a1) (ha3 : Ob 75 7 a3) {k49 : Int32 → Int32 → Int32 → St → Option (Int32 × St)} (hk49 : ∀ (x7 : Int32) (x8 : Int32) (x9 : Int32) (σ : St), k49 x7 x8 x9 σ = some res → V g X (m2_says) 49 [(0, .ref (g.ad (33))), (1, .ref (g.ad (a1))), (2, .int (a2)), (3, .ref (g.ad (a3))), (4, .int (a4)), (5, .int (a5)), (6, .int (a6)), (7, .int (x7)), (8, .int (x8)), (9, .int (x9))] [] σ) (x7 : Int32) (x8 : Int32) (x9 : Int32) (s1 : Int32) (s2 : Int32) (σ : St)  (h : S2_says_117 a1 a2 a3 a4 a5 a6 k49 x7 x8 x9 s1 s2 σ = some res) : V g X (m2_says) 117 [(0, .ref (g.ad (33))), (1, .ref (g.ad (a1))), (2, .int (a2)), (3, .ref (g.ad (a3))), (4, .int (a4)), (5, .int (a5)), (6, .int (a6)), (7, .int (x7)), (8, .int (x8)), (9, .int (x9))] [.int (s2), .int (s1), .ref (g.ad (34))] σ := by
  unfold S2_says_117 at h
  obtain ⟨z132, h⟩ := chk_t h
  refine V_iast (n := 75) (len := 160) (q := 118) hX ⟨rfl, rfl, by decide⟩ hN z132 dX2_says_117 rfl ?_
  refine V_iinc (v := (x7 + 1)) (lv' := [(7, .int ((x7 + 1))), (0, .ref (g.ad (33))), (1, .ref (g.ad (a1))), (2, .int (a2)), (3, .ref (g.ad (a3))), (4, .int (a4)), (5, .int (a5)), (6, .int (a6)), (8, .int (x8)), (9, .int (x9))]) (q := 121) hX dX2_says_118 7 rfl (by rfl) rfl rfl rfl ?_
  refine V_goto hX dX2_says_121 (q := 209) (by decide) ?_
  refine V.pick [1, 2, 3, 4, 5, 6, 7, 0, 8, 9] rfl ?_
  exact v2_says_209 hX hN hQ ha1 ha3 hk49 (x7 + 1) x8 x9 (sI σ 34 (s1).toNatClampNeg s2) h
set_option maxRecDepth 100000 in
set_option maxHeartbeats 4000000 in
theorem v2_says_78 {g : GT} {X : XT} {a1 : Nat} {a2 : Int32} {a3 : Nat} {a4 : Int32} {a5 : Int32} {a6 : Int32} (hX : OkX g X (m2_says)) (hN : 75 ≤ g.N) {res : Int32 × St} (hQ : X.Q = QI g X res.1 res.2 ∧ X.cells = 0 ∧ X.slots = 0) (ha1 : Ob 75 6 a1) (ha3 : Ob 75 7 a3) {k49 : Int32 → Int32 → Int32 → St → Option (Int32 × St)} (hk49 : ∀ (x7 : Int32) (x8 : Int32) (x9 : Int32) (σ : St), k49 x7 x8 x9 σ = some res → V g X (m2_says) 49 [(0, .ref (g.ad (33))), (1, .ref (g.ad (a1))), (2, .int (a2)), (3, .ref (g.ad (a3))), (4, .int (a4)), (5, .int (a5)), (6, .int (a6)), (7, .int (x7)), (8, .int (x8)), (9, .int (x9))] [] σ) (x7 : Int32) (x8 : Int32) (x9 : Int32) (x10 : Int32) (σ : St)  (h : S2_says_78 a1 a2 a3 a4 a5 a6 k49 x7 x8 x9 x10 σ = some res) : V g X (m2_says) 78 [(0, .ref (g.ad (33))), (1, .ref (g.ad (a1))), (2, .int (a2)), (3, .ref (g.ad (a3))), (4, .int (a4)), (5, .int (a5)), (6, .int (a6)), (7, .int (x7)), (8, .int (x8)), (9, .int (x9)), (10, .int (x10))] [] σ := by
  unfold S2_says_78 at h
  refine V_iload (q := 80) hX dX2_says_78 7 rfl rfl ?_
  refine V_aload_n (q := 81) hX dX2_says_80 0 rfl rfl ?_
  refine V_getF (r := 34) (n := 75) (c := 2) (k := 0) (nf := 1) (C := RX2) (T := TX2) (q := 84) hX rfl rfl iG2 k1_146 rfl rfl ⟨rfl, by decide⟩ hN rfl rfl rfl rfl dX2_says_81 rfl ?_
  refine V_alen (n := 75) (len := 160) (v := 160) (q := 85) hX ⟨rfl, rfl, by decide⟩ hN (by decide) dX2_says_84 rfl ?_
  refine V_icmp_ge (q := 88) (t := 209) hX dX2_says_85 (by decide) rfl (fun z133 => ?_) (fun z133 => ?_)
  · have h := ite_t z133 h
    refine V.pick [0, 1, 2, 3, 4, 5, 6, 7, 8, 9] rfl ?_
    exact v2_says_209 hX hN hQ ha1 ha3 hk49 x7 x8 x9 σ h
  have h := ite_f z133 h
  refine V_aload_n (q := 89) hX dX2_says_88 0 rfl rfl ?_
  refine V_getF (r := 34) (n := 75) (c := 2) (k := 0) (nf := 1) (C := RX2) (T := TX2) (q := 92) hX rfl rfl iG2 k1_146 rfl rfl ⟨rfl, by decide⟩ hN rfl rfl rfl rfl dX2_says_89 rfl ?_
  refine V_iload (q := 94) hX dX2_says_92 7 rfl rfl ?_
  refine V_iload (q := 96) hX dX2_says_94 10 rfl rfl ?_
  refine V_if_lt (q := 99) (t := 104) hX dX2_says_96 (by decide) rfl (fun z134 => ?_) (fun z134 => ?_)
  · have h := ite_t z134 h
    refine V_iload (q := 106) hX dX2_says_104 10 rfl rfl ?_
    refine V_ineg (q := 107) hX dX2_says_106 rfl ?_
    refine V_aload_n (q := 108) hX dX2_says_107 3 rfl rfl ?_
    refine V_iload (q := 110) hX dX2_says_108 4 rfl rfl ?_
    refine V_iload (q := 112) hX dX2_says_110 5 rfl rfl ?_
    refine V_iload (q := 114) hX dX2_says_112 6 rfl rfl ?_
    obtain ⟨r136, σ135, e137, h⟩ := bnd_some h
    refine V_csI (As := [.int ((-x10)), .ref (g.ad (a3)), .int (a4), .int (a5), .int (a6)]) (q := 117) hX (c2_named hX.2.2.2.2.1 hN ha3 e137) (goodS_of k3_25 k3_26 k1_6 (cons_g k3_27)) (nA := 5) (by decide) rfl rfl rfl rfl rfl dX2_says_114 rfl ?_
    refine V.pick [0, 1, 2, 3, 4, 5, 6, 7, 8, 9] rfl ?_
    exact v2_says_117 hX hN hQ ha1 ha3 hk49 x7 x8 x9 x7 r136 σ135 h
  have h := ite_f z134 h
  refine V_iload (q := 101) hX dX2_says_99 10 rfl rfl ?_
  refine V_goto hX dX2_says_101 (q := 117) (by decide) ?_
  refine V.pick [0, 1, 2, 3, 4, 5, 6, 7, 8, 9] rfl ?_
  exact v2_says_117 hX hN hQ ha1 ha3 hk49 x7 x8 x9 x7 x10 σ h
set_option maxRecDepth 100000 in
set_option maxHeartbeats 4000000 in
theorem v2_says_137 {g : GT} {X : XT} {a1 : Nat} {a2 : Int32} {a3 : Nat} {a4 : Int32} {a5 : Int32} {a6 : Int32} (hX : OkX g X (m2_says)) (hN : 75 ≤ g.N) {res : Int32 × St} (hQ : X.Q = QI g X res.1 res.2 ∧ X.cells = 0 ∧ X.slots = 0) (ha1 : Ob 75 6 a1) (ha3 : Ob 75 7 a3) {k49 : Int32 → Int32 → Int32 → St → Option (Int32 × St)} (hk49 : ∀ (x7 : Int32) (x8 : Int32) (x9 : Int32) (σ : St), k49 x7 x8 x9 σ = some res → V g X (m2_says) 49 [(0, .ref (g.ad (33))), (1, .ref (g.ad (a1))), (2, .int (a2)), (3, .ref (g.ad (a3))), (4, .int (a4)), (5, .int (a5)), (6, .int (a6)), (7, .int (x7)), (8, .int (x8)), (9, .int (x9))] [] σ) (x7 : Int32) (x8 : Int32) (x9 : Int32) (x10 : Int32) (σ : St)  (h : S2_says_137 a1 a2 a3 a4 a5 a6 k49 x7 x8 x9 x10 σ = some res) : V g X (m2_says) 137 [(0, .ref (g.ad (33))), (1, .ref (g.ad (a1))), (2, .int (a2)), (3, .ref (g.ad (a3))), (4, .int (a4)), (5, .int (a5)), (6, .int (a6)), (7, .int (x7)), (8, .int (x8)), (9, .int (x9)), (10, .int (x10))] [] σ := by
  unfold S2_says_137 at h
  refine V_iload (q := 139) hX dX2_says_137 7 rfl rfl ?_
  refine V_iconst (v := 1) (q := 140) hX dX2_says_139 (by decide) rfl ?_
  refine V_icmp_lt (q := 143) (t := 209) hX dX2_says_140 (by decide) rfl (fun z138 => ?_) (fun z138 => ?_)
  · have h := ite_t z138 h
    refine V.pick [0, 1, 2, 3, 4, 5, 6, 7, 8, 9] rfl ?_
    exact v2_says_209 hX hN hQ ha1 ha3 hk49 x7 x8 x9 σ h
  have h := ite_f z138 h
  refine V_aload_n (q := 144) hX dX2_says_143 0 rfl rfl ?_
  refine V_getF (r := 34) (n := 75) (c := 2) (k := 0) (nf := 1) (C := RX2) (T := TX2) (q := 147) hX rfl rfl iG2 k1_146 rfl rfl ⟨rfl, by decide⟩ hN rfl rfl rfl rfl dX2_says_144 rfl ?_
  refine V_iload (q := 149) hX dX2_says_147 7 rfl rfl ?_
  refine V_iconst (v := 1) (q := 150) hX dX2_says_149 (by decide) rfl ?_
  refine V_isub (q := 151) hX dX2_says_150 rfl ?_
  refine V_iload (q := 153) hX dX2_says_151 10 rfl rfl ?_
  refine V_aload_n (q := 154) hX dX2_says_153 0 rfl rfl ?_
  refine V_getF (r := 34) (n := 75) (c := 2) (k := 0) (nf := 1) (C := RX2) (T := TX2) (q := 157) hX rfl rfl iG2 k1_146 rfl rfl ⟨rfl, by decide⟩ hN rfl rfl rfl rfl dX2_says_154 rfl ?_
  refine V_iload (q := 159) hX dX2_says_157 7 rfl rfl ?_
  refine V_iconst (v := 1) (q := 160) hX dX2_says_159 (by decide) rfl ?_
  refine V_isub (q := 161) hX dX2_says_160 rfl ?_
  obtain ⟨z139, h⟩ := chk_t h
  refine V_iald (n := 75) (len := 160) (q := 162) hX ⟨rfl, rfl, by decide⟩ hN z139 dX2_says_161 rfl ?_
  obtain ⟨r141, σ140, e142, h⟩ := bnd_some h
  refine V_csI (As := [.int (x10), .int ((gI σ 34 ((x7 - (1 : Int32))).toNatClampNeg))]) (q := 165) hX (c2_turned hX.2.2.2.2.1 hN e142) (goodS_of k3_28 k3_29 k1_6 (cons_g k3_30)) (nA := 2) (by decide) rfl rfl rfl rfl rfl dX2_says_162 rfl ?_
  obtain ⟨z143, h⟩ := chk_t h
  refine V_iast (n := 75) (len := 160) (q := 166) hX ⟨rfl, rfl, by decide⟩ hN z143 dX2_says_165 rfl ?_
  refine V_goto hX dX2_says_166 (q := 209) (by decide) ?_
  refine V.pick [0, 1, 2, 3, 4, 5, 6, 7, 8, 9] rfl ?_
  exact v2_says_209 hX hN hQ ha1 ha3 hk49 x7 x8 x9 (sI σ140 34 ((x7 - (1 : Int32))).toNatClampNeg r141) h
set_option maxRecDepth 100000 in
set_option maxHeartbeats 4000000 in
theorem v2_says_49n {g : GT} {X : XT} {a1 : Nat} {a2 : Int32} {a3 : Nat} {a4 : Int32} {a5 : Int32} {a6 : Int32} (hX : OkX g X (m2_says)) (hN : 75 ≤ g.N) {res : Int32 × St} (hQ : X.Q = QI g X res.1 res.2 ∧ X.cells = 0 ∧ X.slots = 0) (ha1 : Ob 75 6 a1) (ha3 : Ob 75 7 a3)  (n : Nat) : ∀ (x7 : Int32) (x8 : Int32) (x9 : Int32) (σ : St) , S2_says_49 a1 a2 a3 a4 a5 a6 n x7 x8 x9 σ = some res → V g X (m2_says) 49 [(0, .ref (g.ad (33))), (1, .ref (g.ad (a1))), (2, .int (a2)), (3, .ref (g.ad (a3))), (4, .int (a4)), (5, .int (a5)), (6, .int (a6)), (7, .int (x7)), (8, .int (x8)), (9, .int (x9))] [] σ := by
  induction n with
  | zero => intro x7 x8 x9 σ; intro h; cases h
  | succ n ih =>
    intro x7 x8 x9 σ h
    have h : B2_says_49 a1 a2 a3 a4 a5 a6 (S2_says_49 a1 a2 a3 a4 a5 a6 n) x7 x8 x9 σ = some res := h
    unfold B2_says_49 at h
    refine V_iload (q := 51) hX dX2_says_49 9 rfl rfl ?_
    refine V_iload (q := 53) hX dX2_says_51 8 rfl rfl ?_
    refine V_icmp_ge (q := 56) (t := 215) hX dX2_says_53 (by decide) rfl (fun z144 => ?_) (fun z144 => ?_)
    · have h := ite_t z144 h
      refine V_iload (q := 217) hX dX2_says_215 7 rfl rfl ?_
      refine V_iconst (v := 1) (q := 218) hX dX2_says_217 (by decide) rfl ?_
      refine V_icmp_ge (q := 221) (t := 225) hX dX2_says_218 (by decide) rfl (fun z145 => ?_) (fun z145 => ?_)
      · have h := ite_t z145 h
        refine V_aload_n (q := 226) hX dX2_says_225 0 rfl rfl ?_
        refine V_getF (r := 34) (n := 75) (c := 2) (k := 0) (nf := 1) (C := RX2) (T := TX2) (q := 229) hX rfl rfl iG2 k1_146 rfl rfl ⟨rfl, by decide⟩ hN rfl rfl rfl rfl dX2_says_226 rfl ?_
        refine V_iload (q := 231) hX dX2_says_229 7 rfl rfl ?_
        refine V_iconst (v := 1) (q := 232) hX dX2_says_231 (by decide) rfl ?_
        refine V_isub (q := 233) hX dX2_says_232 rfl ?_
        obtain ⟨z146, h⟩ := chk_t h
        refine V_iald (n := 75) (len := 160) (q := 234) hX ⟨rfl, rfl, by decide⟩ hN z146 dX2_says_233 rfl ?_
        refine V_gets0 (q := 237) hX rfl k3_13 dX2_says_234 rfl ?_
        refine V_iload_n (q := 238) hX dX2_says_237 2 rfl rfl ?_
        obtain ⟨z147, h⟩ := chk_t h
        refine V_tld0 (q := 239) hX z147 dX2_says_238 rfl ?_
        refine V_gets1 (q := 242) hX rfl k3_15 dX2_says_239 rfl ?_
        refine V_iload_n (q := 243) hX dX2_says_242 2 rfl rfl ?_
        obtain ⟨z148, h⟩ := chk_t h
        refine V_tld1 (q := 244) hX z148 dX2_says_243 rfl ?_
        obtain ⟨r150, σ149, e151, h⟩ := bnd_some h
        refine V_cnI (host := "RingOfStraw") (As := [.int ((gI σ 34 ((x7 - (1 : Int32))).toNatClampNeg)), .int ((leastF (a2).toNatClampNeg)), .int ((mostF (a2).toNatClampNeg))]) (q := 247) hX (c8_within hX.2.2.2.2.1 hN e151) (by decide +kernel) k3_35 k1_1 (cons_g k3_36) (nA := 3) (by decide) rfl rfl rfl rfl rfl dX2_says_244 rfl ?_
        obtain ⟨f1, f2⟩ := some2 h
        rw [f1, f2] at hQ
        exact V_iret hX hQ rfl dX2_says_247
      have h := ite_f z145 h
      refine V_iconst (v := 0) (q := 222) hX dX2_says_221 (by decide) rfl ?_
      refine V_goto hX dX2_says_222 (q := 247) (by decide) ?_
      obtain ⟨f1, f2⟩ := some2 h
      rw [f1, f2] at hQ
      exact V_iret hX hQ rfl dX2_says_247
    have h := ite_f z144 h
    refine V_aload_n (q := 57) hX dX2_says_56 1 rfl rfl ?_
    refine V_getF (r := (a1 + 1)) (n := 75) (c := 6) (k := 0) (nf := 3) (C := RX6) (T := TX6) (q := 60) hX rfl rfl iG6 k1_101 rfl rfl ha1 hN rfl rfl rfl (rf6a ha1) dX2_says_57 rfl ?_
    refine V_iload (q := 62) hX dX2_says_60 9 rfl rfl ?_
    obtain ⟨z152, h⟩ := chk_t h
    refine V_iald (n := 75) (len := 160) (q := 63) hX (ar6a ha1) hN z152 dX2_says_62 rfl ?_
    refine V_istore (lv' := [(10, .int ((gI σ (a1 + 1) (x9).toNatClampNeg))), (0, .ref (g.ad (33))), (1, .ref (g.ad (a1))), (2, .int (a2)), (3, .ref (g.ad (a3))), (4, .int (a4)), (5, .int (a5)), (6, .int (a6)), (7, .int (x7)), (8, .int (x8)), (9, .int (x9))]) (q := 65) hX dX2_says_63 rfl rfl rfl ?_
    refine V_iload (q := 67) hX dX2_says_65 0 rfl rfl ?_
    refine V_if_ge (q := 70) (t := 78) hX dX2_says_67 (by decide) rfl (fun z153 => ?_) (fun z153 => ?_)
    · have h := ite_t z153 h
      refine V.pick [1, 2, 3, 4, 5, 6, 7, 8, 9, 10, 0] rfl ?_
      exact v2_says_78 hX hN hQ ha1 ha3 ih x7 x8 x9 (gI σ (a1 + 1) (x9).toNatClampNeg) σ h
    have h := ite_f z153 h
    refine V_iload (q := 72) hX dX2_says_70 0 rfl rfl ?_
    obtain ⟨r155, σ154, e156, h⟩ := bnd_some h
    refine V_csI (As := [.int ((gI σ (a1 + 1) (x9).toNatClampNeg))]) (q := 75) hX (c2_isName hX.2.2.2.2.1 hN e156) (goodS_of k3_22 k3_23 k1_6 (cons_g k3_24)) (nA := 1) (by decide) rfl rfl rfl rfl rfl dX2_says_72 rfl ?_
    refine V_if_eq (q := 78) (t := 124) hX dX2_says_75 (by decide) rfl (fun z157 => ?_) (fun z157 => ?_)
    · have h := ite_t z157 h
      refine V_iload (q := 126) hX dX2_says_124 0 rfl rfl ?_
      refine V_iconst (v := -1) (q := 127) hX dX2_says_126 (by decide) rfl ?_
      refine V_icmp_eq (q := 130) (t := 137) hX dX2_says_127 (by decide) rfl (fun z158 => ?_) (fun z158 => ?_)
      · have h := ite_t z158 h
        refine V.pick [1, 2, 3, 4, 5, 6, 7, 8, 9, 10, 0] rfl ?_
        exact v2_says_137 hX hN hQ ha1 ha3 ih x7 x8 x9 (gI σ (a1 + 1) (x9).toNatClampNeg) σ154 h
      have h := ite_f z158 h
      refine V_iload (q := 132) hX dX2_says_130 0 rfl rfl ?_
      refine V_bipush (v := -111) (q := 134) hX dX2_says_132 (by decide) rfl ?_
      refine V_icmp_ne (q := 137) (t := 169) hX dX2_says_134 (by decide) rfl (fun z159 => ?_) (fun z159 => ?_)
      · have h := ite_f z159 h
        refine V_iload (q := 171) hX dX2_says_169 8 rfl rfl ?_
        refine V_iconst (v := 2) (q := 172) hX dX2_says_171 (by decide) rfl ?_
        refine V_icmp_lt (q := 175) (t := 209) hX dX2_says_172 (by decide) rfl (fun z160 => ?_) (fun z160 => ?_)
        · have h := ite_t z160 h
          refine V.pick [1, 2, 3, 4, 5, 6, 7, 8, 9, 10] rfl ?_
          exact v2_says_209 hX hN hQ ha1 ha3 ih x7 x8 x9 σ154 h
        have h := ite_f z160 h
        refine V_iinc (v := (x7 + (-1))) (lv' := [(7, .int ((x7 + (-1)))), (10, .int ((gI σ (a1 + 1) (x9).toNatClampNeg))), (0, .ref (g.ad (33))), (1, .ref (g.ad (a1))), (2, .int (a2)), (3, .ref (g.ad (a3))), (4, .int (a4)), (5, .int (a5)), (6, .int (a6)), (8, .int (x8)), (9, .int (x9))]) (q := 178) hX dX2_says_175 8 rfl (by rfl) rfl rfl rfl ?_
        refine V_aload_n (q := 179) hX dX2_says_178 2 rfl rfl ?_
        refine V_getF (r := 34) (n := 75) (c := 2) (k := 0) (nf := 1) (C := RX2) (T := TX2) (q := 182) hX rfl rfl iG2 k1_146 rfl rfl ⟨rfl, by decide⟩ hN rfl rfl rfl rfl dX2_says_179 rfl ?_
        refine V_iload (q := 184) hX dX2_says_182 0 rfl rfl ?_
        refine V_iconst (v := 1) (q := 185) hX dX2_says_184 (by decide) rfl ?_
        refine V_isub (q := 186) hX dX2_says_185 rfl ?_
        refine V_iload (q := 188) hX dX2_says_186 1 rfl rfl ?_
        refine V_ineg (q := 189) hX dX2_says_188 rfl ?_
        refine V_aload_n (q := 190) hX dX2_says_189 2 rfl rfl ?_
        refine V_getF (r := 34) (n := 75) (c := 2) (k := 0) (nf := 1) (C := RX2) (T := TX2) (q := 193) hX rfl rfl iG2 k1_146 rfl rfl ⟨rfl, by decide⟩ hN rfl rfl rfl rfl dX2_says_190 rfl ?_
        refine V_iload (q := 195) hX dX2_says_193 0 rfl rfl ?_
        refine V_iconst (v := 1) (q := 196) hX dX2_says_195 (by decide) rfl ?_
        refine V_isub (q := 197) hX dX2_says_196 rfl ?_
        obtain ⟨z161, h⟩ := chk_t h
        refine V_iald (n := 75) (len := 160) (q := 198) hX ⟨rfl, rfl, by decide⟩ hN z161 dX2_says_197 rfl ?_
        refine V_aload_n (q := 199) hX dX2_says_198 2 rfl rfl ?_
        refine V_getF (r := 34) (n := 75) (c := 2) (k := 0) (nf := 1) (C := RX2) (T := TX2) (q := 202) hX rfl rfl iG2 k1_146 rfl rfl ⟨rfl, by decide⟩ hN rfl rfl rfl rfl dX2_says_199 rfl ?_
        refine V_iload (q := 204) hX dX2_says_202 0 rfl rfl ?_
        obtain ⟨z162, h⟩ := chk_t h
        refine V_iald (n := 75) (len := 160) (q := 205) hX ⟨rfl, rfl, by decide⟩ hN z162 dX2_says_204 rfl ?_
        obtain ⟨r164, σ163, e165, h⟩ := bnd_some h
        refine V_csI (As := [.int ((-(gI σ (a1 + 1) (x9).toNatClampNeg))), .int ((gI σ154 34 (((x7 + (-1)) - (1 : Int32))).toNatClampNeg)), .int ((gI σ154 34 ((x7 + (-1))).toNatClampNeg))]) (q := 208) hX (c2_joined hX.2.2.2.2.1 hN e165) (goodS_of k3_31 k3_32 k1_6 (cons_g k3_33)) (nA := 3) (by decide) rfl rfl rfl rfl rfl dX2_says_205 rfl ?_
        obtain ⟨z166, h⟩ := chk_t h
        refine V_iast (n := 75) (len := 160) (q := 209) hX ⟨rfl, rfl, by decide⟩ hN z166 dX2_says_208 rfl ?_
        refine V.pick [2, 3, 4, 5, 6, 7, 8, 0, 9, 10] rfl ?_
        exact v2_says_209 hX hN hQ ha1 ha3 ih (x7 + (-1)) x8 x9 (sI σ163 34 (((x7 + (-1)) - (1 : Int32))).toNatClampNeg r164) h
      have h := ite_t z159 h
      refine V.pick [1, 2, 3, 4, 5, 6, 7, 8, 9, 10, 0] rfl ?_
      exact v2_says_137 hX hN hQ ha1 ha3 ih x7 x8 x9 (gI σ (a1 + 1) (x9).toNatClampNeg) σ154 h
    have h := ite_f z157 h
    refine V.pick [1, 2, 3, 4, 5, 6, 7, 8, 9, 10, 0] rfl ?_
    exact v2_says_78 hX hN hQ ha1 ha3 ih x7 x8 x9 (gI σ (a1 + 1) (x9).toNatClampNeg) σ154 h
theorem v2_says_49 {g : GT} {X : XT} {a1 : Nat} {a2 : Int32} {a3 : Nat} {a4 : Int32} {a5 : Int32} {a6 : Int32} (hX : OkX g X (m2_says)) (hN : 75 ≤ g.N) {res : Int32 × St} (hQ : X.Q = QI g X res.1 res.2 ∧ X.cells = 0 ∧ X.slots = 0) (ha1 : Ob 75 6 a1) (ha3 : Ob 75 7 a3) (x7 : Int32) (x8 : Int32) (x9 : Int32) (σ : St) (h : S2_says_49 a1 a2 a3 a4 a5 a6 4096 x7 x8 x9 σ = some res) : V g X (m2_says) 49 [(0, .ref (g.ad (33))), (1, .ref (g.ad (a1))), (2, .int (a2)), (3, .ref (g.ad (a3))), (4, .int (a4)), (5, .int (a5)), (6, .int (a6)), (7, .int (x7)), (8, .int (x8)), (9, .int (x9))] [] σ := v2_says_49n hX hN hQ ha1 ha3 4096 x7 x8 x9 σ h
set_option maxRecDepth 100000 in
set_option maxHeartbeats 4000000 in
theorem v2_says {g : GT} {X : XT} {a1 : Nat} {a2 : Int32} {a3 : Nat} {a4 : Int32} {a5 : Int32} {a6 : Int32} (hX : OkX g X (m2_says)) (hN : 75 ≤ g.N) {res : Int32 × St} (hQ : X.Q = QI g X res.1 res.2 ∧ X.cells = 0 ∧ X.slots = 0) (ha1 : Ob 75 6 a1) (ha3 : Ob 75 7 a3) {σ : St} (h : S2_says a1 a2 a3 a4 a5 a6 σ = some res) : V g X (m2_says) 0 [(0, .ref (g.ad (33))), (1, .ref (g.ad (a1))), (2, .int (a2)), (3, .ref (g.ad (a3))), (4, .int (a4)), (5, .int (a5)), (6, .int (a6))] [] σ := by
  unfold S2_says at h
  refine V_iload_n (q := 1) hX dX2_says_0 2 rfl rfl ?_
  refine V_if_lt (q := 4) (t := 20) hX dX2_says_1 (by decide) rfl (fun z167 => ?_) (fun z167 => ?_)
  · have h := ite_t z167 h
    refine V_iconst (v := 0) (q := 21) hX dX2_says_20 (by decide) rfl ?_
    obtain ⟨f1, f2⟩ := some2 h
    rw [f1, f2] at hQ
    exact V_iret hX hQ rfl dX2_says_21
  have h := ite_f z167 h
  refine V_iload_n (q := 5) hX dX2_says_4 2 rfl rfl ?_
  refine V_gets0 (q := 8) hX rfl k3_13 dX2_says_5 rfl ?_
  refine V_tlen0 (v := 3) (q := 9) hX (by decide) dX2_says_8 rfl ?_
  refine V_icmp_ge (q := 12) (t := 20) hX dX2_says_9 (by decide) rfl (fun z168 => ?_) (fun z168 => ?_)
  · have h := ite_t z168 h
    refine V_iconst (v := 0) (q := 21) hX dX2_says_20 (by decide) rfl ?_
    obtain ⟨f1, f2⟩ := some2 h
    rw [f1, f2] at hQ
    exact V_iret hX hQ rfl dX2_says_21
  have h := ite_f z168 h
  refine V_iload_n (q := 13) hX dX2_says_12 2 rfl rfl ?_
  refine V_gets1 (q := 16) hX rfl k3_15 dX2_says_13 rfl ?_
  refine V_tlen1 (v := 3) (q := 17) hX (by decide) dX2_says_16 rfl ?_
  refine V_icmp_lt (q := 20) (t := 22) hX dX2_says_17 (by decide) rfl (fun z169 => ?_) (fun z169 => ?_)
  · have h := ite_t z169 h
    refine V_iconst (v := 0) (q := 23) hX dX2_says_22 (by decide) rfl ?_
    refine V_istore (lv' := [(7, .int ((0 : Int32))), (0, .ref (g.ad (33))), (1, .ref (g.ad (a1))), (2, .int (a2)), (3, .ref (g.ad (a3))), (4, .int (a4)), (5, .int (a5)), (6, .int (a6))]) (q := 25) hX dX2_says_23 rfl rfl rfl ?_
    refine V_aload_n (q := 26) hX dX2_says_25 2 rfl rfl ?_
    refine V_iload_n (q := 27) hX dX2_says_26 3 rfl rfl ?_
    obtain ⟨r171, σ170, e172, h⟩ := bnd_some h
    refine V_cvI (n := 75) (c := 6) (nf := 3) (C := RX6) (T := TX6) (As := [.int (a2)]) (q := 30) hX (c6_endOf hX.2.2.2.2.1 hN ha1 e172) (goodV_of k3_17 k3_18 k3_19 k1_5 (cons_g k3_20)) (nA := 1) (by decide) rfl rfl rfl rfl rfl ha1 hN rfl rfl rfl dX2_says_27 rfl ?_
    refine V_aload_n (q := 31) hX dX2_says_30 2 rfl rfl ?_
    refine V_getF (r := (a1 + 1)) (n := 75) (c := 6) (k := 0) (nf := 3) (C := RX6) (T := TX6) (q := 34) hX rfl rfl iG6 k1_101 rfl rfl ha1 hN rfl rfl rfl (rf6a ha1) dX2_says_31 rfl ?_
    refine V_alen (n := 75) (len := 160) (v := 160) (q := 35) hX (ar6a ha1) hN (by decide) dX2_says_34 rfl ?_
    refine V_mmin (q := 38) hX k3_21 k2_91 k1_14 k2_92 rfl dX2_says_35 rfl ?_
    refine V_istore (lv' := [(8, .int ((jmin r171 (160 : Int32)))), (7, .int ((0 : Int32))), (0, .ref (g.ad (33))), (1, .ref (g.ad (a1))), (2, .int (a2)), (3, .ref (g.ad (a3))), (4, .int (a4)), (5, .int (a5)), (6, .int (a6))]) (q := 40) hX dX2_says_38 rfl rfl rfl ?_
    refine V_aload_n (q := 41) hX dX2_says_40 3 rfl rfl ?_
    refine V_iload_n (q := 42) hX dX2_says_41 4 rfl rfl ?_
    refine V_iconst (v := 1) (q := 43) hX dX2_says_42 (by decide) rfl ?_
    refine V_isub (q := 44) hX dX2_says_43 rfl ?_
    obtain ⟨r174, σ173, e175, h⟩ := bnd_some h
    refine V_cvI (n := 75) (c := 6) (nf := 3) (C := RX6) (T := TX6) (As := [.int ((a2 - (1 : Int32)))]) (q := 47) hX (c6_endOf hX.2.2.2.2.1 hN ha1 e175) (goodV_of k3_17 k3_18 k3_19 k1_5 (cons_g k3_20)) (nA := 1) (by decide) rfl rfl rfl rfl rfl ha1 hN rfl rfl rfl dX2_says_44 rfl ?_
    refine V_istore (lv' := [(9, .int (r174)), (8, .int ((jmin r171 (160 : Int32)))), (7, .int ((0 : Int32))), (0, .ref (g.ad (33))), (1, .ref (g.ad (a1))), (2, .int (a2)), (3, .ref (g.ad (a3))), (4, .int (a4)), (5, .int (a5)), (6, .int (a6))]) (q := 49) hX dX2_says_47 rfl rfl rfl ?_
    refine V.pick [3, 4, 5, 6, 7, 8, 9, 2, 1, 0] rfl ?_
    exact v2_says_49 hX hN hQ ha1 ha3 (0 : Int32) (jmin r171 (160 : Int32)) r174 σ173 h
  have h := ite_f z169 h
  refine V_iconst (v := 0) (q := 21) hX dX2_says_20 (by decide) rfl ?_
  obtain ⟨f1, f2⟩ := some2 h
  rw [f1, f2] at hQ
  exact V_iret hX hQ rfl dX2_says_21
set_option maxRecDepth 100000 in
set_option maxHeartbeats 4000000 in
theorem c2_says {g : GT} {l : Launch} (hg : OkG g) (hN : 75 ≤ g.N) {a1 : Nat} {a2 : Int32} {a3 : Nat} {a4 : Int32} {a5 : Int32} {a6 : Int32} (ha1 : Ob 75 6 a1) (ha3 : Ob 75 7 a3) {σ : St} {r : Int32} {σ' : St} (h : S2_says a1 a2 a3 a4 a5 a6 σ = some (r, σ')) : CtI g l m2_says yX2_says [.ref (g.ad (33)), .ref (g.ad (a1)), .int (a2), .ref (g.ad (a3)), .int (a4), .int (a5), .int (a6)] σ r σ' := CtI.of hg (by decide) rfl rfl (fun X h1 h2 h3 => v2_says h1 hN (res := (r, σ')) h3 ha1 ha3 h)

abbrev m7_isOf : MI := (cX7_isOf, RX7, 2, some .boolean, 1)
def S7_isOf_46 (o : Nat) (a1 : Int32) (σ : St) : Option (Int32 × St) := some ((1 : Int32), σ)
def S7_isOf_68 (o : Nat) (a1 : Int32) (σ : St) : Option (Int32 × St) := some ((1 : Int32), σ)
def S7_isOf (o : Nat) (a1 : Int32) (σ : St) : Option (Int32 × St) := if a1 = 0 then (some ((1 : Int32), σ)) else (if a1 = 1 then (if (gI σ o 0) = (1 : Int32) then (S7_isOf_46 o a1 σ) else (if (gI σ o 0) = (3 : Int32) then (S7_isOf_46 o a1 σ) else (some ((0 : Int32), σ)))) else (if a1 = 2 then (if (gI σ o 0) = (2 : Int32) then (S7_isOf_68 o a1 σ) else (if (gI σ o 0) = (4 : Int32) then (S7_isOf_68 o a1 σ) else (some ((0 : Int32), σ)))) else (if (gI σ o 0) = a1 then (some ((1 : Int32), σ)) else (some ((0 : Int32), σ)))))
set_option maxRecDepth 100000 in
set_option maxHeartbeats 4000000 in
theorem v7_isOf_46 {g : GT} {X : XT} {o : Nat} {a1 : Int32} (hX : OkX g X (m7_isOf)) (hN : 75 ≤ g.N) {res : Int32 × St} (hQ : X.Q = QI g X res.1 res.2 ∧ X.cells = 0 ∧ X.slots = 0) (ho : Ob 75 7 o)   (σ : St)  (h : S7_isOf_46 o a1 σ = some res) : V g X (m7_isOf) 46 [] [] σ := by
  unfold S7_isOf_46 at h
  refine V_iconst (v := 1) (q := 47) hX dX7_isOf_46 (by decide) rfl ?_
  refine V_goto hX dX7_isOf_47 (q := 51) (by decide) ?_
  obtain ⟨f1, f2⟩ := some2 h
  rw [f1, f2] at hQ
  exact V_zret (ty := .boolean) hX hQ rfl rfl dX7_isOf_51
set_option maxRecDepth 100000 in
set_option maxHeartbeats 4000000 in
theorem v7_isOf_68 {g : GT} {X : XT} {o : Nat} {a1 : Int32} (hX : OkX g X (m7_isOf)) (hN : 75 ≤ g.N) {res : Int32 × St} (hQ : X.Q = QI g X res.1 res.2 ∧ X.cells = 0 ∧ X.slots = 0) (ho : Ob 75 7 o)   (σ : St)  (h : S7_isOf_68 o a1 σ = some res) : V g X (m7_isOf) 68 [] [] σ := by
  unfold S7_isOf_68 at h
  refine V_iconst (v := 1) (q := 69) hX dX7_isOf_68 (by decide) rfl ?_
  refine V_goto hX dX7_isOf_69 (q := 73) (by decide) ?_
  obtain ⟨f1, f2⟩ := some2 h
  rw [f1, f2] at hQ
  exact V_zret (ty := .boolean) hX hQ rfl rfl dX7_isOf_73
set_option maxRecDepth 100000 in
set_option maxHeartbeats 4000000 in
theorem v7_isOf {g : GT} {X : XT} {o : Nat} {a1 : Int32} (hX : OkX g X (m7_isOf)) (hN : 75 ≤ g.N) {res : Int32 × St} (hQ : X.Q = QI g X res.1 res.2 ∧ X.cells = 0 ∧ X.slots = 0) (ho : Ob 75 7 o) {σ : St} (h : S7_isOf o a1 σ = some res) : V g X (m7_isOf) 0 [(0, .ref (g.ad (o))), (1, .int (a1))] [] σ := by
  unfold S7_isOf at h
  refine V_iload_n (q := 1) hX dX7_isOf_0 1 rfl rfl ?_
  by_cases z17 : a1 = 0
  · have h := ite_t z17 h
    refine V_tsw (q := 28) (off := 27) hX dX7_isOf_1 (by rw [z17]; decide) (by rw [z17]; decide) (by rw [z17]; decide) (by decide) ?_
    refine V_iconst (v := 1) (q := 29) hX dX7_isOf_28 (by decide) rfl ?_
    obtain ⟨f1, f2⟩ := some2 h
    rw [f1, f2] at hQ
    exact V_zret (ty := .boolean) hX hQ rfl rfl dX7_isOf_29
  have h := ite_f z17 h
  by_cases z18 : a1 = 1
  · have h := ite_t z18 h
    refine V_tsw (q := 30) (off := 29) hX dX7_isOf_1 (by rw [z18]; decide) (by rw [z18]; decide) (by rw [z18]; decide) (by decide) ?_
    refine V_aload_n (q := 31) hX dX7_isOf_30 0 rfl rfl ?_
    refine V_getI (n := 75) (c := 7) (k := 0) (nf := 7) (C := RX7) (T := TX7) (q := 34) hX rfl rfl iG7 k1_40 rfl rfl ho hN rfl rfl dX7_isOf_31 rfl ?_
    refine V_iconst (v := 1) (q := 35) hX dX7_isOf_34 (by decide) rfl ?_
    refine V_icmp_eq (q := 38) (t := 46) hX dX7_isOf_35 (by decide) rfl (fun z19 => ?_) (fun z19 => ?_)
    · have h := ite_t z19 h
      refine V.pick [] rfl ?_
      exact v7_isOf_46 hX hN hQ ho σ h
    have h := ite_f z19 h
    refine V_aload_n (q := 39) hX dX7_isOf_38 0 rfl rfl ?_
    refine V_getI (n := 75) (c := 7) (k := 0) (nf := 7) (C := RX7) (T := TX7) (q := 42) hX rfl rfl iG7 k1_40 rfl rfl ho hN rfl rfl dX7_isOf_39 rfl ?_
    refine V_iconst (v := 3) (q := 43) hX dX7_isOf_42 (by decide) rfl ?_
    refine V_icmp_ne (q := 46) (t := 50) hX dX7_isOf_43 (by decide) rfl (fun z20 => ?_) (fun z20 => ?_)
    · have h := ite_f z20 h
      refine V_iconst (v := 0) (q := 51) hX dX7_isOf_50 (by decide) rfl ?_
      obtain ⟨f1, f2⟩ := some2 h
      rw [f1, f2] at hQ
      exact V_zret (ty := .boolean) hX hQ rfl rfl dX7_isOf_51
    have h := ite_t z20 h
    refine V.pick [] rfl ?_
    exact v7_isOf_46 hX hN hQ ho σ h
  have h := ite_f z18 h
  by_cases z21 : a1 = 2
  · have h := ite_t z21 h
    refine V_tsw (q := 52) (off := 51) hX dX7_isOf_1 (by rw [z21]; decide) (by rw [z21]; decide) (by rw [z21]; decide) (by decide) ?_
    refine V_aload_n (q := 53) hX dX7_isOf_52 0 rfl rfl ?_
    refine V_getI (n := 75) (c := 7) (k := 0) (nf := 7) (C := RX7) (T := TX7) (q := 56) hX rfl rfl iG7 k1_40 rfl rfl ho hN rfl rfl dX7_isOf_53 rfl ?_
    refine V_iconst (v := 2) (q := 57) hX dX7_isOf_56 (by decide) rfl ?_
    refine V_icmp_eq (q := 60) (t := 68) hX dX7_isOf_57 (by decide) rfl (fun z22 => ?_) (fun z22 => ?_)
    · have h := ite_t z22 h
      refine V.pick [] rfl ?_
      exact v7_isOf_68 hX hN hQ ho σ h
    have h := ite_f z22 h
    refine V_aload_n (q := 61) hX dX7_isOf_60 0 rfl rfl ?_
    refine V_getI (n := 75) (c := 7) (k := 0) (nf := 7) (C := RX7) (T := TX7) (q := 64) hX rfl rfl iG7 k1_40 rfl rfl ho hN rfl rfl dX7_isOf_61 rfl ?_
    refine V_iconst (v := 4) (q := 65) hX dX7_isOf_64 (by decide) rfl ?_
    refine V_icmp_ne (q := 68) (t := 72) hX dX7_isOf_65 (by decide) rfl (fun z23 => ?_) (fun z23 => ?_)
    · have h := ite_f z23 h
      refine V_iconst (v := 0) (q := 73) hX dX7_isOf_72 (by decide) rfl ?_
      obtain ⟨f1, f2⟩ := some2 h
      rw [f1, f2] at hQ
      exact V_zret (ty := .boolean) hX hQ rfl rfl dX7_isOf_73
    have h := ite_t z23 h
    refine V.pick [] rfl ?_
    exact v7_isOf_68 hX hN hQ ho σ h
  have h := ite_f z21 h
  refine V_tswD (q := 74) hX dX7_isOf_1 (by have y0 := neI (v := 0) (by decide) z17; have y1 := neI (v := 1) (by decide) z18; have y2 := neI (v := 2) (by decide) z21; omega) (by decide) ?_
  refine V_aload_n (q := 75) hX dX7_isOf_74 0 rfl rfl ?_
  refine V_getI (n := 75) (c := 7) (k := 0) (nf := 7) (C := RX7) (T := TX7) (q := 78) hX rfl rfl iG7 k1_40 rfl rfl ho hN rfl rfl dX7_isOf_75 rfl ?_
  refine V_iload_n (q := 79) hX dX7_isOf_78 1 rfl rfl ?_
  refine V_icmp_ne (q := 82) (t := 86) hX dX7_isOf_79 (by decide) rfl (fun z24 => ?_) (fun z24 => ?_)
  · have h := ite_f z24 h
    refine V_iconst (v := 0) (q := 87) hX dX7_isOf_86 (by decide) rfl ?_
    obtain ⟨f1, f2⟩ := some2 h
    rw [f1, f2] at hQ
    exact V_zret (ty := .boolean) hX hQ rfl rfl dX7_isOf_87
  have h := ite_t z24 h
  refine V_iconst (v := 1) (q := 83) hX dX7_isOf_82 (by decide) rfl ?_
  refine V_goto hX dX7_isOf_83 (q := 87) (by decide) ?_
  obtain ⟨f1, f2⟩ := some2 h
  rw [f1, f2] at hQ
  exact V_zret (ty := .boolean) hX hQ rfl rfl dX7_isOf_87
set_option maxRecDepth 100000 in
set_option maxHeartbeats 4000000 in
theorem c7_isOf {g : GT} {l : Launch} (hg : OkG g) (hN : 75 ≤ g.N) {o : Nat} {a1 : Int32} (ho : Ob 75 7 o) {σ : St} {r : Int32} {σ' : St} (h : S7_isOf o a1 σ = some (r, σ')) : CtI g l m7_isOf yX7_isOf [.ref (g.ad (o)), .int (a1)] σ r σ' := CtI.of hg (by decide) rfl rfl (fun X h1 h2 h3 => v7_isOf h1 hN (res := (r, σ')) h3 ho h)

abbrev m7_standing : MI := (cX7_standing, RX7, 3, some .int, 2)
def S7_standing_33 (o : Nat) (a1 : Int32) (s0 : Int32) (s1 : Int32) (σ : St) : Option (Int32 × St) := bnd (S8_within (s0 + s1) (0 : Int32) (9 : Int32) σ) fun r18 σ17 => some (r18, σ17)
def S7_standing_13 (o : Nat) (a1 : Int32) (s0 : Int32) (σ : St) : Option (Int32 × St) := if (gI σ o 0) = (4 : Int32) then (S7_standing_33 o a1 (a1 + s0) (gI σ o 1) σ) else (S7_standing_33 o a1 (a1 + s0) (0 : Int32) σ)
def S7_standing (o : Nat) (a1 : Int32) (σ : St) : Option (Int32 × St) := bnd (S7_isOf o (2 : Int32) σ) fun r22 σ21 => if r22 = 0 then (S7_standing_13 o a1 (0 : Int32) σ21) else (S7_standing_13 o a1 (1 : Int32) σ21)
set_option maxRecDepth 100000 in
set_option maxHeartbeats 4000000 in
theorem v7_standing_33 {g : GT} {X : XT} {o : Nat} {a1 : Int32} (hX : OkX g X (m7_standing)) (hN : 75 ≤ g.N) {res : Int32 × St} (hQ : X.Q = QI g X res.1 res.2 ∧ X.cells = 0 ∧ X.slots = 0) (ho : Ob 75 7 o)  (s0 : Int32) (s1 : Int32) (σ : St)  (h : S7_standing_33 o a1 s0 s1 σ = some res) : V g X (m7_standing) 33 [] [.int (s1), .int (s0)] σ := by
  unfold S7_standing_33 at h
  refine V_iadd (q := 34) hX dX7_standing_33 rfl ?_
  refine V_iconst (v := 0) (q := 35) hX dX7_standing_34 (by decide) rfl ?_
  refine V_bipush (v := 9) (q := 37) hX dX7_standing_35 (by decide) rfl ?_
  obtain ⟨r18, σ17, e19, h⟩ := bnd_some h
  refine V_cnI (host := "RingOfStraw") (As := [.int ((s0 + s1)), .int ((0 : Int32)), .int ((9 : Int32))]) (q := 40) hX (c8_within hX.2.2.2.2.1 hN e19) (by decide +kernel) k3_35 k1_1 (cons_g k3_36) (nA := 3) (by decide) rfl rfl rfl rfl rfl dX7_standing_37 rfl ?_
  obtain ⟨f1, f2⟩ := some2 h
  rw [f1, f2] at hQ
  exact V_iret hX hQ rfl dX7_standing_40
set_option maxRecDepth 100000 in
set_option maxHeartbeats 4000000 in
theorem v7_standing_13 {g : GT} {X : XT} {o : Nat} {a1 : Int32} (hX : OkX g X (m7_standing)) (hN : 75 ≤ g.N) {res : Int32 × St} (hQ : X.Q = QI g X res.1 res.2 ∧ X.cells = 0 ∧ X.slots = 0) (ho : Ob 75 7 o)  (s0 : Int32) (σ : St)  (h : S7_standing_13 o a1 s0 σ = some res) : V g X (m7_standing) 13 [(0, .ref (g.ad (o))), (1, .int (a1))] [.int (s0)] σ := by
  unfold S7_standing_13 at h
  refine V_istore_n (lv' := [(2, .int (s0)), (0, .ref (g.ad (o))), (1, .int (a1))]) (q := 14) hX dX7_standing_13 rfl rfl rfl ?_
  refine V_iload_n (q := 15) hX dX7_standing_14 2 rfl rfl ?_
  refine V_iload_n (q := 16) hX dX7_standing_15 0 rfl rfl ?_
  refine V_iadd (q := 17) hX dX7_standing_16 rfl ?_
  refine V_aload_n (q := 18) hX dX7_standing_17 1 rfl rfl ?_
  refine V_getI (n := 75) (c := 7) (k := 0) (nf := 7) (C := RX7) (T := TX7) (q := 21) hX rfl rfl iG7 k1_40 rfl rfl ho hN rfl rfl dX7_standing_18 rfl ?_
  refine V_iconst (v := 4) (q := 22) hX dX7_standing_21 (by decide) rfl ?_
  refine V_icmp_ne (q := 25) (t := 32) hX dX7_standing_22 (by decide) rfl (fun z20 => ?_) (fun z20 => ?_)
  · have h := ite_f z20 h
    refine V_iconst (v := 0) (q := 33) hX dX7_standing_32 (by decide) rfl ?_
    refine V.pick [] rfl ?_
    exact v7_standing_33 hX hN hQ ho (a1 + s0) (0 : Int32) σ h
  have h := ite_t z20 h
  refine V_aload_n (q := 26) hX dX7_standing_25 1 rfl rfl ?_
  refine V_getI (n := 75) (c := 7) (k := 1) (nf := 7) (C := RX7) (T := TX7) (q := 29) hX rfl rfl iG7 k1_41 rfl rfl ho hN rfl rfl dX7_standing_26 rfl ?_
  refine V_goto hX dX7_standing_29 (q := 33) (by decide) ?_
  refine V.pick [] rfl ?_
  exact v7_standing_33 hX hN hQ ho (a1 + s0) (gI σ o 1) σ h
set_option maxRecDepth 100000 in
set_option maxHeartbeats 4000000 in
theorem v7_standing {g : GT} {X : XT} {o : Nat} {a1 : Int32} (hX : OkX g X (m7_standing)) (hN : 75 ≤ g.N) {res : Int32 × St} (hQ : X.Q = QI g X res.1 res.2 ∧ X.cells = 0 ∧ X.slots = 0) (ho : Ob 75 7 o) {σ : St} (h : S7_standing o a1 σ = some res) : V g X (m7_standing) 0 [(0, .ref (g.ad (o))), (1, .int (a1))] [] σ := by
  unfold S7_standing at h
  refine V_aload_n (q := 1) hX dX7_standing_0 0 rfl rfl ?_
  refine V_iconst (v := 2) (q := 2) hX dX7_standing_1 (by decide) rfl ?_
  obtain ⟨r22, σ21, e23, h⟩ := bnd_some h
  refine V_cvI (n := 75) (c := 7) (nf := 7) (C := RX7) (T := TX7) (As := [.int ((2 : Int32))]) (q := 5) hX (c7_isOf hX.2.2.2.2.1 hN ho e23) (goodV_of k3_106 k3_107 k3_108 k1_3 (cons_g k3_109)) (nA := 1) (by decide) rfl rfl rfl rfl rfl ho hN rfl rfl rfl dX7_standing_2 rfl ?_
  refine V_if_eq (q := 8) (t := 12) hX dX7_standing_5 (by decide) rfl (fun z24 => ?_) (fun z24 => ?_)
  · have h := ite_t z24 h
    refine V_iconst (v := 0) (q := 13) hX dX7_standing_12 (by decide) rfl ?_
    refine V.pick [0, 1] rfl ?_
    exact v7_standing_13 hX hN hQ ho (0 : Int32) σ21 h
  have h := ite_f z24 h
  refine V_iconst (v := 1) (q := 9) hX dX7_standing_8 (by decide) rfl ?_
  refine V_goto hX dX7_standing_9 (q := 13) (by decide) ?_
  refine V.pick [0, 1] rfl ?_
  exact v7_standing_13 hX hN hQ ho (1 : Int32) σ21 h
set_option maxRecDepth 100000 in
set_option maxHeartbeats 4000000 in
theorem c7_standing {g : GT} {l : Launch} (hg : OkG g) (hN : 75 ≤ g.N) {o : Nat} {a1 : Int32} (ho : Ob 75 7 o) {σ : St} {r : Int32} {σ' : St} (h : S7_standing o a1 σ = some (r, σ')) : CtI g l m7_standing yX7_standing [.ref (g.ad (o)), .int (a1)] σ r σ' := CtI.of hg (by decide) rfl rfl (fun X h1 h2 h3 => v7_standing h1 hN (res := (r, σ')) h3 ho h)

abbrev m7_starts : MI := (cX7_starts, RX7, 2, some .int, 1)
def S7_starts (o : Nat) (a1 : Int32) (σ : St) : Option (Int32 × St) := if (gI σ o 0) = (4 : Int32) then (some ((jmin a1 (0 : Int32)), σ)) else (if (gI σ o 0) = (3 : Int32) then (some ((a1 + (1 : Int32)), σ)) else (some (a1, σ)))
set_option maxRecDepth 100000 in
set_option maxHeartbeats 4000000 in
theorem v7_starts {g : GT} {X : XT} {o : Nat} {a1 : Int32} (hX : OkX g X (m7_starts)) (hN : 75 ≤ g.N) {res : Int32 × St} (hQ : X.Q = QI g X res.1 res.2 ∧ X.cells = 0 ∧ X.slots = 0) (ho : Ob 75 7 o) {σ : St} (h : S7_starts o a1 σ = some res) : V g X (m7_starts) 0 [(0, .ref (g.ad (o))), (1, .int (a1))] [] σ := by
  unfold S7_starts at h
  refine V_aload_n (q := 1) hX dX7_starts_0 0 rfl rfl ?_
  refine V_getI (n := 75) (c := 7) (k := 0) (nf := 7) (C := RX7) (T := TX7) (q := 4) hX rfl rfl iG7 k1_40 rfl rfl ho hN rfl rfl dX7_starts_1 rfl ?_
  refine V_iconst (v := 4) (q := 5) hX dX7_starts_4 (by decide) rfl ?_
  refine V_icmp_ne (q := 8) (t := 14) hX dX7_starts_5 (by decide) rfl (fun z3 => ?_) (fun z3 => ?_)
  · have h := ite_f z3 h
    refine V_aload_n (q := 15) hX dX7_starts_14 0 rfl rfl ?_
    refine V_getI (n := 75) (c := 7) (k := 0) (nf := 7) (C := RX7) (T := TX7) (q := 18) hX rfl rfl iG7 k1_40 rfl rfl ho hN rfl rfl dX7_starts_15 rfl ?_
    refine V_iconst (v := 3) (q := 19) hX dX7_starts_18 (by decide) rfl ?_
    refine V_icmp_ne (q := 22) (t := 28) hX dX7_starts_19 (by decide) rfl (fun z4 => ?_) (fun z4 => ?_)
    · have h := ite_f z4 h
      refine V_iload_n (q := 29) hX dX7_starts_28 1 rfl rfl ?_
      obtain ⟨f1, f2⟩ := some2 h
      rw [f1, f2] at hQ
      exact V_iret hX hQ rfl dX7_starts_29
    have h := ite_t z4 h
    refine V_iload_n (q := 23) hX dX7_starts_22 1 rfl rfl ?_
    refine V_iconst (v := 1) (q := 24) hX dX7_starts_23 (by decide) rfl ?_
    refine V_iadd (q := 25) hX dX7_starts_24 rfl ?_
    refine V_goto hX dX7_starts_25 (q := 29) (by decide) ?_
    obtain ⟨f1, f2⟩ := some2 h
    rw [f1, f2] at hQ
    exact V_iret hX hQ rfl dX7_starts_29
  have h := ite_t z3 h
  refine V_iload_n (q := 9) hX dX7_starts_8 1 rfl rfl ?_
  refine V_iconst (v := 0) (q := 10) hX dX7_starts_9 (by decide) rfl ?_
  refine V_mmin (q := 13) hX k3_115 k2_91 k1_14 k2_92 rfl dX7_starts_10 rfl ?_
  obtain ⟨f1, f2⟩ := some2 h
  rw [f1, f2] at hQ
  exact V_iret hX hQ rfl dX7_starts_13
set_option maxRecDepth 100000 in
set_option maxHeartbeats 4000000 in
theorem c7_starts {g : GT} {l : Launch} (hg : OkG g) (hN : 75 ≤ g.N) {o : Nat} {a1 : Int32} (ho : Ob 75 7 o) {σ : St} {r : Int32} {σ' : St} (h : S7_starts o a1 σ = some (r, σ')) : CtI g l m7_starts yX7_starts [.ref (g.ad (o)), .int (a1)] σ r σ' := CtI.of hg (by decide) rfl rfl (fun X h1 h2 h3 => v7_starts h1 hN (res := (r, σ')) h3 ho h)

abbrev m4_enters : MI := (cX4_enters, RX4, 3, some .int, 3)
def S4_enters (o : Nat) (a1 : Nat) (a2 : Nat) (σ : St) : Option (Int32 × St) := if Ob 75 7 (gR (fillS (sR (sR σ o 2 a1) o 3 a2) (o + 1) 144 (-1 : Int32)) o 2) then (if Ob 75 6 (gR (fillS (sR (sR σ o 2 a1) o 3 a2) (o + 1) 144 (-1 : Int32)) o 3) then (if Ob 75 7 (gR (fillS (sR (sR σ o 2 a1) o 3 a2) (o + 1) 144 (-1 : Int32)) o 2) then (bnd (S2_says (gR (fillS (sR (sR σ o 2 a1) o 3 a2) (o + 1) 144 (-1 : Int32)) o 3) (1 : Int32) (gR (fillS (sR (sR σ o 2 a1) o 3 a2) (o + 1) 144 (-1 : Int32)) o 2) (0 : Int32) (0 : Int32) (0 : Int32) (fillS (sR (sR σ o 2 a1) o 3 a2) (o + 1) 144 (-1 : Int32))) fun r23 σ22 => bnd (S7_standing (gR (fillS (sR (sR σ o 2 a1) o 3 a2) (o + 1) 144 (-1 : Int32)) o 2) r23 σ22) fun r26 σ25 => if Ob 75 7 (gR (sI σ25 o 4 r26) o 2) then (if Ob 75 6 (gR (sI σ25 o 4 r26) o 3) then (if Ob 75 7 (gR (sI σ25 o 4 r26) o 2) then (bnd (S2_says (gR (sI σ25 o 4 r26) o 3) (2 : Int32) (gR (sI σ25 o 4 r26) o 2) (0 : Int32) (0 : Int32) (4 : Int32) (sI σ25 o 4 r26)) fun r32 σ31 => bnd (S7_starts (gR (sI σ25 o 4 r26) o 2) r32 σ31) fun r35 σ34 => some (r35, σ34)) else none) else none) else none) else none) else none) else none
set_option maxRecDepth 100000 in
set_option maxHeartbeats 4000000 in
theorem v4_enters {g : GT} {X : XT} {o : Nat} {a1 : Nat} {a2 : Nat} (hX : OkX g X (m4_enters)) (hN : 75 ≤ g.N) {res : Int32 × St} (hQ : X.Q = QI g X res.1 res.2 ∧ X.cells = 0 ∧ X.slots = 0) (ho : Ob 75 4 o) (ha1 : Ob 75 7 a1) (ha2 : Ob 75 6 a2) {σ : St} (h : S4_enters o a1 a2 σ = some res) : V g X (m4_enters) 0 [(0, .ref (g.ad (o))), (1, .ref (g.ad (a1))), (2, .ref (g.ad (a2)))] [] σ := by
  unfold S4_enters at h
  refine V_aload_n (q := 1) hX dX4_enters_0 0 rfl rfl ?_
  refine V_aload_n (q := 2) hX dX4_enters_1 1 rfl rfl ?_
  refine V_putM (n := 75) (c := 4) (k := 2) (nf := 6) (C := RX4) (T := TX4) (q := 5) hX rfl rfl iG4 k1_168 rfl rfl ho hN rfl tyX4 tyX4_ok nmX4 rfl rfl rfl (ty := .object RX7) (tyX4_ok 2 (by decide)) rfl rfl dX4_enters_2 rfl ?_
  refine V_aload_n (q := 6) hX dX4_enters_5 0 rfl rfl ?_
  refine V_aload_n (q := 7) hX dX4_enters_6 2 rfl rfl ?_
  refine V_putM (n := 75) (c := 4) (k := 3) (nf := 6) (C := RX4) (T := TX4) (q := 10) hX rfl rfl iG4 k1_169 rfl rfl ho hN rfl tyX4 tyX4_ok nmX4 rfl rfl rfl (ty := .object RX6) (tyX4_ok 3 (by decide)) rfl rfl dX4_enters_7 rfl ?_
  refine V_aload_n (q := 11) hX dX4_enters_10 0 rfl rfl ?_
  refine V_getF (r := (o + 1)) (n := 75) (c := 4) (k := 1) (nf := 6) (C := RX4) (T := TX4) (q := 14) hX rfl rfl iG4 k1_167 rfl rfl ho hN rfl rfl rfl (rf4b ho) dX4_enters_11 rfl ?_
  refine V_iconst (v := -1) (q := 15) hX dX4_enters_14 (by decide) rfl ?_
  refine V_fill (n := 75) (len := 144) (q := 18) hX (ar4 ho) hN (by decide) k3_98 rfl rfl dX4_enters_15 rfl ?_
  refine V_aload_n (q := 19) hX dX4_enters_18 0 rfl rfl ?_
  refine V_aload_n (q := 20) hX dX4_enters_19 0 rfl rfl ?_
  obtain ⟨hp19, h⟩ := chk_t h
  refine V_getM (n := 75) (c := 4) (k := 2) (nf := 6) (C := RX4) (T := TX4) (q := 23) hX rfl rfl iG4 k1_168 rfl rfl ho hN rfl rfl rfl dX4_enters_20 rfl ?_
  refine V_aload_n (q := 24) hX dX4_enters_23 0 rfl rfl ?_
  refine V_getF (r := 33) (n := 75) (c := 4) (k := 0) (nf := 6) (C := RX4) (T := TX4) (q := 27) hX rfl rfl iG4 k1_166 rfl rfl ho hN rfl rfl rfl (rf4a ho) dX4_enters_24 rfl ?_
  refine V_aload_n (q := 28) hX dX4_enters_27 0 rfl rfl ?_
  obtain ⟨hp20, h⟩ := chk_t h
  refine V_getM (n := 75) (c := 4) (k := 3) (nf := 6) (C := RX4) (T := TX4) (q := 31) hX rfl rfl iG4 k1_169 rfl rfl ho hN rfl rfl rfl dX4_enters_28 rfl ?_
  refine V_iconst (v := 1) (q := 32) hX dX4_enters_31 (by decide) rfl ?_
  refine V_aload_n (q := 33) hX dX4_enters_32 0 rfl rfl ?_
  obtain ⟨hp21, h⟩ := chk_t h
  refine V_getM (n := 75) (c := 4) (k := 2) (nf := 6) (C := RX4) (T := TX4) (q := 36) hX rfl rfl iG4 k1_168 rfl rfl ho hN rfl rfl rfl dX4_enters_33 rfl ?_
  refine V_iconst (v := 0) (q := 37) hX dX4_enters_36 (by decide) rfl ?_
  refine V_iconst (v := 0) (q := 38) hX dX4_enters_37 (by decide) rfl ?_
  refine V_iconst (v := 0) (q := 39) hX dX4_enters_38 (by decide) rfl ?_
  obtain ⟨r23, σ22, e24, h⟩ := bnd_some h
  refine V_cvI (n := 75) (c := 2) (nf := 1) (C := RX2) (T := TX2) (As := [.ref (g.ad ((gR (fillS (sR (sR σ o 2 a1) o 3 a2) (o + 1) 144 (-1 : Int32)) o 3))), .int ((1 : Int32)), .ref (g.ad ((gR (fillS (sR (sR σ o 2 a1) o 3 a2) (o + 1) 144 (-1 : Int32)) o 2))), .int ((0 : Int32)), .int ((0 : Int32)), .int ((0 : Int32))]) (q := 42) hX (c2_says hX.2.2.2.2.1 hN hp20 hp21 e24) (goodV_of k3_101 k3_10 k3_11 k1_6 (cons_g k3_12)) (nA := 6) (by decide) rfl rfl rfl rfl rfl ⟨rfl, by decide⟩ hN rfl rfl rfl dX4_enters_39 rfl ?_
  obtain ⟨r26, σ25, e27, h⟩ := bnd_some h
  refine V_cvI (n := 75) (c := 7) (nf := 7) (C := RX7) (T := TX7) (As := [.int (r23)]) (q := 45) hX (c7_standing hX.2.2.2.2.1 hN hp19 e27) (goodV_of k3_102 k3_103 k3_104 k1_3 (cons_g k3_105)) (nA := 1) (by decide) rfl rfl rfl rfl rfl hp19 hN rfl rfl rfl dX4_enters_42 rfl ?_
  refine V_putI (n := 75) (c := 4) (k := 4) (nf := 6) (C := RX4) (T := TX4) (q := 48) hX rfl rfl iG4 k1_170 rfl rfl ho hN rfl tyX4 tyX4_ok nmX4 rfl rfl (ty := .int) (tyX4_ok 4 (by decide)) rfl rfl dX4_enters_45 rfl ?_
  refine V_aload_n (q := 49) hX dX4_enters_48 0 rfl rfl ?_
  obtain ⟨hp28, h⟩ := chk_t h
  refine V_getM (n := 75) (c := 4) (k := 2) (nf := 6) (C := RX4) (T := TX4) (q := 52) hX rfl rfl iG4 k1_168 rfl rfl ho hN rfl rfl rfl dX4_enters_49 rfl ?_
  refine V_aload_n (q := 53) hX dX4_enters_52 0 rfl rfl ?_
  refine V_getF (r := 33) (n := 75) (c := 4) (k := 0) (nf := 6) (C := RX4) (T := TX4) (q := 56) hX rfl rfl iG4 k1_166 rfl rfl ho hN rfl rfl rfl (rf4a ho) dX4_enters_53 rfl ?_
  refine V_aload_n (q := 57) hX dX4_enters_56 0 rfl rfl ?_
  obtain ⟨hp29, h⟩ := chk_t h
  refine V_getM (n := 75) (c := 4) (k := 3) (nf := 6) (C := RX4) (T := TX4) (q := 60) hX rfl rfl iG4 k1_169 rfl rfl ho hN rfl rfl rfl dX4_enters_57 rfl ?_
  refine V_iconst (v := 2) (q := 61) hX dX4_enters_60 (by decide) rfl ?_
  refine V_aload_n (q := 62) hX dX4_enters_61 0 rfl rfl ?_
  obtain ⟨hp30, h⟩ := chk_t h
  refine V_getM (n := 75) (c := 4) (k := 2) (nf := 6) (C := RX4) (T := TX4) (q := 65) hX rfl rfl iG4 k1_168 rfl rfl ho hN rfl rfl rfl dX4_enters_62 rfl ?_
  refine V_iconst (v := 0) (q := 66) hX dX4_enters_65 (by decide) rfl ?_
  refine V_iconst (v := 0) (q := 67) hX dX4_enters_66 (by decide) rfl ?_
  refine V_iconst (v := 4) (q := 68) hX dX4_enters_67 (by decide) rfl ?_
  obtain ⟨r32, σ31, e33, h⟩ := bnd_some h
  refine V_cvI (n := 75) (c := 2) (nf := 1) (C := RX2) (T := TX2) (As := [.ref (g.ad ((gR (sI σ25 o 4 r26) o 3))), .int ((2 : Int32)), .ref (g.ad ((gR (sI σ25 o 4 r26) o 2))), .int ((0 : Int32)), .int ((0 : Int32)), .int ((4 : Int32))]) (q := 71) hX (c2_says hX.2.2.2.2.1 hN hp29 hp30 e33) (goodV_of k3_101 k3_10 k3_11 k1_6 (cons_g k3_12)) (nA := 6) (by decide) rfl rfl rfl rfl rfl ⟨rfl, by decide⟩ hN rfl rfl rfl dX4_enters_68 rfl ?_
  obtain ⟨r35, σ34, e36, h⟩ := bnd_some h
  refine V_cvI (n := 75) (c := 7) (nf := 7) (C := RX7) (T := TX7) (As := [.int (r32)]) (q := 74) hX (c7_starts hX.2.2.2.2.1 hN hp28 e36) (goodV_of k3_111 k3_112 k3_113 k1_3 (cons_g k3_114)) (nA := 1) (by decide) rfl rfl rfl rfl rfl hp28 hN rfl rfl rfl dX4_enters_71 rfl ?_
  obtain ⟨f1, f2⟩ := some2 h
  rw [f1, f2] at hQ
  exact V_iret hX hQ rfl dX4_enters_74
set_option maxRecDepth 100000 in
set_option maxHeartbeats 4000000 in
theorem c4_enters {g : GT} {l : Launch} (hg : OkG g) (hN : 75 ≤ g.N) {o : Nat} {a1 : Nat} {a2 : Nat} (ho : Ob 75 4 o) (ha1 : Ob 75 7 a1) (ha2 : Ob 75 6 a2) {σ : St} {r : Int32} {σ' : St} (h : S4_enters o a1 a2 σ = some (r, σ')) : CtI g l m4_enters yX4_enters [.ref (g.ad (o)), .ref (g.ad (a1)), .ref (g.ad (a2))] σ r σ' := CtI.of hg (by decide) rfl rfl (fun X h1 h2 h3 => v4_enters h1 hN (res := (r, σ')) h3 ho ha1 ha2 h)

abbrev m0_pair : MI := (cX0_pair, RX0, 5, none, 4)
def S0_pair (a1 : Nat) (a2 : Nat) (a3 : Nat) (σ : St) : Option (Unit × St) := bnd (S4_enters 37 a1 a3 σ) fun r11 σ10 => bnd (S4_enters 43 a2 a3 σ10) fun r14 σ13 => bnd (S8_within ((4 : Int32) + (r11 - r14)) (1 : Int32) (7 : Int32) σ13) fun r17 σ16 => some ((), (sI σ16 35 3 r17))
set_option maxRecDepth 100000 in
set_option maxHeartbeats 4000000 in
theorem v0_pair {g : GT} {X : XT} {a1 : Nat} {a2 : Nat} {a3 : Nat} (hX : OkX g X (m0_pair)) (hN : 75 ≤ g.N) {res : Unit × St} (hQ : X.Q = QV g X res.2 ∧ X.cells = 0 ∧ X.slots = 0) (ha1 : Ob 75 7 a1) (ha2 : Ob 75 7 a2) (ha3 : Ob 75 6 a3) {σ : St} (h : S0_pair a1 a2 a3 σ = some res) : V g X (m0_pair) 0 [(0, .ref (g.ad (35))), (1, .ref (g.ad (a1))), (2, .ref (g.ad (a2))), (3, .ref (g.ad (a3)))] [] σ := by
  unfold S0_pair at h
  refine V_aload_n (q := 1) hX dX0_pair_0 0 rfl rfl ?_
  refine V_getF (r := 37) (n := 75) (c := 0) (k := 0) (nf := 6) (C := RX0) (T := TX0) (q := 4) hX rfl rfl iG0 k1_185 rfl rfl ⟨rfl, by decide⟩ hN rfl rfl rfl rfl dX0_pair_1 rfl ?_
  refine V_aload_n (q := 5) hX dX0_pair_4 1 rfl rfl ?_
  refine V_aload_n (q := 6) hX dX0_pair_5 3 rfl rfl ?_
  obtain ⟨r11, σ10, e12, h⟩ := bnd_some h
  refine V_cvI (n := 75) (c := 4) (nf := 6) (C := RX4) (T := TX4) (As := [.ref (g.ad (a1)), .ref (g.ad (a3))]) (q := 9) hX (c4_enters hX.2.2.2.2.1 hN ⟨rfl, by decide⟩ ha1 ha3 e12) (goodV_of k3_94 k3_95 k3_96 k1_8 (cons_g k3_97)) (nA := 2) (by decide) rfl rfl rfl rfl rfl ⟨rfl, by decide⟩ hN rfl rfl rfl dX0_pair_6 rfl ?_
  refine V_aload_n (q := 10) hX dX0_pair_9 0 rfl rfl ?_
  refine V_getF (r := 43) (n := 75) (c := 0) (k := 1) (nf := 6) (C := RX0) (T := TX0) (q := 13) hX rfl rfl iG0 k1_186 rfl rfl ⟨rfl, by decide⟩ hN rfl rfl rfl rfl dX0_pair_10 rfl ?_
  refine V_aload_n (q := 14) hX dX0_pair_13 2 rfl rfl ?_
  refine V_aload_n (q := 15) hX dX0_pair_14 3 rfl rfl ?_
  obtain ⟨r14, σ13, e15, h⟩ := bnd_some h
  refine V_cvI (n := 75) (c := 4) (nf := 6) (C := RX4) (T := TX4) (As := [.ref (g.ad (a2)), .ref (g.ad (a3))]) (q := 18) hX (c4_enters hX.2.2.2.2.1 hN ⟨rfl, by decide⟩ ha2 ha3 e15) (goodV_of k3_94 k3_95 k3_96 k1_8 (cons_g k3_97)) (nA := 2) (by decide) rfl rfl rfl rfl rfl ⟨rfl, by decide⟩ hN rfl rfl rfl dX0_pair_15 rfl ?_
  refine V_isub (q := 19) hX dX0_pair_18 rfl ?_
  refine V_istore (lv' := [(4, .int ((r11 - r14))), (0, .ref (g.ad (35))), (1, .ref (g.ad (a1))), (2, .ref (g.ad (a2))), (3, .ref (g.ad (a3)))]) (q := 21) hX dX0_pair_19 rfl rfl rfl ?_
  refine V_aload_n (q := 22) hX dX0_pair_21 1 rfl rfl ?_
  refine V_iconst (v := 4) (q := 23) hX dX0_pair_22 (by decide) rfl ?_
  refine V_iload (q := 25) hX dX0_pair_23 0 rfl rfl ?_
  refine V_iadd (q := 26) hX dX0_pair_25 rfl ?_
  refine V_iconst (v := 1) (q := 27) hX dX0_pair_26 (by decide) rfl ?_
  refine V_bipush (v := 7) (q := 29) hX dX0_pair_27 (by decide) rfl ?_
  obtain ⟨r17, σ16, e18, h⟩ := bnd_some h
  refine V_cnI (host := "RingOfStraw") (As := [.int (((4 : Int32) + (r11 - r14))), .int ((1 : Int32)), .int ((7 : Int32))]) (q := 32) hX (c8_within hX.2.2.2.2.1 hN e18) (by decide +kernel) k3_35 k1_1 (cons_g k3_36) (nA := 3) (by decide) rfl rfl rfl rfl rfl dX0_pair_29 rfl ?_
  refine V_putI (n := 75) (c := 0) (k := 3) (nf := 6) (C := RX0) (T := TX0) (q := 35) hX rfl rfl iG0 k1_188 rfl rfl ⟨rfl, by decide⟩ hN rfl tyX0 tyX0_ok nmX0 rfl rfl (ty := .int) (tyX0_ok 3 (by decide)) rfl rfl dX0_pair_32 rfl ?_
  obtain ⟨f1, f2⟩ := some2 h
  rw [f2] at hQ
  exact V_vret hX hQ rfl dX0_pair_35
set_option maxRecDepth 100000 in
set_option maxHeartbeats 4000000 in
theorem c0_pair {g : GT} {l : Launch} (hg : OkG g) (hN : 75 ≤ g.N) {a1 : Nat} {a2 : Nat} {a3 : Nat} (ha1 : Ob 75 7 a1) (ha2 : Ob 75 7 a2) (ha3 : Ob 75 6 a3) {σ : St} {r : Unit} {σ' : St} (h : S0_pair a1 a2 a3 σ = some (r, σ')) : CtV g l m0_pair yX0_pair [.ref (g.ad (35)), .ref (g.ad (a1)), .ref (g.ad (a2)), .ref (g.ad (a3))] σ σ' := CtV.of hg (by decide) rfl rfl (fun X h1 h2 h3 => v0_pair h1 hN (res := (r, σ')) h3 ha1 ha2 ha3 h)

abbrev m4_begins : MI := (cX4_begins, RX4, 1, none, 1)
def S4_begins (o : Nat) (σ : St) : Option (Unit × St) := some ((), (sI σ o 5 (0 : Int32)))
set_option maxRecDepth 100000 in
set_option maxHeartbeats 4000000 in
theorem v4_begins {g : GT} {X : XT} {o : Nat} (hX : OkX g X (m4_begins)) (hN : 75 ≤ g.N) {res : Unit × St} (hQ : X.Q = QV g X res.2 ∧ X.cells = 0 ∧ X.slots = 0) (ho : Ob 75 4 o) {σ : St} (h : S4_begins o σ = some res) : V g X (m4_begins) 0 [(0, .ref (g.ad (o)))] [] σ := by
  unfold S4_begins at h
  refine V_aload_n (q := 1) hX dX4_begins_0 0 rfl rfl ?_
  refine V_iconst (v := 0) (q := 2) hX dX4_begins_1 (by decide) rfl ?_
  refine V_putI (n := 75) (c := 4) (k := 5) (nf := 6) (C := RX4) (T := TX4) (q := 5) hX rfl rfl iG4 k1_171 rfl rfl ho hN rfl tyX4 tyX4_ok nmX4 rfl rfl (ty := .int) (tyX4_ok 5 (by decide)) rfl rfl dX4_begins_2 rfl ?_
  obtain ⟨f1, f2⟩ := some2 h
  rw [f2] at hQ
  exact V_vret hX hQ rfl dX4_begins_5
set_option maxRecDepth 100000 in
set_option maxHeartbeats 4000000 in
theorem c4_begins {g : GT} {l : Launch} (hg : OkG g) (hN : 75 ≤ g.N) {o : Nat} (ho : Ob 75 4 o) {σ : St} {r : Unit} {σ' : St} (h : S4_begins o σ = some (r, σ')) : CtV g l m4_begins yX4_begins [.ref (g.ad (o))] σ σ' := CtV.of hg (by decide) rfl rfl (fun X h1 h2 h3 => v4_begins h1 hN (res := (r, σ')) h3 ho h)

abbrev m8_actIn : MI := (cX8_actIn, RX8, 2, some .int, 1)
def S8_actIn (a0 : Int32) (a1 : Int32) (σ : St) : Option (Int32 × St) := some (((a0 >>> (((2 : Int32) * a1) &&& 31)) &&& (3 : Int32)), σ)
set_option maxRecDepth 100000 in
set_option maxHeartbeats 4000000 in
theorem v8_actIn {g : GT} {X : XT} {a0 : Int32} {a1 : Int32} (hX : OkX g X (m8_actIn)) (hN : 75 ≤ g.N) {res : Int32 × St} (hQ : X.Q = QI g X res.1 res.2 ∧ X.cells = 0 ∧ X.slots = 0) {σ : St} (h : S8_actIn a0 a1 σ = some res) : V g X (m8_actIn) 0 [(0, .int (a0)), (1, .int (a1))] [] σ := by
  unfold S8_actIn at h
  refine V_iload_n (q := 1) hX dX8_actIn_0 0 rfl rfl ?_
  refine V_iconst (v := 2) (q := 2) hX dX8_actIn_1 (by decide) rfl ?_
  refine V_iload_n (q := 3) hX dX8_actIn_2 1 rfl rfl ?_
  refine V_imul (q := 4) hX dX8_actIn_3 rfl ?_
  refine V_ishr (q := 5) hX dX8_actIn_4 rfl ?_
  refine V_iconst (v := 3) (q := 6) hX dX8_actIn_5 (by decide) rfl ?_
  refine V_iand (q := 7) hX dX8_actIn_6 rfl ?_
  obtain ⟨f1, f2⟩ := some2 h
  rw [f1, f2] at hQ
  exact V_iret hX hQ rfl dX8_actIn_7
set_option maxRecDepth 100000 in
set_option maxHeartbeats 4000000 in
theorem c8_actIn {g : GT} {l : Launch} (hg : OkG g) (hN : 75 ≤ g.N) {a0 : Int32} {a1 : Int32} {σ : St} {r : Int32} {σ' : St} (h : S8_actIn a0 a1 σ = some (r, σ')) : CtI g l m8_actIn yX8_actIn [.int (a0), .int (a1)] σ r σ' := CtI.of hg (by decide) rfl rfl (fun X h1 h2 h3 => v8_actIn h1 hN (res := (r, σ')) h3 h)

abbrev m7_pushes : MI := (cX7_pushes, RX7, 3, some .int, 1)
def S7_pushes (o : Nat) (a1 : Int32) (a2 : Int32) (σ : St) : Option (Int32 × St) := if a2 = 0 then (some ((a1 + ((3 : Int32) * (gI σ o 1))), σ)) else (some (a1, σ))
set_option maxRecDepth 100000 in
set_option maxHeartbeats 4000000 in
theorem v7_pushes {g : GT} {X : XT} {o : Nat} {a1 : Int32} {a2 : Int32} (hX : OkX g X (m7_pushes)) (hN : 75 ≤ g.N) {res : Int32 × St} (hQ : X.Q = QI g X res.1 res.2 ∧ X.cells = 0 ∧ X.slots = 0) (ho : Ob 75 7 o) {σ : St} (h : S7_pushes o a1 a2 σ = some res) : V g X (m7_pushes) 0 [(0, .ref (g.ad (o))), (1, .int (a1)), (2, .int (a2))] [] σ := by
  unfold S7_pushes at h
  refine V_iload_n (q := 1) hX dX7_pushes_0 2 rfl rfl ?_
  refine V_if_ne (q := 4) (t := 15) hX dX7_pushes_1 (by decide) rfl (fun z2 => ?_) (fun z2 => ?_)
  · have h := ite_f z2 h
    refine V_iload_n (q := 16) hX dX7_pushes_15 1 rfl rfl ?_
    obtain ⟨f1, f2⟩ := some2 h
    rw [f1, f2] at hQ
    exact V_iret hX hQ rfl dX7_pushes_16
  have h := ite_t z2 h
  refine V_iload_n (q := 5) hX dX7_pushes_4 1 rfl rfl ?_
  refine V_iconst (v := 3) (q := 6) hX dX7_pushes_5 (by decide) rfl ?_
  refine V_aload_n (q := 7) hX dX7_pushes_6 0 rfl rfl ?_
  refine V_getI (n := 75) (c := 7) (k := 1) (nf := 7) (C := RX7) (T := TX7) (q := 10) hX rfl rfl iG7 k1_41 rfl rfl ho hN rfl rfl dX7_pushes_7 rfl ?_
  refine V_imul (q := 11) hX dX7_pushes_10 rfl ?_
  refine V_iadd (q := 12) hX dX7_pushes_11 rfl ?_
  refine V_goto hX dX7_pushes_12 (q := 16) (by decide) ?_
  obtain ⟨f1, f2⟩ := some2 h
  rw [f1, f2] at hQ
  exact V_iret hX hQ rfl dX7_pushes_16
set_option maxRecDepth 100000 in
set_option maxHeartbeats 4000000 in
theorem c7_pushes {g : GT} {l : Launch} (hg : OkG g) (hN : 75 ≤ g.N) {o : Nat} {a1 : Int32} {a2 : Int32} (ho : Ob 75 7 o) {σ : St} {r : Int32} {σ' : St} (h : S7_pushes o a1 a2 σ = some (r, σ')) : CtI g l m7_pushes yX7_pushes [.ref (g.ad (o)), .int (a1), .int (a2)] σ r σ' := CtI.of hg (by decide) rfl rfl (fun X h1 h2 h3 => v7_pushes h1 hN (res := (r, σ')) h3 ho h)

abbrev m7_forces : MI := (cX7_forces, RX7, 5, some .int, 2)
def S7_forces_68 (o : Nat) (a1 : Int32) (a2 : Int32) (a3 : Int32) (x4 : Int32) (σ : St) : Option (Int32 × St) := if a2 = (1 : Int32) then (some ((x4 + (5 : Int32)), σ)) else (some ((x4 / (2 : Int32)), σ))
def S7_forces_20 (o : Nat) (a1 : Int32) (a2 : Int32) (a3 : Int32) (s0 : Int32) (σ : St) : Option (Int32 × St) := if (gI σ o 0) = 1 then (bnd (S7_pushes o s0 a2 σ) fun r36 σ35 => some (r36, σ35)) else (if (gI σ o 0) = 2 then (S7_forces_68 o a1 a2 a3 s0 σ) else (if (gI σ o 0) = 3 then (if a3 = (2 : Int32) then (some ((0 : Int32), σ)) else (bnd (S7_pushes o s0 a2 σ) fun r42 σ41 => some (r42, σ41))) else (if (gI σ o 0) = 4 then (S7_forces_68 o a1 a2 a3 s0 σ) else (if (gI σ o 0) = 5 then (if a2 = a3 then (some ((s0 / (2 : Int32)), σ)) else (some ((s0 + (gI σ o 1)), σ))) else (some (s0, σ))))))
def S7_forces (o : Nat) (a1 : Int32) (a2 : Int32) (a3 : Int32) (σ : St) : Option (Int32 × St) := if a2 = (2 : Int32) then (if a3 = 0 then (S7_forces_20 o a1 a2 a3 ((2 : Int32) * a1) σ) else (S7_forces_20 o a1 a2 a3 (0 : Int32) σ)) else (S7_forces_20 o a1 a2 a3 a1 σ)
set_option maxRecDepth 100000 in
set_option maxHeartbeats 4000000 in
theorem v7_forces_68 {g : GT} {X : XT} {o : Nat} {a1 : Int32} {a2 : Int32} {a3 : Int32} (hX : OkX g X (m7_forces)) (hN : 75 ≤ g.N) {res : Int32 × St} (hQ : X.Q = QI g X res.1 res.2 ∧ X.cells = 0 ∧ X.slots = 0) (ho : Ob 75 7 o)  (x4 : Int32) (σ : St)  (h : S7_forces_68 o a1 a2 a3 x4 σ = some res) : V g X (m7_forces) 68 [(2, .int (a2)), (4, .int (x4))] [] σ := by
  unfold S7_forces_68 at h
  refine V_iload_n (q := 69) hX dX7_forces_68 0 rfl rfl ?_
  refine V_iconst (v := 1) (q := 70) hX dX7_forces_69 (by decide) rfl ?_
  refine V_icmp_ne (q := 73) (t := 80) hX dX7_forces_70 (by decide) rfl (fun z33 => ?_) (fun z33 => ?_)
  · have h := ite_f z33 h
    refine V_iload (q := 82) hX dX7_forces_80 1 rfl rfl ?_
    refine V_iconst (v := 2) (q := 83) hX dX7_forces_82 (by decide) rfl ?_
    refine V_idiv (q := 84) hX (by decide) dX7_forces_83 rfl ?_
    obtain ⟨f1, f2⟩ := some2 h
    rw [f1, f2] at hQ
    exact V_iret hX hQ rfl dX7_forces_84
  have h := ite_t z33 h
  refine V_iload (q := 75) hX dX7_forces_73 1 rfl rfl ?_
  refine V_iconst (v := 5) (q := 76) hX dX7_forces_75 (by decide) rfl ?_
  refine V_iadd (q := 77) hX dX7_forces_76 rfl ?_
  refine V_goto hX dX7_forces_77 (q := 84) (by decide) ?_
  obtain ⟨f1, f2⟩ := some2 h
  rw [f1, f2] at hQ
  exact V_iret hX hQ rfl dX7_forces_84
set_option maxRecDepth 100000 in
set_option maxHeartbeats 4000000 in
theorem v7_forces_20 {g : GT} {X : XT} {o : Nat} {a1 : Int32} {a2 : Int32} {a3 : Int32} (hX : OkX g X (m7_forces)) (hN : 75 ≤ g.N) {res : Int32 × St} (hQ : X.Q = QI g X res.1 res.2 ∧ X.cells = 0 ∧ X.slots = 0) (ho : Ob 75 7 o)  (s0 : Int32) (σ : St)  (h : S7_forces_20 o a1 a2 a3 s0 σ = some res) : V g X (m7_forces) 20 [(0, .ref (g.ad (o))), (2, .int (a2)), (3, .int (a3))] [.int (s0)] σ := by
  unfold S7_forces_20 at h
  refine V_istore (lv' := [(4, .int (s0)), (0, .ref (g.ad (o))), (2, .int (a2)), (3, .int (a3))]) (q := 22) hX dX7_forces_20 rfl rfl rfl ?_
  refine V_aload_n (q := 23) hX dX7_forces_22 1 rfl rfl ?_
  refine V_getI (n := 75) (c := 7) (k := 0) (nf := 7) (C := RX7) (T := TX7) (q := 26) hX rfl rfl iG7 k1_40 rfl rfl ho hN rfl rfl dX7_forces_23 rfl ?_
  by_cases z34 : (gI σ o 0) = 1
  · have h := ite_t z34 h
    refine V_tsw (q := 60) (off := 34) hX dX7_forces_26 (by rw [z34]; decide) (by rw [z34]; decide) (by rw [z34]; decide) (by decide) ?_
    refine V_aload_n (q := 61) hX dX7_forces_60 1 rfl rfl ?_
    refine V_iload (q := 63) hX dX7_forces_61 0 rfl rfl ?_
    refine V_iload_n (q := 64) hX dX7_forces_63 2 rfl rfl ?_
    obtain ⟨r36, σ35, e37, h⟩ := bnd_some h
    refine V_cvI (n := 75) (c := 7) (nf := 7) (C := RX7) (T := TX7) (As := [.int (s0), .int (a2)]) (q := 67) hX (c7_pushes hX.2.2.2.2.1 hN ho e37) (goodV_of k3_136 k3_138 kp_18 k1_3 (cons_g k3_139)) (nA := 2) (by decide) rfl rfl rfl rfl rfl ho hN rfl rfl rfl dX7_forces_64 rfl ?_
    obtain ⟨f1, f2⟩ := some2 h
    rw [f1, f2] at hQ
    exact V_iret hX hQ rfl dX7_forces_67
  have h := ite_f z34 h
  by_cases z38 : (gI σ o 0) = 2
  · have h := ite_t z38 h
    refine V_tsw (q := 68) (off := 42) hX dX7_forces_26 (by rw [z38]; decide) (by rw [z38]; decide) (by rw [z38]; decide) (by decide) ?_
    refine V.pick [2, 0] rfl ?_
    exact v7_forces_68 hX hN hQ ho s0 σ h
  have h := ite_f z38 h
  by_cases z39 : (gI σ o 0) = 3
  · have h := ite_t z39 h
    refine V_tsw (q := 85) (off := 59) hX dX7_forces_26 (by rw [z39]; decide) (by rw [z39]; decide) (by rw [z39]; decide) (by decide) ?_
    refine V_iload_n (q := 86) hX dX7_forces_85 3 rfl rfl ?_
    refine V_iconst (v := 2) (q := 87) hX dX7_forces_86 (by decide) rfl ?_
    refine V_icmp_ne (q := 90) (t := 94) hX dX7_forces_87 (by decide) rfl (fun z40 => ?_) (fun z40 => ?_)
    · have h := ite_f z40 h
      refine V_aload_n (q := 95) hX dX7_forces_94 1 rfl rfl ?_
      refine V_iload (q := 97) hX dX7_forces_95 0 rfl rfl ?_
      refine V_iload_n (q := 98) hX dX7_forces_97 2 rfl rfl ?_
      obtain ⟨r42, σ41, e43, h⟩ := bnd_some h
      refine V_cvI (n := 75) (c := 7) (nf := 7) (C := RX7) (T := TX7) (As := [.int (s0), .int (a2)]) (q := 101) hX (c7_pushes hX.2.2.2.2.1 hN ho e43) (goodV_of k3_136 k3_138 kp_18 k1_3 (cons_g k3_139)) (nA := 2) (by decide) rfl rfl rfl rfl rfl ho hN rfl rfl rfl dX7_forces_98 rfl ?_
      obtain ⟨f1, f2⟩ := some2 h
      rw [f1, f2] at hQ
      exact V_iret hX hQ rfl dX7_forces_101
    have h := ite_t z40 h
    refine V_iconst (v := 0) (q := 91) hX dX7_forces_90 (by decide) rfl ?_
    refine V_goto hX dX7_forces_91 (q := 101) (by decide) ?_
    obtain ⟨f1, f2⟩ := some2 h
    rw [f1, f2] at hQ
    exact V_iret hX hQ rfl dX7_forces_101
  have h := ite_f z39 h
  by_cases z44 : (gI σ o 0) = 4
  · have h := ite_t z44 h
    refine V_tsw (q := 68) (off := 42) hX dX7_forces_26 (by rw [z44]; decide) (by rw [z44]; decide) (by rw [z44]; decide) (by decide) ?_
    refine V.pick [2, 0] rfl ?_
    exact v7_forces_68 hX hN hQ ho s0 σ h
  have h := ite_f z44 h
  by_cases z45 : (gI σ o 0) = 5
  · have h := ite_t z45 h
    refine V_tsw (q := 102) (off := 76) hX dX7_forces_26 (by rw [z45]; decide) (by rw [z45]; decide) (by rw [z45]; decide) (by decide) ?_
    refine V_iload_n (q := 103) hX dX7_forces_102 2 rfl rfl ?_
    refine V_iload_n (q := 104) hX dX7_forces_103 3 rfl rfl ?_
    refine V_icmp_ne (q := 107) (t := 114) hX dX7_forces_104 (by decide) rfl (fun z46 => ?_) (fun z46 => ?_)
    · have h := ite_f z46 h
      refine V_iload (q := 116) hX dX7_forces_114 0 rfl rfl ?_
      refine V_aload_n (q := 117) hX dX7_forces_116 1 rfl rfl ?_
      refine V_getI (n := 75) (c := 7) (k := 1) (nf := 7) (C := RX7) (T := TX7) (q := 120) hX rfl rfl iG7 k1_41 rfl rfl ho hN rfl rfl dX7_forces_117 rfl ?_
      refine V_iadd (q := 121) hX dX7_forces_120 rfl ?_
      obtain ⟨f1, f2⟩ := some2 h
      rw [f1, f2] at hQ
      exact V_iret hX hQ rfl dX7_forces_121
    have h := ite_t z46 h
    refine V_iload (q := 109) hX dX7_forces_107 0 rfl rfl ?_
    refine V_iconst (v := 2) (q := 110) hX dX7_forces_109 (by decide) rfl ?_
    refine V_idiv (q := 111) hX (by decide) dX7_forces_110 rfl ?_
    refine V_goto hX dX7_forces_111 (q := 121) (by decide) ?_
    obtain ⟨f1, f2⟩ := some2 h
    rw [f1, f2] at hQ
    exact V_iret hX hQ rfl dX7_forces_121
  have h := ite_f z45 h
  refine V_tswD (q := 122) hX dX7_forces_26 (by have y0 := neI (v := 1) (by decide) z34; have y1 := neI (v := 2) (by decide) z38; have y2 := neI (v := 3) (by decide) z39; have y3 := neI (v := 4) (by decide) z44; have y4 := neI (v := 5) (by decide) z45; omega) (by decide) ?_
  refine V_iload (q := 124) hX dX7_forces_122 0 rfl rfl ?_
  obtain ⟨f1, f2⟩ := some2 h
  rw [f1, f2] at hQ
  exact V_iret hX hQ rfl dX7_forces_124
set_option maxRecDepth 100000 in
set_option maxHeartbeats 4000000 in
theorem v7_forces {g : GT} {X : XT} {o : Nat} {a1 : Int32} {a2 : Int32} {a3 : Int32} (hX : OkX g X (m7_forces)) (hN : 75 ≤ g.N) {res : Int32 × St} (hQ : X.Q = QI g X res.1 res.2 ∧ X.cells = 0 ∧ X.slots = 0) (ho : Ob 75 7 o) {σ : St} (h : S7_forces o a1 a2 a3 σ = some res) : V g X (m7_forces) 0 [(0, .ref (g.ad (o))), (1, .int (a1)), (2, .int (a2)), (3, .int (a3))] [] σ := by
  unfold S7_forces at h
  refine V_iload_n (q := 1) hX dX7_forces_0 2 rfl rfl ?_
  refine V_iconst (v := 2) (q := 2) hX dX7_forces_1 (by decide) rfl ?_
  refine V_icmp_eq (q := 5) (t := 9) hX dX7_forces_2 (by decide) rfl (fun z47 => ?_) (fun z47 => ?_)
  · have h := ite_t z47 h
    refine V_iload_n (q := 10) hX dX7_forces_9 3 rfl rfl ?_
    refine V_if_ne (q := 13) (t := 19) hX dX7_forces_10 (by decide) rfl (fun z48 => ?_) (fun z48 => ?_)
    · have h := ite_f z48 h
      refine V_iconst (v := 0) (q := 20) hX dX7_forces_19 (by decide) rfl ?_
      refine V.pick [0, 2, 3] rfl ?_
      exact v7_forces_20 hX hN hQ ho (0 : Int32) σ h
    have h := ite_t z48 h
    refine V_iconst (v := 2) (q := 14) hX dX7_forces_13 (by decide) rfl ?_
    refine V_iload_n (q := 15) hX dX7_forces_14 1 rfl rfl ?_
    refine V_imul (q := 16) hX dX7_forces_15 rfl ?_
    refine V_goto hX dX7_forces_16 (q := 20) (by decide) ?_
    refine V.pick [0, 2, 3] rfl ?_
    exact v7_forces_20 hX hN hQ ho ((2 : Int32) * a1) σ h
  have h := ite_f z47 h
  refine V_iload_n (q := 6) hX dX7_forces_5 1 rfl rfl ?_
  refine V_goto hX dX7_forces_6 (q := 20) (by decide) ?_
  refine V.pick [0, 2, 3] rfl ?_
  exact v7_forces_20 hX hN hQ ho a1 σ h
set_option maxRecDepth 100000 in
set_option maxHeartbeats 4000000 in
theorem c7_forces {g : GT} {l : Launch} (hg : OkG g) (hN : 75 ≤ g.N) {o : Nat} {a1 : Int32} {a2 : Int32} {a3 : Int32} (ho : Ob 75 7 o) {σ : St} {r : Int32} {σ' : St} (h : S7_forces o a1 a2 a3 σ = some (r, σ')) : CtI g l m7_forces yX7_forces [.ref (g.ad (o)), .int (a1), .int (a2), .int (a3)] σ r σ' := CtI.of hg (by decide) rfl rfl (fun X h1 h2 h3 => v7_forces h1 hN (res := (r, σ')) h3 ho h)
