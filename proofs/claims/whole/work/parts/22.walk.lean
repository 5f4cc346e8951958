abbrev m1_takes : MI := (cX1_takes, RX1, 2, some .boolean, 8)
def S1_takes (a1 : Int32) (σ : St) : Option (Int32 × St) := if (gI σ 26 4) = a1 then (bnd (S1_step σ) fun r7 σ6 => some ((1 : Int32), σ6)) else (some ((0 : Int32), σ))
set_option maxRecDepth 100000 in
set_option maxHeartbeats 4000000 in
theorem v1_takes {g : GT} {X : XT} {a1 : Int32} (hX : OkX g X (m1_takes)) (hN : 75 ≤ g.N) {res : Int32 × St} (hQ : X.Q = QI g X res.1 res.2 ∧ X.cells = 0 ∧ X.slots = 0) {σ : St} (h : S1_takes a1 σ = some res) : V g X (m1_takes) 0 [(0, .ref (g.ad (26))), (1, .int (a1))] [] σ := by
  unfold S1_takes at h
  refine V_aload_n (q := 1) hX dX1_takes_0 0 rfl rfl ?_
  refine V_getI (n := 75) (c := 1) (k := 4) (nf := 7) (C := RX1) (T := TX1) (q := 4) hX rfl rfl iG1 k1_118 rfl rfl ⟨rfl, by decide⟩ hN rfl rfl dX1_takes_1 rfl ?_
  refine V_iload_n (q := 5) hX dX1_takes_4 1 rfl rfl ?_
  refine V_icmp_eq (q := 8) (t := 10) hX dX1_takes_5 (by decide) rfl (fun z5 => ?_) (fun z5 => ?_)
  · have h := ite_t z5 h
    refine V_aload_n (q := 11) hX dX1_takes_10 0 rfl rfl ?_
    obtain ⟨r7, σ6, e8, h⟩ := bnd_some h
    refine V_cvV (n := 75) (c := 1) (nf := 7) (C := RX1) (T := TX1) (As := []) (q := 14) hX (c1_step hX.2.2.2.2.1 hN e8) (goodV_of k2_43 k2_45 kp_0 k1_4 (cons_g k2_46)) (nA := 0) (by decide) rfl rfl rfl rfl rfl ⟨rfl, by decide⟩ hN rfl rfl rfl dX1_takes_11 rfl ?_
    refine V_iconst (v := 1) (q := 15) hX dX1_takes_14 (by decide) rfl ?_
    obtain ⟨f1, f2⟩ := some2 h
    rw [f1, f2] at hQ
    exact V_zret (ty := .boolean) hX hQ rfl rfl dX1_takes_15
  have h := ite_f z5 h
  refine V_iconst (v := 0) (q := 9) hX dX1_takes_8 (by decide) rfl ?_
  obtain ⟨f1, f2⟩ := some2 h
  rw [f1, f2] at hQ
  exact V_zret (ty := .boolean) hX hQ rfl rfl dX1_takes_9
set_option maxRecDepth 100000 in
set_option maxHeartbeats 4000000 in
theorem c1_takes {g : GT} {l : Launch} (hg : OkG g) (hN : 75 ≤ g.N) {a1 : Int32} {σ : St} {r : Int32} {σ' : St} (h : S1_takes a1 σ = some (r, σ')) : CtI g l m1_takes yX1_takes [.ref (g.ad (26)), .int (a1)] σ r σ' := CtI.of hg (by decide) rfl rfl (fun X h1 h2 h3 => v1_takes h1 hN (res := (r, σ')) h3 h)

abbrev m1_opens : MI := (cX1_opens, RX1, 2, some .boolean, 8)
def S1_opens (a1 : Int32) (σ : St) : Option (Int32 × St) := if a1 < (5 : Int32) then (bnd (S1_step σ) fun r7 σ6 => some ((1 : Int32), σ6)) else (some ((0 : Int32), σ))
set_option maxRecDepth 100000 in
set_option maxHeartbeats 4000000 in
theorem v1_opens {g : GT} {X : XT} {a1 : Int32} (hX : OkX g X (m1_opens)) (hN : 75 ≤ g.N) {res : Int32 × St} (hQ : X.Q = QI g X res.1 res.2 ∧ X.cells = 0 ∧ X.slots = 0) {σ : St} (h : S1_opens a1 σ = some res) : V g X (m1_opens) 0 [(0, .ref (g.ad (26))), (1, .int (a1))] [] σ := by
  unfold S1_opens at h
  refine V_iload_n (q := 1) hX dX1_opens_0 1 rfl rfl ?_
  refine V_iconst (v := 5) (q := 2) hX dX1_opens_1 (by decide) rfl ?_
  refine V_icmp_lt (q := 5) (t := 7) hX dX1_opens_2 (by decide) rfl (fun z5 => ?_) (fun z5 => ?_)
  · have h := ite_t z5 h
    refine V_aload_n (q := 8) hX dX1_opens_7 0 rfl rfl ?_
    obtain ⟨r7, σ6, e8, h⟩ := bnd_some h
    refine V_cvV (n := 75) (c := 1) (nf := 7) (C := RX1) (T := TX1) (As := []) (q := 11) hX (c1_step hX.2.2.2.2.1 hN e8) (goodV_of k2_43 k2_45 kp_0 k1_4 (cons_g k2_46)) (nA := 0) (by decide) rfl rfl rfl rfl rfl ⟨rfl, by decide⟩ hN rfl rfl rfl dX1_opens_8 rfl ?_
    refine V_iconst (v := 1) (q := 12) hX dX1_opens_11 (by decide) rfl ?_
    obtain ⟨f1, f2⟩ := some2 h
    rw [f1, f2] at hQ
    exact V_zret (ty := .boolean) hX hQ rfl rfl dX1_opens_12
  have h := ite_f z5 h
  refine V_iconst (v := 0) (q := 6) hX dX1_opens_5 (by decide) rfl ?_
  obtain ⟨f1, f2⟩ := some2 h
  rw [f1, f2] at hQ
  exact V_zret (ty := .boolean) hX hQ rfl rfl dX1_opens_6
set_option maxRecDepth 100000 in
set_option maxHeartbeats 4000000 in
theorem c1_opens {g : GT} {l : Launch} (hg : OkG g) (hN : 75 ≤ g.N) {a1 : Int32} {σ : St} {r : Int32} {σ' : St} (h : S1_opens a1 σ = some (r, σ')) : CtI g l m1_opens yX1_opens [.ref (g.ad (26)), .int (a1)] σ r σ' := CtI.of hg (by decide) rfl rfl (fun X h1 h2 h3 => v1_opens h1 hN (res := (r, σ')) h3 h)

abbrev m6_add : MI := (cX6_add, RX6, 2, none, 1)
def S6_add (o : Nat) (a1 : Int32) (σ : St) : Option (Unit × St) := if (160 : Int32) ≤ (gI σ o 2) then (some ((), σ)) else (if inb (gI σ o 2) 160 then (some ((), (sI (sI σ (o + 1) ((gI σ o 2)).toNatClampNeg a1) o 2 ((gI (sI σ (o + 1) ((gI σ o 2)).toNatClampNeg a1) o 2) + (1 : Int32))))) else none)
set_option maxRecDepth 100000 in
set_option maxHeartbeats 4000000 in
theorem v6_add {g : GT} {X : XT} {o : Nat} {a1 : Int32} (hX : OkX g X (m6_add)) (hN : 75 ≤ g.N) {res : Unit × St} (hQ : X.Q = QV g X res.2 ∧ X.cells = 0 ∧ X.slots = 0) (ho : Ob 75 6 o) {σ : St} (h : S6_add o a1 σ = some res) : V g X (m6_add) 0 [(0, .ref (g.ad (o))), (1, .int (a1))] [] σ := by
  unfold S6_add at h
  refine V_aload_n (q := 1) hX dX6_add_0 0 rfl rfl ?_
  refine V_getI (n := 75) (c := 6) (k := 2) (nf := 3) (C := RX6) (T := TX6) (q := 4) hX rfl rfl iG6 k1_103 rfl rfl ho hN rfl rfl dX6_add_1 rfl ?_
  refine V_aload_n (q := 5) hX dX6_add_4 0 rfl rfl ?_
  refine V_getF (r := (o + 1)) (n := 75) (c := 6) (k := 0) (nf := 3) (C := RX6) (T := TX6) (q := 8) hX rfl rfl iG6 k1_100 rfl rfl ho hN rfl rfl rfl (rf6a ho) dX6_add_5 rfl ?_
  refine V_alen (n := 75) (len := 160) (v := 160) (q := 9) hX (ar6a ho) hN (by decide) dX6_add_8 rfl ?_
  refine V_icmp_ge (q := 12) (t := 32) hX dX6_add_9 (by decide) rfl (fun z3 => ?_) (fun z3 => ?_)
  · have h := ite_t z3 h
    obtain ⟨f1, f2⟩ := some2 h
    rw [f2] at hQ
    exact V_vret hX hQ rfl dX6_add_32
  have h := ite_f z3 h
  refine V_aload_n (q := 13) hX dX6_add_12 0 rfl rfl ?_
  refine V_getF (r := (o + 1)) (n := 75) (c := 6) (k := 0) (nf := 3) (C := RX6) (T := TX6) (q := 16) hX rfl rfl iG6 k1_100 rfl rfl ho hN rfl rfl rfl (rf6a ho) dX6_add_13 rfl ?_
  refine V_aload_n (q := 17) hX dX6_add_16 0 rfl rfl ?_
  refine V_getI (n := 75) (c := 6) (k := 2) (nf := 3) (C := RX6) (T := TX6) (q := 20) hX rfl rfl iG6 k1_103 rfl rfl ho hN rfl rfl dX6_add_17 rfl ?_
  refine V_iload_n (q := 21) hX dX6_add_20 1 rfl rfl ?_
  obtain ⟨z4, h⟩ := chk_t h
  refine V_iast (n := 75) (len := 160) (q := 22) hX (ar6a ho) hN z4 dX6_add_21 rfl ?_
  refine V_aload_n (q := 23) hX dX6_add_22 0 rfl rfl ?_
  refine V_dup (q := 24) hX dX6_add_23 rfl rfl ?_
  refine V_getI (n := 75) (c := 6) (k := 2) (nf := 3) (C := RX6) (T := TX6) (q := 27) hX rfl rfl iG6 k1_103 rfl rfl ho hN rfl rfl dX6_add_24 rfl ?_
  refine V_iconst (v := 1) (q := 28) hX dX6_add_27 (by decide) rfl ?_
  refine V_iadd (q := 29) hX dX6_add_28 rfl ?_
  refine V_putI (n := 75) (c := 6) (k := 2) (nf := 3) (C := RX6) (T := TX6) (q := 32) hX rfl rfl iG6 k1_103 rfl rfl ho hN rfl tyX6 tyX6_ok nmX6 rfl rfl (ty := .int) (tyX6_ok 2 (by decide)) rfl rfl dX6_add_29 rfl ?_
  obtain ⟨f1, f2⟩ := some2 h
  rw [f2] at hQ
  exact V_vret hX hQ rfl dX6_add_32
set_option maxRecDepth 100000 in
set_option maxHeartbeats 4000000 in
theorem c6_add {g : GT} {l : Launch} (hg : OkG g) (hN : 75 ≤ g.N) {o : Nat} {a1 : Int32} (ho : Ob 75 6 o) {σ : St} {r : Unit} {σ' : St} (h : S6_add o a1 σ = some (r, σ')) : CtV g l m6_add yX6_add [.ref (g.ad (o)), .int (a1)] σ σ' := CtV.of hg (by decide) rfl rfl (fun X h1 h2 h3 => v6_add h1 hN (res := (r, σ')) h3 ho h)

abbrev m6_endPart : MI := (cX6_endPart, RX6, 2, none, 1)
def S6_endPart (o : Nat) (a1 : Int32) (σ : St) : Option (Unit × St) := if a1 < 0 then (some ((), σ)) else (if (3 : Int32) ≤ a1 then (some ((), σ)) else (if inb a1 3 then (some ((), (sI σ (o + 2) (a1).toNatClampNeg (gI σ o 2)))) else none))
set_option maxRecDepth 100000 in
set_option maxHeartbeats 4000000 in
theorem v6_endPart {g : GT} {X : XT} {o : Nat} {a1 : Int32} (hX : OkX g X (m6_endPart)) (hN : 75 ≤ g.N) {res : Unit × St} (hQ : X.Q = QV g X res.2 ∧ X.cells = 0 ∧ X.slots = 0) (ho : Ob 75 6 o) {σ : St} (h : S6_endPart o a1 σ = some res) : V g X (m6_endPart) 0 [(0, .ref (g.ad (o))), (1, .int (a1))] [] σ := by
  unfold S6_endPart at h
  refine V_iload_n (q := 1) hX dX6_endPart_0 1 rfl rfl ?_
  refine V_if_lt (q := 4) (t := 23) hX dX6_endPart_1 (by decide) rfl (fun z4 => ?_) (fun z4 => ?_)
  · have h := ite_t z4 h
    obtain ⟨f1, f2⟩ := some2 h
    rw [f2] at hQ
    exact V_vret hX hQ rfl dX6_endPart_23
  have h := ite_f z4 h
  refine V_iload_n (q := 5) hX dX6_endPart_4 1 rfl rfl ?_
  refine V_aload_n (q := 6) hX dX6_endPart_5 0 rfl rfl ?_
  refine V_getF (r := (o + 2)) (n := 75) (c := 6) (k := 1) (nf := 3) (C := RX6) (T := TX6) (q := 9) hX rfl rfl iG6 k1_102 rfl rfl ho hN rfl rfl rfl (rf6b ho) dX6_endPart_6 rfl ?_
  refine V_alen (n := 75) (len := 3) (v := 3) (q := 10) hX (ar6b ho) hN (by decide) dX6_endPart_9 rfl ?_
  refine V_icmp_ge (q := 13) (t := 23) hX dX6_endPart_10 (by decide) rfl (fun z5 => ?_) (fun z5 => ?_)
  · have h := ite_t z5 h
    obtain ⟨f1, f2⟩ := some2 h
    rw [f2] at hQ
    exact V_vret hX hQ rfl dX6_endPart_23
  have h := ite_f z5 h
  refine V_aload_n (q := 14) hX dX6_endPart_13 0 rfl rfl ?_
  refine V_getF (r := (o + 2)) (n := 75) (c := 6) (k := 1) (nf := 3) (C := RX6) (T := TX6) (q := 17) hX rfl rfl iG6 k1_102 rfl rfl ho hN rfl rfl rfl (rf6b ho) dX6_endPart_14 rfl ?_
  refine V_iload_n (q := 18) hX dX6_endPart_17 1 rfl rfl ?_
  refine V_aload_n (q := 19) hX dX6_endPart_18 0 rfl rfl ?_
  refine V_getI (n := 75) (c := 6) (k := 2) (nf := 3) (C := RX6) (T := TX6) (q := 22) hX rfl rfl iG6 k1_103 rfl rfl ho hN rfl rfl dX6_endPart_19 rfl ?_
  obtain ⟨z6, h⟩ := chk_t h
  refine V_iast (n := 75) (len := 3) (q := 23) hX (ar6b ho) hN z6 dX6_endPart_22 rfl ?_
  obtain ⟨f1, f2⟩ := some2 h
  rw [f2] at hQ
  exact V_vret hX hQ rfl dX6_endPart_23
set_option maxRecDepth 100000 in
set_option maxHeartbeats 4000000 in
theorem c6_endPart {g : GT} {l : Launch} (hg : OkG g) (hN : 75 ≤ g.N) {o : Nat} {a1 : Int32} (ho : Ob 75 6 o) {σ : St} {r : Unit} {σ' : St} (h : S6_endPart o a1 σ = some (r, σ')) : CtV g l m6_endPart yX6_endPart [.ref (g.ad (o)), .int (a1)] σ σ' := CtV.of hg (by decide) rfl rfl (fun X h1 h2 h3 => v6_endPart h1 hN (res := (r, σ')) h3 ho h)
