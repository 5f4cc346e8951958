abbrev m1_readInto : MI := (cX1_readInto, RX1, 3, some .int, 60)
def S1_readInto_57 (a1 : Nat) (σ : St) : Option (Int32 × St) := some ((gI σ 26 2), σ)
def B1_readInto_24 (a1 : Nat) (rec : Int32 → St → Option (Int32 × St)) (x2 : Int32) (σ : St) : Option (Int32 × St) := if (3 : Int32) ≤ x2 then (if (gI σ 26 4) = (-1 : Int32) then (some ((-1 : Int32), σ)) else (some ((gI σ 26 2), σ))) else (bnd (S1_takes ((106 : Int32) + x2) σ) fun r48 σ47 => if r48 = 0 then (S1_readInto_57 a1 σ47) else (bnd (SG 50 0 (0 : Int32) σ47) fun r52 σ51 => if r52 = 0 then (S1_readInto_57 a1 σ51) else (bnd (S1_takes (59 : Int32) σ51) fun r56 σ55 => if r56 = 0 then (S1_readInto_57 a1 σ55) else (if Ob 75 6 (gR σ55 26 6) then (bnd (S6_endPart (gR σ55 26 6) x2 σ55) fun r61 σ60 => rec (x2 + 1) σ60) else none))))
def S1_readInto_24 (a1 : Nat) : Nat → Int32 → St → Option (Int32 × St)
  | 0, _, _ => none
  | n + 1, x2, σ => B1_readInto_24 a1 (S1_readInto_24 a1 n) x2 σ
def S1_readInto (a1 : Nat) (σ : St) : Option (Int32 × St) := if Ob 75 6 (gR (sR σ 26 6 a1) 26 6) then (bnd (S1_step (sI (sI (sR σ 26 6 a1) (gR (sR σ 26 6 a1) 26 6) 2 (0 : Int32)) 26 3 (0 : Int32))) fun r65 σ64 => S1_readInto_24 a1 4096 (0 : Int32) σ64) else none
set_option maxRecDepth 100000 in
set_option maxHeartbeats 4000000 in
theorem v1_readInto_57 {g : GT} {X : XT} {a1 : Nat} (hX : OkX g X (m1_readInto)) (hN : 75 ≤ g.N) {res : Int32 × St} (hQ : X.Q = QI g X res.1 res.2 ∧ X.cells = 0 ∧ X.slots = 0) (ha1 : Ob 75 6 a1)   (σ : St)  (h : S1_readInto_57 a1 σ = some res) : V g X (m1_readInto) 57 [(0, .ref (g.ad (26)))] [] σ := by
  unfold S1_readInto_57 at h
  refine V_aload_n (q := 58) hX dX1_readInto_57 0 rfl rfl ?_
  refine V_getI (n := 75) (c := 1) (k := 2) (nf := 7) (C := RX1) (T := TX1) (q := 61) hX rfl rfl iG1 k1_116 rfl rfl ⟨rfl, by decide⟩ hN rfl rfl dX1_readInto_58 rfl ?_
  obtain ⟨f1, f2⟩ := some2 h
  rw [f1, f2] at hQ
  exact V_iret hX hQ rfl dX1_readInto_61
set_option maxRecDepth 100000 in
set_option maxHeartbeats 4000000 in
theorem v1_readInto_24n {g : GT} {X : XT} {a1 : Nat} (hX : OkX g X (m1_readInto)) (hN : 75 ≤ g.N) {res : Int32 × St} (hQ : X.Q = QI g X res.1 res.2 ∧ X.cells = 0 ∧ X.slots = 0) (ha1 : Ob 75 6 a1)  (n : Nat) : ∀ (x2 : Int32) (σ : St) , S1_readInto_24 a1 n x2 σ = some res → V g X (m1_readInto) 24 [(0, .ref (g.ad (26))), (2, .int (x2))] [] σ := by
  induction n with
  | zero => intro x2 σ; intro h; cases h
  | succ n ih =>
    intro x2 σ h
    have h : B1_readInto_24 a1 (S1_readInto_24 a1 n) x2 σ = some res := h
    unfold B1_readInto_24 at h
    refine V_iload_n (q := 25) hX dX1_readInto_24 1 rfl rfl ?_
    refine V_iconst (v := 3) (q := 26) hX dX1_readInto_25 (by decide) rfl ?_
    refine V_icmp_ge (q := 29) (t := 76) hX dX1_readInto_26 (by decide) rfl (fun z45 => ?_) (fun z45 => ?_)
    · have h := ite_t z45 h
      refine V_aload_n (q := 77) hX dX1_readInto_76 0 rfl rfl ?_
      refine V_getI (n := 75) (c := 1) (k := 4) (nf := 7) (C := RX1) (T := TX1) (q := 80) hX rfl rfl iG1 k1_118 rfl rfl ⟨rfl, by decide⟩ hN rfl rfl dX1_readInto_77 rfl ?_
      refine V_iconst (v := -1) (q := 81) hX dX1_readInto_80 (by decide) rfl ?_
      refine V_icmp_ne (q := 84) (t := 88) hX dX1_readInto_81 (by decide) rfl (fun z46 => ?_) (fun z46 => ?_)
      · have h := ite_f z46 h
        refine V_aload_n (q := 89) hX dX1_readInto_88 0 rfl rfl ?_
        refine V_getI (n := 75) (c := 1) (k := 2) (nf := 7) (C := RX1) (T := TX1) (q := 92) hX rfl rfl iG1 k1_116 rfl rfl ⟨rfl, by decide⟩ hN rfl rfl dX1_readInto_89 rfl ?_
        obtain ⟨f1, f2⟩ := some2 h
        rw [f1, f2] at hQ
        exact V_iret hX hQ rfl dX1_readInto_92
      have h := ite_t z46 h
      refine V_iconst (v := -1) (q := 85) hX dX1_readInto_84 (by decide) rfl ?_
      refine V_goto hX dX1_readInto_85 (q := 92) (by decide) ?_
      obtain ⟨f1, f2⟩ := some2 h
      rw [f1, f2] at hQ
      exact V_iret hX hQ rfl dX1_readInto_92
    have h := ite_f z45 h
    refine V_aload_n (q := 30) hX dX1_readInto_29 0 rfl rfl ?_
    refine V_bipush (v := 106) (q := 32) hX dX1_readInto_30 (by decide) rfl ?_
    refine V_iload_n (q := 33) hX dX1_readInto_32 1 rfl rfl ?_
    refine V_iadd (q := 34) hX dX1_readInto_33 rfl ?_
    obtain ⟨r48, σ47, e49, h⟩ := bnd_some h
    refine V_cvI (n := 75) (c := 1) (nf := 7) (C := RX1) (T := TX1) (As := [.int (((106 : Int32) + x2))]) (q := 37) hX (c1_takes hX.2.2.2.2.1 hN e49) (goodV_of k2_131 k2_133 kp_4 k1_4 (cons_g k2_134)) (nA := 1) (by decide) rfl rfl rfl rfl rfl ⟨rfl, by decide⟩ hN rfl rfl rfl dX1_readInto_34 rfl ?_
    refine V_if_eq (q := 40) (t := 57) hX dX1_readInto_37 (by decide) rfl (fun z50 => ?_) (fun z50 => ?_)
    · have h := ite_t z50 h
      refine V.pick [0] rfl ?_
      exact v1_readInto_57 hX hN hQ ha1 σ47 h
    have h := ite_f z50 h
    refine V_aload_n (q := 41) hX dX1_readInto_40 0 rfl rfl ?_
    refine V_iconst (v := 0) (q := 42) hX dX1_readInto_41 (by decide) rfl ?_
    obtain ⟨r52, σ51, e53, h⟩ := bnd_some h
    refine V_cvI (n := 75) (c := 1) (nf := 7) (C := RX1) (T := TX1) (As := [.int ((0 : Int32))]) (q := 45) hX (cG_any (hX.2.2.2.2.1) hN e53) (goodV_of k2_135 k2_137 kp_5 k1_4 (cons_g k2_138)) (nA := 1) (by decide) rfl rfl rfl rfl rfl ⟨rfl, by decide⟩ hN rfl rfl rfl dX1_readInto_42 rfl ?_
    refine V_if_eq (q := 48) (t := 57) hX dX1_readInto_45 (by decide) rfl (fun z54 => ?_) (fun z54 => ?_)
    · have h := ite_t z54 h
      refine V.pick [0] rfl ?_
      exact v1_readInto_57 hX hN hQ ha1 σ51 h
    have h := ite_f z54 h
    refine V_aload_n (q := 49) hX dX1_readInto_48 0 rfl rfl ?_
    refine V_bipush (v := 59) (q := 51) hX dX1_readInto_49 (by decide) rfl ?_
    obtain ⟨r56, σ55, e57, h⟩ := bnd_some h
    refine V_cvI (n := 75) (c := 1) (nf := 7) (C := RX1) (T := TX1) (As := [.int ((59 : Int32))]) (q := 54) hX (c1_takes hX.2.2.2.2.1 hN e57) (goodV_of k2_131 k2_133 kp_4 k1_4 (cons_g k2_134)) (nA := 1) (by decide) rfl rfl rfl rfl rfl ⟨rfl, by decide⟩ hN rfl rfl rfl dX1_readInto_51 rfl ?_
    refine V_if_ne (q := 57) (t := 62) hX dX1_readInto_54 (by decide) rfl (fun z58 => ?_) (fun z58 => ?_)
    · have h := ite_f z58 h
      refine V_aload_n (q := 63) hX dX1_readInto_62 0 rfl rfl ?_
      obtain ⟨hp59, h⟩ := chk_t h
      refine V_getM (n := 75) (c := 1) (k := 6) (nf := 7) (C := RX1) (T := TX1) (q := 66) hX rfl rfl iG1 k1_120 rfl rfl ⟨rfl, by decide⟩ hN rfl rfl rfl dX1_readInto_63 rfl ?_
      refine V_iload_n (q := 67) hX dX1_readInto_66 1 rfl rfl ?_
      obtain ⟨r61, σ60, e62, h⟩ := bnd_some h
      refine V_cvV (n := 75) (c := 6) (nf := 3) (C := RX6) (T := TX6) (As := [.int (x2)]) (q := 70) hX (c6_endPart hX.2.2.2.2.1 hN hp59 e62) (goodV_of k2_167 k2_168 k2_169 k1_5 (cons_g k2_170)) (nA := 1) (by decide) rfl rfl rfl rfl rfl hp59 hN rfl rfl rfl dX1_readInto_67 rfl ?_
      refine V_iinc (v := (x2 + 1)) (lv' := [(2, .int ((x2 + 1))), (0, .ref (g.ad (26)))]) (q := 73) hX dX1_readInto_70 1 rfl (by rfl) rfl rfl rfl ?_
      refine V_goto hX dX1_readInto_73 (q := 24) (by decide) ?_
      refine V.pick [1, 0] rfl ?_
      exact ih (x2 + 1) σ60  h
    have h := ite_t z58 h
    refine V.pick [0] rfl ?_
    exact v1_readInto_57 hX hN hQ ha1 σ55 h
theorem v1_readInto_24 {g : GT} {X : XT} {a1 : Nat} (hX : OkX g X (m1_readInto)) (hN : 75 ≤ g.N) {res : Int32 × St} (hQ : X.Q = QI g X res.1 res.2 ∧ X.cells = 0 ∧ X.slots = 0) (ha1 : Ob 75 6 a1) (x2 : Int32) (σ : St) (h : S1_readInto_24 a1 4096 x2 σ = some res) : V g X (m1_readInto) 24 [(0, .ref (g.ad (26))), (2, .int (x2))] [] σ := v1_readInto_24n hX hN hQ ha1 4096 x2 σ h
set_option maxRecDepth 100000 in
set_option maxHeartbeats 4000000 in
theorem v1_readInto {g : GT} {X : XT} {a1 : Nat} (hX : OkX g X (m1_readInto)) (hN : 75 ≤ g.N) {res : Int32 × St} (hQ : X.Q = QI g X res.1 res.2 ∧ X.cells = 0 ∧ X.slots = 0) (ha1 : Ob 75 6 a1) {σ : St} (h : S1_readInto a1 σ = some res) : V g X (m1_readInto) 0 [(0, .ref (g.ad (26))), (1, .ref (g.ad (a1)))] [] σ := by
  unfold S1_readInto at h
  refine V_aload_n (q := 1) hX dX1_readInto_0 0 rfl rfl ?_
  refine V_aload_n (q := 2) hX dX1_readInto_1 1 rfl rfl ?_
  refine V_putM (n := 75) (c := 1) (k := 6) (nf := 7) (C := RX1) (T := TX1) (q := 5) hX rfl rfl iG1 k1_120 rfl rfl ⟨rfl, by decide⟩ hN rfl tyX1 tyX1_ok nmX1 rfl rfl rfl (ty := .object RX6) (tyX1_ok 6 (by decide)) rfl rfl dX1_readInto_2 rfl ?_
  refine V_aload_n (q := 6) hX dX1_readInto_5 0 rfl rfl ?_
  obtain ⟨hp63, h⟩ := chk_t h
  refine V_getM (n := 75) (c := 1) (k := 6) (nf := 7) (C := RX1) (T := TX1) (q := 9) hX rfl rfl iG1 k1_120 rfl rfl ⟨rfl, by decide⟩ hN rfl rfl rfl dX1_readInto_6 rfl ?_
  refine V_iconst (v := 0) (q := 10) hX dX1_readInto_9 (by decide) rfl ?_
  refine V_putI (n := 75) (c := 6) (k := 2) (nf := 3) (C := RX6) (T := TX6) (q := 13) hX rfl rfl iG6 k1_104 rfl rfl hp63 hN rfl tyX6 tyX6_ok nmX6 rfl rfl (ty := .int) (tyX6_ok 2 (by decide)) rfl rfl dX1_readInto_10 rfl ?_
  refine V_aload_n (q := 14) hX dX1_readInto_13 0 rfl rfl ?_
  refine V_iconst (v := 0) (q := 15) hX dX1_readInto_14 (by decide) rfl ?_
  refine V_putI (n := 75) (c := 1) (k := 3) (nf := 7) (C := RX1) (T := TX1) (q := 18) hX rfl rfl iG1 k1_117 rfl rfl ⟨rfl, by decide⟩ hN rfl tyX1 tyX1_ok nmX1 rfl rfl (ty := .int) (tyX1_ok 3 (by decide)) rfl rfl dX1_readInto_15 rfl ?_
  refine V_aload_n (q := 19) hX dX1_readInto_18 0 rfl rfl ?_
  obtain ⟨r65, σ64, e66, h⟩ := bnd_some h
  refine V_cvV (n := 75) (c := 1) (nf := 7) (C := RX1) (T := TX1) (As := []) (q := 22) hX (c1_step hX.2.2.2.2.1 hN e66) (goodV_of k2_43 k2_45 kp_0 k1_4 (cons_g k2_46)) (nA := 0) (by decide) rfl rfl rfl rfl rfl ⟨rfl, by decide⟩ hN rfl rfl rfl dX1_readInto_19 rfl ?_
  refine V_iconst (v := 0) (q := 23) hX dX1_readInto_22 (by decide) rfl ?_
  refine V_istore_n (lv' := [(2, .int ((0 : Int32))), (0, .ref (g.ad (26))), (1, .ref (g.ad (a1)))]) (q := 24) hX dX1_readInto_23 rfl rfl rfl ?_
  refine V.pick [1, 0] rfl ?_
  exact v1_readInto_24 hX hN hQ ha1 (0 : Int32) σ64 h
set_option maxRecDepth 100000 in
set_option maxHeartbeats 4000000 in
theorem c1_readInto {g : GT} {l : Launch} (hg : OkG g) (hN : 75 ≤ g.N) {a1 : Nat} (ha1 : Ob 75 6 a1) {σ : St} {r : Int32} {σ' : St} (h : S1_readInto a1 σ = some (r, σ')) : CtI g l m1_readInto yX1_readInto [.ref (g.ad (26)), .ref (g.ad (a1))] σ r σ' := CtI.of hg (by decide) rfl rfl (fun X h1 h2 h3 => v1_readInto h1 hN (res := (r, σ')) h3 ha1 h)

abbrev m3_becomesRow : MI := (cX3_becomesRow, RX3, 3, none, 3)
def S3_becomesRow (o : Nat) (a1 : Int32) (a2 : Int32) (σ : St) : Option (Unit × St) := bnd (S8_within a2 (0 : Int32) (40 : Int32) (sI σ o 1 a1)) fun r5 σ4 => some ((), (fillS (sI σ4 o 2 r5) (o + 1) 40 (0 : Int32)))
set_option maxRecDepth 100000 in
set_option maxHeartbeats 4000000 in
theorem v3_becomesRow {g : GT} {X : XT} {o : Nat} {a1 : Int32} {a2 : Int32} (hX : OkX g X (m3_becomesRow)) (hN : 75 ≤ g.N) {res : Unit × St} (hQ : X.Q = QV g X res.2 ∧ X.cells = 0 ∧ X.slots = 0) (ho : Ob 75 3 o) {σ : St} (h : S3_becomesRow o a1 a2 σ = some res) : V g X (m3_becomesRow) 0 [(0, .ref (g.ad (o))), (1, .int (a1)), (2, .int (a2))] [] σ := by
  unfold S3_becomesRow at h
  refine V_aload_n (q := 1) hX dX3_becomesRow_0 0 rfl rfl ?_
  refine V_iload_n (q := 2) hX dX3_becomesRow_1 1 rfl rfl ?_
  refine V_putI (n := 75) (c := 3) (k := 1) (nf := 3) (C := RX3) (T := TX3) (q := 5) hX rfl rfl iG3 k1_214 rfl rfl ho hN rfl tyX3 tyX3_ok nmX3 rfl rfl (ty := .int) (tyX3_ok 1 (by decide)) rfl rfl dX3_becomesRow_2 rfl ?_
  refine V_aload_n (q := 6) hX dX3_becomesRow_5 0 rfl rfl ?_
  refine V_iload_n (q := 7) hX dX3_becomesRow_6 2 rfl rfl ?_
  refine V_iconst (v := 0) (q := 8) hX dX3_becomesRow_7 (by decide) rfl ?_
  refine V_aload_n (q := 9) hX dX3_becomesRow_8 0 rfl rfl ?_
  refine V_getF (r := (o + 1)) (n := 75) (c := 3) (k := 0) (nf := 3) (C := RX3) (T := TX3) (q := 12) hX rfl rfl iG3 k1_212 rfl rfl ho hN rfl rfl rfl (rf3 ho) dX3_becomesRow_9 rfl ?_
  refine V_alen (n := 75) (len := 40) (v := 40) (q := 13) hX (ar3 ho) hN (by decide) dX3_becomesRow_12 rfl ?_
  obtain ⟨r5, σ4, e6, h⟩ := bnd_some h
  refine V_cnI (host := "RingOfStraw") (As := [.int (a2), .int ((0 : Int32)), .int ((40 : Int32))]) (q := 16) hX (c8_within hX.2.2.2.2.1 hN e6) (by decide +kernel) k3_35 k1_1 (cons_g k3_36) (nA := 3) (by decide) rfl rfl rfl rfl rfl dX3_becomesRow_13 rfl ?_
  refine V_putI (n := 75) (c := 3) (k := 2) (nf := 3) (C := RX3) (T := TX3) (q := 19) hX rfl rfl iG3 k1_216 rfl rfl ho hN rfl tyX3 tyX3_ok nmX3 rfl rfl (ty := .int) (tyX3_ok 2 (by decide)) rfl rfl dX3_becomesRow_16 rfl ?_
  refine V_aload_n (q := 20) hX dX3_becomesRow_19 0 rfl rfl ?_
  refine V_getF (r := (o + 1)) (n := 75) (c := 3) (k := 0) (nf := 3) (C := RX3) (T := TX3) (q := 23) hX rfl rfl iG3 k1_212 rfl rfl ho hN rfl rfl rfl (rf3 ho) dX3_becomesRow_20 rfl ?_
  refine V_iconst (v := 0) (q := 24) hX dX3_becomesRow_23 (by decide) rfl ?_
  refine V_fill (n := 75) (len := 40) (q := 27) hX (ar3 ho) hN (by decide) k4_68 rfl rfl dX3_becomesRow_24 rfl ?_
  obtain ⟨f1, f2⟩ := some2 h
  rw [f2] at hQ
  exact V_vret hX hQ rfl dX3_becomesRow_27
set_option maxRecDepth 100000 in
set_option maxHeartbeats 4000000 in
theorem c3_becomesRow {g : GT} {l : Launch} (hg : OkG g) (hN : 75 ≤ g.N) {o : Nat} {a1 : Int32} {a2 : Int32} (ho : Ob 75 3 o) {σ : St} {r : Unit} {σ' : St} (h : S3_becomesRow o a1 a2 σ = some (r, σ')) : CtV g l m3_becomesRow yX3_becomesRow [.ref (g.ad (o)), .int (a1), .int (a2)] σ σ' := CtV.of hg (by decide) rfl rfl (fun X h1 h2 h3 => v3_becomesRow h1 hN (res := (r, σ')) h3 ho h)

abbrev m3_hasFrom : MI := (cX3_hasFrom, RX3, 3, some .boolean, 1)
def S3_hasFrom (o : Nat) (a1 : Int32) (a2 : Int32) (σ : St) : Option (Int32 × St) := if a1 < 0 then (some ((0 : Int32), σ)) else (if a2 < 0 then (some ((0 : Int32), σ)) else (if (gI σ o 2) < a1 then (some ((0 : Int32), σ)) else (if ((gI σ o 2) - a1) < a2 then (some ((0 : Int32), σ)) else (some ((1 : Int32), σ)))))
set_option maxRecDepth 100000 in
set_option maxHeartbeats 4000000 in
theorem v3_hasFrom {g : GT} {X : XT} {o : Nat} {a1 : Int32} {a2 : Int32} (hX : OkX g X (m3_hasFrom)) (hN : 75 ≤ g.N) {res : Int32 × St} (hQ : X.Q = QI g X res.1 res.2 ∧ X.cells = 0 ∧ X.slots = 0) (ho : Ob 75 3 o) {σ : St} (h : S3_hasFrom o a1 a2 σ = some res) : V g X (m3_hasFrom) 0 [(0, .ref (g.ad (o))), (1, .int (a1)), (2, .int (a2))] [] σ := by
  unfold S3_hasFrom at h
  refine V_iload_n (q := 1) hX dX3_hasFrom_0 1 rfl rfl ?_
  refine V_if_lt (q := 4) (t := 30) hX dX3_hasFrom_1 (by decide) rfl (fun z5 => ?_) (fun z5 => ?_)
  · have h := ite_t z5 h
    refine V_iconst (v := 0) (q := 31) hX dX3_hasFrom_30 (by decide) rfl ?_
    obtain ⟨f1, f2⟩ := some2 h
    rw [f1, f2] at hQ
    exact V_zret (ty := .boolean) hX hQ rfl rfl dX3_hasFrom_31
  have h := ite_f z5 h
  refine V_iload_n (q := 5) hX dX3_hasFrom_4 2 rfl rfl ?_
  refine V_if_lt (q := 8) (t := 30) hX dX3_hasFrom_5 (by decide) rfl (fun z6 => ?_) (fun z6 => ?_)
  · have h := ite_t z6 h
    refine V_iconst (v := 0) (q := 31) hX dX3_hasFrom_30 (by decide) rfl ?_
    obtain ⟨f1, f2⟩ := some2 h
    rw [f1, f2] at hQ
    exact V_zret (ty := .boolean) hX hQ rfl rfl dX3_hasFrom_31
  have h := ite_f z6 h
  refine V_iload_n (q := 9) hX dX3_hasFrom_8 1 rfl rfl ?_
  refine V_aload_n (q := 10) hX dX3_hasFrom_9 0 rfl rfl ?_
  refine V_getI (n := 75) (c := 3) (k := 2) (nf := 3) (C := RX3) (T := TX3) (q := 13) hX rfl rfl iG3 k1_216 rfl rfl ho hN rfl rfl dX3_hasFrom_10 rfl ?_
  refine V_icmp_gt (q := 16) (t := 30) hX dX3_hasFrom_13 (by decide) rfl (fun z7 => ?_) (fun z7 => ?_)
  · have h := ite_t z7 h
    refine V_iconst (v := 0) (q := 31) hX dX3_hasFrom_30 (by decide) rfl ?_
    obtain ⟨f1, f2⟩ := some2 h
    rw [f1, f2] at hQ
    exact V_zret (ty := .boolean) hX hQ rfl rfl dX3_hasFrom_31
  have h := ite_f z7 h
  refine V_iload_n (q := 17) hX dX3_hasFrom_16 2 rfl rfl ?_
  refine V_aload_n (q := 18) hX dX3_hasFrom_17 0 rfl rfl ?_
  refine V_getI (n := 75) (c := 3) (k := 2) (nf := 3) (C := RX3) (T := TX3) (q := 21) hX rfl rfl iG3 k1_216 rfl rfl ho hN rfl rfl dX3_hasFrom_18 rfl ?_
  refine V_iload_n (q := 22) hX dX3_hasFrom_21 1 rfl rfl ?_
  refine V_isub (q := 23) hX dX3_hasFrom_22 rfl ?_
  refine V_icmp_gt (q := 26) (t := 30) hX dX3_hasFrom_23 (by decide) rfl (fun z8 => ?_) (fun z8 => ?_)
  · have h := ite_t z8 h
    refine V_iconst (v := 0) (q := 31) hX dX3_hasFrom_30 (by decide) rfl ?_
    obtain ⟨f1, f2⟩ := some2 h
    rw [f1, f2] at hQ
    exact V_zret (ty := .boolean) hX hQ rfl rfl dX3_hasFrom_31
  have h := ite_f z8 h
  refine V_iconst (v := 1) (q := 27) hX dX3_hasFrom_26 (by decide) rfl ?_
  refine V_goto hX dX3_hasFrom_27 (q := 31) (by decide) ?_
  obtain ⟨f1, f2⟩ := some2 h
  rw [f1, f2] at hQ
  exact V_zret (ty := .boolean) hX hQ rfl rfl dX3_hasFrom_31
set_option maxRecDepth 100000 in
set_option maxHeartbeats 4000000 in
theorem c3_hasFrom {g : GT} {l : Launch} (hg : OkG g) (hN : 75 ≤ g.N) {o : Nat} {a1 : Int32} {a2 : Int32} (ho : Ob 75 3 o) {σ : St} {r : Int32} {σ' : St} (h : S3_hasFrom o a1 a2 σ = some (r, σ')) : CtI g l m3_hasFrom yX3_hasFrom [.ref (g.ad (o)), .int (a1), .int (a2)] σ r σ' := CtI.of hg (by decide) rfl rfl (fun X h1 h2 h3 => v3_hasFrom h1 hN (res := (r, σ')) h3 ho h)

abbrev m3_write : MI := (cX3_write, RX3, 3, none, 1)
def S3_write_44 (o : Nat) (a1 : Int32) (a2 : Int32) (s2 : Int32) (σ : St) : Option (Unit × St) := if inb a1 40 then (some ((), (sI σ (o + 1) (a1).toNatClampNeg s2))) else none
def S3_write (o : Nat) (a1 : Int32) (a2 : Int32) (σ : St) : Option (Unit × St) := if a1 < 0 then (some ((), σ)) else (if (40 : Int32) ≤ a1 then (some ((), σ)) else (if (gI σ o 1) = 0 then (S3_write_44 o a1 a2 ((a2).toInt8.toInt32) σ) else (if (gI σ o 1) = (1 : Int32) then (S3_write_44 o a1 a2 ((a2).toInt16.toInt32) σ) else (S3_write_44 o a1 a2 a2 σ))))
set_option maxRecDepth 100000 in
set_option maxHeartbeats 4000000 in
theorem v3_write_44 {g : GT} {X : XT} {o : Nat} {a1 : Int32} {a2 : Int32} (hX : OkX g X (m3_write)) (hN : 75 ≤ g.N) {res : Unit × St} (hQ : X.Q = QV g X res.2 ∧ X.cells = 0 ∧ X.slots = 0) (ho : Ob 75 3 o)  (s2 : Int32) (σ : St)  (h : S3_write_44 o a1 a2 s2 σ = some res) : V g X (m3_write) 44 [] [.int (s2), .int (a1), .ref (g.ad ((o + 1)))] σ := by
  unfold S3_write_44 at h
  obtain ⟨z11, h⟩ := chk_t h
  refine V_iast (n := 75) (len := 40) (q := 45) hX (ar3 ho) hN z11 dX3_write_44 rfl ?_
  obtain ⟨f1, f2⟩ := some2 h
  rw [f2] at hQ
  exact V_vret hX hQ rfl dX3_write_45
set_option maxRecDepth 100000 in
set_option maxHeartbeats 4000000 in
theorem v3_write {g : GT} {X : XT} {o : Nat} {a1 : Int32} {a2 : Int32} (hX : OkX g X (m3_write)) (hN : 75 ≤ g.N) {res : Unit × St} (hQ : X.Q = QV g X res.2 ∧ X.cells = 0 ∧ X.slots = 0) (ho : Ob 75 3 o) {σ : St} (h : S3_write o a1 a2 σ = some res) : V g X (m3_write) 0 [(0, .ref (g.ad (o))), (1, .int (a1)), (2, .int (a2))] [] σ := by
  unfold S3_write at h
  refine V_iload_n (q := 1) hX dX3_write_0 1 rfl rfl ?_
  refine V_if_lt (q := 4) (t := 45) hX dX3_write_1 (by decide) rfl (fun z12 => ?_) (fun z12 => ?_)
  · have h := ite_t z12 h
    obtain ⟨f1, f2⟩ := some2 h
    rw [f2] at hQ
    exact V_vret hX hQ rfl dX3_write_45
  have h := ite_f z12 h
  refine V_iload_n (q := 5) hX dX3_write_4 1 rfl rfl ?_
  refine V_aload_n (q := 6) hX dX3_write_5 0 rfl rfl ?_
  refine V_getF (r := (o + 1)) (n := 75) (c := 3) (k := 0) (nf := 3) (C := RX3) (T := TX3) (q := 9) hX rfl rfl iG3 k1_212 rfl rfl ho hN rfl rfl rfl (rf3 ho) dX3_write_6 rfl ?_
  refine V_alen (n := 75) (len := 40) (v := 40) (q := 10) hX (ar3 ho) hN (by decide) dX3_write_9 rfl ?_
  refine V_icmp_ge (q := 13) (t := 45) hX dX3_write_10 (by decide) rfl (fun z13 => ?_) (fun z13 => ?_)
  · have h := ite_t z13 h
    obtain ⟨f1, f2⟩ := some2 h
    rw [f2] at hQ
    exact V_vret hX hQ rfl dX3_write_45
  have h := ite_f z13 h
  refine V_aload_n (q := 14) hX dX3_write_13 0 rfl rfl ?_
  refine V_getF (r := (o + 1)) (n := 75) (c := 3) (k := 0) (nf := 3) (C := RX3) (T := TX3) (q := 17) hX rfl rfl iG3 k1_212 rfl rfl ho hN rfl rfl rfl (rf3 ho) dX3_write_14 rfl ?_
  refine V_iload_n (q := 18) hX dX3_write_17 1 rfl rfl ?_
  refine V_aload_n (q := 19) hX dX3_write_18 0 rfl rfl ?_
  refine V_getI (n := 75) (c := 3) (k := 1) (nf := 3) (C := RX3) (T := TX3) (q := 22) hX rfl rfl iG3 k1_214 rfl rfl ho hN rfl rfl dX3_write_19 rfl ?_
  refine V_if_ne (q := 25) (t := 30) hX dX3_write_22 (by decide) rfl (fun z14 => ?_) (fun z14 => ?_)
  · have h := ite_f z14 h
    refine V_aload_n (q := 31) hX dX3_write_30 0 rfl rfl ?_
    refine V_getI (n := 75) (c := 3) (k := 1) (nf := 3) (C := RX3) (T := TX3) (q := 34) hX rfl rfl iG3 k1_214 rfl rfl ho hN rfl rfl dX3_write_31 rfl ?_
    refine V_iconst (v := 1) (q := 35) hX dX3_write_34 (by decide) rfl ?_
    refine V_icmp_ne (q := 38) (t := 43) hX dX3_write_35 (by decide) rfl (fun z15 => ?_) (fun z15 => ?_)
    · have h := ite_f z15 h
      refine V_iload_n (q := 44) hX dX3_write_43 2 rfl rfl ?_
      refine V.pick [] rfl ?_
      exact v3_write_44 hX hN hQ ho a2 σ h
    have h := ite_t z15 h
    refine V_iload_n (q := 39) hX dX3_write_38 2 rfl rfl ?_
    refine V_i2s (q := 40) hX dX3_write_39 rfl ?_
    refine V_goto hX dX3_write_40 (q := 44) (by decide) ?_
    refine V.pick [] rfl ?_
    exact v3_write_44 hX hN hQ ho ((a2).toInt16.toInt32) σ h
  have h := ite_t z14 h
  refine V_iload_n (q := 26) hX dX3_write_25 2 rfl rfl ?_
  refine V_i2b (q := 27) hX dX3_write_26 rfl ?_
  refine V_goto hX dX3_write_27 (q := 44) (by decide) ?_
  refine V.pick [] rfl ?_
  exact v3_write_44 hX hN hQ ho ((a2).toInt8.toInt32) σ h
set_option maxRecDepth 100000 in
set_option maxHeartbeats 4000000 in
theorem c3_write {g : GT} {l : Launch} (hg : OkG g) (hN : 75 ≤ g.N) {o : Nat} {a1 : Int32} {a2 : Int32} (ho : Ob 75 3 o) {σ : St} {r : Unit} {σ' : St} (h : S3_write o a1 a2 σ = some (r, σ')) : CtV g l m3_write yX3_write [.ref (g.ad (o)), .int (a1), .int (a2)] σ σ' := CtV.of hg (by decide) rfl rfl (fun X h1 h2 h3 => v3_write h1 hN (res := (r, σ')) h3 ho h)

abbrev m5_has : MI := (cX5_has, RX5, 2, some .boolean, 1)
def S5_has (o : Nat) (a1 : Int32) (σ : St) : Option (Int32 × St) := if a1 < 0 then (some ((0 : Int32), σ)) else (if (gI σ o 1) ≤ a1 then (some ((0 : Int32), σ)) else (some ((1 : Int32), σ)))
set_option maxRecDepth 100000 in
set_option maxHeartbeats 4000000 in
theorem v5_has {g : GT} {X : XT} {o : Nat} {a1 : Int32} (hX : OkX g X (m5_has)) (hN : 75 ≤ g.N) {res : Int32 × St} (hQ : X.Q = QI g X res.1 res.2 ∧ X.cells = 0 ∧ X.slots = 0) (ho : Ob 75 5 o) {σ : St} (h : S5_has o a1 σ = some res) : V g X (m5_has) 0 [(0, .ref (g.ad (o))), (1, .int (a1))] [] σ := by
  unfold S5_has at h
  refine V_iload_n (q := 1) hX dX5_has_0 1 rfl rfl ?_
  refine V_if_lt (q := 4) (t := 16) hX dX5_has_1 (by decide) rfl (fun z3 => ?_) (fun z3 => ?_)
  · have h := ite_t z3 h
    refine V_iconst (v := 0) (q := 17) hX dX5_has_16 (by decide) rfl ?_
    obtain ⟨f1, f2⟩ := some2 h
    rw [f1, f2] at hQ
    exact V_zret (ty := .boolean) hX hQ rfl rfl dX5_has_17
  have h := ite_f z3 h
  refine V_iload_n (q := 5) hX dX5_has_4 1 rfl rfl ?_
  refine V_aload_n (q := 6) hX dX5_has_5 0 rfl rfl ?_
  refine V_getI (n := 75) (c := 5) (k := 1) (nf := 4) (C := RX5) (T := TX5) (q := 9) hX rfl rfl iG5 k1_71 rfl rfl ho hN rfl rfl dX5_has_6 rfl ?_
  refine V_icmp_ge (q := 12) (t := 16) hX dX5_has_9 (by decide) rfl (fun z4 => ?_) (fun z4 => ?_)
  · have h := ite_t z4 h
    refine V_iconst (v := 0) (q := 17) hX dX5_has_16 (by decide) rfl ?_
    obtain ⟨f1, f2⟩ := some2 h
    rw [f1, f2] at hQ
    exact V_zret (ty := .boolean) hX hQ rfl rfl dX5_has_17
  have h := ite_f z4 h
  refine V_iconst (v := 1) (q := 13) hX dX5_has_12 (by decide) rfl ?_
  refine V_goto hX dX5_has_13 (q := 17) (by decide) ?_
  obtain ⟨f1, f2⟩ := some2 h
  rw [f1, f2] at hQ
  exact V_zret (ty := .boolean) hX hQ rfl rfl dX5_has_17
set_option maxRecDepth 100000 in
set_option maxHeartbeats 4000000 in
theorem c5_has {g : GT} {l : Launch} (hg : OkG g) (hN : 75 ≤ g.N) {o : Nat} {a1 : Int32} (ho : Ob 75 5 o) {σ : St} {r : Int32} {σ' : St} (h : S5_has o a1 σ = some (r, σ')) : CtI g l m5_has yX5_has [.ref (g.ad (o)), .int (a1)] σ r σ' := CtI.of hg (by decide) rfl rfl (fun X h1 h2 h3 => v5_has h1 hN (res := (r, σ')) h3 ho h)

abbrev m5_at : MI := (cX5_at, RX5, 2, some (.object "RingOfStraw$Wrestler"), 1)
def S5_at_22 (o : Nat) (a1 : Int32) (s1 : Int32) (σ : St) : Option (Nat × St) := if inb s1 6 then (some ((rf (o + 1) (s1).toNatClampNeg), σ)) else none
def S5_at_21 (o : Nat) (a1 : Int32) (σ : St) : Option (Nat × St) := S5_at_22 o a1 (0 : Int32) σ
def S5_at (o : Nat) (a1 : Int32) (σ : St) : Option (Nat × St) := if a1 < 0 then (S5_at_21 o a1 σ) else (if (6 : Int32) ≤ a1 then (S5_at_21 o a1 σ) else (S5_at_22 o a1 a1 σ))
set_option maxRecDepth 100000 in
set_option maxHeartbeats 4000000 in
theorem v5_at_22 {g : GT} {X : XT} {o : Nat} {a1 : Int32} (hX : OkX g X (m5_at)) (hN : 75 ≤ g.N) {res : Nat × St} (hQ : X.Q = QR g X res.1 res.2 ∧ X.cells = 0 ∧ X.slots = 0) (ho : Ob 75 5 o)  (s1 : Int32) (σ : St)  (h : S5_at_22 o a1 s1 σ = some res) : V g X (m5_at) 22 [] [.int (s1), .ref (g.ad ((o + 1)))] σ := by
  unfold S5_at_22 at h
  obtain ⟨z7, h⟩ := chk_t h
  refine V_aald (n := 75) (c := 11) (len := 6) (C := RX7) (q := 23) hX (ra5 ho) hN rfl 1 rfl z7 dX5_at_22 rfl ?_
  obtain ⟨f1, f2⟩ := some2 h
  rw [f1, f2] at hQ
  exact V_aret (C := RX7) hX hQ rfl dX5_at_23
set_option maxRecDepth 100000 in
set_option maxHeartbeats 4000000 in
theorem v5_at_21 {g : GT} {X : XT} {o : Nat} {a1 : Int32} (hX : OkX g X (m5_at)) (hN : 75 ≤ g.N) {res : Nat × St} (hQ : X.Q = QR g X res.1 res.2 ∧ X.cells = 0 ∧ X.slots = 0) (ho : Ob 75 5 o)   (σ : St)  (h : S5_at_21 o a1 σ = some res) : V g X (m5_at) 21 [] [.ref (g.ad ((o + 1)))] σ := by
  unfold S5_at_21 at h
  refine V_iconst (v := 0) (q := 22) hX dX5_at_21 (by decide) rfl ?_
  refine V.pick [] rfl ?_
  exact v5_at_22 hX hN hQ ho (0 : Int32) σ h
set_option maxRecDepth 100000 in
set_option maxHeartbeats 4000000 in
theorem v5_at {g : GT} {X : XT} {o : Nat} {a1 : Int32} (hX : OkX g X (m5_at)) (hN : 75 ≤ g.N) {res : Nat × St} (hQ : X.Q = QR g X res.1 res.2 ∧ X.cells = 0 ∧ X.slots = 0) (ho : Ob 75 5 o) {σ : St} (h : S5_at o a1 σ = some res) : V g X (m5_at) 0 [(0, .ref (g.ad (o))), (1, .int (a1))] [] σ := by
  unfold S5_at at h
  refine V_aload_n (q := 1) hX dX5_at_0 0 rfl rfl ?_
  refine V_getF (r := (o + 1)) (n := 75) (c := 5) (k := 0) (nf := 4) (C := RX5) (T := TX5) (q := 4) hX rfl rfl iG5 k1_70 rfl rfl ho hN rfl rfl rfl (rf5 ho) dX5_at_1 rfl ?_
  refine V_iload_n (q := 5) hX dX5_at_4 1 rfl rfl ?_
  refine V_if_lt (q := 8) (t := 21) hX dX5_at_5 (by decide) rfl (fun z8 => ?_) (fun z8 => ?_)
  · have h := ite_t z8 h
    refine V.pick [] rfl ?_
    exact v5_at_21 hX hN hQ ho σ h
  have h := ite_f z8 h
  refine V_iload_n (q := 9) hX dX5_at_8 1 rfl rfl ?_
  refine V_aload_n (q := 10) hX dX5_at_9 0 rfl rfl ?_
  refine V_getF (r := (o + 1)) (n := 75) (c := 5) (k := 0) (nf := 4) (C := RX5) (T := TX5) (q := 13) hX rfl rfl iG5 k1_70 rfl rfl ho hN rfl rfl rfl (rf5 ho) dX5_at_10 rfl ?_
  refine V_alenR (n := 75) (c := 11) (len := 6) (C := RX7) (v := 6) (q := 14) hX (ra5 ho) hN rfl 1 rfl (by decide) dX5_at_13 rfl ?_
  refine V_icmp_ge (q := 17) (t := 21) hX dX5_at_14 (by decide) rfl (fun z9 => ?_) (fun z9 => ?_)
  · have h := ite_t z9 h
    refine V.pick [] rfl ?_
    exact v5_at_21 hX hN hQ ho σ h
  have h := ite_f z9 h
  refine V_iload_n (q := 18) hX dX5_at_17 1 rfl rfl ?_
  refine V_goto hX dX5_at_18 (q := 22) (by decide) ?_
  refine V.pick [] rfl ?_
  exact v5_at_22 hX hN hQ ho a1 σ h
set_option maxRecDepth 100000 in
set_option maxHeartbeats 4000000 in
theorem c5_at {g : GT} {l : Launch} (hg : OkG g) (hN : 75 ≤ g.N) {o : Nat} {a1 : Int32} (ho : Ob 75 5 o) {σ : St} {r : Nat} {σ' : St} (h : S5_at o a1 σ = some (r, σ')) : CtR g l m5_at yX5_at [.ref (g.ad (o)), .int (a1)] σ r σ' := CtR.of hg (by decide) rfl rfl (fun X h1 h2 h3 => v5_at h1 hN (res := (r, σ')) h3 ho h)
theorem sh5_at_22 {o : Nat} (ho : Ob 75 5 o) {a1 s1 : Int32} {σ σ' : St} {r : Nat} (h : S5_at_22 o a1 s1 σ = some (r, σ')) : Ob 75 7 r := by
  unfold S5_at_22 at h
  obtain ⟨z, h⟩ := chk_t h
  obtain ⟨e, -⟩ := some2 h
  have e : r = rf (o + 1) s1.toNatClampNeg := e
  rw [e]
  exact aa11 (ra5 ho) z
theorem sh5_at {o : Nat} (ho : Ob 75 5 o) {a1 : Int32} {σ σ' : St} {r : Nat} (h : S5_at o a1 σ = some (r, σ')) : Ob 75 7 r := by
  unfold S5_at at h
  split at h
  · exact sh5_at_22 ho (σ := σ) h
  · split at h
    · exact sh5_at_22 ho (σ := σ) h
    · exact sh5_at_22 ho h

abbrev m7_comes : MI := (cX7_comes, RX7, 5, none, 1)
def S7_comes (o : Nat) (a1 : Int32) (a2 : Int32) (a3 : Int32) (a4 : Int32) (σ : St) : Option (Unit × St) := some ((), (sI (sI (sI (sI (sI (sI (sI σ o 0 a1) o 1 a2) o 2 a3) o 3 a4) o 4 (0 : Int32)) o 5 (0 : Int32)) o 6 (0 : Int32)))
set_option maxRecDepth 100000 in
set_option maxHeartbeats 4000000 in
theorem v7_comes {g : GT} {X : XT} {o : Nat} {a1 : Int32} {a2 : Int32} {a3 : Int32} {a4 : Int32} (hX : OkX g X (m7_comes)) (hN : 75 ≤ g.N) {res : Unit × St} (hQ : X.Q = QV g X res.2 ∧ X.cells = 0 ∧ X.slots = 0) (ho : Ob 75 7 o) {σ : St} (h : S7_comes o a1 a2 a3 a4 σ = some res) : V g X (m7_comes) 0 [(0, .ref (g.ad (o))), (1, .int (a1)), (2, .int (a2)), (3, .int (a3)), (4, .int (a4))] [] σ := by
  unfold S7_comes at h
  refine V_aload_n (q := 1) hX dX7_comes_0 0 rfl rfl ?_
  refine V_iload_n (q := 2) hX dX7_comes_1 1 rfl rfl ?_
  refine V_putI (n := 75) (c := 7) (k := 0) (nf := 7) (C := RX7) (T := TX7) (q := 5) hX rfl rfl iG7 k1_40 rfl rfl ho hN rfl tyX7 tyX7_ok nmX7 rfl rfl (ty := .int) (tyX7_ok 0 (by decide)) rfl rfl dX7_comes_2 rfl ?_
  refine V_aload_n (q := 6) hX dX7_comes_5 0 rfl rfl ?_
  refine V_iload_n (q := 7) hX dX7_comes_6 2 rfl rfl ?_
  refine V_putI (n := 75) (c := 7) (k := 1) (nf := 7) (C := RX7) (T := TX7) (q := 10) hX rfl rfl iG7 k1_41 rfl rfl ho hN rfl tyX7 tyX7_ok nmX7 rfl rfl (ty := .int) (tyX7_ok 1 (by decide)) rfl rfl dX7_comes_7 rfl ?_
  refine V_aload_n (q := 11) hX dX7_comes_10 0 rfl rfl ?_
  refine V_iload_n (q := 12) hX dX7_comes_11 3 rfl rfl ?_
  refine V_putI (n := 75) (c := 7) (k := 2) (nf := 7) (C := RX7) (T := TX7) (q := 15) hX rfl rfl iG7 k1_42 rfl rfl ho hN rfl tyX7 tyX7_ok nmX7 rfl rfl (ty := .int) (tyX7_ok 2 (by decide)) rfl rfl dX7_comes_12 rfl ?_
  refine V_aload_n (q := 16) hX dX7_comes_15 0 rfl rfl ?_
  refine V_iload (q := 18) hX dX7_comes_16 4 rfl rfl ?_
  refine V_putI (n := 75) (c := 7) (k := 3) (nf := 7) (C := RX7) (T := TX7) (q := 21) hX rfl rfl iG7 k1_44 rfl rfl ho hN rfl tyX7 tyX7_ok nmX7 rfl rfl (ty := .int) (tyX7_ok 3 (by decide)) rfl rfl dX7_comes_18 rfl ?_
  refine V_aload_n (q := 22) hX dX7_comes_21 0 rfl rfl ?_
  refine V_iconst (v := 0) (q := 23) hX dX7_comes_22 (by decide) rfl ?_
  refine V_putI (n := 75) (c := 7) (k := 4) (nf := 7) (C := RX7) (T := TX7) (q := 26) hX rfl rfl iG7 k1_46 rfl rfl ho hN rfl tyX7 tyX7_ok nmX7 rfl rfl (ty := .int) (tyX7_ok 4 (by decide)) rfl rfl dX7_comes_23 rfl ?_
  refine V_aload_n (q := 27) hX dX7_comes_26 0 rfl rfl ?_
  refine V_iconst (v := 0) (q := 28) hX dX7_comes_27 (by decide) rfl ?_
  refine V_putI (n := 75) (c := 7) (k := 5) (nf := 7) (C := RX7) (T := TX7) (q := 31) hX rfl rfl iG7 k1_50 rfl rfl ho hN rfl tyX7 tyX7_ok nmX7 rfl rfl (ty := .int) (tyX7_ok 5 (by decide)) rfl rfl dX7_comes_28 rfl ?_
  refine V_aload_n (q := 32) hX dX7_comes_31 0 rfl rfl ?_
  refine V_iconst (v := 0) (q := 33) hX dX7_comes_32 (by decide) rfl ?_
  refine V_putI (n := 75) (c := 7) (k := 6) (nf := 7) (C := RX7) (T := TX7) (q := 36) hX rfl rfl iG7 k1_53 rfl rfl ho hN rfl tyX7 tyX7_ok nmX7 rfl rfl (ty := .int) (tyX7_ok 6 (by decide)) rfl rfl dX7_comes_33 rfl ?_
  obtain ⟨f1, f2⟩ := some2 h
  rw [f2] at hQ
  exact V_vret hX hQ rfl dX7_comes_36
set_option maxRecDepth 100000 in
set_option maxHeartbeats 4000000 in
theorem c7_comes {g : GT} {l : Launch} (hg : OkG g) (hN : 75 ≤ g.N) {o : Nat} {a1 : Int32} {a2 : Int32} {a3 : Int32} {a4 : Int32} (ho : Ob 75 7 o) {σ : St} {r : Unit} {σ' : St} (h : S7_comes o a1 a2 a3 a4 σ = some (r, σ')) : CtV g l m7_comes yX7_comes [.ref (g.ad (o)), .int (a1), .int (a2), .int (a3), .int (a4)] σ σ' := CtV.of hg (by decide) rfl rfl (fun X h1 h2 h3 => v7_comes h1 hN (res := (r, σ')) h3 ho h)

abbrev m7_becomesLike : MI := (cX7_becomesLike, RX7, 2, none, 2)
def S7_becomesLike (o : Nat) (a1 : Nat) (σ : St) : Option (Unit × St) := bnd (S7_comes o (gI σ a1 0) (gI σ a1 1) (gI σ a1 2) (gI σ a1 3) σ) fun r5 σ4 => some ((), (sI (sI (sI σ4 o 4 (gI σ4 a1 4)) o 5 (gI (sI σ4 o 4 (gI σ4 a1 4)) a1 5)) o 6 (gI (sI (sI σ4 o 4 (gI σ4 a1 4)) o 5 (gI (sI σ4 o 4 (gI σ4 a1 4)) a1 5)) a1 6)))
set_option maxRecDepth 100000 in
set_option maxHeartbeats 4000000 in
theorem v7_becomesLike {g : GT} {X : XT} {o : Nat} {a1 : Nat} (hX : OkX g X (m7_becomesLike)) (hN : 75 ≤ g.N) {res : Unit × St} (hQ : X.Q = QV g X res.2 ∧ X.cells = 0 ∧ X.slots = 0) (ho : Ob 75 7 o) (ha1 : Ob 75 7 a1) {σ : St} (h : S7_becomesLike o a1 σ = some res) : V g X (m7_becomesLike) 0 [(0, .ref (g.ad (o))), (1, .ref (g.ad (a1)))] [] σ := by
  unfold S7_becomesLike at h
  refine V_aload_n (q := 1) hX dX7_becomesLike_0 0 rfl rfl ?_
  refine V_aload_n (q := 2) hX dX7_becomesLike_1 1 rfl rfl ?_
  refine V_getI (n := 75) (c := 7) (k := 0) (nf := 7) (C := RX7) (T := TX7) (q := 5) hX rfl rfl iG7 k1_40 rfl rfl ha1 hN rfl rfl dX7_becomesLike_2 rfl ?_
  refine V_aload_n (q := 6) hX dX7_becomesLike_5 1 rfl rfl ?_
  refine V_getI (n := 75) (c := 7) (k := 1) (nf := 7) (C := RX7) (T := TX7) (q := 9) hX rfl rfl iG7 k1_41 rfl rfl ha1 hN rfl rfl dX7_becomesLike_6 rfl ?_
  refine V_aload_n (q := 10) hX dX7_becomesLike_9 1 rfl rfl ?_
  refine V_getI (n := 75) (c := 7) (k := 2) (nf := 7) (C := RX7) (T := TX7) (q := 13) hX rfl rfl iG7 k1_42 rfl rfl ha1 hN rfl rfl dX7_becomesLike_10 rfl ?_
  refine V_aload_n (q := 14) hX dX7_becomesLike_13 1 rfl rfl ?_
  refine V_getI (n := 75) (c := 7) (k := 3) (nf := 7) (C := RX7) (T := TX7) (q := 17) hX rfl rfl iG7 k1_44 rfl rfl ha1 hN rfl rfl dX7_becomesLike_14 rfl ?_
  obtain ⟨r5, σ4, e6, h⟩ := bnd_some h
  refine V_cvV (n := 75) (c := 7) (nf := 7) (C := RX7) (T := TX7) (As := [.int ((gI σ a1 0)), .int ((gI σ a1 1)), .int ((gI σ a1 2)), .int ((gI σ a1 3))]) (q := 20) hX (c7_comes hX.2.2.2.2.1 hN ho e6) (goodV_of k3_206 k3_44 k3_45 k1_3 (cons_g k3_46)) (nA := 4) (by decide) rfl rfl rfl rfl rfl ho hN rfl rfl rfl dX7_becomesLike_17 rfl ?_
  refine V_aload_n (q := 21) hX dX7_becomesLike_20 0 rfl rfl ?_
  refine V_aload_n (q := 22) hX dX7_becomesLike_21 1 rfl rfl ?_
  refine V_getI (n := 75) (c := 7) (k := 4) (nf := 7) (C := RX7) (T := TX7) (q := 25) hX rfl rfl iG7 k1_46 rfl rfl ha1 hN rfl rfl dX7_becomesLike_22 rfl ?_
  refine V_putI (n := 75) (c := 7) (k := 4) (nf := 7) (C := RX7) (T := TX7) (q := 28) hX rfl rfl iG7 k1_46 rfl rfl ho hN rfl tyX7 tyX7_ok nmX7 rfl rfl (ty := .int) (tyX7_ok 4 (by decide)) rfl rfl dX7_becomesLike_25 rfl ?_
  refine V_aload_n (q := 29) hX dX7_becomesLike_28 0 rfl rfl ?_
  refine V_aload_n (q := 30) hX dX7_becomesLike_29 1 rfl rfl ?_
  refine V_getI (n := 75) (c := 7) (k := 5) (nf := 7) (C := RX7) (T := TX7) (q := 33) hX rfl rfl iG7 k1_50 rfl rfl ha1 hN rfl rfl dX7_becomesLike_30 rfl ?_
  refine V_putI (n := 75) (c := 7) (k := 5) (nf := 7) (C := RX7) (T := TX7) (q := 36) hX rfl rfl iG7 k1_50 rfl rfl ho hN rfl tyX7 tyX7_ok nmX7 rfl rfl (ty := .int) (tyX7_ok 5 (by decide)) rfl rfl dX7_becomesLike_33 rfl ?_
  refine V_aload_n (q := 37) hX dX7_becomesLike_36 0 rfl rfl ?_
  refine V_aload_n (q := 38) hX dX7_becomesLike_37 1 rfl rfl ?_
  refine V_getI (n := 75) (c := 7) (k := 6) (nf := 7) (C := RX7) (T := TX7) (q := 41) hX rfl rfl iG7 k1_53 rfl rfl ha1 hN rfl rfl dX7_becomesLike_38 rfl ?_
  refine V_putI (n := 75) (c := 7) (k := 6) (nf := 7) (C := RX7) (T := TX7) (q := 44) hX rfl rfl iG7 k1_53 rfl rfl ho hN rfl tyX7 tyX7_ok nmX7 rfl rfl (ty := .int) (tyX7_ok 6 (by decide)) rfl rfl dX7_becomesLike_41 rfl ?_
  obtain ⟨f1, f2⟩ := some2 h
  rw [f2] at hQ
  exact V_vret hX hQ rfl dX7_becomesLike_44
set_option maxRecDepth 100000 in
set_option maxHeartbeats 4000000 in
theorem c7_becomesLike {g : GT} {l : Launch} (hg : OkG g) (hN : 75 ≤ g.N) {o : Nat} {a1 : Nat} (ho : Ob 75 7 o) (ha1 : Ob 75 7 a1) {σ : St} {r : Unit} {σ' : St} (h : S7_becomesLike o a1 σ = some (r, σ')) : CtV g l m7_becomesLike yX7_becomesLike [.ref (g.ad (o)), .ref (g.ad (a1))] σ σ' := CtV.of hg (by decide) rfl rfl (fun X h1 h2 h3 => v7_becomesLike h1 hN (res := (r, σ')) h3 ho ha1 h)

abbrev m5_becomesLike : MI := (cX5_becomesLike, RX5, 3, none, 3)
def B5_becomesLike_2 (o : Nat) (a1 : Nat) (rec : Int32 → St → Option (Unit × St)) (x2 : Int32) (σ : St) : Option (Unit × St) := if (6 : Int32) ≤ x2 then (some ((), (sI (sI (sI σ o 1 (gI σ a1 1)) o 2 (gI (sI σ o 1 (gI σ a1 1)) a1 2)) o 3 (gI (sI (sI σ o 1 (gI σ a1 1)) o 2 (gI (sI σ o 1 (gI σ a1 1)) a1 2)) a1 3)))) else (bnd (S5_at o x2 σ) fun r23 σ22 => bnd (S5_at a1 x2 σ22) fun r26 σ25 => bnd (S7_becomesLike r23 r26 σ25) fun r29 σ28 => rec (x2 + 1) σ28)
def S5_becomesLike_2 (o : Nat) (a1 : Nat) : Nat → Int32 → St → Option (Unit × St)
  | 0, _, _ => none
  | n + 1, x2, σ => B5_becomesLike_2 o a1 (S5_becomesLike_2 o a1 n) x2 σ
def S5_becomesLike (o : Nat) (a1 : Nat) (σ : St) : Option (Unit × St) := S5_becomesLike_2 o a1 4096 (0 : Int32) σ
set_option maxRecDepth 100000 in
set_option maxHeartbeats 4000000 in
theorem v5_becomesLike_2n {g : GT} {X : XT} {o : Nat} {a1 : Nat} (hX : OkX g X (m5_becomesLike)) (hN : 75 ≤ g.N) {res : Unit × St} (hQ : X.Q = QV g X res.2 ∧ X.cells = 0 ∧ X.slots = 0) (ho : Ob 75 5 o) (ha1 : Ob 75 5 a1)  (n : Nat) : ∀ (x2 : Int32) (σ : St) , S5_becomesLike_2 o a1 n x2 σ = some res → V g X (m5_becomesLike) 2 [(0, .ref (g.ad (o))), (1, .ref (g.ad (a1))), (2, .int (x2))] [] σ := by
  induction n with
  | zero => intro x2 σ; intro h; cases h
  | succ n ih =>
    intro x2 σ h
    have h : B5_becomesLike_2 o a1 (S5_becomesLike_2 o a1 n) x2 σ = some res := h
    unfold B5_becomesLike_2 at h
    refine V_iload_n (q := 3) hX dX5_becomesLike_2 2 rfl rfl ?_
    refine V_bipush (v := 6) (q := 5) hX dX5_becomesLike_3 (by decide) rfl ?_
    refine V_icmp_ge (q := 8) (t := 27) hX dX5_becomesLike_5 (by decide) rfl (fun z21 => ?_) (fun z21 => ?_)
    · have h := ite_t z21 h
      refine V_aload_n (q := 28) hX dX5_becomesLike_27 0 rfl rfl ?_
      refine V_aload_n (q := 29) hX dX5_becomesLike_28 1 rfl rfl ?_
      refine V_getI (n := 75) (c := 5) (k := 1) (nf := 4) (C := RX5) (T := TX5) (q := 32) hX rfl rfl iG5 k1_71 rfl rfl ha1 hN rfl rfl dX5_becomesLike_29 rfl ?_
      refine V_putI (n := 75) (c := 5) (k := 1) (nf := 4) (C := RX5) (T := TX5) (q := 35) hX rfl rfl iG5 k1_71 rfl rfl ho hN rfl tyX5 tyX5_ok nmX5 rfl rfl (ty := .int) (tyX5_ok 1 (by decide)) rfl rfl dX5_becomesLike_32 rfl ?_
      refine V_aload_n (q := 36) hX dX5_becomesLike_35 0 rfl rfl ?_
      refine V_aload_n (q := 37) hX dX5_becomesLike_36 1 rfl rfl ?_
      refine V_getI (n := 75) (c := 5) (k := 2) (nf := 4) (C := RX5) (T := TX5) (q := 40) hX rfl rfl iG5 k1_73 rfl rfl ha1 hN rfl rfl dX5_becomesLike_37 rfl ?_
      refine V_putI (n := 75) (c := 5) (k := 2) (nf := 4) (C := RX5) (T := TX5) (q := 43) hX rfl rfl iG5 k1_73 rfl rfl ho hN rfl tyX5 tyX5_ok nmX5 rfl rfl (ty := .int) (tyX5_ok 2 (by decide)) rfl rfl dX5_becomesLike_40 rfl ?_
      refine V_aload_n (q := 44) hX dX5_becomesLike_43 0 rfl rfl ?_
      refine V_aload_n (q := 45) hX dX5_becomesLike_44 1 rfl rfl ?_
      refine V_getI (n := 75) (c := 5) (k := 3) (nf := 4) (C := RX5) (T := TX5) (q := 48) hX rfl rfl iG5 k1_75 rfl rfl ha1 hN rfl rfl dX5_becomesLike_45 rfl ?_
      refine V_putI (n := 75) (c := 5) (k := 3) (nf := 4) (C := RX5) (T := TX5) (q := 51) hX rfl rfl iG5 k1_75 rfl rfl ho hN rfl tyX5 tyX5_ok nmX5 rfl rfl (ty := .int) (tyX5_ok 3 (by decide)) rfl rfl dX5_becomesLike_48 rfl ?_
      obtain ⟨f1, f2⟩ := some2 h
      rw [f2] at hQ
      exact V_vret hX hQ rfl dX5_becomesLike_51
    have h := ite_f z21 h
    refine V_aload_n (q := 9) hX dX5_becomesLike_8 0 rfl rfl ?_
    refine V_iload_n (q := 10) hX dX5_becomesLike_9 2 rfl rfl ?_
    obtain ⟨r23, σ22, e24, h⟩ := bnd_some h
    refine V_cvR (n := 75) (c := 5) (nf := 4) (C := RX5) (T := TX5) (As := [.int (x2)]) (q := 13) hX (c5_at hX.2.2.2.2.1 hN ho e24) (goodV_of k4_7 k3_6 k3_7 k1_2 (cons_g k3_8)) (nA := 1) (by decide) rfl rfl rfl rfl rfl ho hN rfl rfl rfl dX5_becomesLike_10 rfl ?_
    refine V_aload_n (q := 14) hX dX5_becomesLike_13 1 rfl rfl ?_
    refine V_iload_n (q := 15) hX dX5_becomesLike_14 2 rfl rfl ?_
    obtain ⟨r26, σ25, e27, h⟩ := bnd_some h
    refine V_cvR (n := 75) (c := 5) (nf := 4) (C := RX5) (T := TX5) (As := [.int (x2)]) (q := 18) hX (c5_at hX.2.2.2.2.1 hN ha1 e27) (goodV_of k4_7 k3_6 k3_7 k1_2 (cons_g k3_8)) (nA := 1) (by decide) rfl rfl rfl rfl rfl ha1 hN rfl rfl rfl dX5_becomesLike_15 rfl ?_
    obtain ⟨r29, σ28, e30, h⟩ := bnd_some h
    refine V_cvV (n := 75) (c := 7) (nf := 7) (C := RX7) (T := TX7) (As := [.ref (g.ad (r26))]) (q := 21) hX (c7_becomesLike hX.2.2.2.2.1 hN (sh5_at ho e24) (sh5_at ha1 e27) e30) (goodV_of k4_16 k3_203 k3_204 k1_3 (cons_g k3_205)) (nA := 1) (by decide) rfl rfl rfl rfl rfl (sh5_at ho e24) hN rfl rfl rfl dX5_becomesLike_18 rfl ?_
    refine V_iinc (v := (x2 + 1)) (lv' := [(2, .int ((x2 + 1))), (0, .ref (g.ad (o))), (1, .ref (g.ad (a1)))]) (q := 24) hX dX5_becomesLike_21 2 rfl (by rfl) rfl rfl rfl ?_
    refine V_goto hX dX5_becomesLike_24 (q := 2) (by decide) ?_
    refine V.pick [1, 2, 0] rfl ?_
    exact ih (x2 + 1) σ28  h
theorem v5_becomesLike_2 {g : GT} {X : XT} {o : Nat} {a1 : Nat} (hX : OkX g X (m5_becomesLike)) (hN : 75 ≤ g.N) {res : Unit × St} (hQ : X.Q = QV g X res.2 ∧ X.cells = 0 ∧ X.slots = 0) (ho : Ob 75 5 o) (ha1 : Ob 75 5 a1) (x2 : Int32) (σ : St) (h : S5_becomesLike_2 o a1 4096 x2 σ = some res) : V g X (m5_becomesLike) 2 [(0, .ref (g.ad (o))), (1, .ref (g.ad (a1))), (2, .int (x2))] [] σ := v5_becomesLike_2n hX hN hQ ho ha1 4096 x2 σ h
set_option maxRecDepth 100000 in
set_option maxHeartbeats 4000000 in
theorem v5_becomesLike {g : GT} {X : XT} {o : Nat} {a1 : Nat} (hX : OkX g X (m5_becomesLike)) (hN : 75 ≤ g.N) {res : Unit × St} (hQ : X.Q = QV g X res.2 ∧ X.cells = 0 ∧ X.slots = 0) (ho : Ob 75 5 o) (ha1 : Ob 75 5 a1) {σ : St} (h : S5_becomesLike o a1 σ = some res) : V g X (m5_becomesLike) 0 [(0, .ref (g.ad (o))), (1, .ref (g.ad (a1)))] [] σ := by
  unfold S5_becomesLike at h
  refine V_iconst (v := 0) (q := 1) hX dX5_becomesLike_0 (by decide) rfl ?_
  refine V_istore_n (lv' := [(2, .int ((0 : Int32))), (0, .ref (g.ad (o))), (1, .ref (g.ad (a1)))]) (q := 2) hX dX5_becomesLike_1 rfl rfl rfl ?_
  refine V.pick [1, 2, 0] rfl ?_
  exact v5_becomesLike_2 hX hN hQ ho ha1 (0 : Int32) σ h
set_option maxRecDepth 100000 in
set_option maxHeartbeats 4000000 in
theorem c5_becomesLike {g : GT} {l : Launch} (hg : OkG g) (hN : 75 ≤ g.N) {o : Nat} {a1 : Nat} (ho : Ob 75 5 o) (ha1 : Ob 75 5 a1) {σ : St} {r : Unit} {σ' : St} (h : S5_becomesLike o a1 σ = some (r, σ')) : CtV g l m5_becomesLike yX5_becomesLike [.ref (g.ad (o)), .ref (g.ad (a1))] σ σ' := CtV.of hg (by decide) rfl rfl (fun X h1 h2 h3 => v5_becomesLike h1 hN (res := (r, σ')) h3 ho ha1 h)

abbrev m5_leader : MI := (cX5_leader, RX5, 3, some .int, 2)
def S5_leader_40 (o : Nat) (k4 : Int32 → Int32 → St → Option (Int32 × St)) (x2 : Int32) (s0 : Int32) (σ : St) : Option (Int32 × St) := k4 s0 (x2 + 1) σ
def S5_leader_35 (o : Nat) (k4 : Int32 → Int32 → St → Option (Int32 × St)) (x2 : Int32) (σ : St) : Option (Int32 × St) := S5_leader_40 o k4 x2 x2 σ
def B5_leader_4 (o : Nat) (rec : Int32 → Int32 → St → Option (Int32 × St)) (x1 : Int32) (x2 : Int32) (σ : St) : Option (Int32 × St) := if (gI σ o 1) ≤ x2 then (some (x1, σ)) else (if x1 < 0 then (S5_leader_35 o rec x2 σ) else (bnd (S5_at o x2 σ) fun r31 σ30 => bnd (S5_at o x1 σ30) fun r34 σ33 => if (gI σ30 r31 5) ≤ (gI σ33 r34 5) then (S5_leader_40 o rec x2 x1 σ33) else (S5_leader_35 o rec x2 σ33)))
def S5_leader_4 (o : Nat) : Nat → Int32 → Int32 → St → Option (Int32 × St)
  | 0, _, _, _ => none
  | n + 1, x1, x2, σ => B5_leader_4 o (S5_leader_4 o n) x1 x2 σ
def S5_leader (o : Nat) (σ : St) : Option (Int32 × St) := S5_leader_4 o 4096 (-1 : Int32) (0 : Int32) σ
set_option maxRecDepth 100000 in
set_option maxHeartbeats 4000000 in
theorem v5_leader_40 {g : GT} {X : XT} {o : Nat} (hX : OkX g X (m5_leader)) (hN : 75 ≤ g.N) {res : Int32 × St} (hQ : X.Q = QI g X res.1 res.2 ∧ X.cells = 0 ∧ X.slots = 0) (ho : Ob 75 5 o) {k4 : Int32 → Int32 → St → Option (Int32 × St)} (hk4 : ∀ (x1 : Int32) (x2 : Int32) (σ : St), k4 x1 x2 σ = some res → V g X (m5_leader) 4 [(0, .ref (g.ad (o))), (1, .int (x1)), (2, .int (x2))] [] σ) (x2 : Int32) (s0 : Int32) (σ : St)  (h : S5_leader_40 o k4 x2 s0 σ = some res) : V g X (m5_leader) 40 [(0, .ref (g.ad (o))), (2, .int (x2))] [.int (s0)] σ := by
  unfold S5_leader_40 at h
  refine V_istore_n (lv' := [(1, .int (s0)), (0, .ref (g.ad (o))), (2, .int (x2))]) (q := 41) hX dX5_leader_40 rfl rfl rfl ?_
  refine V_iinc (v := (x2 + 1)) (lv' := [(2, .int ((x2 + 1))), (1, .int (s0)), (0, .ref (g.ad (o)))]) (q := 44) hX dX5_leader_41 2 rfl (by rfl) rfl rfl rfl ?_
  refine V_goto hX dX5_leader_44 (q := 4) (by decide) ?_
  refine V.pick [2, 1, 0] rfl ?_
  exact hk4 s0 (x2 + 1) σ  h
set_option maxRecDepth 100000 in
set_option maxHeartbeats 4000000 in
theorem v5_leader_35 {g : GT} {X : XT} {o : Nat} (hX : OkX g X (m5_leader)) (hN : 75 ≤ g.N) {res : Int32 × St} (hQ : X.Q = QI g X res.1 res.2 ∧ X.cells = 0 ∧ X.slots = 0) (ho : Ob 75 5 o) {k4 : Int32 → Int32 → St → Option (Int32 × St)} (hk4 : ∀ (x1 : Int32) (x2 : Int32) (σ : St), k4 x1 x2 σ = some res → V g X (m5_leader) 4 [(0, .ref (g.ad (o))), (1, .int (x1)), (2, .int (x2))] [] σ) (x2 : Int32) (σ : St)  (h : S5_leader_35 o k4 x2 σ = some res) : V g X (m5_leader) 35 [(0, .ref (g.ad (o))), (2, .int (x2))] [] σ := by
  unfold S5_leader_35 at h
  refine V_iload_n (q := 36) hX dX5_leader_35 1 rfl rfl ?_
  refine V_goto hX dX5_leader_36 (q := 40) (by decide) ?_
  refine V.pick [0, 1] rfl ?_
  exact v5_leader_40 hX hN hQ ho hk4 x2 x2 σ h
set_option maxRecDepth 100000 in
set_option maxHeartbeats 4000000 in
theorem v5_leader_4n {g : GT} {X : XT} {o : Nat} (hX : OkX g X (m5_leader)) (hN : 75 ≤ g.N) {res : Int32 × St} (hQ : X.Q = QI g X res.1 res.2 ∧ X.cells = 0 ∧ X.slots = 0) (ho : Ob 75 5 o)  (n : Nat) : ∀ (x1 : Int32) (x2 : Int32) (σ : St) , S5_leader_4 o n x1 x2 σ = some res → V g X (m5_leader) 4 [(0, .ref (g.ad (o))), (1, .int (x1)), (2, .int (x2))] [] σ := by
  induction n with
  | zero => intro x1 x2 σ; intro h; cases h
  | succ n ih =>
    intro x1 x2 σ h
    have h : B5_leader_4 o (S5_leader_4 o n) x1 x2 σ = some res := h
    unfold B5_leader_4 at h
    refine V_iload_n (q := 5) hX dX5_leader_4 2 rfl rfl ?_
    refine V_aload_n (q := 6) hX dX5_leader_5 0 rfl rfl ?_
    refine V_getI (n := 75) (c := 5) (k := 1) (nf := 4) (C := RX5) (T := TX5) (q := 9) hX rfl rfl iG5 k1_71 rfl rfl ho hN rfl rfl dX5_leader_6 rfl ?_
    refine V_icmp_ge (q := 12) (t := 47) hX dX5_leader_9 (by decide) rfl (fun z28 => ?_) (fun z28 => ?_)
    · have h := ite_t z28 h
      refine V_iload_n (q := 48) hX dX5_leader_47 1 rfl rfl ?_
      obtain ⟨f1, f2⟩ := some2 h
      rw [f1, f2] at hQ
      exact V_iret hX hQ rfl dX5_leader_48
    have h := ite_f z28 h
    refine V_iload_n (q := 13) hX dX5_leader_12 1 rfl rfl ?_
    refine V_if_lt (q := 16) (t := 35) hX dX5_leader_13 (by decide) rfl (fun z29 => ?_) (fun z29 => ?_)
    · have h := ite_t z29 h
      refine V.pick [0, 2] rfl ?_
      exact v5_leader_35 hX hN hQ ho ih x2 σ h
    have h := ite_f z29 h
    refine V_aload_n (q := 17) hX dX5_leader_16 0 rfl rfl ?_
    refine V_iload_n (q := 18) hX dX5_leader_17 2 rfl rfl ?_
    obtain ⟨r31, σ30, e32, h⟩ := bnd_some h
    refine V_cvR (n := 75) (c := 5) (nf := 4) (C := RX5) (T := TX5) (As := [.int (x2)]) (q := 21) hX (c5_at hX.2.2.2.2.1 hN ho e32) (goodV_of k4_7 k3_6 k3_7 k1_2 (cons_g k3_8)) (nA := 1) (by decide) rfl rfl rfl rfl rfl ho hN rfl rfl rfl dX5_leader_18 rfl ?_
    refine V_getI (n := 75) (c := 7) (k := 5) (nf := 7) (C := RX7) (T := TX7) (q := 24) hX rfl rfl iG7 k1_51 rfl rfl (sh5_at ho e32) hN rfl rfl dX5_leader_21 rfl ?_
    refine V_aload_n (q := 25) hX dX5_leader_24 0 rfl rfl ?_
    refine V_iload_n (q := 26) hX dX5_leader_25 1 rfl rfl ?_
    obtain ⟨r34, σ33, e35, h⟩ := bnd_some h
    refine V_cvR (n := 75) (c := 5) (nf := 4) (C := RX5) (T := TX5) (As := [.int (x1)]) (q := 29) hX (c5_at hX.2.2.2.2.1 hN ho e35) (goodV_of k4_7 k3_6 k3_7 k1_2 (cons_g k3_8)) (nA := 1) (by decide) rfl rfl rfl rfl rfl ho hN rfl rfl rfl dX5_leader_26 rfl ?_
    refine V_getI (n := 75) (c := 7) (k := 5) (nf := 7) (C := RX7) (T := TX7) (q := 32) hX rfl rfl iG7 k1_51 rfl rfl (sh5_at ho e35) hN rfl rfl dX5_leader_29 rfl ?_
    refine V_icmp_le (q := 35) (t := 39) hX dX5_leader_32 (by decide) rfl (fun z36 => ?_) (fun z36 => ?_)
    · have h := ite_t z36 h
      refine V_iload_n (q := 40) hX dX5_leader_39 1 rfl rfl ?_
      refine V.pick [0, 2] rfl ?_
      exact v5_leader_40 hX hN hQ ho ih x2 x1 σ33 h
    have h := ite_f z36 h
    refine V.pick [0, 2] rfl ?_
    exact v5_leader_35 hX hN hQ ho ih x2 σ33 h
theorem v5_leader_4 {g : GT} {X : XT} {o : Nat} (hX : OkX g X (m5_leader)) (hN : 75 ≤ g.N) {res : Int32 × St} (hQ : X.Q = QI g X res.1 res.2 ∧ X.cells = 0 ∧ X.slots = 0) (ho : Ob 75 5 o) (x1 : Int32) (x2 : Int32) (σ : St) (h : S5_leader_4 o 4096 x1 x2 σ = some res) : V g X (m5_leader) 4 [(0, .ref (g.ad (o))), (1, .int (x1)), (2, .int (x2))] [] σ := v5_leader_4n hX hN hQ ho 4096 x1 x2 σ h
set_option maxRecDepth 100000 in
set_option maxHeartbeats 4000000 in
theorem v5_leader {g : GT} {X : XT} {o : Nat} (hX : OkX g X (m5_leader)) (hN : 75 ≤ g.N) {res : Int32 × St} (hQ : X.Q = QI g X res.1 res.2 ∧ X.cells = 0 ∧ X.slots = 0) (ho : Ob 75 5 o) {σ : St} (h : S5_leader o σ = some res) : V g X (m5_leader) 0 [(0, .ref (g.ad (o)))] [] σ := by
  unfold S5_leader at h
  refine V_iconst (v := -1) (q := 1) hX dX5_leader_0 (by decide) rfl ?_
  refine V_istore_n (lv' := [(1, .int ((-1 : Int32))), (0, .ref (g.ad (o)))]) (q := 2) hX dX5_leader_1 rfl rfl rfl ?_
  refine V_iconst (v := 0) (q := 3) hX dX5_leader_2 (by decide) rfl ?_
  refine V_istore_n (lv' := [(2, .int ((0 : Int32))), (1, .int ((-1 : Int32))), (0, .ref (g.ad (o)))]) (q := 4) hX dX5_leader_3 rfl rfl rfl ?_
  refine V.pick [2, 1, 0] rfl ?_
  exact v5_leader_4 hX hN hQ ho (-1 : Int32) (0 : Int32) σ h
set_option maxRecDepth 100000 in
set_option maxHeartbeats 4000000 in
theorem c5_leader {g : GT} {l : Launch} (hg : OkG g) (hN : 75 ≤ g.N) {o : Nat} (ho : Ob 75 5 o) {σ : St} {r : Int32} {σ' : St} (h : S5_leader o σ = some (r, σ')) : CtI g l m5_leader yX5_leader [.ref (g.ad (o))] σ r σ' := CtI.of hg (by decide) rfl rfl (fun X h1 h2 h3 => v5_leader h1 hN (res := (r, σ')) h3 ho h)

abbrev m7_tells : MI := (cX7_tells, RX7, 2, some .int, 1)
def S7_tells (o : Nat) (a1 : Int32) (σ : St) : Option (Int32 × St) := if a1 = 0 then (some ((gI σ o 2), σ)) else (if a1 = 1 then (some ((gI σ o 3), σ)) else (if a1 = 2 then (some ((gI σ o 4), σ)) else (if a1 = 3 then (some ((gI σ o 5), σ)) else (if a1 = 4 then (some ((gI σ o 6), σ)) else (if a1 = 5 then (some ((gI σ o 0), σ)) else (some ((gI σ o 1), σ)))))))
set_option maxRecDepth 100000 in
set_option maxHeartbeats 4000000 in
theorem v7_tells {g : GT} {X : XT} {o : Nat} {a1 : Int32} (hX : OkX g X (m7_tells)) (hN : 75 ≤ g.N) {res : Int32 × St} (hQ : X.Q = QI g X res.1 res.2 ∧ X.cells = 0 ∧ X.slots = 0) (ho : Ob 75 7 o) {σ : St} (h : S7_tells o a1 σ = some res) : V g X (m7_tells) 0 [(0, .ref (g.ad (o))), (1, .int (a1))] [] σ := by
  unfold S7_tells at h
  refine V_iload_n (q := 1) hX dX7_tells_0 1 rfl rfl ?_
  by_cases z7 : a1 = 0
  · have h := ite_t z7 h
    refine V_tsw (q := 40) (off := 39) hX dX7_tells_1 (by rw [z7]; decide) (by rw [z7]; decide) (by rw [z7]; decide) (by decide) ?_
    refine V_aload_n (q := 41) hX dX7_tells_40 0 rfl rfl ?_
    refine V_getI (n := 75) (c := 7) (k := 2) (nf := 7) (C := RX7) (T := TX7) (q := 44) hX rfl rfl iG7 k1_42 rfl rfl ho hN rfl rfl dX7_tells_41 rfl ?_
    obtain ⟨f1, f2⟩ := some2 h
    rw [f1, f2] at hQ
    exact V_iret hX hQ rfl dX7_tells_44
  have h := ite_f z7 h
  by_cases z8 : a1 = 1
  · have h := ite_t z8 h
    refine V_tsw (q := 45) (off := 44) hX dX7_tells_1 (by rw [z8]; decide) (by rw [z8]; decide) (by rw [z8]; decide) (by decide) ?_
    refine V_aload_n (q := 46) hX dX7_tells_45 0 rfl rfl ?_
    refine V_getI (n := 75) (c := 7) (k := 3) (nf := 7) (C := RX7) (T := TX7) (q := 49) hX rfl rfl iG7 k1_44 rfl rfl ho hN rfl rfl dX7_tells_46 rfl ?_
    obtain ⟨f1, f2⟩ := some2 h
    rw [f1, f2] at hQ
    exact V_iret hX hQ rfl dX7_tells_49
  have h := ite_f z8 h
  by_cases z9 : a1 = 2
  · have h := ite_t z9 h
    refine V_tsw (q := 50) (off := 49) hX dX7_tells_1 (by rw [z9]; decide) (by rw [z9]; decide) (by rw [z9]; decide) (by decide) ?_
    refine V_aload_n (q := 51) hX dX7_tells_50 0 rfl rfl ?_
    refine V_getI (n := 75) (c := 7) (k := 4) (nf := 7) (C := RX7) (T := TX7) (q := 54) hX rfl rfl iG7 k1_46 rfl rfl ho hN rfl rfl dX7_tells_51 rfl ?_
    obtain ⟨f1, f2⟩ := some2 h
    rw [f1, f2] at hQ
    exact V_iret hX hQ rfl dX7_tells_54
  have h := ite_f z9 h
  by_cases z10 : a1 = 3
  · have h := ite_t z10 h
    refine V_tsw (q := 55) (off := 54) hX dX7_tells_1 (by rw [z10]; decide) (by rw [z10]; decide) (by rw [z10]; decide) (by decide) ?_
    refine V_aload_n (q := 56) hX dX7_tells_55 0 rfl rfl ?_
    refine V_getI (n := 75) (c := 7) (k := 5) (nf := 7) (C := RX7) (T := TX7) (q := 59) hX rfl rfl iG7 k1_50 rfl rfl ho hN rfl rfl dX7_tells_56 rfl ?_
    obtain ⟨f1, f2⟩ := some2 h
    rw [f1, f2] at hQ
    exact V_iret hX hQ rfl dX7_tells_59
  have h := ite_f z10 h
  by_cases z11 : a1 = 4
  · have h := ite_t z11 h
    refine V_tsw (q := 60) (off := 59) hX dX7_tells_1 (by rw [z11]; decide) (by rw [z11]; decide) (by rw [z11]; decide) (by decide) ?_
    refine V_aload_n (q := 61) hX dX7_tells_60 0 rfl rfl ?_
    refine V_getI (n := 75) (c := 7) (k := 6) (nf := 7) (C := RX7) (T := TX7) (q := 64) hX rfl rfl iG7 k1_53 rfl rfl ho hN rfl rfl dX7_tells_61 rfl ?_
    obtain ⟨f1, f2⟩ := some2 h
    rw [f1, f2] at hQ
    exact V_iret hX hQ rfl dX7_tells_64
  have h := ite_f z11 h
  by_cases z12 : a1 = 5
  · have h := ite_t z12 h
    refine V_tsw (q := 65) (off := 64) hX dX7_tells_1 (by rw [z12]; decide) (by rw [z12]; decide) (by rw [z12]; decide) (by decide) ?_
    refine V_aload_n (q := 66) hX dX7_tells_65 0 rfl rfl ?_
    refine V_getI (n := 75) (c := 7) (k := 0) (nf := 7) (C := RX7) (T := TX7) (q := 69) hX rfl rfl iG7 k1_40 rfl rfl ho hN rfl rfl dX7_tells_66 rfl ?_
    obtain ⟨f1, f2⟩ := some2 h
    rw [f1, f2] at hQ
    exact V_iret hX hQ rfl dX7_tells_69
  have h := ite_f z12 h
  refine V_tswD (q := 70) hX dX7_tells_1 (by have y0 := neI (v := 0) (by decide) z7; have y1 := neI (v := 1) (by decide) z8; have y2 := neI (v := 2) (by decide) z9; have y3 := neI (v := 3) (by decide) z10; have y4 := neI (v := 4) (by decide) z11; have y5 := neI (v := 5) (by decide) z12; omega) (by decide) ?_
  refine V_aload_n (q := 71) hX dX7_tells_70 0 rfl rfl ?_
  refine V_getI (n := 75) (c := 7) (k := 1) (nf := 7) (C := RX7) (T := TX7) (q := 74) hX rfl rfl iG7 k1_41 rfl rfl ho hN rfl rfl dX7_tells_71 rfl ?_
  obtain ⟨f1, f2⟩ := some2 h
  rw [f1, f2] at hQ
  exact V_iret hX hQ rfl dX7_tells_74
set_option maxRecDepth 100000 in
set_option maxHeartbeats 4000000 in
theorem c7_tells {g : GT} {l : Launch} (hg : OkG g) (hN : 75 ≤ g.N) {o : Nat} {a1 : Int32} (ho : Ob 75 7 o) {σ : St} {r : Int32} {σ' : St} (h : S7_tells o a1 σ = some (r, σ')) : CtI g l m7_tells yX7_tells [.ref (g.ad (o)), .int (a1)] σ r σ' := CtI.of hg (by decide) rfl rfl (fun X h1 h2 h3 => v7_tells h1 hN (res := (r, σ')) h3 ho h)

abbrev m7_becomes : MI := (cX7_becomes, RX7, 3, none, 1)
def S7_becomes_72 (o : Nat) (a1 : Int32) (a2 : Int32) (σ : St) : Option (Unit × St) := some ((), (sI σ o 1 a2))
def S7_becomes (o : Nat) (a1 : Int32) (a2 : Int32) (σ : St) : Option (Unit × St) := if a1 = 0 then (some ((), (sI σ o 2 a2))) else (if a1 = 1 then (some ((), (sI σ o 3 a2))) else (if a1 = 2 then (some ((), (sI σ o 4 a2))) else (if a1 = 3 then (S7_becomes_72 o a1 a2 σ) else (if a1 = 4 then (S7_becomes_72 o a1 a2 σ) else (if a1 = 5 then (some ((), (sI σ o 0 a2))) else (S7_becomes_72 o a1 a2 σ))))))
set_option maxRecDepth 100000 in
set_option maxHeartbeats 4000000 in
theorem v7_becomes_72 {g : GT} {X : XT} {o : Nat} {a1 : Int32} {a2 : Int32} (hX : OkX g X (m7_becomes)) (hN : 75 ≤ g.N) {res : Unit × St} (hQ : X.Q = QV g X res.2 ∧ X.cells = 0 ∧ X.slots = 0) (ho : Ob 75 7 o)   (σ : St)  (h : S7_becomes_72 o a1 a2 σ = some res) : V g X (m7_becomes) 72 [(0, .ref (g.ad (o))), (2, .int (a2))] [] σ := by
  unfold S7_becomes_72 at h
  refine V_aload_n (q := 73) hX dX7_becomes_72 0 rfl rfl ?_
  refine V_iload_n (q := 74) hX dX7_becomes_73 1 rfl rfl ?_
  refine V_putI (n := 75) (c := 7) (k := 1) (nf := 7) (C := RX7) (T := TX7) (q := 77) hX rfl rfl iG7 k1_41 rfl rfl ho hN rfl tyX7 tyX7_ok nmX7 rfl rfl (ty := .int) (tyX7_ok 1 (by decide)) rfl rfl dX7_becomes_74 rfl ?_
  obtain ⟨f1, f2⟩ := some2 h
  rw [f2] at hQ
  exact V_vret hX hQ rfl dX7_becomes_77
set_option maxRecDepth 100000 in
set_option maxHeartbeats 4000000 in
theorem v7_becomes {g : GT} {X : XT} {o : Nat} {a1 : Int32} {a2 : Int32} (hX : OkX g X (m7_becomes)) (hN : 75 ≤ g.N) {res : Unit × St} (hQ : X.Q = QV g X res.2 ∧ X.cells = 0 ∧ X.slots = 0) (ho : Ob 75 7 o) {σ : St} (h : S7_becomes o a1 a2 σ = some res) : V g X (m7_becomes) 0 [(0, .ref (g.ad (o))), (1, .int (a1)), (2, .int (a2))] [] σ := by
  unfold S7_becomes at h
  refine V_iload_n (q := 1) hX dX7_becomes_0 1 rfl rfl ?_
  by_cases z13 : a1 = 0
  · have h := ite_t z13 h
    refine V_tsw (q := 40) (off := 39) hX dX7_becomes_1 (by rw [z13]; decide) (by rw [z13]; decide) (by rw [z13]; decide) (by decide) ?_
    refine V_aload_n (q := 41) hX dX7_becomes_40 0 rfl rfl ?_
    refine V_iload_n (q := 42) hX dX7_becomes_41 2 rfl rfl ?_
    refine V_putI (n := 75) (c := 7) (k := 2) (nf := 7) (C := RX7) (T := TX7) (q := 45) hX rfl rfl iG7 k1_42 rfl rfl ho hN rfl tyX7 tyX7_ok nmX7 rfl rfl (ty := .int) (tyX7_ok 2 (by decide)) rfl rfl dX7_becomes_42 rfl ?_
    refine V_goto hX dX7_becomes_45 (q := 77) (by decide) ?_
    obtain ⟨f1, f2⟩ := some2 h
    rw [f2] at hQ
    exact V_vret hX hQ rfl dX7_becomes_77
  have h := ite_f z13 h
  by_cases z14 : a1 = 1
  · have h := ite_t z14 h
    refine V_tsw (q := 48) (off := 47) hX dX7_becomes_1 (by rw [z14]; decide) (by rw [z14]; decide) (by rw [z14]; decide) (by decide) ?_
    refine V_aload_n (q := 49) hX dX7_becomes_48 0 rfl rfl ?_
    refine V_iload_n (q := 50) hX dX7_becomes_49 2 rfl rfl ?_
    refine V_putI (n := 75) (c := 7) (k := 3) (nf := 7) (C := RX7) (T := TX7) (q := 53) hX rfl rfl iG7 k1_44 rfl rfl ho hN rfl tyX7 tyX7_ok nmX7 rfl rfl (ty := .int) (tyX7_ok 3 (by decide)) rfl rfl dX7_becomes_50 rfl ?_
    refine V_goto hX dX7_becomes_53 (q := 77) (by decide) ?_
    obtain ⟨f1, f2⟩ := some2 h
    rw [f2] at hQ
    exact V_vret hX hQ rfl dX7_becomes_77
  have h := ite_f z14 h
  by_cases z15 : a1 = 2
  · have h := ite_t z15 h
    refine V_tsw (q := 56) (off := 55) hX dX7_becomes_1 (by rw [z15]; decide) (by rw [z15]; decide) (by rw [z15]; decide) (by decide) ?_
    refine V_aload_n (q := 57) hX dX7_becomes_56 0 rfl rfl ?_
    refine V_iload_n (q := 58) hX dX7_becomes_57 2 rfl rfl ?_
    refine V_putI (n := 75) (c := 7) (k := 4) (nf := 7) (C := RX7) (T := TX7) (q := 61) hX rfl rfl iG7 k1_46 rfl rfl ho hN rfl tyX7 tyX7_ok nmX7 rfl rfl (ty := .int) (tyX7_ok 4 (by decide)) rfl rfl dX7_becomes_58 rfl ?_
    refine V_goto hX dX7_becomes_61 (q := 77) (by decide) ?_
    obtain ⟨f1, f2⟩ := some2 h
    rw [f2] at hQ
    exact V_vret hX hQ rfl dX7_becomes_77
  have h := ite_f z15 h
  by_cases z16 : a1 = 3
  · have h := ite_t z16 h
    refine V_tsw (q := 72) (off := 71) hX dX7_becomes_1 (by rw [z16]; decide) (by rw [z16]; decide) (by rw [z16]; decide) (by decide) ?_
    refine V.pick [0, 2] rfl ?_
    exact v7_becomes_72 hX hN hQ ho σ h
  have h := ite_f z16 h
  by_cases z17 : a1 = 4
  · have h := ite_t z17 h
    refine V_tsw (q := 72) (off := 71) hX dX7_becomes_1 (by rw [z17]; decide) (by rw [z17]; decide) (by rw [z17]; decide) (by decide) ?_
    refine V.pick [0, 2] rfl ?_
    exact v7_becomes_72 hX hN hQ ho σ h
  have h := ite_f z17 h
  by_cases z18 : a1 = 5
  · have h := ite_t z18 h
    refine V_tsw (q := 64) (off := 63) hX dX7_becomes_1 (by rw [z18]; decide) (by rw [z18]; decide) (by rw [z18]; decide) (by decide) ?_
    refine V_aload_n (q := 65) hX dX7_becomes_64 0 rfl rfl ?_
    refine V_iload_n (q := 66) hX dX7_becomes_65 2 rfl rfl ?_
    refine V_putI (n := 75) (c := 7) (k := 0) (nf := 7) (C := RX7) (T := TX7) (q := 69) hX rfl rfl iG7 k1_40 rfl rfl ho hN rfl tyX7 tyX7_ok nmX7 rfl rfl (ty := .int) (tyX7_ok 0 (by decide)) rfl rfl dX7_becomes_66 rfl ?_
    refine V_goto hX dX7_becomes_69 (q := 77) (by decide) ?_
    obtain ⟨f1, f2⟩ := some2 h
    rw [f2] at hQ
    exact V_vret hX hQ rfl dX7_becomes_77
  have h := ite_f z18 h
  refine V_tswD (q := 72) hX dX7_becomes_1 (by have y0 := neI (v := 0) (by decide) z13; have y1 := neI (v := 1) (by decide) z14; have y2 := neI (v := 2) (by decide) z15; have y3 := neI (v := 3) (by decide) z16; have y4 := neI (v := 4) (by decide) z17; have y5 := neI (v := 5) (by decide) z18; omega) (by decide) ?_
  refine V.pick [0, 2] rfl ?_
  exact v7_becomes_72 hX hN hQ ho σ h
set_option maxRecDepth 100000 in
set_option maxHeartbeats 4000000 in
theorem c7_becomes {g : GT} {l : Launch} (hg : OkG g) (hN : 75 ≤ g.N) {o : Nat} {a1 : Int32} {a2 : Int32} (ho : Ob 75 7 o) {σ : St} {r : Unit} {σ' : St} (h : S7_becomes o a1 a2 σ = some (r, σ')) : CtV g l m7_becomes yX7_becomes [.ref (g.ad (o)), .int (a1), .int (a2)] σ σ' := CtV.of hg (by decide) rfl rfl (fun X h1 h2 h3 => v7_becomes h1 hN (res := (r, σ')) h3 ho h)

abbrev m8_count : MI := (cX8_count, RX8, 2, some .int, 1)
def S8_count (a1 : Int32) (σ : St) : Option (Int32 × St) := if a1 = 0 then (some ((gI σ 1 1), σ)) else (if a1 = 1 then (some ((gI σ 1 2), σ)) else (if a1 = 2 then (some ((gI σ 0 9), σ)) else (if a1 = 3 then (some ((gI σ 1 3), σ)) else (if a1 = 4 then (some ((gI σ 26 1), σ)) else (some ((-2 : Int32), σ))))))
set_option maxRecDepth 100000 in
set_option maxHeartbeats 4000000 in
theorem v8_count {g : GT} {X : XT} {a1 : Int32} (hX : OkX g X (m8_count)) (hN : 75 ≤ g.N) {res : Int32 × St} (hQ : X.Q = QI g X res.1 res.2 ∧ X.cells = 0 ∧ X.slots = 0) {σ : St} (h : S8_count a1 σ = some res) : V g X (m8_count) 0 [(0, .ref (g.ad (0))), (1, .int (a1))] [] σ := by
  unfold S8_count at h
  refine V_iload_n (q := 1) hX dX8_count_0 1 rfl rfl ?_
  by_cases z6 : a1 = 0
  · have h := ite_t z6 h
    refine V_tsw (q := 36) (off := 35) hX dX8_count_1 (by rw [z6]; decide) (by rw [z6]; decide) (by rw [z6]; decide) (by decide) ?_
    refine V_aload_n (q := 37) hX dX8_count_36 0 rfl rfl ?_
    refine V_getF (r := 1) (n := 75) (c := 8) (k := 0) (nf := 11) (C := RX8) (T := TX8) (q := 40) hX rfl rfl iG8 k2_175 rfl rfl ⟨rfl, by decide⟩ hN rfl rfl rfl rfl dX8_count_37 rfl ?_
    refine V_getI (n := 75) (c := 5) (k := 1) (nf := 4) (C := RX5) (T := TX5) (q := 43) hX rfl rfl iG5 k1_72 rfl rfl ⟨rfl, by decide⟩ hN rfl rfl dX8_count_40 rfl ?_
    obtain ⟨f1, f2⟩ := some2 h
    rw [f1, f2] at hQ
    exact V_iret hX hQ rfl dX8_count_43
  have h := ite_f z6 h
  by_cases z7 : a1 = 1
  · have h := ite_t z7 h
    refine V_tsw (q := 44) (off := 43) hX dX8_count_1 (by rw [z7]; decide) (by rw [z7]; decide) (by rw [z7]; decide) (by decide) ?_
    refine V_aload_n (q := 45) hX dX8_count_44 0 rfl rfl ?_
    refine V_getF (r := 1) (n := 75) (c := 8) (k := 0) (nf := 11) (C := RX8) (T := TX8) (q := 48) hX rfl rfl iG8 k2_175 rfl rfl ⟨rfl, by decide⟩ hN rfl rfl rfl rfl dX8_count_45 rfl ?_
    refine V_getI (n := 75) (c := 5) (k := 2) (nf := 4) (C := RX5) (T := TX5) (q := 51) hX rfl rfl iG5 k1_74 rfl rfl ⟨rfl, by decide⟩ hN rfl rfl dX8_count_48 rfl ?_
    obtain ⟨f1, f2⟩ := some2 h
    rw [f1, f2] at hQ
    exact V_iret hX hQ rfl dX8_count_51
  have h := ite_f z7 h
  by_cases z8 : a1 = 2
  · have h := ite_t z8 h
    refine V_tsw (q := 52) (off := 51) hX dX8_count_1 (by rw [z8]; decide) (by rw [z8]; decide) (by rw [z8]; decide) (by decide) ?_
    refine V_aload_n (q := 53) hX dX8_count_52 0 rfl rfl ?_
    refine V_getI (n := 75) (c := 8) (k := 9) (nf := 11) (C := RX8) (T := TX8) (q := 56) hX rfl rfl iG8 k2_184 rfl rfl ⟨rfl, by decide⟩ hN rfl rfl dX8_count_53 rfl ?_
    obtain ⟨f1, f2⟩ := some2 h
    rw [f1, f2] at hQ
    exact V_iret hX hQ rfl dX8_count_56
  have h := ite_f z8 h
  by_cases z9 : a1 = 3
  · have h := ite_t z9 h
    refine V_tsw (q := 57) (off := 56) hX dX8_count_1 (by rw [z9]; decide) (by rw [z9]; decide) (by rw [z9]; decide) (by decide) ?_
    refine V_aload_n (q := 58) hX dX8_count_57 0 rfl rfl ?_
    refine V_getF (r := 1) (n := 75) (c := 8) (k := 0) (nf := 11) (C := RX8) (T := TX8) (q := 61) hX rfl rfl iG8 k2_175 rfl rfl ⟨rfl, by decide⟩ hN rfl rfl rfl rfl dX8_count_58 rfl ?_
    refine V_getI (n := 75) (c := 5) (k := 3) (nf := 4) (C := RX5) (T := TX5) (q := 64) hX rfl rfl iG5 k1_76 rfl rfl ⟨rfl, by decide⟩ hN rfl rfl dX8_count_61 rfl ?_
    obtain ⟨f1, f2⟩ := some2 h
    rw [f1, f2] at hQ
    exact V_iret hX hQ rfl dX8_count_64
  have h := ite_f z9 h
  by_cases z10 : a1 = 4
  · have h := ite_t z10 h
    refine V_tsw (q := 65) (off := 64) hX dX8_count_1 (by rw [z10]; decide) (by rw [z10]; decide) (by rw [z10]; decide) (by decide) ?_
    refine V_aload_n (q := 66) hX dX8_count_65 0 rfl rfl ?_
    refine V_getF (r := 26) (n := 75) (c := 8) (k := 4) (nf := 11) (C := RX8) (T := TX8) (q := 69) hX rfl rfl iG8 k2_179 rfl rfl ⟨rfl, by decide⟩ hN rfl rfl rfl rfl dX8_count_66 rfl ?_
    refine V_getI (n := 75) (c := 1) (k := 1) (nf := 7) (C := RX1) (T := TX1) (q := 72) hX rfl rfl iG1 k1_115 rfl rfl ⟨rfl, by decide⟩ hN rfl rfl dX8_count_69 rfl ?_
    obtain ⟨f1, f2⟩ := some2 h
    rw [f1, f2] at hQ
    exact V_iret hX hQ rfl dX8_count_72
  have h := ite_f z10 h
  refine V_tswD (q := 73) hX dX8_count_1 (by have y0 := neI (v := 0) (by decide) z6; have y1 := neI (v := 1) (by decide) z7; have y2 := neI (v := 2) (by decide) z8; have y3 := neI (v := 3) (by decide) z9; have y4 := neI (v := 4) (by decide) z10; omega) (by decide) ?_
  refine V_bipush (v := -2) (q := 75) hX dX8_count_73 (by decide) rfl ?_
  obtain ⟨f1, f2⟩ := some2 h
  rw [f1, f2] at hQ
  exact V_iret hX hQ rfl dX8_count_75
set_option maxRecDepth 100000 in
set_option maxHeartbeats 4000000 in
theorem c8_count {g : GT} {l : Launch} (hg : OkG g) (hN : 75 ≤ g.N) {a1 : Int32} {σ : St} {r : Int32} {σ' : St} (h : S8_count a1 σ = some (r, σ')) : CtI g l m8_count yX8_count [.ref (g.ad (0)), .int (a1)] σ r σ' := CtI.of hg (by decide) rfl rfl (fun X h1 h2 h3 => v8_count h1 hN (res := (r, σ')) h3 h)

abbrev m8_isByte : MI := (cX8_isByte, RX8, 1, some .boolean, 1)
def S8_isByte (a0 : Int32) (σ : St) : Option (Int32 × St) := if a0 < 0 then (some ((0 : Int32), σ)) else (if (255 : Int32) < a0 then (some ((0 : Int32), σ)) else (some ((1 : Int32), σ)))
set_option maxRecDepth 100000 in
set_option maxHeartbeats 4000000 in
theorem v8_isByte {g : GT} {X : XT} {a0 : Int32} (hX : OkX g X (m8_isByte)) (hN : 75 ≤ g.N) {res : Int32 × St} (hQ : X.Q = QI g X res.1 res.2 ∧ X.cells = 0 ∧ X.slots = 0) {σ : St} (h : S8_isByte a0 σ = some res) : V g X (m8_isByte) 0 [(0, .int (a0))] [] σ := by
  unfold S8_isByte at h
  refine V_iload_n (q := 1) hX dX8_isByte_0 0 rfl rfl ?_
  refine V_if_lt (q := 4) (t := 15) hX dX8_isByte_1 (by decide) rfl (fun z3 => ?_) (fun z3 => ?_)
  · have h := ite_t z3 h
    refine V_iconst (v := 0) (q := 16) hX dX8_isByte_15 (by decide) rfl ?_
    obtain ⟨f1, f2⟩ := some2 h
    rw [f1, f2] at hQ
    exact V_zret (ty := .boolean) hX hQ rfl rfl dX8_isByte_16
  have h := ite_f z3 h
  refine V_iload_n (q := 5) hX dX8_isByte_4 0 rfl rfl ?_
  refine V_sipush (v := 255) (q := 8) hX dX8_isByte_5 (by decide) rfl ?_
  refine V_icmp_gt (q := 11) (t := 15) hX dX8_isByte_8 (by decide) rfl (fun z4 => ?_) (fun z4 => ?_)
  · have h := ite_t z4 h
    refine V_iconst (v := 0) (q := 16) hX dX8_isByte_15 (by decide) rfl ?_
    obtain ⟨f1, f2⟩ := some2 h
    rw [f1, f2] at hQ
    exact V_zret (ty := .boolean) hX hQ rfl rfl dX8_isByte_16
  have h := ite_f z4 h
  refine V_iconst (v := 1) (q := 12) hX dX8_isByte_11 (by decide) rfl ?_
  refine V_goto hX dX8_isByte_12 (q := 16) (by decide) ?_
  obtain ⟨f1, f2⟩ := some2 h
  rw [f1, f2] at hQ
  exact V_zret (ty := .boolean) hX hQ rfl rfl dX8_isByte_16
set_option maxRecDepth 100000 in
set_option maxHeartbeats 4000000 in
theorem c8_isByte {g : GT} {l : Launch} (hg : OkG g) (hN : 75 ≤ g.N) {a0 : Int32} {σ : St} {r : Int32} {σ' : St} (h : S8_isByte a0 σ = some (r, σ')) : CtI g l m8_isByte yX8_isByte [.int (a0)] σ r σ' := CtI.of hg (by decide) rfl rfl (fun X h1 h2 h3 => v8_isByte h1 hN (res := (r, σ')) h3 h)

abbrev m8_feed : MI := (cX8_feed, RX8, 8, some .int, 2)
def S8_feed_144 (a1 : Int32) (a2 : Int32) (a3 : Int32) (a4 : Int32) (a5 : Int32) (a6 : Int32) (σ : St) : Option (Int32 × St) := some ((gI σ 26 1), σ)
def S8_feed_130 (a1 : Int32) (a2 : Int32) (a3 : Int32) (a4 : Int32) (a5 : Int32) (a6 : Int32) (σ : St) : Option (Int32 × St) := if a1 ≤ (4 : Int32) then (S8_feed_144 a1 a2 a3 a4 a5 a6 σ) else (bnd (S1_add a6 σ) fun r89 σ88 => S8_feed_144 a1 a2 a3 a4 a5 a6 σ88)
def S8_feed_116 (a1 : Int32) (a2 : Int32) (a3 : Int32) (a4 : Int32) (a5 : Int32) (a6 : Int32) (σ : St) : Option (Int32 × St) := if a1 ≤ (3 : Int32) then (S8_feed_130 a1 a2 a3 a4 a5 a6 σ) else (bnd (S1_add a5 σ) fun r93 σ92 => S8_feed_130 a1 a2 a3 a4 a5 a6 σ92)
def S8_feed_102 (a1 : Int32) (a2 : Int32) (a3 : Int32) (a4 : Int32) (a5 : Int32) (a6 : Int32) (σ : St) : Option (Int32 × St) := if a1 ≤ (2 : Int32) then (S8_feed_116 a1 a2 a3 a4 a5 a6 σ) else (bnd (S1_add a4 σ) fun r97 σ96 => S8_feed_116 a1 a2 a3 a4 a5 a6 σ96)
def S8_feed_43 (a1 : Int32) (a2 : Int32) (a3 : Int32) (a4 : Int32) (a5 : Int32) (a6 : Int32) (s0 : Int32) (σ : St) : Option (Int32 × St) := if a1 < (1 : Int32) then (some ((-2 : Int32), σ)) else (if (5 : Int32) < a1 then (some ((-2 : Int32), σ)) else (if s0 = 0 then (some ((-2 : Int32), σ)) else (if ((gI σ 26 1) + a1) ≤ (160 : Int32) then (bnd (S1_add a2 σ) fun r104 σ103 => if a1 ≤ (1 : Int32) then (S8_feed_102 a1 a2 a3 a4 a5 a6 σ103) else (bnd (S1_add a3 σ103) fun r108 σ107 => S8_feed_102 a1 a2 a3 a4 a5 a6 σ107)) else (some ((-4 : Int32), σ)))))
def S8_feed_42 (a1 : Int32) (a2 : Int32) (a3 : Int32) (a4 : Int32) (a5 : Int32) (a6 : Int32) (σ : St) : Option (Int32 × St) := S8_feed_43 a1 a2 a3 a4 a5 a6 (0 : Int32) σ
def S8_feed (a1 : Int32) (a2 : Int32) (a3 : Int32) (a4 : Int32) (a5 : Int32) (a6 : Int32) (σ : St) : Option (Int32 × St) := bnd (S8_isByte a2 σ) fun r111 σ110 => if r111 = 0 then (S8_feed_42 a1 a2 a3 a4 a5 a6 σ110) else (bnd (S8_isByte a3 σ110) fun r115 σ114 => if r115 = 0 then (S8_feed_42 a1 a2 a3 a4 a5 a6 σ114) else (bnd (S8_isByte a4 σ114) fun r119 σ118 => if r119 = 0 then (S8_feed_42 a1 a2 a3 a4 a5 a6 σ118) else (bnd (S8_isByte a5 σ118) fun r123 σ122 => if r123 = 0 then (S8_feed_42 a1 a2 a3 a4 a5 a6 σ122) else (bnd (S8_isByte a6 σ122) fun r127 σ126 => if r127 = 0 then (S8_feed_42 a1 a2 a3 a4 a5 a6 σ126) else (S8_feed_43 a1 a2 a3 a4 a5 a6 (1 : Int32) σ126)))))
set_option maxRecDepth 100000 in
set_option maxHeartbeats 4000000 in
theorem v8_feed_144 {g : GT} {X : XT} {a1 : Int32} {a2 : Int32} {a3 : Int32} {a4 : Int32} {a5 : Int32} {a6 : Int32} (hX : OkX g X (m8_feed)) (hN : 75 ≤ g.N) {res : Int32 × St} (hQ : X.Q = QI g X res.1 res.2 ∧ X.cells = 0 ∧ X.slots = 0)    (σ : St)  (h : S8_feed_144 a1 a2 a3 a4 a5 a6 σ = some res) : V g X (m8_feed) 144 [(0, .ref (g.ad (0)))] [] σ := by
  unfold S8_feed_144 at h
  refine V_aload_n (q := 145) hX dX8_feed_144 0 rfl rfl ?_
  refine V_getF (r := 26) (n := 75) (c := 8) (k := 4) (nf := 11) (C := RX8) (T := TX8) (q := 148) hX rfl rfl iG8 k2_179 rfl rfl ⟨rfl, by decide⟩ hN rfl rfl rfl rfl dX8_feed_145 rfl ?_
  refine V_getI (n := 75) (c := 1) (k := 1) (nf := 7) (C := RX1) (T := TX1) (q := 151) hX rfl rfl iG1 k1_115 rfl rfl ⟨rfl, by decide⟩ hN rfl rfl dX8_feed_148 rfl ?_
  obtain ⟨f1, f2⟩ := some2 h
  rw [f1, f2] at hQ
  exact V_iret hX hQ rfl dX8_feed_151
set_option maxRecDepth 100000 in
set_option maxHeartbeats 4000000 in
theorem v8_feed_130 {g : GT} {X : XT} {a1 : Int32} {a2 : Int32} {a3 : Int32} {a4 : Int32} {a5 : Int32} {a6 : Int32} (hX : OkX g X (m8_feed)) (hN : 75 ≤ g.N) {res : Int32 × St} (hQ : X.Q = QI g X res.1 res.2 ∧ X.cells = 0 ∧ X.slots = 0)    (σ : St)  (h : S8_feed_130 a1 a2 a3 a4 a5 a6 σ = some res) : V g X (m8_feed) 130 [(0, .ref (g.ad (0))), (1, .int (a1)), (6, .int (a6))] [] σ := by
  unfold S8_feed_130 at h
  refine V_iload_n (q := 131) hX dX8_feed_130 1 rfl rfl ?_
  refine V_iconst (v := 4) (q := 132) hX dX8_feed_131 (by decide) rfl ?_
  refine V_icmp_le (q := 135) (t := 144) hX dX8_feed_132 (by decide) rfl (fun z87 => ?_) (fun z87 => ?_)
  · have h := ite_t z87 h
    refine V.pick [0] rfl ?_
    exact v8_feed_144 hX hN hQ σ h
  have h := ite_f z87 h
  refine V_aload_n (q := 136) hX dX8_feed_135 0 rfl rfl ?_
  refine V_getF (r := 26) (n := 75) (c := 8) (k := 4) (nf := 11) (C := RX8) (T := TX8) (q := 139) hX rfl rfl iG8 k2_179 rfl rfl ⟨rfl, by decide⟩ hN rfl rfl rfl rfl dX8_feed_136 rfl ?_
  refine V_iload (q := 141) hX dX8_feed_139 2 rfl rfl ?_
  obtain ⟨r89, σ88, e90, h⟩ := bnd_some h
  refine V_cvV (n := 75) (c := 1) (nf := 7) (C := RX1) (T := TX1) (As := [.int (a6)]) (q := 144) hX (c1_add hX.2.2.2.2.1 hN e90) (goodV_of k2_35 k2_36 k2_37 k1_4 (cons_g k2_38)) (nA := 1) (by decide) rfl rfl rfl rfl rfl ⟨rfl, by decide⟩ hN rfl rfl rfl dX8_feed_141 rfl ?_
  refine V.pick [0] rfl ?_
  exact v8_feed_144 hX hN hQ σ88 h
set_option maxRecDepth 100000 in
set_option maxHeartbeats 4000000 in
theorem v8_feed_116 {g : GT} {X : XT} {a1 : Int32} {a2 : Int32} {a3 : Int32} {a4 : Int32} {a5 : Int32} {a6 : Int32} (hX : OkX g X (m8_feed)) (hN : 75 ≤ g.N) {res : Int32 × St} (hQ : X.Q = QI g X res.1 res.2 ∧ X.cells = 0 ∧ X.slots = 0)    (σ : St)  (h : S8_feed_116 a1 a2 a3 a4 a5 a6 σ = some res) : V g X (m8_feed) 116 [(0, .ref (g.ad (0))), (1, .int (a1)), (5, .int (a5)), (6, .int (a6))] [] σ := by
  unfold S8_feed_116 at h
  refine V_iload_n (q := 117) hX dX8_feed_116 1 rfl rfl ?_
  refine V_iconst (v := 3) (q := 118) hX dX8_feed_117 (by decide) rfl ?_
  refine V_icmp_le (q := 121) (t := 130) hX dX8_feed_118 (by decide) rfl (fun z91 => ?_) (fun z91 => ?_)
  · have h := ite_t z91 h
    refine V.pick [0, 1, 3] rfl ?_
    exact v8_feed_130 hX hN hQ σ h
  have h := ite_f z91 h
  refine V_aload_n (q := 122) hX dX8_feed_121 0 rfl rfl ?_
  refine V_getF (r := 26) (n := 75) (c := 8) (k := 4) (nf := 11) (C := RX8) (T := TX8) (q := 125) hX rfl rfl iG8 k2_179 rfl rfl ⟨rfl, by decide⟩ hN rfl rfl rfl rfl dX8_feed_122 rfl ?_
  refine V_iload (q := 127) hX dX8_feed_125 2 rfl rfl ?_
  obtain ⟨r93, σ92, e94, h⟩ := bnd_some h
  refine V_cvV (n := 75) (c := 1) (nf := 7) (C := RX1) (T := TX1) (As := [.int (a5)]) (q := 130) hX (c1_add hX.2.2.2.2.1 hN e94) (goodV_of k2_35 k2_36 k2_37 k1_4 (cons_g k2_38)) (nA := 1) (by decide) rfl rfl rfl rfl rfl ⟨rfl, by decide⟩ hN rfl rfl rfl dX8_feed_127 rfl ?_
  refine V.pick [0, 1, 3] rfl ?_
  exact v8_feed_130 hX hN hQ σ92 h
set_option maxRecDepth 100000 in
set_option maxHeartbeats 4000000 in
theorem v8_feed_102 {g : GT} {X : XT} {a1 : Int32} {a2 : Int32} {a3 : Int32} {a4 : Int32} {a5 : Int32} {a6 : Int32} (hX : OkX g X (m8_feed)) (hN : 75 ≤ g.N) {res : Int32 × St} (hQ : X.Q = QI g X res.1 res.2 ∧ X.cells = 0 ∧ X.slots = 0)    (σ : St)  (h : S8_feed_102 a1 a2 a3 a4 a5 a6 σ = some res) : V g X (m8_feed) 102 [(0, .ref (g.ad (0))), (1, .int (a1)), (4, .int (a4)), (5, .int (a5)), (6, .int (a6))] [] σ := by
  unfold S8_feed_102 at h
  refine V_iload_n (q := 103) hX dX8_feed_102 1 rfl rfl ?_
  refine V_iconst (v := 2) (q := 104) hX dX8_feed_103 (by decide) rfl ?_
  refine V_icmp_le (q := 107) (t := 116) hX dX8_feed_104 (by decide) rfl (fun z95 => ?_) (fun z95 => ?_)
  · have h := ite_t z95 h
    refine V.pick [0, 1, 3, 4] rfl ?_
    exact v8_feed_116 hX hN hQ σ h
  have h := ite_f z95 h
  refine V_aload_n (q := 108) hX dX8_feed_107 0 rfl rfl ?_
  refine V_getF (r := 26) (n := 75) (c := 8) (k := 4) (nf := 11) (C := RX8) (T := TX8) (q := 111) hX rfl rfl iG8 k2_179 rfl rfl ⟨rfl, by decide⟩ hN rfl rfl rfl rfl dX8_feed_108 rfl ?_
  refine V_iload (q := 113) hX dX8_feed_111 2 rfl rfl ?_
  obtain ⟨r97, σ96, e98, h⟩ := bnd_some h
  refine V_cvV (n := 75) (c := 1) (nf := 7) (C := RX1) (T := TX1) (As := [.int (a4)]) (q := 116) hX (c1_add hX.2.2.2.2.1 hN e98) (goodV_of k2_35 k2_36 k2_37 k1_4 (cons_g k2_38)) (nA := 1) (by decide) rfl rfl rfl rfl rfl ⟨rfl, by decide⟩ hN rfl rfl rfl dX8_feed_113 rfl ?_
  refine V.pick [0, 1, 3, 4] rfl ?_
  exact v8_feed_116 hX hN hQ σ96 h
set_option maxRecDepth 100000 in
set_option maxHeartbeats 4000000 in
theorem v8_feed_43 {g : GT} {X : XT} {a1 : Int32} {a2 : Int32} {a3 : Int32} {a4 : Int32} {a5 : Int32} {a6 : Int32} (hX : OkX g X (m8_feed)) (hN : 75 ≤ g.N) {res : Int32 × St} (hQ : X.Q = QI g X res.1 res.2 ∧ X.cells = 0 ∧ X.slots = 0)   (s0 : Int32) (σ : St)  (h : S8_feed_43 a1 a2 a3 a4 a5 a6 s0 σ = some res) : V g X (m8_feed) 43 [(0, .ref (g.ad (0))), (1, .int (a1)), (2, .int (a2)), (3, .int (a3)), (4, .int (a4)), (5, .int (a5)), (6, .int (a6))] [.int (s0)] σ := by
  unfold S8_feed_43 at h
  refine V_istore (lv' := [(7, .int (s0)), (0, .ref (g.ad (0))), (1, .int (a1)), (2, .int (a2)), (3, .int (a3)), (4, .int (a4)), (5, .int (a5)), (6, .int (a6))]) (q := 45) hX dX8_feed_43 rfl rfl rfl ?_
  refine V_iload_n (q := 46) hX dX8_feed_45 2 rfl rfl ?_
  refine V_iconst (v := 1) (q := 47) hX dX8_feed_46 (by decide) rfl ?_
  refine V_icmp_lt (q := 50) (t := 60) hX dX8_feed_47 (by decide) rfl (fun z99 => ?_) (fun z99 => ?_)
  · have h := ite_t z99 h
    refine V_bipush (v := -2) (q := 62) hX dX8_feed_60 (by decide) rfl ?_
    obtain ⟨f1, f2⟩ := some2 h
    rw [f1, f2] at hQ
    exact V_iret hX hQ rfl dX8_feed_62
  have h := ite_f z99 h
  refine V_iload_n (q := 51) hX dX8_feed_50 2 rfl rfl ?_
  refine V_iconst (v := 5) (q := 52) hX dX8_feed_51 (by decide) rfl ?_
  refine V_icmp_gt (q := 55) (t := 60) hX dX8_feed_52 (by decide) rfl (fun z100 => ?_) (fun z100 => ?_)
  · have h := ite_t z100 h
    refine V_bipush (v := -2) (q := 62) hX dX8_feed_60 (by decide) rfl ?_
    obtain ⟨f1, f2⟩ := some2 h
    rw [f1, f2] at hQ
    exact V_iret hX hQ rfl dX8_feed_62
  have h := ite_f z100 h
  refine V_iload (q := 57) hX dX8_feed_55 0 rfl rfl ?_
  refine V_if_ne (q := 60) (t := 63) hX dX8_feed_57 (by decide) rfl (fun z101 => ?_) (fun z101 => ?_)
  · have h := ite_f z101 h
    refine V_aload_n (q := 64) hX dX8_feed_63 1 rfl rfl ?_
    refine V_getF (r := 26) (n := 75) (c := 8) (k := 4) (nf := 11) (C := RX8) (T := TX8) (q := 67) hX rfl rfl iG8 k2_179 rfl rfl ⟨rfl, by decide⟩ hN rfl rfl rfl rfl dX8_feed_64 rfl ?_
    refine V_getI (n := 75) (c := 1) (k := 1) (nf := 7) (C := RX1) (T := TX1) (q := 70) hX rfl rfl iG1 k1_115 rfl rfl ⟨rfl, by decide⟩ hN rfl rfl dX8_feed_67 rfl ?_
    refine V_iload_n (q := 71) hX dX8_feed_70 2 rfl rfl ?_
    refine V_iadd (q := 72) hX dX8_feed_71 rfl ?_
    refine V_sipush (v := 160) (q := 75) hX dX8_feed_72 (by decide) rfl ?_
    refine V_icmp_le (q := 78) (t := 81) hX dX8_feed_75 (by decide) rfl (fun z102 => ?_) (fun z102 => ?_)
    · have h := ite_t z102 h
      refine V_aload_n (q := 82) hX dX8_feed_81 1 rfl rfl ?_
      refine V_getF (r := 26) (n := 75) (c := 8) (k := 4) (nf := 11) (C := RX8) (T := TX8) (q := 85) hX rfl rfl iG8 k2_179 rfl rfl ⟨rfl, by decide⟩ hN rfl rfl rfl rfl dX8_feed_82 rfl ?_
      refine V_iload_n (q := 86) hX dX8_feed_85 3 rfl rfl ?_
      obtain ⟨r104, σ103, e105, h⟩ := bnd_some h
      refine V_cvV (n := 75) (c := 1) (nf := 7) (C := RX1) (T := TX1) (As := [.int (a2)]) (q := 89) hX (c1_add hX.2.2.2.2.1 hN e105) (goodV_of k2_35 k2_36 k2_37 k1_4 (cons_g k2_38)) (nA := 1) (by decide) rfl rfl rfl rfl rfl ⟨rfl, by decide⟩ hN rfl rfl rfl dX8_feed_86 rfl ?_
      refine V_iload_n (q := 90) hX dX8_feed_89 2 rfl rfl ?_
      refine V_iconst (v := 1) (q := 91) hX dX8_feed_90 (by decide) rfl ?_
      refine V_icmp_le (q := 94) (t := 102) hX dX8_feed_91 (by decide) rfl (fun z106 => ?_) (fun z106 => ?_)
      · have h := ite_t z106 h
        refine V.pick [1, 2, 5, 6, 7] rfl ?_
        exact v8_feed_102 hX hN hQ σ103 h
      have h := ite_f z106 h
      refine V_aload_n (q := 95) hX dX8_feed_94 1 rfl rfl ?_
      refine V_getF (r := 26) (n := 75) (c := 8) (k := 4) (nf := 11) (C := RX8) (T := TX8) (q := 98) hX rfl rfl iG8 k2_179 rfl rfl ⟨rfl, by decide⟩ hN rfl rfl rfl rfl dX8_feed_95 rfl ?_
      refine V_iload_n (q := 99) hX dX8_feed_98 4 rfl rfl ?_
      obtain ⟨r108, σ107, e109, h⟩ := bnd_some h
      refine V_cvV (n := 75) (c := 1) (nf := 7) (C := RX1) (T := TX1) (As := [.int (a3)]) (q := 102) hX (c1_add hX.2.2.2.2.1 hN e109) (goodV_of k2_35 k2_36 k2_37 k1_4 (cons_g k2_38)) (nA := 1) (by decide) rfl rfl rfl rfl rfl ⟨rfl, by decide⟩ hN rfl rfl rfl dX8_feed_99 rfl ?_
      refine V.pick [1, 2, 5, 6, 7] rfl ?_
      exact v8_feed_102 hX hN hQ σ107 h
    have h := ite_f z102 h
    refine V_bipush (v := -4) (q := 80) hX dX8_feed_78 (by decide) rfl ?_
    obtain ⟨f1, f2⟩ := some2 h
    rw [f1, f2] at hQ
    exact V_iret hX hQ rfl dX8_feed_80
  have h := ite_t z101 h
  refine V_bipush (v := -2) (q := 62) hX dX8_feed_60 (by decide) rfl ?_
  obtain ⟨f1, f2⟩ := some2 h
  rw [f1, f2] at hQ
  exact V_iret hX hQ rfl dX8_feed_62
set_option maxRecDepth 100000 in
set_option maxHeartbeats 4000000 in
theorem v8_feed_42 {g : GT} {X : XT} {a1 : Int32} {a2 : Int32} {a3 : Int32} {a4 : Int32} {a5 : Int32} {a6 : Int32} (hX : OkX g X (m8_feed)) (hN : 75 ≤ g.N) {res : Int32 × St} (hQ : X.Q = QI g X res.1 res.2 ∧ X.cells = 0 ∧ X.slots = 0)    (σ : St)  (h : S8_feed_42 a1 a2 a3 a4 a5 a6 σ = some res) : V g X (m8_feed) 42 [(0, .ref (g.ad (0))), (1, .int (a1)), (2, .int (a2)), (3, .int (a3)), (4, .int (a4)), (5, .int (a5)), (6, .int (a6))] [] σ := by
  unfold S8_feed_42 at h
  refine V_iconst (v := 0) (q := 43) hX dX8_feed_42 (by decide) rfl ?_
  refine V.pick [0, 1, 2, 3, 4, 5, 6] rfl ?_
  exact v8_feed_43 hX hN hQ (0 : Int32) σ h
set_option maxRecDepth 100000 in
set_option maxHeartbeats 4000000 in
theorem v8_feed {g : GT} {X : XT} {a1 : Int32} {a2 : Int32} {a3 : Int32} {a4 : Int32} {a5 : Int32} {a6 : Int32} (hX : OkX g X (m8_feed)) (hN : 75 ≤ g.N) {res : Int32 × St} (hQ : X.Q = QI g X res.1 res.2 ∧ X.cells = 0 ∧ X.slots = 0) {σ : St} (h : S8_feed a1 a2 a3 a4 a5 a6 σ = some res) : V g X (m8_feed) 0 [(0, .ref (g.ad (0))), (1, .int (a1)), (2, .int (a2)), (3, .int (a3)), (4, .int (a4)), (5, .int (a5)), (6, .int (a6))] [] σ := by
  unfold S8_feed at h
  refine V_iload_n (q := 1) hX dX8_feed_0 2 rfl rfl ?_
  obtain ⟨r111, σ110, e112, h⟩ := bnd_some h
  refine V_csI (As := [.int (a2)]) (q := 4) hX (c8_isByte hX.2.2.2.2.1 hN e112) (goodS_of k2_218 k2_219 k1_1 (cons_g k2_220)) (nA := 1) (by decide) rfl rfl rfl rfl rfl dX8_feed_1 rfl ?_
  refine V_if_eq (q := 7) (t := 42) hX dX8_feed_4 (by decide) rfl (fun z113 => ?_) (fun z113 => ?_)
  · have h := ite_t z113 h
    refine V.pick [0, 1, 2, 3, 4, 5, 6] rfl ?_
    exact v8_feed_42 hX hN hQ σ110 h
  have h := ite_f z113 h
  refine V_iload_n (q := 8) hX dX8_feed_7 3 rfl rfl ?_
  obtain ⟨r115, σ114, e116, h⟩ := bnd_some h
  refine V_csI (As := [.int (a3)]) (q := 11) hX (c8_isByte hX.2.2.2.2.1 hN e116) (goodS_of k2_218 k2_219 k1_1 (cons_g k2_220)) (nA := 1) (by decide) rfl rfl rfl rfl rfl dX8_feed_8 rfl ?_
  refine V_if_eq (q := 14) (t := 42) hX dX8_feed_11 (by decide) rfl (fun z117 => ?_) (fun z117 => ?_)
  · have h := ite_t z117 h
    refine V.pick [0, 1, 2, 3, 4, 5, 6] rfl ?_
    exact v8_feed_42 hX hN hQ σ114 h
  have h := ite_f z117 h
  refine V_iload (q := 16) hX dX8_feed_14 4 rfl rfl ?_
  obtain ⟨r119, σ118, e120, h⟩ := bnd_some h
  refine V_csI (As := [.int (a4)]) (q := 19) hX (c8_isByte hX.2.2.2.2.1 hN e120) (goodS_of k2_218 k2_219 k1_1 (cons_g k2_220)) (nA := 1) (by decide) rfl rfl rfl rfl rfl dX8_feed_16 rfl ?_
  refine V_if_eq (q := 22) (t := 42) hX dX8_feed_19 (by decide) rfl (fun z121 => ?_) (fun z121 => ?_)
  · have h := ite_t z121 h
    refine V.pick [0, 1, 2, 3, 4, 5, 6] rfl ?_
    exact v8_feed_42 hX hN hQ σ118 h
  have h := ite_f z121 h
  refine V_iload (q := 24) hX dX8_feed_22 5 rfl rfl ?_
  obtain ⟨r123, σ122, e124, h⟩ := bnd_some h
  refine V_csI (As := [.int (a5)]) (q := 27) hX (c8_isByte hX.2.2.2.2.1 hN e124) (goodS_of k2_218 k2_219 k1_1 (cons_g k2_220)) (nA := 1) (by decide) rfl rfl rfl rfl rfl dX8_feed_24 rfl ?_
  refine V_if_eq (q := 30) (t := 42) hX dX8_feed_27 (by decide) rfl (fun z125 => ?_) (fun z125 => ?_)
  · have h := ite_t z125 h
    refine V.pick [0, 1, 2, 3, 4, 5, 6] rfl ?_
    exact v8_feed_42 hX hN hQ σ122 h
  have h := ite_f z125 h
  refine V_iload (q := 32) hX dX8_feed_30 6 rfl rfl ?_
  obtain ⟨r127, σ126, e128, h⟩ := bnd_some h
  refine V_csI (As := [.int (a6)]) (q := 35) hX (c8_isByte hX.2.2.2.2.1 hN e128) (goodS_of k2_218 k2_219 k1_1 (cons_g k2_220)) (nA := 1) (by decide) rfl rfl rfl rfl rfl dX8_feed_32 rfl ?_
  refine V_if_eq (q := 38) (t := 42) hX dX8_feed_35 (by decide) rfl (fun z129 => ?_) (fun z129 => ?_)
  · have h := ite_t z129 h
    refine V.pick [0, 1, 2, 3, 4, 5, 6] rfl ?_
    exact v8_feed_42 hX hN hQ σ126 h
  have h := ite_f z129 h
  refine V_iconst (v := 1) (q := 39) hX dX8_feed_38 (by decide) rfl ?_
  refine V_goto hX dX8_feed_39 (q := 43) (by decide) ?_
  refine V.pick [0, 1, 2, 3, 4, 5, 6] rfl ?_
  exact v8_feed_43 hX hN hQ (1 : Int32) σ126 h
set_option maxRecDepth 100000 in
set_option maxHeartbeats 4000000 in
theorem c8_feed {g : GT} {l : Launch} (hg : OkG g) (hN : 75 ≤ g.N) {a1 : Int32} {a2 : Int32} {a3 : Int32} {a4 : Int32} {a5 : Int32} {a6 : Int32} {σ : St} {r : Int32} {σ' : St} (h : S8_feed a1 a2 a3 a4 a5 a6 σ = some (r, σ')) : CtI g l m8_feed yX8_feed [.ref (g.ad (0)), .int (a1), .int (a2), .int (a3), .int (a4), .int (a5), .int (a6)] σ r σ' := CtI.of hg (by decide) rfl rfl (fun X h1 h2 h3 => v8_feed h1 hN (res := (r, σ')) h3 h)

abbrev m8_textAt : MI := (cX8_textAt, RX8, 2, some (.object "RingOfStraw$Text"), 1)
def S8_textAt_22 (a1 : Int32) (s1 : Int32) (σ : St) : Option (Nat × St) := if inb s1 6 then (some ((rf 31 (s1).toNatClampNeg), σ)) else none
def S8_textAt_21 (a1 : Int32) (σ : St) : Option (Nat × St) := S8_textAt_22 a1 (0 : Int32) σ
def S8_textAt (a1 : Int32) (σ : St) : Option (Nat × St) := if a1 < 0 then (S8_textAt_21 a1 σ) else (if (6 : Int32) ≤ a1 then (S8_textAt_21 a1 σ) else (S8_textAt_22 a1 a1 σ))
set_option maxRecDepth 100000 in
set_option maxHeartbeats 4000000 in
theorem v8_textAt_22 {g : GT} {X : XT} {a1 : Int32} (hX : OkX g X (m8_textAt)) (hN : 75 ≤ g.N) {res : Nat × St} (hQ : X.Q = QR g X res.1 res.2 ∧ X.cells = 0 ∧ X.slots = 0)   (s1 : Int32) (σ : St)  (h : S8_textAt_22 a1 s1 σ = some res) : V g X (m8_textAt) 22 [] [.int (s1), .ref (g.ad (31))] σ := by
  unfold S8_textAt_22 at h
  obtain ⟨z7, h⟩ := chk_t h
  refine V_aald (n := 75) (c := 12) (len := 6) (C := RX6) (q := 23) hX ⟨rfl, rfl, by decide⟩ hN rfl 2 rfl z7 dX8_textAt_22 rfl ?_
  obtain ⟨f1, f2⟩ := some2 h
  rw [f1, f2] at hQ
  exact V_aret (C := RX6) hX hQ rfl dX8_textAt_23
set_option maxRecDepth 100000 in
set_option maxHeartbeats 4000000 in
theorem v8_textAt_21 {g : GT} {X : XT} {a1 : Int32} (hX : OkX g X (m8_textAt)) (hN : 75 ≤ g.N) {res : Nat × St} (hQ : X.Q = QR g X res.1 res.2 ∧ X.cells = 0 ∧ X.slots = 0)    (σ : St)  (h : S8_textAt_21 a1 σ = some res) : V g X (m8_textAt) 21 [] [.ref (g.ad (31))] σ := by
  unfold S8_textAt_21 at h
  refine V_iconst (v := 0) (q := 22) hX dX8_textAt_21 (by decide) rfl ?_
  refine V.pick [] rfl ?_
  exact v8_textAt_22 hX hN hQ (0 : Int32) σ h
set_option maxRecDepth 100000 in
set_option maxHeartbeats 4000000 in
theorem v8_textAt {g : GT} {X : XT} {a1 : Int32} (hX : OkX g X (m8_textAt)) (hN : 75 ≤ g.N) {res : Nat × St} (hQ : X.Q = QR g X res.1 res.2 ∧ X.cells = 0 ∧ X.slots = 0) {σ : St} (h : S8_textAt a1 σ = some res) : V g X (m8_textAt) 0 [(0, .ref (g.ad (0))), (1, .int (a1))] [] σ := by
  unfold S8_textAt at h
  refine V_aload_n (q := 1) hX dX8_textAt_0 0 rfl rfl ?_
  refine V_getF (r := 31) (n := 75) (c := 8) (k := 5) (nf := 11) (C := RX8) (T := TX8) (q := 4) hX rfl rfl iG8 k2_180 rfl rfl ⟨rfl, by decide⟩ hN rfl rfl rfl rfl dX8_textAt_1 rfl ?_
  refine V_iload_n (q := 5) hX dX8_textAt_4 1 rfl rfl ?_
  refine V_if_lt (q := 8) (t := 21) hX dX8_textAt_5 (by decide) rfl (fun z8 => ?_) (fun z8 => ?_)
  · have h := ite_t z8 h
    refine V.pick [] rfl ?_
    exact v8_textAt_21 hX hN hQ σ h
  have h := ite_f z8 h
  refine V_iload_n (q := 9) hX dX8_textAt_8 1 rfl rfl ?_
  refine V_aload_n (q := 10) hX dX8_textAt_9 0 rfl rfl ?_
  refine V_getF (r := 31) (n := 75) (c := 8) (k := 5) (nf := 11) (C := RX8) (T := TX8) (q := 13) hX rfl rfl iG8 k2_180 rfl rfl ⟨rfl, by decide⟩ hN rfl rfl rfl rfl dX8_textAt_10 rfl ?_
  refine V_alenR (n := 75) (c := 12) (len := 6) (C := RX6) (v := 6) (q := 14) hX ⟨rfl, rfl, by decide⟩ hN rfl 2 rfl (by decide) dX8_textAt_13 rfl ?_
  refine V_icmp_ge (q := 17) (t := 21) hX dX8_textAt_14 (by decide) rfl (fun z9 => ?_) (fun z9 => ?_)
  · have h := ite_t z9 h
    refine V.pick [] rfl ?_
    exact v8_textAt_21 hX hN hQ σ h
  have h := ite_f z9 h
  refine V_iload_n (q := 18) hX dX8_textAt_17 1 rfl rfl ?_
  refine V_goto hX dX8_textAt_18 (q := 22) (by decide) ?_
  refine V.pick [] rfl ?_
  exact v8_textAt_22 hX hN hQ a1 σ h
set_option maxRecDepth 100000 in
set_option maxHeartbeats 4000000 in
theorem c8_textAt {g : GT} {l : Launch} (hg : OkG g) (hN : 75 ≤ g.N) {a1 : Int32} {σ : St} {r : Nat} {σ' : St} (h : S8_textAt a1 σ = some (r, σ')) : CtR g l m8_textAt yX8_textAt [.ref (g.ad (0)), .int (a1)] σ r σ' := CtR.of hg (by decide) rfl rfl (fun X h1 h2 h3 => v8_textAt h1 hN (res := (r, σ')) h3 h)
theorem sh8_textAt_22 {a1 s1 : Int32} {σ σ' : St} {r : Nat} (h : S8_textAt_22 a1 s1 σ = some (r, σ')) : Ob 75 6 r := by
  unfold S8_textAt_22 at h
  obtain ⟨z, h⟩ := chk_t h
  obtain ⟨e, -⟩ := some2 h
  have e : r = rf (31) s1.toNatClampNeg := e
  rw [e]
  exact aa12 ⟨rfl, rfl, by decide⟩ z
theorem sh8_textAt {a1 : Int32} {σ σ' : St} {r : Nat} (h : S8_textAt a1 σ = some (r, σ')) : Ob 75 6 r := by
  unfold S8_textAt at h
  split at h
  · exact sh8_textAt_22 (σ := σ) h
  · split at h
    · exact sh8_textAt_22 (σ := σ) h
    · exact sh8_textAt_22 h

abbrev m8_text : MI := (cX8_text, RX8, 2, some .int, 61)
def S8_text (σ : St) : Option (Int32 × St) := if (gI σ 0 9) < (6 : Int32) then (bnd (S8_textAt (gI σ 0 9) σ) fun r14 σ13 => bnd (S1_readInto r14 σ13) fun r17 σ16 => bnd (S1_clear σ16) fun r20 σ19 => if r17 < 0 then (some (((gI (sI σ19 0 9 ((gI σ19 0 9) + (1 : Int32))) 0 9) - (1 : Int32)), (sI σ19 0 9 ((gI σ19 0 9) + (1 : Int32))))) else (some (((-100 : Int32) - r17), σ19))) else (some ((-4 : Int32), σ))
set_option maxRecDepth 100000 in
set_option maxHeartbeats 4000000 in
theorem v8_text {g : GT} {X : XT} (hX : OkX g X (m8_text)) (hN : 75 ≤ g.N) {res : Int32 × St} (hQ : X.Q = QI g X res.1 res.2 ∧ X.cells = 0 ∧ X.slots = 0) {σ : St} (h : S8_text σ = some res) : V g X (m8_text) 0 [(0, .ref (g.ad (0)))] [] σ := by
  unfold S8_text at h
  refine V_aload_n (q := 1) hX dX8_text_0 0 rfl rfl ?_
  refine V_getI (n := 75) (c := 8) (k := 9) (nf := 11) (C := RX8) (T := TX8) (q := 4) hX rfl rfl iG8 k2_184 rfl rfl ⟨rfl, by decide⟩ hN rfl rfl dX8_text_1 rfl ?_
  refine V_bipush (v := 6) (q := 6) hX dX8_text_4 (by decide) rfl ?_
  refine V_icmp_lt (q := 9) (t := 12) hX dX8_text_6 (by decide) rfl (fun z12 => ?_) (fun z12 => ?_)
  · have h := ite_t z12 h
    refine V_aload_n (q := 13) hX dX8_text_12 0 rfl rfl ?_
    refine V_getF (r := 26) (n := 75) (c := 8) (k := 4) (nf := 11) (C := RX8) (T := TX8) (q := 16) hX rfl rfl iG8 k2_179 rfl rfl ⟨rfl, by decide⟩ hN rfl rfl rfl rfl dX8_text_13 rfl ?_
    refine V_aload_n (q := 17) hX dX8_text_16 0 rfl rfl ?_
    refine V_aload_n (q := 18) hX dX8_text_17 0 rfl rfl ?_
    refine V_getI (n := 75) (c := 8) (k := 9) (nf := 11) (C := RX8) (T := TX8) (q := 21) hX rfl rfl iG8 k2_184 rfl rfl ⟨rfl, by decide⟩ hN rfl rfl dX8_text_18 rfl ?_
    obtain ⟨r14, σ13, e15, h⟩ := bnd_some h
    refine V_cvR (n := 75) (c := 8) (nf := 11) (C := RX8) (T := TX8) (As := [.int ((gI σ 0 9))]) (q := 24) hX (c8_textAt hX.2.2.2.2.1 hN e15) (goodV_of k2_225 k2_227 kp_12 k1_1 (cons_g k2_228)) (nA := 1) (by decide) rfl rfl rfl rfl rfl ⟨rfl, by decide⟩ hN rfl rfl rfl dX8_text_21 rfl ?_
    obtain ⟨r17, σ16, e18, h⟩ := bnd_some h
    refine V_cvI (n := 75) (c := 1) (nf := 7) (C := RX1) (T := TX1) (As := [.ref (g.ad (r14))]) (q := 27) hX (c1_readInto hX.2.2.2.2.1 hN (sh8_textAt e15) e18) (goodV_of k2_39 k2_40 k2_41 k1_4 (cons_g k2_42)) (nA := 1) (by decide) rfl rfl rfl rfl rfl ⟨rfl, by decide⟩ hN rfl rfl rfl dX8_text_24 rfl ?_
    refine V_istore_n (lv' := [(1, .int (r17)), (0, .ref (g.ad (0)))]) (q := 28) hX dX8_text_27 rfl rfl rfl ?_
    refine V_aload_n (q := 29) hX dX8_text_28 1 rfl rfl ?_
    refine V_getF (r := 26) (n := 75) (c := 8) (k := 4) (nf := 11) (C := RX8) (T := TX8) (q := 32) hX rfl rfl iG8 k2_179 rfl rfl ⟨rfl, by decide⟩ hN rfl rfl rfl rfl dX8_text_29 rfl ?_
    obtain ⟨r20, σ19, e21, h⟩ := bnd_some h
    refine V_cvV (n := 75) (c := 1) (nf := 7) (C := RX1) (T := TX1) (As := []) (q := 35) hX (c1_clear hX.2.2.2.2.1 hN e21) (goodV_of k2_171 k2_172 k2_173 k1_4 (cons_g k2_174)) (nA := 0) (by decide) rfl rfl rfl rfl rfl ⟨rfl, by decide⟩ hN rfl rfl rfl dX8_text_32 rfl ?_
    refine V_iload_n (q := 36) hX dX8_text_35 0 rfl rfl ?_
    refine V_if_lt (q := 39) (t := 44) hX dX8_text_36 (by decide) rfl (fun z22 => ?_) (fun z22 => ?_)
    · have h := ite_t z22 h
      refine V_aload_n (q := 45) hX dX8_text_44 1 rfl rfl ?_
      refine V_dup (q := 46) hX dX8_text_45 rfl rfl ?_
      refine V_getI (n := 75) (c := 8) (k := 9) (nf := 11) (C := RX8) (T := TX8) (q := 49) hX rfl rfl iG8 k2_184 rfl rfl ⟨rfl, by decide⟩ hN rfl rfl dX8_text_46 rfl ?_
      refine V_iconst (v := 1) (q := 50) hX dX8_text_49 (by decide) rfl ?_
      refine V_iadd (q := 51) hX dX8_text_50 rfl ?_
      refine V_putI (n := 75) (c := 8) (k := 9) (nf := 11) (C := RX8) (T := TX8) (q := 54) hX rfl rfl iG8 k2_184 rfl rfl ⟨rfl, by decide⟩ hN rfl tyX8 tyX8_ok nmX8 rfl rfl (ty := .int) (tyX8_ok 9 (by decide)) rfl rfl dX8_text_51 rfl ?_
      refine V_aload_n (q := 55) hX dX8_text_54 1 rfl rfl ?_
      refine V_getI (n := 75) (c := 8) (k := 9) (nf := 11) (C := RX8) (T := TX8) (q := 58) hX rfl rfl iG8 k2_184 rfl rfl ⟨rfl, by decide⟩ hN rfl rfl dX8_text_55 rfl ?_
      refine V_iconst (v := 1) (q := 59) hX dX8_text_58 (by decide) rfl ?_
      refine V_isub (q := 60) hX dX8_text_59 rfl ?_
      obtain ⟨f1, f2⟩ := some2 h
      rw [f1, f2] at hQ
      exact V_iret hX hQ rfl dX8_text_60
    have h := ite_f z22 h
    refine V_bipush (v := -100) (q := 41) hX dX8_text_39 (by decide) rfl ?_
    refine V_iload_n (q := 42) hX dX8_text_41 0 rfl rfl ?_
    refine V_isub (q := 43) hX dX8_text_42 rfl ?_
    obtain ⟨f1, f2⟩ := some2 h
    rw [f1, f2] at hQ
    exact V_iret hX hQ rfl dX8_text_43
  have h := ite_f z12 h
  refine V_bipush (v := -4) (q := 11) hX dX8_text_9 (by decide) rfl ?_
  obtain ⟨f1, f2⟩ := some2 h
  rw [f1, f2] at hQ
  exact V_iret hX hQ rfl dX8_text_11
set_option maxRecDepth 100000 in
set_option maxHeartbeats 4000000 in
theorem c8_text {g : GT} {l : Launch} (hg : OkG g) (hN : 75 ≤ g.N) {σ : St} {r : Int32} {σ' : St} (h : S8_text σ = some (r, σ')) : CtI g l m8_text yX8_text [.ref (g.ad (0))] σ r σ' := CtI.of hg (by decide) rfl rfl (fun X h1 h2 h3 => v8_text h1 hN (res := (r, σ')) h3 h)

abbrev m8_force : MI := (cX8_force, RX8, 3, some .int, 1)
def S8_force (a1 : Int32) (σ : St) : Option (Int32 × St) := if a1 < 0 then (some ((-2 : Int32), σ)) else (if a1 < (gI σ 0 9) then (some ((gI σ 1 3), (sI σ 1 3 a1))) else (some ((-2 : Int32), σ)))
set_option maxRecDepth 100000 in
set_option maxHeartbeats 4000000 in
theorem v8_force {g : GT} {X : XT} {a1 : Int32} (hX : OkX g X (m8_force)) (hN : 75 ≤ g.N) {res : Int32 × St} (hQ : X.Q = QI g X res.1 res.2 ∧ X.cells = 0 ∧ X.slots = 0) {σ : St} (h : S8_force a1 σ = some res) : V g X (m8_force) 0 [(0, .ref (g.ad (0))), (1, .int (a1))] [] σ := by
  unfold S8_force at h
  refine V_iload_n (q := 1) hX dX8_force_0 1 rfl rfl ?_
  refine V_if_lt (q := 4) (t := 12) hX dX8_force_1 (by decide) rfl (fun z3 => ?_) (fun z3 => ?_)
  · have h := ite_t z3 h
    refine V_bipush (v := -2) (q := 14) hX dX8_force_12 (by decide) rfl ?_
    obtain ⟨f1, f2⟩ := some2 h
    rw [f1, f2] at hQ
    exact V_iret hX hQ rfl dX8_force_14
  have h := ite_f z3 h
  refine V_iload_n (q := 5) hX dX8_force_4 1 rfl rfl ?_
  refine V_aload_n (q := 6) hX dX8_force_5 0 rfl rfl ?_
  refine V_getI (n := 75) (c := 8) (k := 9) (nf := 11) (C := RX8) (T := TX8) (q := 9) hX rfl rfl iG8 k2_184 rfl rfl ⟨rfl, by decide⟩ hN rfl rfl dX8_force_6 rfl ?_
  refine V_icmp_lt (q := 12) (t := 15) hX dX8_force_9 (by decide) rfl (fun z4 => ?_) (fun z4 => ?_)
  · have h := ite_t z4 h
    refine V_aload_n (q := 16) hX dX8_force_15 0 rfl rfl ?_
    refine V_getF (r := 1) (n := 75) (c := 8) (k := 0) (nf := 11) (C := RX8) (T := TX8) (q := 19) hX rfl rfl iG8 k2_175 rfl rfl ⟨rfl, by decide⟩ hN rfl rfl rfl rfl dX8_force_16 rfl ?_
    refine V_getI (n := 75) (c := 5) (k := 3) (nf := 4) (C := RX5) (T := TX5) (q := 22) hX rfl rfl iG5 k1_76 rfl rfl ⟨rfl, by decide⟩ hN rfl rfl dX8_force_19 rfl ?_
    refine V_istore_n (lv' := [(2, .int ((gI σ 1 3))), (0, .ref (g.ad (0))), (1, .int (a1))]) (q := 23) hX dX8_force_22 rfl rfl rfl ?_
    refine V_aload_n (q := 24) hX dX8_force_23 1 rfl rfl ?_
    refine V_getF (r := 1) (n := 75) (c := 8) (k := 0) (nf := 11) (C := RX8) (T := TX8) (q := 27) hX rfl rfl iG8 k2_175 rfl rfl ⟨rfl, by decide⟩ hN rfl rfl rfl rfl dX8_force_24 rfl ?_
    refine V_iload_n (q := 28) hX dX8_force_27 2 rfl rfl ?_
    refine V_putI (n := 75) (c := 5) (k := 3) (nf := 4) (C := RX5) (T := TX5) (q := 31) hX rfl rfl iG5 k1_76 rfl rfl ⟨rfl, by decide⟩ hN rfl tyX5 tyX5_ok nmX5 rfl rfl (ty := .int) (tyX5_ok 3 (by decide)) rfl rfl dX8_force_28 rfl ?_
    refine V_iload_n (q := 32) hX dX8_force_31 0 rfl rfl ?_
    obtain ⟨f1, f2⟩ := some2 h
    rw [f1, f2] at hQ
    exact V_iret hX hQ rfl dX8_force_32
  have h := ite_f z4 h
  refine V_bipush (v := -2) (q := 14) hX dX8_force_12 (by decide) rfl ?_
  obtain ⟨f1, f2⟩ := some2 h
  rw [f1, f2] at hQ
  exact V_iret hX hQ rfl dX8_force_14
set_option maxRecDepth 100000 in
set_option maxHeartbeats 4000000 in
theorem c8_force {g : GT} {l : Launch} (hg : OkG g) (hN : 75 ≤ g.N) {a1 : Int32} {σ : St} {r : Int32} {σ' : St} (h : S8_force a1 σ = some (r, σ')) : CtI g l m8_force yX8_force [.ref (g.ad (0)), .int (a1)] σ r σ' := CtI.of hg (by decide) rfl rfl (fun X h1 h2 h3 => v8_force h1 hN (res := (r, σ')) h3 h)

abbrev m8_theLaw : MI := (cX8_theLaw, RX8, 1, some (.object "RingOfStraw$Text"), 2)
def S8_theLaw (σ : St) : Option (Nat × St) := bnd (S8_textAt (gI σ 1 3) σ) fun r5 σ4 => some (r5, σ4)
set_option maxRecDepth 100000 in
set_option maxHeartbeats 4000000 in
theorem v8_theLaw {g : GT} {X : XT} (hX : OkX g X (m8_theLaw)) (hN : 75 ≤ g.N) {res : Nat × St} (hQ : X.Q = QR g X res.1 res.2 ∧ X.cells = 0 ∧ X.slots = 0) {σ : St} (h : S8_theLaw σ = some res) : V g X (m8_theLaw) 0 [(0, .ref (g.ad (0)))] [] σ := by
  unfold S8_theLaw at h
  refine V_aload_n (q := 1) hX dX8_theLaw_0 0 rfl rfl ?_
  refine V_aload_n (q := 2) hX dX8_theLaw_1 0 rfl rfl ?_
  refine V_getF (r := 1) (n := 75) (c := 8) (k := 0) (nf := 11) (C := RX8) (T := TX8) (q := 5) hX rfl rfl iG8 k2_175 rfl rfl ⟨rfl, by decide⟩ hN rfl rfl rfl rfl dX8_theLaw_2 rfl ?_
  refine V_getI (n := 75) (c := 5) (k := 3) (nf := 4) (C := RX5) (T := TX5) (q := 8) hX rfl rfl iG5 k1_76 rfl rfl ⟨rfl, by decide⟩ hN rfl rfl dX8_theLaw_5 rfl ?_
  obtain ⟨r5, σ4, e6, h⟩ := bnd_some h
  refine V_cvR (n := 75) (c := 8) (nf := 11) (C := RX8) (T := TX8) (As := [.int ((gI σ 1 3))]) (q := 11) hX (c8_textAt hX.2.2.2.2.1 hN e6) (goodV_of k2_225 k2_227 kp_12 k1_1 (cons_g k2_228)) (nA := 1) (by decide) rfl rfl rfl rfl rfl ⟨rfl, by decide⟩ hN rfl rfl rfl dX8_theLaw_8 rfl ?_
  obtain ⟨f1, f2⟩ := some2 h
  rw [f1, f2] at hQ
  exact V_aret (C := RX6) hX hQ rfl dX8_theLaw_11
set_option maxRecDepth 100000 in
set_option maxHeartbeats 4000000 in
theorem c8_theLaw {g : GT} {l : Launch} (hg : OkG g) (hN : 75 ≤ g.N) {σ : St} {r : Nat} {σ' : St} (h : S8_theLaw σ = some (r, σ')) : CtR g l m8_theLaw yX8_theLaw [.ref (g.ad (0))] σ r σ' := CtR.of hg (by decide) rfl rfl (fun X h1 h2 h3 => v8_theLaw h1 hN (res := (r, σ')) h3 h)
theorem sh8_theLaw {σ σ' : St} {r : Nat} (h : S8_theLaw σ = some (r, σ')) : Ob 75 6 r := by
  unfold S8_theLaw at h
  obtain ⟨r1, σ1, e1, h⟩ := bnd_some h
  obtain ⟨e, -⟩ := some2 h
  have e : r = r1 := e
  rw [e]
  exact sh8_textAt e1
