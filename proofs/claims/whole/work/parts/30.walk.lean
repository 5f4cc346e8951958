abbrev m9_rank : MI := (cX9_rank, RX9, 1, some .int, 1)
def S9_rank (a0 : Int32) (σ : St) : Option (Int32 × St) := if a0 = 0 then (some ((0 : Int32), σ)) else (if a0 = (11 : Int32) then (some ((1 : Int32), σ)) else (if a0 = (12 : Int32) then (some ((2 : Int32), σ)) else (if a0 = (13 : Int32) then (some ((3 : Int32), σ)) else (if (15 : Int32) < a0 then (if (17 : Int32) < a0 then (if a0 = (18 : Int32) then (some ((6 : Int32), σ)) else (some ((7 : Int32), σ))) else (some ((5 : Int32), σ))) else (some ((4 : Int32), σ))))))
set_option maxRecDepth 100000 in
set_option maxHeartbeats 4000000 in
theorem v9_rank {g : GT} {X : XT} {a0 : Int32} (hX : OkX g X (m9_rank)) (hN : 95 ≤ g.N) {res : Int32 × St} (hQ : X.Q = QI g X res.1 res.2 ∧ X.cells = 0 ∧ X.slots = 0) {σ : St} (h : S9_rank a0 σ = some res) : V g X (m9_rank) 0 [(0, .int (a0))] [] σ := by
  unfold S9_rank at h
  refine V_iload_n (q := 1) hX dX9_rank_0 0 rfl rfl ?_
  refine V_if_ne (q := 4) (t := 8) hX dX9_rank_1 (by decide) rfl (fun z8 => ?_) (fun z8 => ?_)
  · have h := ite_f z8 h
    refine V_iload_n (q := 9) hX dX9_rank_8 0 rfl rfl ?_
    refine V_bipush (v := 11) (q := 11) hX dX9_rank_9 (by decide) rfl ?_
    refine V_icmp_ne (q := 14) (t := 18) hX dX9_rank_11 (by decide) rfl (fun z9 => ?_) (fun z9 => ?_)
    · have h := ite_f z9 h
      refine V_iload_n (q := 19) hX dX9_rank_18 0 rfl rfl ?_
      refine V_bipush (v := 12) (q := 21) hX dX9_rank_19 (by decide) rfl ?_
      refine V_icmp_ne (q := 24) (t := 28) hX dX9_rank_21 (by decide) rfl (fun z10 => ?_) (fun z10 => ?_)
      · have h := ite_f z10 h
        refine V_iload_n (q := 29) hX dX9_rank_28 0 rfl rfl ?_
        refine V_bipush (v := 13) (q := 31) hX dX9_rank_29 (by decide) rfl ?_
        refine V_icmp_ne (q := 34) (t := 38) hX dX9_rank_31 (by decide) rfl (fun z11 => ?_) (fun z11 => ?_)
        · have h := ite_f z11 h
          refine V_iload_n (q := 39) hX dX9_rank_38 0 rfl rfl ?_
          refine V_bipush (v := 15) (q := 41) hX dX9_rank_39 (by decide) rfl ?_
          refine V_icmp_gt (q := 44) (t := 48) hX dX9_rank_41 (by decide) rfl (fun z12 => ?_) (fun z12 => ?_)
          · have h := ite_t z12 h
            refine V_iload_n (q := 49) hX dX9_rank_48 0 rfl rfl ?_
            refine V_bipush (v := 17) (q := 51) hX dX9_rank_49 (by decide) rfl ?_
            refine V_icmp_gt (q := 54) (t := 58) hX dX9_rank_51 (by decide) rfl (fun z13 => ?_) (fun z13 => ?_)
            · have h := ite_t z13 h
              refine V_iload_n (q := 59) hX dX9_rank_58 0 rfl rfl ?_
              refine V_bipush (v := 18) (q := 61) hX dX9_rank_59 (by decide) rfl ?_
              refine V_icmp_ne (q := 64) (t := 69) hX dX9_rank_61 (by decide) rfl (fun z14 => ?_) (fun z14 => ?_)
              · have h := ite_f z14 h
                refine V_bipush (v := 7) (q := 71) hX dX9_rank_69 (by decide) rfl ?_
                obtain ⟨f1, f2⟩ := some2 h
                rw [f1, f2] at hQ
                exact V_iret hX hQ rfl dX9_rank_71
              have h := ite_t z14 h
              refine V_bipush (v := 6) (q := 66) hX dX9_rank_64 (by decide) rfl ?_
              refine V_goto hX dX9_rank_66 (q := 71) (by decide) ?_
              obtain ⟨f1, f2⟩ := some2 h
              rw [f1, f2] at hQ
              exact V_iret hX hQ rfl dX9_rank_71
            have h := ite_f z13 h
            refine V_iconst (v := 5) (q := 55) hX dX9_rank_54 (by decide) rfl ?_
            refine V_goto hX dX9_rank_55 (q := 71) (by decide) ?_
            obtain ⟨f1, f2⟩ := some2 h
            rw [f1, f2] at hQ
            exact V_iret hX hQ rfl dX9_rank_71
          have h := ite_f z12 h
          refine V_iconst (v := 4) (q := 45) hX dX9_rank_44 (by decide) rfl ?_
          refine V_goto hX dX9_rank_45 (q := 71) (by decide) ?_
          obtain ⟨f1, f2⟩ := some2 h
          rw [f1, f2] at hQ
          exact V_iret hX hQ rfl dX9_rank_71
        have h := ite_t z11 h
        refine V_iconst (v := 3) (q := 35) hX dX9_rank_34 (by decide) rfl ?_
        refine V_goto hX dX9_rank_35 (q := 71) (by decide) ?_
        obtain ⟨f1, f2⟩ := some2 h
        rw [f1, f2] at hQ
        exact V_iret hX hQ rfl dX9_rank_71
      have h := ite_t z10 h
      refine V_iconst (v := 2) (q := 25) hX dX9_rank_24 (by decide) rfl ?_
      refine V_goto hX dX9_rank_25 (q := 71) (by decide) ?_
      obtain ⟨f1, f2⟩ := some2 h
      rw [f1, f2] at hQ
      exact V_iret hX hQ rfl dX9_rank_71
    have h := ite_t z9 h
    refine V_iconst (v := 1) (q := 15) hX dX9_rank_14 (by decide) rfl ?_
    refine V_goto hX dX9_rank_15 (q := 71) (by decide) ?_
    obtain ⟨f1, f2⟩ := some2 h
    rw [f1, f2] at hQ
    exact V_iret hX hQ rfl dX9_rank_71
  have h := ite_t z8 h
  refine V_iconst (v := 0) (q := 5) hX dX9_rank_4 (by decide) rfl ?_
  refine V_goto hX dX9_rank_5 (q := 71) (by decide) ?_
  obtain ⟨f1, f2⟩ := some2 h
  rw [f1, f2] at hQ
  exact V_iret hX hQ rfl dX9_rank_71
set_option maxRecDepth 100000 in
set_option maxHeartbeats 4000000 in
theorem c9_rank {g : GT} {l : Launch} (hg : OkG g) (hN : 95 ≤ g.N) {a0 : Int32} {σ : St} {r : Int32} {σ' : St} (h : S9_rank a0 σ = some (r, σ')) : CtI g l m9_rank yX9_rank [.int (a0)] σ r σ' := CtI.of hg (by decide) rfl rfl (fun X h1 h2 h3 => v9_rank h1 hN (res := (r, σ')) h3 h)

abbrev m9_puts : MI := (cX9_puts, RX9, 2, none, 1)
def S9_puts (a1 : Int32) (σ : St) : Option (Unit × St) := if inb (((200 : Int32) * (gI σ 75 9)) + (gI σ 75 26)) 1200 then (some ((), (sI (sI σ 80 ((((200 : Int32) * (gI σ 75 9)) + (gI σ 75 26))).toNatClampNeg a1) 75 26 ((gI (sI σ 80 ((((200 : Int32) * (gI σ 75 9)) + (gI σ 75 26))).toNatClampNeg a1) 75 26) + (1 : Int32))))) else none
set_option maxRecDepth 100000 in
set_option maxHeartbeats 4000000 in
theorem v9_puts {g : GT} {X : XT} {a1 : Int32} (hX : OkX g X (m9_puts)) (hN : 95 ≤ g.N) {res : Unit × St} (hQ : X.Q = QV g X res.2 ∧ X.cells = 0 ∧ X.slots = 0) {σ : St} (h : S9_puts a1 σ = some res) : V g X (m9_puts) 0 [(0, .ref (g.ad (75))), (1, .int (a1))] [] σ := by
  unfold S9_puts at h
  refine V_aload_n (q := 1) hX dX9_puts_0 0 rfl rfl ?_
  refine V_getF (r := 80) (n := 95) (c := 9) (k := 7) (nf := 39) (C := RX9) (T := TX9) (q := 4) hX rfl rfl iG9 k4_189 rfl rfl ⟨rfl, by decide⟩ hN rfl rfl rfl rfl dX9_puts_1 rfl ?_
  refine V_sipush (v := 200) (q := 7) hX dX9_puts_4 (by decide) rfl ?_
  refine V_aload_n (q := 8) hX dX9_puts_7 0 rfl rfl ?_
  refine V_getI (n := 95) (c := 9) (k := 9) (nf := 39) (C := RX9) (T := TX9) (q := 11) hX rfl rfl iG9 k4_191 rfl rfl ⟨rfl, by decide⟩ hN rfl rfl dX9_puts_8 rfl ?_
  refine V_imul (q := 12) hX dX9_puts_11 rfl ?_
  refine V_aload_n (q := 13) hX dX9_puts_12 0 rfl rfl ?_
  refine V_getI (n := 95) (c := 9) (k := 26) (nf := 39) (C := RX9) (T := TX9) (q := 16) hX rfl rfl iG9 k4_208 rfl rfl ⟨rfl, by decide⟩ hN rfl rfl dX9_puts_13 rfl ?_
  refine V_iadd (q := 17) hX dX9_puts_16 rfl ?_
  refine V_iload_n (q := 18) hX dX9_puts_17 1 rfl rfl ?_
  obtain ⟨z2, h⟩ := chk_t h
  refine V_iast (n := 95) (len := 1200) (q := 19) hX ⟨rfl, rfl, by decide⟩ hN z2 dX9_puts_18 rfl ?_
  refine V_aload_n (q := 20) hX dX9_puts_19 0 rfl rfl ?_
  refine V_dup (q := 21) hX dX9_puts_20 rfl rfl ?_
  refine V_getI (n := 95) (c := 9) (k := 26) (nf := 39) (C := RX9) (T := TX9) (q := 24) hX rfl rfl iG9 k4_208 rfl rfl ⟨rfl, by decide⟩ hN rfl rfl dX9_puts_21 rfl ?_
  refine V_iconst (v := 1) (q := 25) hX dX9_puts_24 (by decide) rfl ?_
  refine V_iadd (q := 26) hX dX9_puts_25 rfl ?_
  refine V_putI (n := 95) (c := 9) (k := 26) (nf := 39) (C := RX9) (T := TX9) (q := 29) hX rfl rfl iG9 k4_208 rfl rfl ⟨rfl, by decide⟩ hN rfl tyX9 tyX9_ok nmX9 rfl rfl (ty := .int) (tyX9_ok 26 (by decide)) rfl rfl dX9_puts_26 rfl ?_
  obtain ⟨f1, f2⟩ := some2 h
  rw [f2] at hQ
  exact V_vret hX hQ rfl dX9_puts_29
set_option maxRecDepth 100000 in
set_option maxHeartbeats 4000000 in
theorem c9_puts {g : GT} {l : Launch} (hg : OkG g) (hN : 95 ≤ g.N) {a1 : Int32} {σ : St} {r : Unit} {σ' : St} (h : S9_puts a1 σ = some (r, σ')) : CtV g l m9_puts yX9_puts [.ref (g.ad (75)), .int (a1)] σ σ' := CtV.of hg (by decide) rfl rfl (fun X h1 h2 h3 => v9_puts h1 hN (res := (r, σ')) h3 h)

abbrev m9_unwinds : MI := (cX9_unwinds, RX9, 3, none, 2)
def S9_unwinds_67 (a1 : Int32) (k0 : St → Option (Unit × St)) (x2 : Int32) (s1 : Int32) (s2 : Int32) (σ : St) : Option (Unit × St) := bnd (S9_puts x2 (sI σ 75 25 (s1 - s2))) fun r26 σ25 => k0 σ25
def S9_unwinds_62 (a1 : Int32) (k0 : St → Option (Unit × St)) (x2 : Int32) (s1 : Int32) (σ : St) : Option (Unit × St) := S9_unwinds_67 a1 k0 x2 s1 (1 : Int32) σ
def B9_unwinds_0 (a1 : Int32) (rec : St → Option (Unit × St)) (σ : St) : Option (Unit × St) := if (gI σ 75 24) ≤ 0 then (some ((), σ)) else (if inb ((gI σ 75 24) - (1 : Int32)) 200 then (bnd (S9_rank (gI σ 89 (((gI σ 75 24) - (1 : Int32))).toNatClampNeg) σ) fun r31 σ30 => if r31 < a1 then (some ((), σ30)) else (if inb (gI (sI σ30 75 24 ((gI σ30 75 24) - (1 : Int32))) 75 24) 200 then (if (gI (sI σ30 75 24 ((gI σ30 75 24) - (1 : Int32))) 89 ((gI (sI σ30 75 24 ((gI σ30 75 24) - (1 : Int32))) 75 24)).toNatClampNeg) = (13 : Int32) then (S9_unwinds_62 a1 rec (gI (sI σ30 75 24 ((gI σ30 75 24) - (1 : Int32))) 89 ((gI (sI σ30 75 24 ((gI σ30 75 24) - (1 : Int32))) 75 24)).toNatClampNeg) (gI (sI σ30 75 24 ((gI σ30 75 24) - (1 : Int32))) 75 25) (sI σ30 75 24 ((gI σ30 75 24) - (1 : Int32)))) else (if (gI (sI σ30 75 24 ((gI σ30 75 24) - (1 : Int32))) 89 ((gI (sI σ30 75 24 ((gI σ30 75 24) - (1 : Int32))) 75 24)).toNatClampNeg) = (19 : Int32) then (S9_unwinds_62 a1 rec (gI (sI σ30 75 24 ((gI σ30 75 24) - (1 : Int32))) 89 ((gI (sI σ30 75 24 ((gI σ30 75 24) - (1 : Int32))) 75 24)).toNatClampNeg) (gI (sI σ30 75 24 ((gI σ30 75 24) - (1 : Int32))) 75 25) (sI σ30 75 24 ((gI σ30 75 24) - (1 : Int32)))) else (S9_unwinds_67 a1 rec (gI (sI σ30 75 24 ((gI σ30 75 24) - (1 : Int32))) 89 ((gI (sI σ30 75 24 ((gI σ30 75 24) - (1 : Int32))) 75 24)).toNatClampNeg) (gI (sI σ30 75 24 ((gI σ30 75 24) - (1 : Int32))) 75 25) (0 : Int32) (sI σ30 75 24 ((gI σ30 75 24) - (1 : Int32)))))) else none)) else none)
def S9_unwinds_0 (a1 : Int32) : Nat → St → Option (Unit × St)
  | 0, _ => none
  | n + 1, σ => B9_unwinds_0 a1 (S9_unwinds_0 a1 n) σ
def S9_unwinds (a1 : Int32) (σ : St) : Option (Unit × St) := S9_unwinds_0 a1 4096 σ
set_option maxRecDepth 100000 in
set_option maxHeartbeats 4000000 in
theorem v9_unwinds_67 {g : GT} {X : XT} {a1 : Int32} (hX : OkX g X (m9_unwinds)) (hN : 95 ≤ g.N) {res : Unit × St} (hQ : X.Q = QV g X res.2 ∧ X.cells = 0 ∧ X.slots = 0)  {k0 : St → Option (Unit × St)} (hk0 : ∀ (σ : St), k0 σ = some res → V g X (m9_unwinds) 0 [(0, .ref (g.ad (75))), (1, .int (a1))] [] σ) (x2 : Int32) (s1 : Int32) (s2 : Int32) (σ : St)  (h : S9_unwinds_67 a1 k0 x2 s1 s2 σ = some res) : V g X (m9_unwinds) 67 [(0, .ref (g.ad (75))), (1, .int (a1)), (2, .int (x2))] [.int (s2), .int (s1), .ref (g.ad (75))] σ := by
  unfold S9_unwinds_67 at h
  refine V_isub (q := 68) hX dX9_unwinds_67 rfl ?_
  refine V_putI (n := 95) (c := 9) (k := 25) (nf := 39) (C := RX9) (T := TX9) (q := 71) hX rfl rfl iG9 k4_207 rfl rfl ⟨rfl, by decide⟩ hN rfl tyX9 tyX9_ok nmX9 rfl rfl (ty := .int) (tyX9_ok 25 (by decide)) rfl rfl dX9_unwinds_68 rfl ?_
  refine V_aload_n (q := 72) hX dX9_unwinds_71 0 rfl rfl ?_
  refine V_iload_n (q := 73) hX dX9_unwinds_72 2 rfl rfl ?_
  obtain ⟨r26, σ25, e27, h⟩ := bnd_some h
  refine V_cvV (n := 95) (c := 9) (nf := 39) (C := RX9) (T := TX9) (As := [.int (x2)]) (q := 76) hX (c9_puts hX.2.2.2.2.1 hN e27) (goodV_of k4_155 k4_157 kp_36 k1_16 (cons_g k4_158)) (nA := 1) (by decide) rfl rfl rfl rfl rfl ⟨rfl, by decide⟩ hN rfl rfl rfl dX9_unwinds_73 rfl ?_
  refine V_goto hX dX9_unwinds_76 (q := 0) (by decide) ?_
  refine V.pick [0, 1] rfl ?_
  exact hk0  σ25  h
set_option maxRecDepth 100000 in
set_option maxHeartbeats 4000000 in
theorem v9_unwinds_62 {g : GT} {X : XT} {a1 : Int32} (hX : OkX g X (m9_unwinds)) (hN : 95 ≤ g.N) {res : Unit × St} (hQ : X.Q = QV g X res.2 ∧ X.cells = 0 ∧ X.slots = 0)  {k0 : St → Option (Unit × St)} (hk0 : ∀ (σ : St), k0 σ = some res → V g X (m9_unwinds) 0 [(0, .ref (g.ad (75))), (1, .int (a1))] [] σ) (x2 : Int32) (s1 : Int32) (σ : St)  (h : S9_unwinds_62 a1 k0 x2 s1 σ = some res) : V g X (m9_unwinds) 62 [(0, .ref (g.ad (75))), (1, .int (a1)), (2, .int (x2))] [.int (s1), .ref (g.ad (75))] σ := by
  unfold S9_unwinds_62 at h
  refine V_iconst (v := 1) (q := 63) hX dX9_unwinds_62 (by decide) rfl ?_
  refine V_goto hX dX9_unwinds_63 (q := 67) (by decide) ?_
  refine V.pick [0, 1, 2] rfl ?_
  exact v9_unwinds_67 hX hN hQ hk0 x2 s1 (1 : Int32) σ h
set_option maxRecDepth 100000 in
set_option maxHeartbeats 4000000 in
theorem v9_unwinds_0n {g : GT} {X : XT} {a1 : Int32} (hX : OkX g X (m9_unwinds)) (hN : 95 ≤ g.N) {res : Unit × St} (hQ : X.Q = QV g X res.2 ∧ X.cells = 0 ∧ X.slots = 0)   (n : Nat) : ∀  (σ : St) , S9_unwinds_0 a1 n σ = some res → V g X (m9_unwinds) 0 [(0, .ref (g.ad (75))), (1, .int (a1))] [] σ := by
  induction n with
  | zero => intro σ; intro h; cases h
  | succ n ih =>
    intro σ h
    have h : B9_unwinds_0 a1 (S9_unwinds_0 a1 n) σ = some res := h
    unfold B9_unwinds_0 at h
    refine V_aload_n (q := 1) hX dX9_unwinds_0 0 rfl rfl ?_
    refine V_getI (n := 95) (c := 9) (k := 24) (nf := 39) (C := RX9) (T := TX9) (q := 4) hX rfl rfl iG9 k4_206 rfl rfl ⟨rfl, by decide⟩ hN rfl rfl dX9_unwinds_1 rfl ?_
    refine V_if_le (q := 7) (t := 79) hX dX9_unwinds_4 (by decide) rfl (fun z28 => ?_) (fun z28 => ?_)
    · have h := ite_t z28 h
      obtain ⟨f1, f2⟩ := some2 h
      rw [f2] at hQ
      exact V_vret hX hQ rfl dX9_unwinds_79
    have h := ite_f z28 h
    refine V_aload_n (q := 8) hX dX9_unwinds_7 0 rfl rfl ?_
    refine V_getF (r := 89) (n := 95) (c := 9) (k := 23) (nf := 39) (C := RX9) (T := TX9) (q := 11) hX rfl rfl iG9 k4_205 rfl rfl ⟨rfl, by decide⟩ hN rfl rfl rfl rfl dX9_unwinds_8 rfl ?_
    refine V_aload_n (q := 12) hX dX9_unwinds_11 0 rfl rfl ?_
    refine V_getI (n := 95) (c := 9) (k := 24) (nf := 39) (C := RX9) (T := TX9) (q := 15) hX rfl rfl iG9 k4_206 rfl rfl ⟨rfl, by decide⟩ hN rfl rfl dX9_unwinds_12 rfl ?_
    refine V_iconst (v := 1) (q := 16) hX dX9_unwinds_15 (by decide) rfl ?_
    refine V_isub (q := 17) hX dX9_unwinds_16 rfl ?_
    obtain ⟨z29, h⟩ := chk_t h
    refine V_iald (n := 95) (len := 200) (q := 18) hX ⟨rfl, rfl, by decide⟩ hN z29 dX9_unwinds_17 rfl ?_
    obtain ⟨r31, σ30, e32, h⟩ := bnd_some h
    refine V_csI (As := [.int ((gI σ 89 (((gI σ 75 24) - (1 : Int32))).toNatClampNeg))]) (q := 21) hX (c9_rank hX.2.2.2.2.1 hN e32) (goodS_of k4_163 k4_164 k1_16 (cons_g k4_165)) (nA := 1) (by decide) rfl rfl rfl rfl rfl dX9_unwinds_18 rfl ?_
    refine V_iload_n (q := 22) hX dX9_unwinds_21 1 rfl rfl ?_
    refine V_icmp_lt (q := 25) (t := 79) hX dX9_unwinds_22 (by decide) rfl (fun z33 => ?_) (fun z33 => ?_)
    · have h := ite_t z33 h
      obtain ⟨f1, f2⟩ := some2 h
      rw [f2] at hQ
      exact V_vret hX hQ rfl dX9_unwinds_79
    have h := ite_f z33 h
    refine V_aload_n (q := 26) hX dX9_unwinds_25 0 rfl rfl ?_
    refine V_dup (q := 27) hX dX9_unwinds_26 rfl rfl ?_
    refine V_getI (n := 95) (c := 9) (k := 24) (nf := 39) (C := RX9) (T := TX9) (q := 30) hX rfl rfl iG9 k4_206 rfl rfl ⟨rfl, by decide⟩ hN rfl rfl dX9_unwinds_27 rfl ?_
    refine V_iconst (v := 1) (q := 31) hX dX9_unwinds_30 (by decide) rfl ?_
    refine V_isub (q := 32) hX dX9_unwinds_31 rfl ?_
    refine V_putI (n := 95) (c := 9) (k := 24) (nf := 39) (C := RX9) (T := TX9) (q := 35) hX rfl rfl iG9 k4_206 rfl rfl ⟨rfl, by decide⟩ hN rfl tyX9 tyX9_ok nmX9 rfl rfl (ty := .int) (tyX9_ok 24 (by decide)) rfl rfl dX9_unwinds_32 rfl ?_
    refine V_aload_n (q := 36) hX dX9_unwinds_35 0 rfl rfl ?_
    refine V_getF (r := 89) (n := 95) (c := 9) (k := 23) (nf := 39) (C := RX9) (T := TX9) (q := 39) hX rfl rfl iG9 k4_205 rfl rfl ⟨rfl, by decide⟩ hN rfl rfl rfl rfl dX9_unwinds_36 rfl ?_
    refine V_aload_n (q := 40) hX dX9_unwinds_39 0 rfl rfl ?_
    refine V_getI (n := 95) (c := 9) (k := 24) (nf := 39) (C := RX9) (T := TX9) (q := 43) hX rfl rfl iG9 k4_206 rfl rfl ⟨rfl, by decide⟩ hN rfl rfl dX9_unwinds_40 rfl ?_
    obtain ⟨z34, h⟩ := chk_t h
    refine V_iald (n := 95) (len := 200) (q := 44) hX ⟨rfl, rfl, by decide⟩ hN z34 dX9_unwinds_43 rfl ?_
    refine V_istore_n (lv' := [(2, .int ((gI (sI σ30 75 24 ((gI σ30 75 24) - (1 : Int32))) 89 ((gI (sI σ30 75 24 ((gI σ30 75 24) - (1 : Int32))) 75 24)).toNatClampNeg))), (0, .ref (g.ad (75))), (1, .int (a1))]) (q := 45) hX dX9_unwinds_44 rfl rfl rfl ?_
    refine V_aload_n (q := 46) hX dX9_unwinds_45 1 rfl rfl ?_
    refine V_dup (q := 47) hX dX9_unwinds_46 rfl rfl ?_
    refine V_getI (n := 95) (c := 9) (k := 25) (nf := 39) (C := RX9) (T := TX9) (q := 50) hX rfl rfl iG9 k4_207 rfl rfl ⟨rfl, by decide⟩ hN rfl rfl dX9_unwinds_47 rfl ?_
    refine V_iload_n (q := 51) hX dX9_unwinds_50 0 rfl rfl ?_
    refine V_bipush (v := 13) (q := 53) hX dX9_unwinds_51 (by decide) rfl ?_
    refine V_icmp_eq (q := 56) (t := 62) hX dX9_unwinds_53 (by decide) rfl (fun z35 => ?_) (fun z35 => ?_)
    · have h := ite_t z35 h
      refine V.pick [1, 2, 0] rfl ?_
      exact v9_unwinds_62 hX hN hQ ih (gI (sI σ30 75 24 ((gI σ30 75 24) - (1 : Int32))) 89 ((gI (sI σ30 75 24 ((gI σ30 75 24) - (1 : Int32))) 75 24)).toNatClampNeg) (gI (sI σ30 75 24 ((gI σ30 75 24) - (1 : Int32))) 75 25) (sI σ30 75 24 ((gI σ30 75 24) - (1 : Int32))) h
    have h := ite_f z35 h
    refine V_iload_n (q := 57) hX dX9_unwinds_56 0 rfl rfl ?_
    refine V_bipush (v := 19) (q := 59) hX dX9_unwinds_57 (by decide) rfl ?_
    refine V_icmp_ne (q := 62) (t := 66) hX dX9_unwinds_59 (by decide) rfl (fun z36 => ?_) (fun z36 => ?_)
    · have h := ite_f z36 h
      refine V_iconst (v := 0) (q := 67) hX dX9_unwinds_66 (by decide) rfl ?_
      refine V.pick [1, 2, 0] rfl ?_
      exact v9_unwinds_67 hX hN hQ ih (gI (sI σ30 75 24 ((gI σ30 75 24) - (1 : Int32))) 89 ((gI (sI σ30 75 24 ((gI σ30 75 24) - (1 : Int32))) 75 24)).toNatClampNeg) (gI (sI σ30 75 24 ((gI σ30 75 24) - (1 : Int32))) 75 25) (0 : Int32) (sI σ30 75 24 ((gI σ30 75 24) - (1 : Int32))) h
    have h := ite_t z36 h
    refine V.pick [1, 2, 0] rfl ?_
    exact v9_unwinds_62 hX hN hQ ih (gI (sI σ30 75 24 ((gI σ30 75 24) - (1 : Int32))) 89 ((gI (sI σ30 75 24 ((gI σ30 75 24) - (1 : Int32))) 75 24)).toNatClampNeg) (gI (sI σ30 75 24 ((gI σ30 75 24) - (1 : Int32))) 75 25) (sI σ30 75 24 ((gI σ30 75 24) - (1 : Int32))) h
theorem v9_unwinds_0 {g : GT} {X : XT} {a1 : Int32} (hX : OkX g X (m9_unwinds)) (hN : 95 ≤ g.N) {res : Unit × St} (hQ : X.Q = QV g X res.2 ∧ X.cells = 0 ∧ X.slots = 0) (σ : St) (h : S9_unwinds_0 a1 4096 σ = some res) : V g X (m9_unwinds) 0 [(0, .ref (g.ad (75))), (1, .int (a1))] [] σ := v9_unwinds_0n hX hN hQ 4096 σ h
set_option maxRecDepth 100000 in
set_option maxHeartbeats 4000000 in
theorem v9_unwinds {g : GT} {X : XT} {a1 : Int32} (hX : OkX g X (m9_unwinds)) (hN : 95 ≤ g.N) {res : Unit × St} (hQ : X.Q = QV g X res.2 ∧ X.cells = 0 ∧ X.slots = 0) {σ : St} (h : S9_unwinds a1 σ = some res) : V g X (m9_unwinds) 0 [(0, .ref (g.ad (75))), (1, .int (a1))] [] σ := by
  unfold S9_unwinds at h
  refine V.pick [0, 1] rfl ?_
  exact v9_unwinds_0 hX hN hQ σ h
set_option maxRecDepth 100000 in
set_option maxHeartbeats 4000000 in
theorem c9_unwinds {g : GT} {l : Launch} (hg : OkG g) (hN : 95 ≤ g.N) {a1 : Int32} {σ : St} {r : Unit} {σ' : St} (h : S9_unwinds a1 σ = some (r, σ')) : CtV g l m9_unwinds yX9_unwinds [.ref (g.ad (75)), .int (a1)] σ σ' := CtV.of hg (by decide) rfl rfl (fun X h1 h2 h3 => v9_unwinds h1 hN (res := (r, σ')) h3 h)

abbrev m9_holds : MI := (cX9_holds, RX9, 2, none, 1)
def S9_holds (a1 : Int32) (σ : St) : Option (Unit × St) := if inb (gI σ 75 24) 200 then (some ((), (sI (sI σ 89 ((gI σ 75 24)).toNatClampNeg a1) 75 24 ((gI (sI σ 89 ((gI σ 75 24)).toNatClampNeg a1) 75 24) + (1 : Int32))))) else none
set_option maxRecDepth 100000 in
set_option maxHeartbeats 4000000 in
theorem v9_holds {g : GT} {X : XT} {a1 : Int32} (hX : OkX g X (m9_holds)) (hN : 95 ≤ g.N) {res : Unit × St} (hQ : X.Q = QV g X res.2 ∧ X.cells = 0 ∧ X.slots = 0) {σ : St} (h : S9_holds a1 σ = some res) : V g X (m9_holds) 0 [(0, .ref (g.ad (75))), (1, .int (a1))] [] σ := by
  unfold S9_holds at h
  refine V_aload_n (q := 1) hX dX9_holds_0 0 rfl rfl ?_
  refine V_getF (r := 89) (n := 95) (c := 9) (k := 23) (nf := 39) (C := RX9) (T := TX9) (q := 4) hX rfl rfl iG9 k4_205 rfl rfl ⟨rfl, by decide⟩ hN rfl rfl rfl rfl dX9_holds_1 rfl ?_
  refine V_aload_n (q := 5) hX dX9_holds_4 0 rfl rfl ?_
  refine V_getI (n := 95) (c := 9) (k := 24) (nf := 39) (C := RX9) (T := TX9) (q := 8) hX rfl rfl iG9 k4_206 rfl rfl ⟨rfl, by decide⟩ hN rfl rfl dX9_holds_5 rfl ?_
  refine V_iload_n (q := 9) hX dX9_holds_8 1 rfl rfl ?_
  obtain ⟨z2, h⟩ := chk_t h
  refine V_iast (n := 95) (len := 200) (q := 10) hX ⟨rfl, rfl, by decide⟩ hN z2 dX9_holds_9 rfl ?_
  refine V_aload_n (q := 11) hX dX9_holds_10 0 rfl rfl ?_
  refine V_dup (q := 12) hX dX9_holds_11 rfl rfl ?_
  refine V_getI (n := 95) (c := 9) (k := 24) (nf := 39) (C := RX9) (T := TX9) (q := 15) hX rfl rfl iG9 k4_206 rfl rfl ⟨rfl, by decide⟩ hN rfl rfl dX9_holds_12 rfl ?_
  refine V_iconst (v := 1) (q := 16) hX dX9_holds_15 (by decide) rfl ?_
  refine V_iadd (q := 17) hX dX9_holds_16 rfl ?_
  refine V_putI (n := 95) (c := 9) (k := 24) (nf := 39) (C := RX9) (T := TX9) (q := 20) hX rfl rfl iG9 k4_206 rfl rfl ⟨rfl, by decide⟩ hN rfl tyX9 tyX9_ok nmX9 rfl rfl (ty := .int) (tyX9_ok 24 (by decide)) rfl rfl dX9_holds_17 rfl ?_
  obtain ⟨f1, f2⟩ := some2 h
  rw [f2] at hQ
  exact V_vret hX hQ rfl dX9_holds_20
set_option maxRecDepth 100000 in
set_option maxHeartbeats 4000000 in
theorem c9_holds {g : GT} {l : Launch} (hg : OkG g) (hN : 95 ≤ g.N) {a1 : Int32} {σ : St} {r : Unit} {σ' : St} (h : S9_holds a1 σ = some (r, σ')) : CtV g l m9_holds yX9_holds [.ref (g.ad (75)), .int (a1)] σ σ' := CtV.of hg (by decide) rfl rfl (fun X h1 h2 h3 => v9_holds h1 hN (res := (r, σ')) h3 h)

abbrev m9_opensOne : MI := (cX9_opensOne, RX9, 2, some .boolean, 2)
def S9_opensOne (a1 : Int32) (σ : St) : Option (Int32 × St) := if (gI σ 75 25) = (5 : Int32) then (some ((0 : Int32), σ)) else (bnd (S9_holds a1 (sI σ 75 25 ((gI σ 75 25) + (1 : Int32)))) fun r7 σ6 => some ((1 : Int32), σ6))
set_option maxRecDepth 100000 in
set_option maxHeartbeats 4000000 in
theorem v9_opensOne {g : GT} {X : XT} {a1 : Int32} (hX : OkX g X (m9_opensOne)) (hN : 95 ≤ g.N) {res : Int32 × St} (hQ : X.Q = QI g X res.1 res.2 ∧ X.cells = 0 ∧ X.slots = 0) {σ : St} (h : S9_opensOne a1 σ = some res) : V g X (m9_opensOne) 0 [(0, .ref (g.ad (75))), (1, .int (a1))] [] σ := by
  unfold S9_opensOne at h
  refine V_aload_n (q := 1) hX dX9_opensOne_0 0 rfl rfl ?_
  refine V_getI (n := 95) (c := 9) (k := 25) (nf := 39) (C := RX9) (T := TX9) (q := 4) hX rfl rfl iG9 k4_207 rfl rfl ⟨rfl, by decide⟩ hN rfl rfl dX9_opensOne_1 rfl ?_
  refine V_iconst (v := 5) (q := 5) hX dX9_opensOne_4 (by decide) rfl ?_
  refine V_icmp_ne (q := 8) (t := 10) hX dX9_opensOne_5 (by decide) rfl (fun z5 => ?_) (fun z5 => ?_)
  · have h := ite_f z5 h
    refine V_aload_n (q := 11) hX dX9_opensOne_10 0 rfl rfl ?_
    refine V_dup (q := 12) hX dX9_opensOne_11 rfl rfl ?_
    refine V_getI (n := 95) (c := 9) (k := 25) (nf := 39) (C := RX9) (T := TX9) (q := 15) hX rfl rfl iG9 k4_207 rfl rfl ⟨rfl, by decide⟩ hN rfl rfl dX9_opensOne_12 rfl ?_
    refine V_iconst (v := 1) (q := 16) hX dX9_opensOne_15 (by decide) rfl ?_
    refine V_iadd (q := 17) hX dX9_opensOne_16 rfl ?_
    refine V_putI (n := 95) (c := 9) (k := 25) (nf := 39) (C := RX9) (T := TX9) (q := 20) hX rfl rfl iG9 k4_207 rfl rfl ⟨rfl, by decide⟩ hN rfl tyX9 tyX9_ok nmX9 rfl rfl (ty := .int) (tyX9_ok 25 (by decide)) rfl rfl dX9_opensOne_17 rfl ?_
    refine V_aload_n (q := 21) hX dX9_opensOne_20 0 rfl rfl ?_
    refine V_iload_n (q := 22) hX dX9_opensOne_21 1 rfl rfl ?_
    obtain ⟨r7, σ6, e8, h⟩ := bnd_some h
    refine V_cvV (n := 95) (c := 9) (nf := 39) (C := RX9) (T := TX9) (As := [.int (a1)]) (q := 25) hX (c9_holds hX.2.2.2.2.1 hN e8) (goodV_of k4_170 k4_172 kp_39 k1_16 (cons_g k4_173)) (nA := 1) (by decide) rfl rfl rfl rfl rfl ⟨rfl, by decide⟩ hN rfl rfl rfl dX9_opensOne_22 rfl ?_
    refine V_iconst (v := 1) (q := 26) hX dX9_opensOne_25 (by decide) rfl ?_
    obtain ⟨f1, f2⟩ := some2 h
    rw [f1, f2] at hQ
    exact V_zret (ty := .boolean) hX hQ rfl rfl dX9_opensOne_26
  have h := ite_t z5 h
  refine V_iconst (v := 0) (q := 9) hX dX9_opensOne_8 (by decide) rfl ?_
  obtain ⟨f1, f2⟩ := some2 h
  rw [f1, f2] at hQ
  exact V_zret (ty := .boolean) hX hQ rfl rfl dX9_opensOne_9
set_option maxRecDepth 100000 in
set_option maxHeartbeats 4000000 in
theorem c9_opensOne {g : GT} {l : Launch} (hg : OkG g) (hN : 95 ≤ g.N) {a1 : Int32} {σ : St} {r : Int32} {σ' : St} (h : S9_opensOne a1 σ = some (r, σ')) : CtI g l m9_opensOne yX9_opensOne [.ref (g.ad (75)), .int (a1)] σ r σ' := CtI.of hg (by decide) rfl rfl (fun X h1 h2 h3 => v9_opensOne h1 hN (res := (r, σ')) h3 h)

abbrev m9_between : MI := (cX9_between, RX9, 2, some .boolean, 3)
def S9_between_55 (a1 : Int32) (σ : St) : Option (Int32 × St) := bnd (S9_holds a1 σ) fun r48 σ47 => some ((1 : Int32), σ47)
def S9_between_17 (a1 : Int32) (s1 : Int32) (σ : St) : Option (Int32 × St) := bnd (S9_unwinds s1 σ) fun r51 σ50 => bnd (S9_rank a1 σ50) fun r54 σ53 => if r54 = (4 : Int32) then (if (gI σ53 75 24) ≤ 0 then (S9_between_55 a1 σ53) else (if inb ((gI σ53 75 24) - (1 : Int32)) 200 then (bnd (S9_rank (gI σ53 89 (((gI σ53 75 24) - (1 : Int32))).toNatClampNeg) σ53) fun r60 σ59 => if r60 = (4 : Int32) then (some ((0 : Int32), σ59)) else (S9_between_55 a1 σ59)) else none)) else (S9_between_55 a1 σ53)
def S9_between (a1 : Int32) (σ : St) : Option (Int32 × St) := bnd (S9_rank a1 σ) fun r64 σ63 => if r64 = (4 : Int32) then (S9_between_17 a1 (5 : Int32) σ63) else (bnd (S9_rank a1 σ63) fun r68 σ67 => S9_between_17 a1 r68 σ67)
set_option maxRecDepth 100000 in
set_option maxHeartbeats 4000000 in
theorem v9_between_55 {g : GT} {X : XT} {a1 : Int32} (hX : OkX g X (m9_between)) (hN : 95 ≤ g.N) {res : Int32 × St} (hQ : X.Q = QI g X res.1 res.2 ∧ X.cells = 0 ∧ X.slots = 0)    (σ : St)  (h : S9_between_55 a1 σ = some res) : V g X (m9_between) 55 [(0, .ref (g.ad (75))), (1, .int (a1))] [] σ := by
  unfold S9_between_55 at h
  refine V_aload_n (q := 56) hX dX9_between_55 0 rfl rfl ?_
  refine V_iload_n (q := 57) hX dX9_between_56 1 rfl rfl ?_
  obtain ⟨r48, σ47, e49, h⟩ := bnd_some h
  refine V_cvV (n := 95) (c := 9) (nf := 39) (C := RX9) (T := TX9) (As := [.int (a1)]) (q := 60) hX (c9_holds hX.2.2.2.2.1 hN e49) (goodV_of k4_170 k4_172 kp_39 k1_16 (cons_g k4_173)) (nA := 1) (by decide) rfl rfl rfl rfl rfl ⟨rfl, by decide⟩ hN rfl rfl rfl dX9_between_57 rfl ?_
  refine V_iconst (v := 1) (q := 61) hX dX9_between_60 (by decide) rfl ?_
  obtain ⟨f1, f2⟩ := some2 h
  rw [f1, f2] at hQ
  exact V_zret (ty := .boolean) hX hQ rfl rfl dX9_between_61
set_option maxRecDepth 100000 in
set_option maxHeartbeats 4000000 in
theorem v9_between_17 {g : GT} {X : XT} {a1 : Int32} (hX : OkX g X (m9_between)) (hN : 95 ≤ g.N) {res : Int32 × St} (hQ : X.Q = QI g X res.1 res.2 ∧ X.cells = 0 ∧ X.slots = 0)   (s1 : Int32) (σ : St)  (h : S9_between_17 a1 s1 σ = some res) : V g X (m9_between) 17 [(0, .ref (g.ad (75))), (1, .int (a1))] [.int (s1), .ref (g.ad (75))] σ := by
  unfold S9_between_17 at h
  obtain ⟨r51, σ50, e52, h⟩ := bnd_some h
  refine V_cvV (n := 95) (c := 9) (nf := 39) (C := RX9) (T := TX9) (As := [.int (s1)]) (q := 20) hX (c9_unwinds hX.2.2.2.2.1 hN e52) (goodV_of k4_159 k4_161 kp_37 k1_16 (cons_g k4_162)) (nA := 1) (by decide) rfl rfl rfl rfl rfl ⟨rfl, by decide⟩ hN rfl rfl rfl dX9_between_17 rfl ?_
  refine V_iload_n (q := 21) hX dX9_between_20 1 rfl rfl ?_
  obtain ⟨r54, σ53, e55, h⟩ := bnd_some h
  refine V_csI (As := [.int (a1)]) (q := 24) hX (c9_rank hX.2.2.2.2.1 hN e55) (goodS_of k4_163 k4_164 k1_16 (cons_g k4_165)) (nA := 1) (by decide) rfl rfl rfl rfl rfl dX9_between_21 rfl ?_
  refine V_iconst (v := 4) (q := 25) hX dX9_between_24 (by decide) rfl ?_
  refine V_icmp_ne (q := 28) (t := 55) hX dX9_between_25 (by decide) rfl (fun z56 => ?_) (fun z56 => ?_)
  · have h := ite_f z56 h
    refine V.pick [0, 1] rfl ?_
    exact v9_between_55 hX hN hQ σ53 h
  have h := ite_t z56 h
  refine V_aload_n (q := 29) hX dX9_between_28 0 rfl rfl ?_
  refine V_getI (n := 95) (c := 9) (k := 24) (nf := 39) (C := RX9) (T := TX9) (q := 32) hX rfl rfl iG9 k4_206 rfl rfl ⟨rfl, by decide⟩ hN rfl rfl dX9_between_29 rfl ?_
  refine V_if_le (q := 35) (t := 55) hX dX9_between_32 (by decide) rfl (fun z57 => ?_) (fun z57 => ?_)
  · have h := ite_t z57 h
    refine V.pick [0, 1] rfl ?_
    exact v9_between_55 hX hN hQ σ53 h
  have h := ite_f z57 h
  refine V_aload_n (q := 36) hX dX9_between_35 0 rfl rfl ?_
  refine V_getF (r := 89) (n := 95) (c := 9) (k := 23) (nf := 39) (C := RX9) (T := TX9) (q := 39) hX rfl rfl iG9 k4_205 rfl rfl ⟨rfl, by decide⟩ hN rfl rfl rfl rfl dX9_between_36 rfl ?_
  refine V_aload_n (q := 40) hX dX9_between_39 0 rfl rfl ?_
  refine V_getI (n := 95) (c := 9) (k := 24) (nf := 39) (C := RX9) (T := TX9) (q := 43) hX rfl rfl iG9 k4_206 rfl rfl ⟨rfl, by decide⟩ hN rfl rfl dX9_between_40 rfl ?_
  refine V_iconst (v := 1) (q := 44) hX dX9_between_43 (by decide) rfl ?_
  refine V_isub (q := 45) hX dX9_between_44 rfl ?_
  obtain ⟨z58, h⟩ := chk_t h
  refine V_iald (n := 95) (len := 200) (q := 46) hX ⟨rfl, rfl, by decide⟩ hN z58 dX9_between_45 rfl ?_
  obtain ⟨r60, σ59, e61, h⟩ := bnd_some h
  refine V_csI (As := [.int ((gI σ53 89 (((gI σ53 75 24) - (1 : Int32))).toNatClampNeg))]) (q := 49) hX (c9_rank hX.2.2.2.2.1 hN e61) (goodS_of k4_163 k4_164 k1_16 (cons_g k4_165)) (nA := 1) (by decide) rfl rfl rfl rfl rfl dX9_between_46 rfl ?_
  refine V_iconst (v := 4) (q := 50) hX dX9_between_49 (by decide) rfl ?_
  refine V_icmp_ne (q := 53) (t := 55) hX dX9_between_50 (by decide) rfl (fun z62 => ?_) (fun z62 => ?_)
  · have h := ite_f z62 h
    refine V.pick [0, 1] rfl ?_
    exact v9_between_55 hX hN hQ σ59 h
  have h := ite_t z62 h
  refine V_iconst (v := 0) (q := 54) hX dX9_between_53 (by decide) rfl ?_
  obtain ⟨f1, f2⟩ := some2 h
  rw [f1, f2] at hQ
  exact V_zret (ty := .boolean) hX hQ rfl rfl dX9_between_54
set_option maxRecDepth 100000 in
set_option maxHeartbeats 4000000 in
theorem v9_between {g : GT} {X : XT} {a1 : Int32} (hX : OkX g X (m9_between)) (hN : 95 ≤ g.N) {res : Int32 × St} (hQ : X.Q = QI g X res.1 res.2 ∧ X.cells = 0 ∧ X.slots = 0) {σ : St} (h : S9_between a1 σ = some res) : V g X (m9_between) 0 [(0, .ref (g.ad (75))), (1, .int (a1))] [] σ := by
  unfold S9_between at h
  refine V_aload_n (q := 1) hX dX9_between_0 0 rfl rfl ?_
  refine V_iload_n (q := 2) hX dX9_between_1 1 rfl rfl ?_
  obtain ⟨r64, σ63, e65, h⟩ := bnd_some h
  refine V_csI (As := [.int (a1)]) (q := 5) hX (c9_rank hX.2.2.2.2.1 hN e65) (goodS_of k4_163 k4_164 k1_16 (cons_g k4_165)) (nA := 1) (by decide) rfl rfl rfl rfl rfl dX9_between_2 rfl ?_
  refine V_iconst (v := 4) (q := 6) hX dX9_between_5 (by decide) rfl ?_
  refine V_icmp_ne (q := 9) (t := 13) hX dX9_between_6 (by decide) rfl (fun z66 => ?_) (fun z66 => ?_)
  · have h := ite_f z66 h
    refine V_iload_n (q := 14) hX dX9_between_13 1 rfl rfl ?_
    obtain ⟨r68, σ67, e69, h⟩ := bnd_some h
    refine V_csI (As := [.int (a1)]) (q := 17) hX (c9_rank hX.2.2.2.2.1 hN e69) (goodS_of k4_163 k4_164 k1_16 (cons_g k4_165)) (nA := 1) (by decide) rfl rfl rfl rfl rfl dX9_between_14 rfl ?_
    refine V.pick [0, 1] rfl ?_
    exact v9_between_17 hX hN hQ r68 σ67 h
  have h := ite_t z66 h
  refine V_iconst (v := 5) (q := 10) hX dX9_between_9 (by decide) rfl ?_
  refine V_goto hX dX9_between_10 (q := 17) (by decide) ?_
  refine V.pick [0, 1] rfl ?_
  exact v9_between_17 hX hN hQ (5 : Int32) σ63 h
set_option maxRecDepth 100000 in
set_option maxHeartbeats 4000000 in
theorem c9_between {g : GT} {l : Launch} (hg : OkG g) (hN : 95 ≤ g.N) {a1 : Int32} {σ : St} {r : Int32} {σ' : St} (h : S9_between a1 σ = some (r, σ')) : CtI g l m9_between yX9_between [.ref (g.ad (75)), .int (a1)] σ r σ' := CtI.of hg (by decide) rfl rfl (fun X h1 h2 h3 => v9_between h1 hN (res := (r, σ')) h3 h)

abbrev m9_signOf : MI := (cX9_signOf, RX9, 1, some .int, 1)
def S9_signOf (σ : St) : Option (Int32 × St) := if (gI σ 75 20) = (4 : Int32) then (some ((11 : Int32), σ)) else (if (gI σ 75 20) = (5 : Int32) then (some ((12 : Int32), σ)) else (if (gI σ 75 20) = (60 : Int32) then (some ((14 : Int32), σ)) else (if (gI σ 75 20) = (61 : Int32) then (some ((15 : Int32), σ)) else (if (gI σ 75 20) = (43 : Int32) then (some ((16 : Int32), σ)) else (if (gI σ 75 20) = (45 : Int32) then (some ((17 : Int32), σ)) else (if (gI σ 75 20) = (42 : Int32) then (some ((18 : Int32), σ)) else (some ((-1 : Int32), σ))))))))
set_option maxRecDepth 100000 in
set_option maxHeartbeats 4000000 in
theorem v9_signOf {g : GT} {X : XT} (hX : OkX g X (m9_signOf)) (hN : 95 ≤ g.N) {res : Int32 × St} (hQ : X.Q = QI g X res.1 res.2 ∧ X.cells = 0 ∧ X.slots = 0) {σ : St} (h : S9_signOf σ = some res) : V g X (m9_signOf) 0 [(0, .ref (g.ad (75)))] [] σ := by
  unfold S9_signOf at h
  refine V_aload_n (q := 1) hX dX9_signOf_0 0 rfl rfl ?_
  refine V_getI (n := 95) (c := 9) (k := 20) (nf := 39) (C := RX9) (T := TX9) (q := 4) hX rfl rfl iG9 k4_202 rfl rfl ⟨rfl, by decide⟩ hN rfl rfl dX9_signOf_1 rfl ?_
  refine V_iconst (v := 4) (q := 5) hX dX9_signOf_4 (by decide) rfl ?_
  refine V_icmp_ne (q := 8) (t := 13) hX dX9_signOf_5 (by decide) rfl (fun z8 => ?_) (fun z8 => ?_)
  · have h := ite_f z8 h
    refine V_aload_n (q := 14) hX dX9_signOf_13 0 rfl rfl ?_
    refine V_getI (n := 95) (c := 9) (k := 20) (nf := 39) (C := RX9) (T := TX9) (q := 17) hX rfl rfl iG9 k4_202 rfl rfl ⟨rfl, by decide⟩ hN rfl rfl dX9_signOf_14 rfl ?_
    refine V_iconst (v := 5) (q := 18) hX dX9_signOf_17 (by decide) rfl ?_
    refine V_icmp_ne (q := 21) (t := 26) hX dX9_signOf_18 (by decide) rfl (fun z9 => ?_) (fun z9 => ?_)
    · have h := ite_f z9 h
      refine V_aload_n (q := 27) hX dX9_signOf_26 0 rfl rfl ?_
      refine V_getI (n := 95) (c := 9) (k := 20) (nf := 39) (C := RX9) (T := TX9) (q := 30) hX rfl rfl iG9 k4_202 rfl rfl ⟨rfl, by decide⟩ hN rfl rfl dX9_signOf_27 rfl ?_
      refine V_bipush (v := 60) (q := 32) hX dX9_signOf_30 (by decide) rfl ?_
      refine V_icmp_ne (q := 35) (t := 40) hX dX9_signOf_32 (by decide) rfl (fun z10 => ?_) (fun z10 => ?_)
      · have h := ite_f z10 h
        refine V_aload_n (q := 41) hX dX9_signOf_40 0 rfl rfl ?_
        refine V_getI (n := 95) (c := 9) (k := 20) (nf := 39) (C := RX9) (T := TX9) (q := 44) hX rfl rfl iG9 k4_202 rfl rfl ⟨rfl, by decide⟩ hN rfl rfl dX9_signOf_41 rfl ?_
        refine V_bipush (v := 61) (q := 46) hX dX9_signOf_44 (by decide) rfl ?_
        refine V_icmp_ne (q := 49) (t := 54) hX dX9_signOf_46 (by decide) rfl (fun z11 => ?_) (fun z11 => ?_)
        · have h := ite_f z11 h
          refine V_aload_n (q := 55) hX dX9_signOf_54 0 rfl rfl ?_
          refine V_getI (n := 95) (c := 9) (k := 20) (nf := 39) (C := RX9) (T := TX9) (q := 58) hX rfl rfl iG9 k4_202 rfl rfl ⟨rfl, by decide⟩ hN rfl rfl dX9_signOf_55 rfl ?_
          refine V_bipush (v := 43) (q := 60) hX dX9_signOf_58 (by decide) rfl ?_
          refine V_icmp_ne (q := 63) (t := 68) hX dX9_signOf_60 (by decide) rfl (fun z12 => ?_) (fun z12 => ?_)
          · have h := ite_f z12 h
            refine V_aload_n (q := 69) hX dX9_signOf_68 0 rfl rfl ?_
            refine V_getI (n := 95) (c := 9) (k := 20) (nf := 39) (C := RX9) (T := TX9) (q := 72) hX rfl rfl iG9 k4_202 rfl rfl ⟨rfl, by decide⟩ hN rfl rfl dX9_signOf_69 rfl ?_
            refine V_bipush (v := 45) (q := 74) hX dX9_signOf_72 (by decide) rfl ?_
            refine V_icmp_ne (q := 77) (t := 82) hX dX9_signOf_74 (by decide) rfl (fun z13 => ?_) (fun z13 => ?_)
            · have h := ite_f z13 h
              refine V_aload_n (q := 83) hX dX9_signOf_82 0 rfl rfl ?_
              refine V_getI (n := 95) (c := 9) (k := 20) (nf := 39) (C := RX9) (T := TX9) (q := 86) hX rfl rfl iG9 k4_202 rfl rfl ⟨rfl, by decide⟩ hN rfl rfl dX9_signOf_83 rfl ?_
              refine V_bipush (v := 42) (q := 88) hX dX9_signOf_86 (by decide) rfl ?_
              refine V_icmp_ne (q := 91) (t := 96) hX dX9_signOf_88 (by decide) rfl (fun z14 => ?_) (fun z14 => ?_)
              · have h := ite_f z14 h
                refine V_iconst (v := -1) (q := 97) hX dX9_signOf_96 (by decide) rfl ?_
                obtain ⟨f1, f2⟩ := some2 h
                rw [f1, f2] at hQ
                exact V_iret hX hQ rfl dX9_signOf_97
              have h := ite_t z14 h
              refine V_bipush (v := 18) (q := 93) hX dX9_signOf_91 (by decide) rfl ?_
              refine V_goto hX dX9_signOf_93 (q := 97) (by decide) ?_
              obtain ⟨f1, f2⟩ := some2 h
              rw [f1, f2] at hQ
              exact V_iret hX hQ rfl dX9_signOf_97
            have h := ite_t z13 h
            refine V_bipush (v := 17) (q := 79) hX dX9_signOf_77 (by decide) rfl ?_
            refine V_goto hX dX9_signOf_79 (q := 97) (by decide) ?_
            obtain ⟨f1, f2⟩ := some2 h
            rw [f1, f2] at hQ
            exact V_iret hX hQ rfl dX9_signOf_97
          have h := ite_t z12 h
          refine V_bipush (v := 16) (q := 65) hX dX9_signOf_63 (by decide) rfl ?_
          refine V_goto hX dX9_signOf_65 (q := 97) (by decide) ?_
          obtain ⟨f1, f2⟩ := some2 h
          rw [f1, f2] at hQ
          exact V_iret hX hQ rfl dX9_signOf_97
        have h := ite_t z11 h
        refine V_bipush (v := 15) (q := 51) hX dX9_signOf_49 (by decide) rfl ?_
        refine V_goto hX dX9_signOf_51 (q := 97) (by decide) ?_
        obtain ⟨f1, f2⟩ := some2 h
        rw [f1, f2] at hQ
        exact V_iret hX hQ rfl dX9_signOf_97
      have h := ite_t z10 h
      refine V_bipush (v := 14) (q := 37) hX dX9_signOf_35 (by decide) rfl ?_
      refine V_goto hX dX9_signOf_37 (q := 97) (by decide) ?_
      obtain ⟨f1, f2⟩ := some2 h
      rw [f1, f2] at hQ
      exact V_iret hX hQ rfl dX9_signOf_97
    have h := ite_t z9 h
    refine V_bipush (v := 12) (q := 23) hX dX9_signOf_21 (by decide) rfl ?_
    refine V_goto hX dX9_signOf_23 (q := 97) (by decide) ?_
    obtain ⟨f1, f2⟩ := some2 h
    rw [f1, f2] at hQ
    exact V_iret hX hQ rfl dX9_signOf_97
  have h := ite_t z8 h
  refine V_bipush (v := 11) (q := 10) hX dX9_signOf_8 (by decide) rfl ?_
  refine V_goto hX dX9_signOf_10 (q := 97) (by decide) ?_
  obtain ⟨f1, f2⟩ := some2 h
  rw [f1, f2] at hQ
  exact V_iret hX hQ rfl dX9_signOf_97
set_option maxRecDepth 100000 in
set_option maxHeartbeats 4000000 in
theorem c9_signOf {g : GT} {l : Launch} (hg : OkG g) (hN : 95 ≤ g.N) {σ : St} {r : Int32} {σ' : St} (h : S9_signOf σ = some (r, σ')) : CtI g l m9_signOf yX9_signOf [.ref (g.ad (75))] σ r σ' := CtI.of hg (by decide) rfl rfl (fun X h1 h2 h3 => v9_signOf h1 hN (res := (r, σ')) h3 h)

abbrev m9_eRead : MI := (cX9_eRead, RX9, 4, some .boolean, 4)
def S9_eRead_61 (k14 : Int32 → Int32 → St → Option (Int32 × St)) (x2 : Int32) (s1 : Int32) (σ : St) : Option (Int32 × St) := bnd (S9_puts s1 σ) fun r155 σ154 => bnd (S9_unwinds (7 : Int32) σ154) fun r158 σ157 => k14 (0 : Int32) x2 σ157
def S9_eRead_38 (k14 : Int32 → Int32 → St → Option (Int32 × St)) (x2 : Int32) (σ : St) : Option (Int32 × St) := if (gI σ 75 20) = (1 : Int32) then (S9_eRead_61 k14 x2 ((100000 : Int32) + (gI σ 75 21)) σ) else (S9_eRead_61 k14 x2 (gI σ 75 21) σ)
def S9_eRead_99 (k14 : Int32 → Int32 → St → Option (Int32 × St)) (x1 : Int32) (σ : St) : Option (Int32 × St) := if (gI σ 75 20) = (45 : Int32) then (bnd (S9_opensOne (19 : Int32) σ) fun r168 σ167 => if r168 = 0 then (some ((0 : Int32), σ167)) else (k14 x1 (0 : Int32) σ167)) else (if (gI σ 75 20) = (40 : Int32) then (bnd (S9_opensOne (0 : Int32) σ) fun r164 σ163 => if r164 = 0 then (some ((0 : Int32), σ163)) else (k14 x1 (1 : Int32) σ163)) else (some ((0 : Int32), σ)))
def S9_eRead_262 (k14 : Int32 → Int32 → St → Option (Int32 × St)) (s0 : Int32) (σ : St) : Option (Int32 × St) := k14 (1 : Int32) s0 σ
def B9_eRead_14 (rec : Int32 → Int32 → St → Option (Int32 × St)) (x1 : Int32) (x2 : Int32) (σ : St) : Option (Int32 × St) := bnd (S9_next σ) fun r172 σ171 => if x1 = 0 then (if (gI σ171 75 20) = (59 : Int32) then (bnd (S9_unwinds (1 : Int32) σ171) fun r194 σ193 => if (gI σ193 75 24) = 0 then (some ((1 : Int32), σ193)) else (some ((0 : Int32), σ193))) else (if (gI σ171 75 20) = (41 : Int32) then (bnd (S9_unwinds (1 : Int32) σ171) fun r187 σ186 => if (gI σ186 75 24) = 0 then (some ((0 : Int32), σ186)) else (bnd (S9_unwinds (7 : Int32) (sI (sI σ186 75 24 ((gI σ186 75 24) - (1 : Int32))) 75 25 ((gI (sI σ186 75 24 ((gI σ186 75 24) - (1 : Int32))) 75 25) - (1 : Int32)))) fun r191 σ190 => rec x1 x2 σ190)) else (bnd (S9_signOf σ171) fun r178 σ177 => if r178 = (-1 : Int32) then (some ((0 : Int32), σ177)) else (bnd (S9_between r178 σ177) fun r182 σ181 => if r182 = 0 then (some ((0 : Int32), σ181)) else (if (12 : Int32) < r178 then (S9_eRead_262 rec (0 : Int32) σ181) else (S9_eRead_262 rec (1 : Int32) σ181)))))) else (if (gI σ171 75 20) = (1 : Int32) then (S9_eRead_38 rec x2 σ171) else (if (gI σ171 75 20) = (2 : Int32) then (S9_eRead_38 rec x2 σ171) else (if (gI σ171 75 20) = (6 : Int32) then (if x2 = 0 then (S9_eRead_99 rec x1 σ171) else (bnd (S9_opensOne (13 : Int32) σ171) fun r202 σ201 => if r202 = 0 then (some ((0 : Int32), σ201)) else (rec x1 x2 σ201))) else (S9_eRead_99 rec x1 σ171))))
def S9_eRead_14 : Nat → Int32 → Int32 → St → Option (Int32 × St)
  | 0, _, _, _ => none
  | n + 1, x1, x2, σ => B9_eRead_14 (S9_eRead_14 n) x1 x2 σ
def S9_eRead (σ : St) : Option (Int32 × St) := S9_eRead_14 4096 (1 : Int32) (1 : Int32) (sI (sI σ 75 24 (0 : Int32)) 75 25 (0 : Int32))
set_option maxRecDepth 100000 in
set_option maxHeartbeats 4000000 in
theorem v9_eRead_61 {g : GT} {X : XT} (hX : OkX g X (m9_eRead)) (hN : 95 ≤ g.N) {res : Int32 × St} (hQ : X.Q = QI g X res.1 res.2 ∧ X.cells = 0 ∧ X.slots = 0)  {k14 : Int32 → Int32 → St → Option (Int32 × St)} (hk14 : ∀ (x1 : Int32) (x2 : Int32) (σ : St), k14 x1 x2 σ = some res → V g X (m9_eRead) 14 [(0, .ref (g.ad (75))), (1, .int (x1)), (2, .int (x2))] [] σ) (x2 : Int32) (s1 : Int32) (σ : St)  (h : S9_eRead_61 k14 x2 s1 σ = some res) : V g X (m9_eRead) 61 [(0, .ref (g.ad (75))), (2, .int (x2))] [.int (s1), .ref (g.ad (75))] σ := by
  unfold S9_eRead_61 at h
  obtain ⟨r155, σ154, e156, h⟩ := bnd_some h
  refine V_cvV (n := 95) (c := 9) (nf := 39) (C := RX9) (T := TX9) (As := [.int (s1)]) (q := 64) hX (c9_puts hX.2.2.2.2.1 hN e156) (goodV_of k4_155 k4_157 kp_36 k1_16 (cons_g k4_158)) (nA := 1) (by decide) rfl rfl rfl rfl rfl ⟨rfl, by decide⟩ hN rfl rfl rfl dX9_eRead_61 rfl ?_
  refine V_aload_n (q := 65) hX dX9_eRead_64 0 rfl rfl ?_
  refine V_bipush (v := 7) (q := 67) hX dX9_eRead_65 (by decide) rfl ?_
  obtain ⟨r158, σ157, e159, h⟩ := bnd_some h
  refine V_cvV (n := 95) (c := 9) (nf := 39) (C := RX9) (T := TX9) (As := [.int ((7 : Int32))]) (q := 70) hX (c9_unwinds hX.2.2.2.2.1 hN e159) (goodV_of k4_159 k4_161 kp_37 k1_16 (cons_g k4_162)) (nA := 1) (by decide) rfl rfl rfl rfl rfl ⟨rfl, by decide⟩ hN rfl rfl rfl dX9_eRead_67 rfl ?_
  refine V_iconst (v := 0) (q := 71) hX dX9_eRead_70 (by decide) rfl ?_
  refine V_istore_n (lv' := [(1, .int ((0 : Int32))), (0, .ref (g.ad (75))), (2, .int (x2))]) (q := 72) hX dX9_eRead_71 rfl rfl rfl ?_
  refine V_goto hX dX9_eRead_72 (q := 14) (by decide) ?_
  refine V.pick [1, 0, 2] rfl ?_
  exact hk14 (0 : Int32) x2 σ157  h
set_option maxRecDepth 100000 in
set_option maxHeartbeats 4000000 in
theorem v9_eRead_38 {g : GT} {X : XT} (hX : OkX g X (m9_eRead)) (hN : 95 ≤ g.N) {res : Int32 × St} (hQ : X.Q = QI g X res.1 res.2 ∧ X.cells = 0 ∧ X.slots = 0)  {k14 : Int32 → Int32 → St → Option (Int32 × St)} (hk14 : ∀ (x1 : Int32) (x2 : Int32) (σ : St), k14 x1 x2 σ = some res → V g X (m9_eRead) 14 [(0, .ref (g.ad (75))), (1, .int (x1)), (2, .int (x2))] [] σ) (x2 : Int32) (σ : St)  (h : S9_eRead_38 k14 x2 σ = some res) : V g X (m9_eRead) 38 [(0, .ref (g.ad (75))), (2, .int (x2))] [] σ := by
  unfold S9_eRead_38 at h
  refine V_aload_n (q := 39) hX dX9_eRead_38 0 rfl rfl ?_
  refine V_aload_n (q := 40) hX dX9_eRead_39 0 rfl rfl ?_
  refine V_getI (n := 95) (c := 9) (k := 20) (nf := 39) (C := RX9) (T := TX9) (q := 43) hX rfl rfl iG9 k4_202 rfl rfl ⟨rfl, by decide⟩ hN rfl rfl dX9_eRead_40 rfl ?_
  refine V_iconst (v := 1) (q := 44) hX dX9_eRead_43 (by decide) rfl ?_
  refine V_icmp_ne (q := 47) (t := 57) hX dX9_eRead_44 (by decide) rfl (fun z160 => ?_) (fun z160 => ?_)
  · have h := ite_f z160 h
    refine V_aload_n (q := 58) hX dX9_eRead_57 0 rfl rfl ?_
    refine V_getI (n := 95) (c := 9) (k := 21) (nf := 39) (C := RX9) (T := TX9) (q := 61) hX rfl rfl iG9 k4_203 rfl rfl ⟨rfl, by decide⟩ hN rfl rfl dX9_eRead_58 rfl ?_
    refine V.pick [0, 1] rfl ?_
    exact v9_eRead_61 hX hN hQ hk14 x2 (gI σ 75 21) σ h
  have h := ite_t z160 h
  refine V_ldc (v := 100000) (q := 49) hX k4_154 dX9_eRead_47 rfl ?_
  refine V_aload_n (q := 50) hX dX9_eRead_49 0 rfl rfl ?_
  refine V_getI (n := 95) (c := 9) (k := 21) (nf := 39) (C := RX9) (T := TX9) (q := 53) hX rfl rfl iG9 k4_203 rfl rfl ⟨rfl, by decide⟩ hN rfl rfl dX9_eRead_50 rfl ?_
  refine V_iadd (q := 54) hX dX9_eRead_53 rfl ?_
  refine V_goto hX dX9_eRead_54 (q := 61) (by decide) ?_
  refine V.pick [0, 1] rfl ?_
  exact v9_eRead_61 hX hN hQ hk14 x2 ((100000 : Int32) + (gI σ 75 21)) σ h
set_option maxRecDepth 100000 in
set_option maxHeartbeats 4000000 in
theorem v9_eRead_99 {g : GT} {X : XT} (hX : OkX g X (m9_eRead)) (hN : 95 ≤ g.N) {res : Int32 × St} (hQ : X.Q = QI g X res.1 res.2 ∧ X.cells = 0 ∧ X.slots = 0)  {k14 : Int32 → Int32 → St → Option (Int32 × St)} (hk14 : ∀ (x1 : Int32) (x2 : Int32) (σ : St), k14 x1 x2 σ = some res → V g X (m9_eRead) 14 [(0, .ref (g.ad (75))), (1, .int (x1)), (2, .int (x2))] [] σ) (x1 : Int32) (σ : St)  (h : S9_eRead_99 k14 x1 σ = some res) : V g X (m9_eRead) 99 [(0, .ref (g.ad (75))), (1, .int (x1))] [] σ := by
  unfold S9_eRead_99 at h
  refine V_aload_n (q := 100) hX dX9_eRead_99 0 rfl rfl ?_
  refine V_getI (n := 95) (c := 9) (k := 20) (nf := 39) (C := RX9) (T := TX9) (q := 103) hX rfl rfl iG9 k4_202 rfl rfl ⟨rfl, by decide⟩ hN rfl rfl dX9_eRead_100 rfl ?_
  refine V_bipush (v := 45) (q := 105) hX dX9_eRead_103 (by decide) rfl ?_
  refine V_icmp_ne (q := 108) (t := 124) hX dX9_eRead_105 (by decide) rfl (fun z161 => ?_) (fun z161 => ?_)
  · have h := ite_f z161 h
    refine V_aload_n (q := 125) hX dX9_eRead_124 0 rfl rfl ?_
    refine V_getI (n := 95) (c := 9) (k := 20) (nf := 39) (C := RX9) (T := TX9) (q := 128) hX rfl rfl iG9 k4_202 rfl rfl ⟨rfl, by decide⟩ hN rfl rfl dX9_eRead_125 rfl ?_
    refine V_bipush (v := 40) (q := 130) hX dX9_eRead_128 (by decide) rfl ?_
    refine V_icmp_ne (q := 133) (t := 148) hX dX9_eRead_130 (by decide) rfl (fun z162 => ?_) (fun z162 => ?_)
    · have h := ite_f z162 h
      refine V_iconst (v := 0) (q := 149) hX dX9_eRead_148 (by decide) rfl ?_
      obtain ⟨f1, f2⟩ := some2 h
      rw [f1, f2] at hQ
      exact V_zret (ty := .boolean) hX hQ rfl rfl dX9_eRead_149
    have h := ite_t z162 h
    refine V_aload_n (q := 134) hX dX9_eRead_133 0 rfl rfl ?_
    refine V_iconst (v := 0) (q := 135) hX dX9_eRead_134 (by decide) rfl ?_
    obtain ⟨r164, σ163, e165, h⟩ := bnd_some h
    refine V_cvI (n := 95) (c := 9) (nf := 39) (C := RX9) (T := TX9) (As := [.int ((0 : Int32))]) (q := 138) hX (c9_opensOne hX.2.2.2.2.1 hN e165) (goodV_of k4_166 k4_168 kp_38 k1_16 (cons_g k4_169)) (nA := 1) (by decide) rfl rfl rfl rfl rfl ⟨rfl, by decide⟩ hN rfl rfl rfl dX9_eRead_135 rfl ?_
    refine V_if_ne (q := 141) (t := 143) hX dX9_eRead_138 (by decide) rfl (fun z166 => ?_) (fun z166 => ?_)
    · have h := ite_f z166 h
      refine V_iconst (v := 1) (q := 144) hX dX9_eRead_143 (by decide) rfl ?_
      refine V_istore_n (lv' := [(2, .int ((1 : Int32))), (0, .ref (g.ad (75))), (1, .int (x1))]) (q := 145) hX dX9_eRead_144 rfl rfl rfl ?_
      refine V_goto hX dX9_eRead_145 (q := 14) (by decide) ?_
      refine V.pick [1, 2, 0] rfl ?_
      exact hk14 x1 (1 : Int32) σ163  h
    have h := ite_t z166 h
    refine V_iconst (v := 0) (q := 142) hX dX9_eRead_141 (by decide) rfl ?_
    obtain ⟨f1, f2⟩ := some2 h
    rw [f1, f2] at hQ
    exact V_zret (ty := .boolean) hX hQ rfl rfl dX9_eRead_142
  have h := ite_t z161 h
  refine V_aload_n (q := 109) hX dX9_eRead_108 0 rfl rfl ?_
  refine V_bipush (v := 19) (q := 111) hX dX9_eRead_109 (by decide) rfl ?_
  obtain ⟨r168, σ167, e169, h⟩ := bnd_some h
  refine V_cvI (n := 95) (c := 9) (nf := 39) (C := RX9) (T := TX9) (As := [.int ((19 : Int32))]) (q := 114) hX (c9_opensOne hX.2.2.2.2.1 hN e169) (goodV_of k4_166 k4_168 kp_38 k1_16 (cons_g k4_169)) (nA := 1) (by decide) rfl rfl rfl rfl rfl ⟨rfl, by decide⟩ hN rfl rfl rfl dX9_eRead_111 rfl ?_
  refine V_if_ne (q := 117) (t := 119) hX dX9_eRead_114 (by decide) rfl (fun z170 => ?_) (fun z170 => ?_)
  · have h := ite_f z170 h
    refine V_iconst (v := 0) (q := 120) hX dX9_eRead_119 (by decide) rfl ?_
    refine V_istore_n (lv' := [(2, .int ((0 : Int32))), (0, .ref (g.ad (75))), (1, .int (x1))]) (q := 121) hX dX9_eRead_120 rfl rfl rfl ?_
    refine V_goto hX dX9_eRead_121 (q := 14) (by decide) ?_
    refine V.pick [1, 2, 0] rfl ?_
    exact hk14 x1 (0 : Int32) σ167  h
  have h := ite_t z170 h
  refine V_iconst (v := 0) (q := 118) hX dX9_eRead_117 (by decide) rfl ?_
  obtain ⟨f1, f2⟩ := some2 h
  rw [f1, f2] at hQ
  exact V_zret (ty := .boolean) hX hQ rfl rfl dX9_eRead_118
set_option maxRecDepth 100000 in
set_option maxHeartbeats 4000000 in
theorem v9_eRead_262 {g : GT} {X : XT} (hX : OkX g X (m9_eRead)) (hN : 95 ≤ g.N) {res : Int32 × St} (hQ : X.Q = QI g X res.1 res.2 ∧ X.cells = 0 ∧ X.slots = 0)  {k14 : Int32 → Int32 → St → Option (Int32 × St)} (hk14 : ∀ (x1 : Int32) (x2 : Int32) (σ : St), k14 x1 x2 σ = some res → V g X (m9_eRead) 14 [(0, .ref (g.ad (75))), (1, .int (x1)), (2, .int (x2))] [] σ) (s0 : Int32) (σ : St)  (h : S9_eRead_262 k14 s0 σ = some res) : V g X (m9_eRead) 262 [(0, .ref (g.ad (75))), (1, .int ((1 : Int32)))] [.int (s0)] σ := by
  unfold S9_eRead_262 at h
  refine V_istore_n (lv' := [(2, .int (s0)), (0, .ref (g.ad (75))), (1, .int ((1 : Int32)))]) (q := 263) hX dX9_eRead_262 rfl rfl rfl ?_
  refine V_goto hX dX9_eRead_263 (q := 14) (by decide) ?_
  refine V.pick [1, 2, 0] rfl ?_
  exact hk14 (1 : Int32) s0 σ  h
set_option maxRecDepth 100000 in
set_option maxHeartbeats 4000000 in
theorem v9_eRead_14n {g : GT} {X : XT} (hX : OkX g X (m9_eRead)) (hN : 95 ≤ g.N) {res : Int32 × St} (hQ : X.Q = QI g X res.1 res.2 ∧ X.cells = 0 ∧ X.slots = 0)   (n : Nat) : ∀ (x1 : Int32) (x2 : Int32) (σ : St) , S9_eRead_14 n x1 x2 σ = some res → V g X (m9_eRead) 14 [(0, .ref (g.ad (75))), (1, .int (x1)), (2, .int (x2))] [] σ := by
  induction n with
  | zero => intro x1 x2 σ; intro h; cases h
  | succ n ih =>
    intro x1 x2 σ h
    have h : B9_eRead_14 (S9_eRead_14 n) x1 x2 σ = some res := h
    unfold B9_eRead_14 at h
    refine V_aload_n (q := 15) hX dX9_eRead_14 0 rfl rfl ?_
    obtain ⟨r172, σ171, e173, h⟩ := bnd_some h
    refine V_cvV (n := 95) (c := 9) (nf := 39) (C := RX9) (T := TX9) (As := []) (q := 18) hX (c9_next hX.2.2.2.2.1 hN e173) (goodV_of k4_139 k4_141 kp_33 k1_16 (cons_g k4_142)) (nA := 0) (by decide) rfl rfl rfl rfl rfl ⟨rfl, by decide⟩ hN rfl rfl rfl dX9_eRead_15 rfl ?_
    refine V_iload_n (q := 19) hX dX9_eRead_18 1 rfl rfl ?_
    refine V_if_eq (q := 22) (t := 150) hX dX9_eRead_19 (by decide) rfl (fun z174 => ?_) (fun z174 => ?_)
    · have h := ite_t z174 h
      refine V_aload_n (q := 151) hX dX9_eRead_150 0 rfl rfl ?_
      refine V_getI (n := 95) (c := 9) (k := 20) (nf := 39) (C := RX9) (T := TX9) (q := 154) hX rfl rfl iG9 k4_202 rfl rfl ⟨rfl, by decide⟩ hN rfl rfl dX9_eRead_151 rfl ?_
      refine V_bipush (v := 59) (q := 156) hX dX9_eRead_154 (by decide) rfl ?_
      refine V_icmp_ne (q := 159) (t := 177) hX dX9_eRead_156 (by decide) rfl (fun z175 => ?_) (fun z175 => ?_)
      · have h := ite_f z175 h
        refine V_aload_n (q := 178) hX dX9_eRead_177 0 rfl rfl ?_
        refine V_getI (n := 95) (c := 9) (k := 20) (nf := 39) (C := RX9) (T := TX9) (q := 181) hX rfl rfl iG9 k4_202 rfl rfl ⟨rfl, by decide⟩ hN rfl rfl dX9_eRead_178 rfl ?_
        refine V_bipush (v := 41) (q := 183) hX dX9_eRead_181 (by decide) rfl ?_
        refine V_icmp_ne (q := 186) (t := 229) hX dX9_eRead_183 (by decide) rfl (fun z176 => ?_) (fun z176 => ?_)
        · have h := ite_f z176 h
          refine V_aload_n (q := 230) hX dX9_eRead_229 0 rfl rfl ?_
          obtain ⟨r178, σ177, e179, h⟩ := bnd_some h
          refine V_cvI (n := 95) (c := 9) (nf := 39) (C := RX9) (T := TX9) (As := []) (q := 233) hX (c9_signOf hX.2.2.2.2.1 hN e179) (goodV_of k4_174 k4_176 kp_40 k1_16 (cons_g k4_177)) (nA := 0) (by decide) rfl rfl rfl rfl rfl ⟨rfl, by decide⟩ hN rfl rfl rfl dX9_eRead_230 rfl ?_
          refine V_istore_n (lv' := [(3, .int (r178)), (0, .ref (g.ad (75))), (1, .int (x1)), (2, .int (x2))]) (q := 234) hX dX9_eRead_233 rfl rfl rfl ?_
          refine V_iload_n (q := 235) hX dX9_eRead_234 0 rfl rfl ?_
          refine V_iconst (v := -1) (q := 236) hX dX9_eRead_235 (by decide) rfl ?_
          refine V_icmp_eq (q := 239) (t := 247) hX dX9_eRead_236 (by decide) rfl (fun z180 => ?_) (fun z180 => ?_)
          · have h := ite_t z180 h
            refine V_iconst (v := 0) (q := 248) hX dX9_eRead_247 (by decide) rfl ?_
            obtain ⟨f1, f2⟩ := some2 h
            rw [f1, f2] at hQ
            exact V_zret (ty := .boolean) hX hQ rfl rfl dX9_eRead_248
          have h := ite_f z180 h
          refine V_aload_n (q := 240) hX dX9_eRead_239 1 rfl rfl ?_
          refine V_iload_n (q := 241) hX dX9_eRead_240 0 rfl rfl ?_
          obtain ⟨r182, σ181, e183, h⟩ := bnd_some h
          refine V_cvI (n := 95) (c := 9) (nf := 39) (C := RX9) (T := TX9) (As := [.int (r178)]) (q := 244) hX (c9_between hX.2.2.2.2.1 hN e183) (goodV_of k4_178 k4_180 kp_41 k1_16 (cons_g k4_181)) (nA := 1) (by decide) rfl rfl rfl rfl rfl ⟨rfl, by decide⟩ hN rfl rfl rfl dX9_eRead_241 rfl ?_
          refine V_if_ne (q := 247) (t := 249) hX dX9_eRead_244 (by decide) rfl (fun z184 => ?_) (fun z184 => ?_)
          · have h := ite_f z184 h
            refine V_iconst (v := 1) (q := 250) hX dX9_eRead_249 (by decide) rfl ?_
            refine V_istore_n (lv' := [(1, .int ((1 : Int32))), (3, .int (r178)), (0, .ref (g.ad (75))), (2, .int (x2))]) (q := 251) hX dX9_eRead_250 rfl rfl rfl ?_
            refine V_iload_n (q := 252) hX dX9_eRead_251 1 rfl rfl ?_
            refine V_bipush (v := 12) (q := 254) hX dX9_eRead_252 (by decide) rfl ?_
            refine V_icmp_gt (q := 257) (t := 261) hX dX9_eRead_254 (by decide) rfl (fun z185 => ?_) (fun z185 => ?_)
            · have h := ite_t z185 h
              refine V_iconst (v := 0) (q := 262) hX dX9_eRead_261 (by decide) rfl ?_
              refine V.pick [2, 0] rfl ?_
              exact v9_eRead_262 hX hN hQ ih (0 : Int32) σ181 h
            have h := ite_f z185 h
            refine V_iconst (v := 1) (q := 258) hX dX9_eRead_257 (by decide) rfl ?_
            refine V_goto hX dX9_eRead_258 (q := 262) (by decide) ?_
            refine V.pick [2, 0] rfl ?_
            exact v9_eRead_262 hX hN hQ ih (1 : Int32) σ181 h
          have h := ite_t z184 h
          refine V_iconst (v := 0) (q := 248) hX dX9_eRead_247 (by decide) rfl ?_
          obtain ⟨f1, f2⟩ := some2 h
          rw [f1, f2] at hQ
          exact V_zret (ty := .boolean) hX hQ rfl rfl dX9_eRead_248
        have h := ite_t z176 h
        refine V_aload_n (q := 187) hX dX9_eRead_186 0 rfl rfl ?_
        refine V_iconst (v := 1) (q := 188) hX dX9_eRead_187 (by decide) rfl ?_
        obtain ⟨r187, σ186, e188, h⟩ := bnd_some h
        refine V_cvV (n := 95) (c := 9) (nf := 39) (C := RX9) (T := TX9) (As := [.int ((1 : Int32))]) (q := 191) hX (c9_unwinds hX.2.2.2.2.1 hN e188) (goodV_of k4_159 k4_161 kp_37 k1_16 (cons_g k4_162)) (nA := 1) (by decide) rfl rfl rfl rfl rfl ⟨rfl, by decide⟩ hN rfl rfl rfl dX9_eRead_188 rfl ?_
        refine V_aload_n (q := 192) hX dX9_eRead_191 0 rfl rfl ?_
        refine V_getI (n := 95) (c := 9) (k := 24) (nf := 39) (C := RX9) (T := TX9) (q := 195) hX rfl rfl iG9 k4_206 rfl rfl ⟨rfl, by decide⟩ hN rfl rfl dX9_eRead_192 rfl ?_
        refine V_if_ne (q := 198) (t := 200) hX dX9_eRead_195 (by decide) rfl (fun z189 => ?_) (fun z189 => ?_)
        · have h := ite_f z189 h
          refine V_aload_n (q := 201) hX dX9_eRead_200 0 rfl rfl ?_
          refine V_dup (q := 202) hX dX9_eRead_201 rfl rfl ?_
          refine V_getI (n := 95) (c := 9) (k := 24) (nf := 39) (C := RX9) (T := TX9) (q := 205) hX rfl rfl iG9 k4_206 rfl rfl ⟨rfl, by decide⟩ hN rfl rfl dX9_eRead_202 rfl ?_
          refine V_iconst (v := 1) (q := 206) hX dX9_eRead_205 (by decide) rfl ?_
          refine V_isub (q := 207) hX dX9_eRead_206 rfl ?_
          refine V_putI (n := 95) (c := 9) (k := 24) (nf := 39) (C := RX9) (T := TX9) (q := 210) hX rfl rfl iG9 k4_206 rfl rfl ⟨rfl, by decide⟩ hN rfl tyX9 tyX9_ok nmX9 rfl rfl (ty := .int) (tyX9_ok 24 (by decide)) rfl rfl dX9_eRead_207 rfl ?_
          refine V_aload_n (q := 211) hX dX9_eRead_210 0 rfl rfl ?_
          refine V_dup (q := 212) hX dX9_eRead_211 rfl rfl ?_
          refine V_getI (n := 95) (c := 9) (k := 25) (nf := 39) (C := RX9) (T := TX9) (q := 215) hX rfl rfl iG9 k4_207 rfl rfl ⟨rfl, by decide⟩ hN rfl rfl dX9_eRead_212 rfl ?_
          refine V_iconst (v := 1) (q := 216) hX dX9_eRead_215 (by decide) rfl ?_
          refine V_isub (q := 217) hX dX9_eRead_216 rfl ?_
          refine V_putI (n := 95) (c := 9) (k := 25) (nf := 39) (C := RX9) (T := TX9) (q := 220) hX rfl rfl iG9 k4_207 rfl rfl ⟨rfl, by decide⟩ hN rfl tyX9 tyX9_ok nmX9 rfl rfl (ty := .int) (tyX9_ok 25 (by decide)) rfl rfl dX9_eRead_217 rfl ?_
          refine V_aload_n (q := 221) hX dX9_eRead_220 0 rfl rfl ?_
          refine V_bipush (v := 7) (q := 223) hX dX9_eRead_221 (by decide) rfl ?_
          obtain ⟨r191, σ190, e192, h⟩ := bnd_some h
          refine V_cvV (n := 95) (c := 9) (nf := 39) (C := RX9) (T := TX9) (As := [.int ((7 : Int32))]) (q := 226) hX (c9_unwinds hX.2.2.2.2.1 hN e192) (goodV_of k4_159 k4_161 kp_37 k1_16 (cons_g k4_162)) (nA := 1) (by decide) rfl rfl rfl rfl rfl ⟨rfl, by decide⟩ hN rfl rfl rfl dX9_eRead_223 rfl ?_
          refine V_goto hX dX9_eRead_226 (q := 14) (by decide) ?_
          refine V.pick [0, 1, 2] rfl ?_
          exact ih x1 x2 σ190  h
        have h := ite_t z189 h
        refine V_iconst (v := 0) (q := 199) hX dX9_eRead_198 (by decide) rfl ?_
        obtain ⟨f1, f2⟩ := some2 h
        rw [f1, f2] at hQ
        exact V_zret (ty := .boolean) hX hQ rfl rfl dX9_eRead_199
      have h := ite_t z175 h
      refine V_aload_n (q := 160) hX dX9_eRead_159 0 rfl rfl ?_
      refine V_iconst (v := 1) (q := 161) hX dX9_eRead_160 (by decide) rfl ?_
      obtain ⟨r194, σ193, e195, h⟩ := bnd_some h
      refine V_cvV (n := 95) (c := 9) (nf := 39) (C := RX9) (T := TX9) (As := [.int ((1 : Int32))]) (q := 164) hX (c9_unwinds hX.2.2.2.2.1 hN e195) (goodV_of k4_159 k4_161 kp_37 k1_16 (cons_g k4_162)) (nA := 1) (by decide) rfl rfl rfl rfl rfl ⟨rfl, by decide⟩ hN rfl rfl rfl dX9_eRead_161 rfl ?_
      refine V_aload_n (q := 165) hX dX9_eRead_164 0 rfl rfl ?_
      refine V_getI (n := 95) (c := 9) (k := 24) (nf := 39) (C := RX9) (T := TX9) (q := 168) hX rfl rfl iG9 k4_206 rfl rfl ⟨rfl, by decide⟩ hN rfl rfl dX9_eRead_165 rfl ?_
      refine V_if_ne (q := 171) (t := 175) hX dX9_eRead_168 (by decide) rfl (fun z196 => ?_) (fun z196 => ?_)
      · have h := ite_f z196 h
        refine V_iconst (v := 0) (q := 176) hX dX9_eRead_175 (by decide) rfl ?_
        obtain ⟨f1, f2⟩ := some2 h
        rw [f1, f2] at hQ
        exact V_zret (ty := .boolean) hX hQ rfl rfl dX9_eRead_176
      have h := ite_t z196 h
      refine V_iconst (v := 1) (q := 172) hX dX9_eRead_171 (by decide) rfl ?_
      refine V_goto hX dX9_eRead_172 (q := 176) (by decide) ?_
      obtain ⟨f1, f2⟩ := some2 h
      rw [f1, f2] at hQ
      exact V_zret (ty := .boolean) hX hQ rfl rfl dX9_eRead_176
    have h := ite_f z174 h
    refine V_aload_n (q := 23) hX dX9_eRead_22 0 rfl rfl ?_
    refine V_getI (n := 95) (c := 9) (k := 20) (nf := 39) (C := RX9) (T := TX9) (q := 26) hX rfl rfl iG9 k4_202 rfl rfl ⟨rfl, by decide⟩ hN rfl rfl dX9_eRead_23 rfl ?_
    refine V_iconst (v := 1) (q := 27) hX dX9_eRead_26 (by decide) rfl ?_
    refine V_icmp_eq (q := 30) (t := 38) hX dX9_eRead_27 (by decide) rfl (fun z197 => ?_) (fun z197 => ?_)
    · have h := ite_t z197 h
      refine V.pick [0, 2] rfl ?_
      exact v9_eRead_38 hX hN hQ ih x2 σ171 h
    have h := ite_f z197 h
    refine V_aload_n (q := 31) hX dX9_eRead_30 0 rfl rfl ?_
    refine V_getI (n := 95) (c := 9) (k := 20) (nf := 39) (C := RX9) (T := TX9) (q := 34) hX rfl rfl iG9 k4_202 rfl rfl ⟨rfl, by decide⟩ hN rfl rfl dX9_eRead_31 rfl ?_
    refine V_iconst (v := 2) (q := 35) hX dX9_eRead_34 (by decide) rfl ?_
    refine V_icmp_ne (q := 38) (t := 75) hX dX9_eRead_35 (by decide) rfl (fun z198 => ?_) (fun z198 => ?_)
    · have h := ite_f z198 h
      refine V_aload_n (q := 76) hX dX9_eRead_75 0 rfl rfl ?_
      refine V_getI (n := 95) (c := 9) (k := 20) (nf := 39) (C := RX9) (T := TX9) (q := 79) hX rfl rfl iG9 k4_202 rfl rfl ⟨rfl, by decide⟩ hN rfl rfl dX9_eRead_76 rfl ?_
      refine V_bipush (v := 6) (q := 81) hX dX9_eRead_79 (by decide) rfl ?_
      refine V_icmp_ne (q := 84) (t := 99) hX dX9_eRead_81 (by decide) rfl (fun z199 => ?_) (fun z199 => ?_)
      · have h := ite_f z199 h
        refine V.pick [0, 1] rfl ?_
        exact v9_eRead_99 hX hN hQ ih x1 σ171 h
      have h := ite_t z199 h
      refine V_iload_n (q := 85) hX dX9_eRead_84 2 rfl rfl ?_
      refine V_if_eq (q := 88) (t := 99) hX dX9_eRead_85 (by decide) rfl (fun z200 => ?_) (fun z200 => ?_)
      · have h := ite_t z200 h
        refine V.pick [0, 1] rfl ?_
        exact v9_eRead_99 hX hN hQ ih x1 σ171 h
      have h := ite_f z200 h
      refine V_aload_n (q := 89) hX dX9_eRead_88 0 rfl rfl ?_
      refine V_bipush (v := 13) (q := 91) hX dX9_eRead_89 (by decide) rfl ?_
      obtain ⟨r202, σ201, e203, h⟩ := bnd_some h
      refine V_cvI (n := 95) (c := 9) (nf := 39) (C := RX9) (T := TX9) (As := [.int ((13 : Int32))]) (q := 94) hX (c9_opensOne hX.2.2.2.2.1 hN e203) (goodV_of k4_166 k4_168 kp_38 k1_16 (cons_g k4_169)) (nA := 1) (by decide) rfl rfl rfl rfl rfl ⟨rfl, by decide⟩ hN rfl rfl rfl dX9_eRead_91 rfl ?_
      refine V_if_ne (q := 97) (t := 14) hX dX9_eRead_94 (by decide) rfl (fun z204 => ?_) (fun z204 => ?_)
      · have h := ite_f z204 h
        refine V.pick [0, 1, 2] rfl ?_
        exact ih x1 x2 σ201  h
      have h := ite_t z204 h
      refine V_iconst (v := 0) (q := 98) hX dX9_eRead_97 (by decide) rfl ?_
      obtain ⟨f1, f2⟩ := some2 h
      rw [f1, f2] at hQ
      exact V_zret (ty := .boolean) hX hQ rfl rfl dX9_eRead_98
    have h := ite_t z198 h
    refine V.pick [0, 2] rfl ?_
    exact v9_eRead_38 hX hN hQ ih x2 σ171 h
theorem v9_eRead_14 {g : GT} {X : XT} (hX : OkX g X (m9_eRead)) (hN : 95 ≤ g.N) {res : Int32 × St} (hQ : X.Q = QI g X res.1 res.2 ∧ X.cells = 0 ∧ X.slots = 0) (x1 : Int32) (x2 : Int32) (σ : St) (h : S9_eRead_14 4096 x1 x2 σ = some res) : V g X (m9_eRead) 14 [(0, .ref (g.ad (75))), (1, .int (x1)), (2, .int (x2))] [] σ := v9_eRead_14n hX hN hQ 4096 x1 x2 σ h
set_option maxRecDepth 100000 in
set_option maxHeartbeats 4000000 in
theorem v9_eRead {g : GT} {X : XT} (hX : OkX g X (m9_eRead)) (hN : 95 ≤ g.N) {res : Int32 × St} (hQ : X.Q = QI g X res.1 res.2 ∧ X.cells = 0 ∧ X.slots = 0) {σ : St} (h : S9_eRead σ = some res) : V g X (m9_eRead) 0 [(0, .ref (g.ad (75)))] [] σ := by
  unfold S9_eRead at h
  refine V_aload_n (q := 1) hX dX9_eRead_0 0 rfl rfl ?_
  refine V_iconst (v := 0) (q := 2) hX dX9_eRead_1 (by decide) rfl ?_
  refine V_putI (n := 95) (c := 9) (k := 24) (nf := 39) (C := RX9) (T := TX9) (q := 5) hX rfl rfl iG9 k4_206 rfl rfl ⟨rfl, by decide⟩ hN rfl tyX9 tyX9_ok nmX9 rfl rfl (ty := .int) (tyX9_ok 24 (by decide)) rfl rfl dX9_eRead_2 rfl ?_
  refine V_aload_n (q := 6) hX dX9_eRead_5 0 rfl rfl ?_
  refine V_iconst (v := 0) (q := 7) hX dX9_eRead_6 (by decide) rfl ?_
  refine V_putI (n := 95) (c := 9) (k := 25) (nf := 39) (C := RX9) (T := TX9) (q := 10) hX rfl rfl iG9 k4_207 rfl rfl ⟨rfl, by decide⟩ hN rfl tyX9 tyX9_ok nmX9 rfl rfl (ty := .int) (tyX9_ok 25 (by decide)) rfl rfl dX9_eRead_7 rfl ?_
  refine V_iconst (v := 1) (q := 11) hX dX9_eRead_10 (by decide) rfl ?_
  refine V_istore_n (lv' := [(1, .int ((1 : Int32))), (0, .ref (g.ad (75)))]) (q := 12) hX dX9_eRead_11 rfl rfl rfl ?_
  refine V_iconst (v := 1) (q := 13) hX dX9_eRead_12 (by decide) rfl ?_
  refine V_istore_n (lv' := [(2, .int ((1 : Int32))), (1, .int ((1 : Int32))), (0, .ref (g.ad (75)))]) (q := 14) hX dX9_eRead_13 rfl rfl rfl ?_
  refine V.pick [2, 1, 0] rfl ?_
  exact v9_eRead_14 hX hN hQ (1 : Int32) (1 : Int32) (sI (sI σ 75 24 (0 : Int32)) 75 25 (0 : Int32)) h
set_option maxRecDepth 100000 in
set_option maxHeartbeats 4000000 in
theorem c9_eRead {g : GT} {l : Launch} (hg : OkG g) (hN : 95 ≤ g.N) {σ : St} {r : Int32} {σ' : St} (h : S9_eRead σ = some (r, σ')) : CtI g l m9_eRead yX9_eRead [.ref (g.ad (75))] σ r σ' := CtI.of hg (by decide) rfl rfl (fun X h1 h2 h3 => v9_eRead h1 hN (res := (r, σ')) h3 h)

abbrev m9_text : MI := (cX9_text, RX9, 3, some .int, 5)
def S9_text_94 (k26 : Int32 → Int32 → St → Option (Int32 × St)) (x2 : Int32) (s0 : Int32) (σ : St) : Option (Int32 × St) := k26 s0 (x2 + 1) σ
def S9_text_93 (k26 : Int32 → Int32 → St → Option (Int32 × St)) (x2 : Int32) (σ : St) : Option (Int32 × St) := S9_text_94 k26 x2 (0 : Int32) σ
def S9_text_60 (k26 : Int32 → Int32 → St → Option (Int32 × St)) (x2 : Int32) (s0 : Int32) (σ : St) : Option (Int32 × St) := if inb (((4 : Int32) * (gI σ 75 9)) + x2) 24 then (if s0 = 0 then (S9_text_93 k26 x2 (sI σ 81 ((((4 : Int32) * (gI σ 75 9)) + x2)).toNatClampNeg (gI σ 75 26))) else (bnd (S9_eRead (sI σ 81 ((((4 : Int32) * (gI σ 75 9)) + x2)).toNatClampNeg (gI σ 75 26))) fun r67 σ66 => if r67 = 0 then (S9_text_93 k26 x2 σ66) else (S9_text_94 k26 x2 (1 : Int32) σ66))) else none
def S9_text_59 (k26 : Int32 → Int32 → St → Option (Int32 × St)) (x2 : Int32) (σ : St) : Option (Int32 × St) := S9_text_60 k26 x2 (0 : Int32) σ
def S9_text_122 (x1 : Int32) (σ : St) : Option (Int32 × St) := if inb (((4 : Int32) * (gI σ 75 9)) + (3 : Int32)) 24 then (if x1 = 0 then (some (((-100 : Int32) - (gI (sI (sI σ 81 ((((4 : Int32) * (gI σ 75 9)) + (3 : Int32))).toNatClampNeg (gI σ 75 26)) 75 6 (0 : Int32)) 75 19)), (sI (sI σ 81 ((((4 : Int32) * (gI σ 75 9)) + (3 : Int32))).toNatClampNeg (gI σ 75 26)) 75 6 (0 : Int32)))) else (some (((gI (sI (sI (sI σ 81 ((((4 : Int32) * (gI σ 75 9)) + (3 : Int32))).toNatClampNeg (gI σ 75 26)) 75 6 (0 : Int32)) 75 9 ((gI (sI (sI σ 81 ((((4 : Int32) * (gI σ 75 9)) + (3 : Int32))).toNatClampNeg (gI σ 75 26)) 75 6 (0 : Int32)) 75 9) + (1 : Int32))) 75 9) - (1 : Int32)), (sI (sI (sI σ 81 ((((4 : Int32) * (gI σ 75 9)) + (3 : Int32))).toNatClampNeg (gI σ 75 26)) 75 6 (0 : Int32)) 75 9 ((gI (sI (sI σ 81 ((((4 : Int32) * (gI σ 75 9)) + (3 : Int32))).toNatClampNeg (gI σ 75 26)) 75 6 (0 : Int32)) 75 9) + (1 : Int32)))))) else none
def S9_text_121 (s0 : Int32) (σ : St) : Option (Int32 × St) := S9_text_122 s0 σ
def S9_text_101 (x1 : Int32) (σ : St) : Option (Int32 × St) := if x1 = 0 then (S9_text_122 x1 σ) else (bnd (S9_next σ) fun r74 σ73 => if (gI σ73 75 20) = 0 then (S9_text_121 (1 : Int32) σ73) else (S9_text_121 (0 : Int32) σ73))
def B9_text_26 (rec : Int32 → Int32 → St → Option (Int32 × St)) (x1 : Int32) (x2 : Int32) (σ : St) : Option (Int32 × St) := if (3 : Int32) ≤ x2 then (S9_text_101 x1 σ) else (if x1 = 0 then (S9_text_101 x1 σ) else (bnd (S9_next σ) fun r80 σ79 => if (gI σ79 75 20) = (3 : Int32) then (if (gI σ79 75 21) = x2 then (S9_text_60 rec x2 (1 : Int32) σ79) else (S9_text_59 rec x2 σ79)) else (S9_text_59 rec x2 σ79)))
def S9_text_26 : Nat → Int32 → Int32 → St → Option (Int32 × St)
  | 0, _, _, _ => none
  | n + 1, x1, x2, σ => B9_text_26 (S9_text_26 n) x1 x2 σ
def S9_text (σ : St) : Option (Int32 × St) := if (gI σ 75 9) = (6 : Int32) then (some ((-4 : Int32), σ)) else (S9_text_26 4096 (1 : Int32) (0 : Int32) (sI (sI σ 75 18 (0 : Int32)) 75 26 (0 : Int32)))
set_option maxRecDepth 100000 in
set_option maxHeartbeats 4000000 in
theorem v9_text_94 {g : GT} {X : XT} (hX : OkX g X (m9_text)) (hN : 95 ≤ g.N) {res : Int32 × St} (hQ : X.Q = QI g X res.1 res.2 ∧ X.cells = 0 ∧ X.slots = 0)  {k26 : Int32 → Int32 → St → Option (Int32 × St)} (hk26 : ∀ (x1 : Int32) (x2 : Int32) (σ : St), k26 x1 x2 σ = some res → V g X (m9_text) 26 [(0, .ref (g.ad (75))), (1, .int (x1)), (2, .int (x2))] [] σ) (x2 : Int32) (s0 : Int32) (σ : St)  (h : S9_text_94 k26 x2 s0 σ = some res) : V g X (m9_text) 94 [(0, .ref (g.ad (75))), (2, .int (x2))] [.int (s0)] σ := by
  unfold S9_text_94 at h
  refine V_istore_n (lv' := [(1, .int (s0)), (0, .ref (g.ad (75))), (2, .int (x2))]) (q := 95) hX dX9_text_94 rfl rfl rfl ?_
  refine V_iinc (v := (x2 + 1)) (lv' := [(2, .int ((x2 + 1))), (1, .int (s0)), (0, .ref (g.ad (75)))]) (q := 98) hX dX9_text_95 2 rfl (by rfl) rfl rfl rfl ?_
  refine V_goto hX dX9_text_98 (q := 26) (by decide) ?_
  refine V.pick [2, 1, 0] rfl ?_
  exact hk26 s0 (x2 + 1) σ  h
set_option maxRecDepth 100000 in
set_option maxHeartbeats 4000000 in
theorem v9_text_93 {g : GT} {X : XT} (hX : OkX g X (m9_text)) (hN : 95 ≤ g.N) {res : Int32 × St} (hQ : X.Q = QI g X res.1 res.2 ∧ X.cells = 0 ∧ X.slots = 0)  {k26 : Int32 → Int32 → St → Option (Int32 × St)} (hk26 : ∀ (x1 : Int32) (x2 : Int32) (σ : St), k26 x1 x2 σ = some res → V g X (m9_text) 26 [(0, .ref (g.ad (75))), (1, .int (x1)), (2, .int (x2))] [] σ) (x2 : Int32) (σ : St)  (h : S9_text_93 k26 x2 σ = some res) : V g X (m9_text) 93 [(0, .ref (g.ad (75))), (2, .int (x2))] [] σ := by
  unfold S9_text_93 at h
  refine V_iconst (v := 0) (q := 94) hX dX9_text_93 (by decide) rfl ?_
  refine V.pick [0, 1] rfl ?_
  exact v9_text_94 hX hN hQ hk26 x2 (0 : Int32) σ h
set_option maxRecDepth 100000 in
set_option maxHeartbeats 4000000 in
theorem v9_text_60 {g : GT} {X : XT} (hX : OkX g X (m9_text)) (hN : 95 ≤ g.N) {res : Int32 × St} (hQ : X.Q = QI g X res.1 res.2 ∧ X.cells = 0 ∧ X.slots = 0)  {k26 : Int32 → Int32 → St → Option (Int32 × St)} (hk26 : ∀ (x1 : Int32) (x2 : Int32) (σ : St), k26 x1 x2 σ = some res → V g X (m9_text) 26 [(0, .ref (g.ad (75))), (1, .int (x1)), (2, .int (x2))] [] σ) (x2 : Int32) (s0 : Int32) (σ : St)  (h : S9_text_60 k26 x2 s0 σ = some res) : V g X (m9_text) 60 [(0, .ref (g.ad (75))), (2, .int (x2))] [.int (s0)] σ := by
  unfold S9_text_60 at h
  refine V_istore_n (lv' := [(1, .int (s0)), (0, .ref (g.ad (75))), (2, .int (x2))]) (q := 61) hX dX9_text_60 rfl rfl rfl ?_
  refine V_aload_n (q := 62) hX dX9_text_61 1 rfl rfl ?_
  refine V_getF (r := 81) (n := 95) (c := 9) (k := 8) (nf := 39) (C := RX9) (T := TX9) (q := 65) hX rfl rfl iG9 k4_190 rfl rfl ⟨rfl, by decide⟩ hN rfl rfl rfl rfl dX9_text_62 rfl ?_
  refine V_iconst (v := 4) (q := 66) hX dX9_text_65 (by decide) rfl ?_
  refine V_aload_n (q := 67) hX dX9_text_66 1 rfl rfl ?_
  refine V_getI (n := 95) (c := 9) (k := 9) (nf := 39) (C := RX9) (T := TX9) (q := 70) hX rfl rfl iG9 k4_191 rfl rfl ⟨rfl, by decide⟩ hN rfl rfl dX9_text_67 rfl ?_
  refine V_imul (q := 71) hX dX9_text_70 rfl ?_
  refine V_iload_n (q := 72) hX dX9_text_71 2 rfl rfl ?_
  refine V_iadd (q := 73) hX dX9_text_72 rfl ?_
  refine V_aload_n (q := 74) hX dX9_text_73 1 rfl rfl ?_
  refine V_getI (n := 95) (c := 9) (k := 26) (nf := 39) (C := RX9) (T := TX9) (q := 77) hX rfl rfl iG9 k4_208 rfl rfl ⟨rfl, by decide⟩ hN rfl rfl dX9_text_74 rfl ?_
  obtain ⟨z64, h⟩ := chk_t h
  refine V_iast (n := 95) (len := 24) (q := 78) hX ⟨rfl, rfl, by decide⟩ hN z64 dX9_text_77 rfl ?_
  refine V_iload_n (q := 79) hX dX9_text_78 0 rfl rfl ?_
  refine V_if_eq (q := 82) (t := 93) hX dX9_text_79 (by decide) rfl (fun z65 => ?_) (fun z65 => ?_)
  · have h := ite_t z65 h
    refine V.pick [1, 2] rfl ?_
    exact v9_text_93 hX hN hQ hk26 x2 (sI σ 81 ((((4 : Int32) * (gI σ 75 9)) + x2)).toNatClampNeg (gI σ 75 26)) h
  have h := ite_f z65 h
  refine V_aload_n (q := 83) hX dX9_text_82 1 rfl rfl ?_
  obtain ⟨r67, σ66, e68, h⟩ := bnd_some h
  refine V_cvI (n := 95) (c := 9) (nf := 39) (C := RX9) (T := TX9) (As := []) (q := 86) hX (c9_eRead hX.2.2.2.2.1 hN e68) (goodV_of k4_150 k4_152 kp_35 k1_16 (cons_g k4_153)) (nA := 0) (by decide) rfl rfl rfl rfl rfl ⟨rfl, by decide⟩ hN rfl rfl rfl dX9_text_83 rfl ?_
  refine V_if_eq (q := 89) (t := 93) hX dX9_text_86 (by decide) rfl (fun z69 => ?_) (fun z69 => ?_)
  · have h := ite_t z69 h
    refine V.pick [1, 2] rfl ?_
    exact v9_text_93 hX hN hQ hk26 x2 σ66 h
  have h := ite_f z69 h
  refine V_iconst (v := 1) (q := 90) hX dX9_text_89 (by decide) rfl ?_
  refine V_goto hX dX9_text_90 (q := 94) (by decide) ?_
  refine V.pick [1, 2] rfl ?_
  exact v9_text_94 hX hN hQ hk26 x2 (1 : Int32) σ66 h
set_option maxRecDepth 100000 in
set_option maxHeartbeats 4000000 in
theorem v9_text_59 {g : GT} {X : XT} (hX : OkX g X (m9_text)) (hN : 95 ≤ g.N) {res : Int32 × St} (hQ : X.Q = QI g X res.1 res.2 ∧ X.cells = 0 ∧ X.slots = 0)  {k26 : Int32 → Int32 → St → Option (Int32 × St)} (hk26 : ∀ (x1 : Int32) (x2 : Int32) (σ : St), k26 x1 x2 σ = some res → V g X (m9_text) 26 [(0, .ref (g.ad (75))), (1, .int (x1)), (2, .int (x2))] [] σ) (x2 : Int32) (σ : St)  (h : S9_text_59 k26 x2 σ = some res) : V g X (m9_text) 59 [(0, .ref (g.ad (75))), (2, .int (x2))] [] σ := by
  unfold S9_text_59 at h
  refine V_iconst (v := 0) (q := 60) hX dX9_text_59 (by decide) rfl ?_
  refine V.pick [0, 1] rfl ?_
  exact v9_text_60 hX hN hQ hk26 x2 (0 : Int32) σ h
set_option maxRecDepth 100000 in
set_option maxHeartbeats 4000000 in
theorem v9_text_122 {g : GT} {X : XT} (hX : OkX g X (m9_text)) (hN : 95 ≤ g.N) {res : Int32 × St} (hQ : X.Q = QI g X res.1 res.2 ∧ X.cells = 0 ∧ X.slots = 0)   (x1 : Int32) (σ : St)  (h : S9_text_122 x1 σ = some res) : V g X (m9_text) 122 [(0, .ref (g.ad (75))), (1, .int (x1))] [] σ := by
  unfold S9_text_122 at h
  refine V_aload_n (q := 123) hX dX9_text_122 0 rfl rfl ?_
  refine V_getF (r := 81) (n := 95) (c := 9) (k := 8) (nf := 39) (C := RX9) (T := TX9) (q := 126) hX rfl rfl iG9 k4_190 rfl rfl ⟨rfl, by decide⟩ hN rfl rfl rfl rfl dX9_text_123 rfl ?_
  refine V_iconst (v := 4) (q := 127) hX dX9_text_126 (by decide) rfl ?_
  refine V_aload_n (q := 128) hX dX9_text_127 0 rfl rfl ?_
  refine V_getI (n := 95) (c := 9) (k := 9) (nf := 39) (C := RX9) (T := TX9) (q := 131) hX rfl rfl iG9 k4_191 rfl rfl ⟨rfl, by decide⟩ hN rfl rfl dX9_text_128 rfl ?_
  refine V_imul (q := 132) hX dX9_text_131 rfl ?_
  refine V_iconst (v := 3) (q := 133) hX dX9_text_132 (by decide) rfl ?_
  refine V_iadd (q := 134) hX dX9_text_133 rfl ?_
  refine V_aload_n (q := 135) hX dX9_text_134 0 rfl rfl ?_
  refine V_getI (n := 95) (c := 9) (k := 26) (nf := 39) (C := RX9) (T := TX9) (q := 138) hX rfl rfl iG9 k4_208 rfl rfl ⟨rfl, by decide⟩ hN rfl rfl dX9_text_135 rfl ?_
  obtain ⟨z70, h⟩ := chk_t h
  refine V_iast (n := 95) (len := 24) (q := 139) hX ⟨rfl, rfl, by decide⟩ hN z70 dX9_text_138 rfl ?_
  refine V_aload_n (q := 140) hX dX9_text_139 0 rfl rfl ?_
  refine V_iconst (v := 0) (q := 141) hX dX9_text_140 (by decide) rfl ?_
  refine V_putI (n := 95) (c := 9) (k := 6) (nf := 39) (C := RX9) (T := TX9) (q := 144) hX rfl rfl iG9 k4_188 rfl rfl ⟨rfl, by decide⟩ hN rfl tyX9 tyX9_ok nmX9 rfl rfl (ty := .int) (tyX9_ok 6 (by decide)) rfl rfl dX9_text_141 rfl ?_
  refine V_iload_n (q := 145) hX dX9_text_144 1 rfl rfl ?_
  refine V_if_ne (q := 148) (t := 156) hX dX9_text_145 (by decide) rfl (fun z71 => ?_) (fun z71 => ?_)
  · have h := ite_f z71 h
    refine V_aload_n (q := 157) hX dX9_text_156 0 rfl rfl ?_
    refine V_dup (q := 158) hX dX9_text_157 rfl rfl ?_
    refine V_getI (n := 95) (c := 9) (k := 9) (nf := 39) (C := RX9) (T := TX9) (q := 161) hX rfl rfl iG9 k4_191 rfl rfl ⟨rfl, by decide⟩ hN rfl rfl dX9_text_158 rfl ?_
    refine V_iconst (v := 1) (q := 162) hX dX9_text_161 (by decide) rfl ?_
    refine V_iadd (q := 163) hX dX9_text_162 rfl ?_
    refine V_putI (n := 95) (c := 9) (k := 9) (nf := 39) (C := RX9) (T := TX9) (q := 166) hX rfl rfl iG9 k4_191 rfl rfl ⟨rfl, by decide⟩ hN rfl tyX9 tyX9_ok nmX9 rfl rfl (ty := .int) (tyX9_ok 9 (by decide)) rfl rfl dX9_text_163 rfl ?_
    refine V_aload_n (q := 167) hX dX9_text_166 0 rfl rfl ?_
    refine V_getI (n := 95) (c := 9) (k := 9) (nf := 39) (C := RX9) (T := TX9) (q := 170) hX rfl rfl iG9 k4_191 rfl rfl ⟨rfl, by decide⟩ hN rfl rfl dX9_text_167 rfl ?_
    refine V_iconst (v := 1) (q := 171) hX dX9_text_170 (by decide) rfl ?_
    refine V_isub (q := 172) hX dX9_text_171 rfl ?_
    obtain ⟨f1, f2⟩ := some2 h
    rw [f1, f2] at hQ
    exact V_iret hX hQ rfl dX9_text_172
  have h := ite_t z71 h
  refine V_bipush (v := -100) (q := 150) hX dX9_text_148 (by decide) rfl ?_
  refine V_aload_n (q := 151) hX dX9_text_150 0 rfl rfl ?_
  refine V_getI (n := 95) (c := 9) (k := 19) (nf := 39) (C := RX9) (T := TX9) (q := 154) hX rfl rfl iG9 k4_201 rfl rfl ⟨rfl, by decide⟩ hN rfl rfl dX9_text_151 rfl ?_
  refine V_isub (q := 155) hX dX9_text_154 rfl ?_
  obtain ⟨f1, f2⟩ := some2 h
  rw [f1, f2] at hQ
  exact V_iret hX hQ rfl dX9_text_155
set_option maxRecDepth 100000 in
set_option maxHeartbeats 4000000 in
theorem v9_text_121 {g : GT} {X : XT} (hX : OkX g X (m9_text)) (hN : 95 ≤ g.N) {res : Int32 × St} (hQ : X.Q = QI g X res.1 res.2 ∧ X.cells = 0 ∧ X.slots = 0)   (s0 : Int32) (σ : St)  (h : S9_text_121 s0 σ = some res) : V g X (m9_text) 121 [(0, .ref (g.ad (75)))] [.int (s0)] σ := by
  unfold S9_text_121 at h
  refine V_istore_n (lv' := [(1, .int (s0)), (0, .ref (g.ad (75)))]) (q := 122) hX dX9_text_121 rfl rfl rfl ?_
  refine V.pick [1, 0] rfl ?_
  exact v9_text_122 hX hN hQ s0 σ h
set_option maxRecDepth 100000 in
set_option maxHeartbeats 4000000 in
theorem v9_text_101 {g : GT} {X : XT} (hX : OkX g X (m9_text)) (hN : 95 ≤ g.N) {res : Int32 × St} (hQ : X.Q = QI g X res.1 res.2 ∧ X.cells = 0 ∧ X.slots = 0)   (x1 : Int32) (σ : St)  (h : S9_text_101 x1 σ = some res) : V g X (m9_text) 101 [(0, .ref (g.ad (75))), (1, .int (x1))] [] σ := by
  unfold S9_text_101 at h
  refine V_iload_n (q := 102) hX dX9_text_101 1 rfl rfl ?_
  refine V_if_eq (q := 105) (t := 122) hX dX9_text_102 (by decide) rfl (fun z72 => ?_) (fun z72 => ?_)
  · have h := ite_t z72 h
    refine V.pick [0, 1] rfl ?_
    exact v9_text_122 hX hN hQ x1 σ h
  have h := ite_f z72 h
  refine V_aload_n (q := 106) hX dX9_text_105 0 rfl rfl ?_
  obtain ⟨r74, σ73, e75, h⟩ := bnd_some h
  refine V_cvV (n := 95) (c := 9) (nf := 39) (C := RX9) (T := TX9) (As := []) (q := 109) hX (c9_next hX.2.2.2.2.1 hN e75) (goodV_of k4_139 k4_141 kp_33 k1_16 (cons_g k4_142)) (nA := 0) (by decide) rfl rfl rfl rfl rfl ⟨rfl, by decide⟩ hN rfl rfl rfl dX9_text_106 rfl ?_
  refine V_aload_n (q := 110) hX dX9_text_109 0 rfl rfl ?_
  refine V_getI (n := 95) (c := 9) (k := 20) (nf := 39) (C := RX9) (T := TX9) (q := 113) hX rfl rfl iG9 k4_202 rfl rfl ⟨rfl, by decide⟩ hN rfl rfl dX9_text_110 rfl ?_
  refine V_if_ne (q := 116) (t := 120) hX dX9_text_113 (by decide) rfl (fun z76 => ?_) (fun z76 => ?_)
  · have h := ite_f z76 h
    refine V_iconst (v := 0) (q := 121) hX dX9_text_120 (by decide) rfl ?_
    refine V.pick [0] rfl ?_
    exact v9_text_121 hX hN hQ (0 : Int32) σ73 h
  have h := ite_t z76 h
  refine V_iconst (v := 1) (q := 117) hX dX9_text_116 (by decide) rfl ?_
  refine V_goto hX dX9_text_117 (q := 121) (by decide) ?_
  refine V.pick [0] rfl ?_
  exact v9_text_121 hX hN hQ (1 : Int32) σ73 h
set_option maxRecDepth 100000 in
set_option maxHeartbeats 4000000 in
theorem v9_text_26n {g : GT} {X : XT} (hX : OkX g X (m9_text)) (hN : 95 ≤ g.N) {res : Int32 × St} (hQ : X.Q = QI g X res.1 res.2 ∧ X.cells = 0 ∧ X.slots = 0)   (n : Nat) : ∀ (x1 : Int32) (x2 : Int32) (σ : St) , S9_text_26 n x1 x2 σ = some res → V g X (m9_text) 26 [(0, .ref (g.ad (75))), (1, .int (x1)), (2, .int (x2))] [] σ := by
  induction n with
  | zero => intro x1 x2 σ; intro h; cases h
  | succ n ih =>
    intro x1 x2 σ h
    have h : B9_text_26 (S9_text_26 n) x1 x2 σ = some res := h
    unfold B9_text_26 at h
    refine V_iload_n (q := 27) hX dX9_text_26 2 rfl rfl ?_
    refine V_iconst (v := 3) (q := 28) hX dX9_text_27 (by decide) rfl ?_
    refine V_icmp_ge (q := 31) (t := 101) hX dX9_text_28 (by decide) rfl (fun z77 => ?_) (fun z77 => ?_)
    · have h := ite_t z77 h
      refine V.pick [0, 1] rfl ?_
      exact v9_text_101 hX hN hQ x1 σ h
    have h := ite_f z77 h
    refine V_iload_n (q := 32) hX dX9_text_31 1 rfl rfl ?_
    refine V_if_eq (q := 35) (t := 101) hX dX9_text_32 (by decide) rfl (fun z78 => ?_) (fun z78 => ?_)
    · have h := ite_t z78 h
      refine V.pick [0, 1] rfl ?_
      exact v9_text_101 hX hN hQ x1 σ h
    have h := ite_f z78 h
    refine V_aload_n (q := 36) hX dX9_text_35 0 rfl rfl ?_
    obtain ⟨r80, σ79, e81, h⟩ := bnd_some h
    refine V_cvV (n := 95) (c := 9) (nf := 39) (C := RX9) (T := TX9) (As := []) (q := 39) hX (c9_next hX.2.2.2.2.1 hN e81) (goodV_of k4_139 k4_141 kp_33 k1_16 (cons_g k4_142)) (nA := 0) (by decide) rfl rfl rfl rfl rfl ⟨rfl, by decide⟩ hN rfl rfl rfl dX9_text_36 rfl ?_
    refine V_aload_n (q := 40) hX dX9_text_39 0 rfl rfl ?_
    refine V_getI (n := 95) (c := 9) (k := 20) (nf := 39) (C := RX9) (T := TX9) (q := 43) hX rfl rfl iG9 k4_202 rfl rfl ⟨rfl, by decide⟩ hN rfl rfl dX9_text_40 rfl ?_
    refine V_iconst (v := 3) (q := 44) hX dX9_text_43 (by decide) rfl ?_
    refine V_icmp_ne (q := 47) (t := 59) hX dX9_text_44 (by decide) rfl (fun z82 => ?_) (fun z82 => ?_)
    · have h := ite_f z82 h
      refine V.pick [0, 2] rfl ?_
      exact v9_text_59 hX hN hQ ih x2 σ79 h
    have h := ite_t z82 h
    refine V_aload_n (q := 48) hX dX9_text_47 0 rfl rfl ?_
    refine V_getI (n := 95) (c := 9) (k := 21) (nf := 39) (C := RX9) (T := TX9) (q := 51) hX rfl rfl iG9 k4_203 rfl rfl ⟨rfl, by decide⟩ hN rfl rfl dX9_text_48 rfl ?_
    refine V_iload_n (q := 52) hX dX9_text_51 2 rfl rfl ?_
    refine V_icmp_ne (q := 55) (t := 59) hX dX9_text_52 (by decide) rfl (fun z83 => ?_) (fun z83 => ?_)
    · have h := ite_f z83 h
      refine V.pick [0, 2] rfl ?_
      exact v9_text_59 hX hN hQ ih x2 σ79 h
    have h := ite_t z83 h
    refine V_iconst (v := 1) (q := 56) hX dX9_text_55 (by decide) rfl ?_
    refine V_goto hX dX9_text_56 (q := 60) (by decide) ?_
    refine V.pick [0, 2] rfl ?_
    exact v9_text_60 hX hN hQ ih x2 (1 : Int32) σ79 h
theorem v9_text_26 {g : GT} {X : XT} (hX : OkX g X (m9_text)) (hN : 95 ≤ g.N) {res : Int32 × St} (hQ : X.Q = QI g X res.1 res.2 ∧ X.cells = 0 ∧ X.slots = 0) (x1 : Int32) (x2 : Int32) (σ : St) (h : S9_text_26 4096 x1 x2 σ = some res) : V g X (m9_text) 26 [(0, .ref (g.ad (75))), (1, .int (x1)), (2, .int (x2))] [] σ := v9_text_26n hX hN hQ 4096 x1 x2 σ h
set_option maxRecDepth 100000 in
set_option maxHeartbeats 4000000 in
theorem v9_text {g : GT} {X : XT} (hX : OkX g X (m9_text)) (hN : 95 ≤ g.N) {res : Int32 × St} (hQ : X.Q = QI g X res.1 res.2 ∧ X.cells = 0 ∧ X.slots = 0) {σ : St} (h : S9_text σ = some res) : V g X (m9_text) 0 [(0, .ref (g.ad (75)))] [] σ := by
  unfold S9_text at h
  refine V_aload_n (q := 1) hX dX9_text_0 0 rfl rfl ?_
  refine V_getI (n := 95) (c := 9) (k := 9) (nf := 39) (C := RX9) (T := TX9) (q := 4) hX rfl rfl iG9 k4_191 rfl rfl ⟨rfl, by decide⟩ hN rfl rfl dX9_text_1 rfl ?_
  refine V_bipush (v := 6) (q := 6) hX dX9_text_4 (by decide) rfl ?_
  refine V_icmp_ne (q := 9) (t := 12) hX dX9_text_6 (by decide) rfl (fun z84 => ?_) (fun z84 => ?_)
  · have h := ite_f z84 h
    refine V_aload_n (q := 13) hX dX9_text_12 0 rfl rfl ?_
    refine V_iconst (v := 0) (q := 14) hX dX9_text_13 (by decide) rfl ?_
    refine V_putI (n := 95) (c := 9) (k := 18) (nf := 39) (C := RX9) (T := TX9) (q := 17) hX rfl rfl iG9 k4_200 rfl rfl ⟨rfl, by decide⟩ hN rfl tyX9 tyX9_ok nmX9 rfl rfl (ty := .int) (tyX9_ok 18 (by decide)) rfl rfl dX9_text_14 rfl ?_
    refine V_aload_n (q := 18) hX dX9_text_17 0 rfl rfl ?_
    refine V_iconst (v := 0) (q := 19) hX dX9_text_18 (by decide) rfl ?_
    refine V_putI (n := 95) (c := 9) (k := 26) (nf := 39) (C := RX9) (T := TX9) (q := 22) hX rfl rfl iG9 k4_208 rfl rfl ⟨rfl, by decide⟩ hN rfl tyX9 tyX9_ok nmX9 rfl rfl (ty := .int) (tyX9_ok 26 (by decide)) rfl rfl dX9_text_19 rfl ?_
    refine V_iconst (v := 1) (q := 23) hX dX9_text_22 (by decide) rfl ?_
    refine V_istore_n (lv' := [(1, .int ((1 : Int32))), (0, .ref (g.ad (75)))]) (q := 24) hX dX9_text_23 rfl rfl rfl ?_
    refine V_iconst (v := 0) (q := 25) hX dX9_text_24 (by decide) rfl ?_
    refine V_istore_n (lv' := [(2, .int ((0 : Int32))), (1, .int ((1 : Int32))), (0, .ref (g.ad (75)))]) (q := 26) hX dX9_text_25 rfl rfl rfl ?_
    refine V.pick [2, 1, 0] rfl ?_
    exact v9_text_26 hX hN hQ (1 : Int32) (0 : Int32) (sI (sI σ 75 18 (0 : Int32)) 75 26 (0 : Int32)) h
  have h := ite_t z84 h
  refine V_bipush (v := -4) (q := 11) hX dX9_text_9 (by decide) rfl ?_
  obtain ⟨f1, f2⟩ := some2 h
  rw [f1, f2] at hQ
  exact V_iret hX hQ rfl dX9_text_11
set_option maxRecDepth 100000 in
set_option maxHeartbeats 4000000 in
theorem c9_text {g : GT} {l : Launch} (hg : OkG g) (hN : 95 ≤ g.N) {σ : St} {r : Int32} {σ' : St} (h : S9_text σ = some (r, σ')) : CtI g l m9_text yX9_text [.ref (g.ad (75))] σ r σ' := CtI.of hg (by decide) rfl rfl (fun X h1 h2 h3 => v9_text h1 hN (res := (r, σ')) h3 h)
