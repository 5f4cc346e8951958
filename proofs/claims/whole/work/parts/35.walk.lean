abbrev m9_acts : MI := (cX9_acts, RX9, 10, some .int, 8)
def S9_acts_96 (a1 : Int32) (a2 : Int32) (a3 : Int32) (a4 : Int32) (a5 : Int32) (k39 : Int32 → Int32 → St → Option (Int32 × St)) (x8 : Int32) (s0 : Int32) (s1 : Int32) (σ : St) : Option (Int32 × St) := k39 (s0 ||| s1) (x8 + 1) σ
def B9_acts_39 (a1 : Int32) (a2 : Int32) (a3 : Int32) (a4 : Int32) (a5 : Int32) (rec : Int32 → Int32 → St → Option (Int32 × St)) (x7 : Int32) (x8 : Int32) (σ : St) : Option (Int32 × St) := if (4 : Int32) ≤ x8 then (some (x7, σ)) else (bnd (S9_unlike a1 (a2 / (10 : Int32)) (jrem a2 (10 : Int32)) ((a3 &&& (((3 : Int32) <<< (((2 : Int32) * a5) &&& 31)) ^^^ (-1 : Int32))) ||| (x8 <<< (((2 : Int32) * a5) &&& 31))) a4 σ) fun r42 σ41 => if r42 = (-1 : Int32) then (S9_acts_96 a1 a2 a3 a4 a5 rec x8 x7 ((1 : Int32) <<< (x8 &&& 31)) σ41) else (S9_acts_96 a1 a2 a3 a4 a5 rec x8 x7 (0 : Int32) σ41))
def S9_acts_39 (a1 : Int32) (a2 : Int32) (a3 : Int32) (a4 : Int32) (a5 : Int32) : Nat → Int32 → Int32 → St → Option (Int32 × St)
  | 0, _, _, _ => none
  | n + 1, x7, x8, σ => B9_acts_39 a1 a2 a3 a4 a5 (S9_acts_39 a1 a2 a3 a4 a5 n) x7 x8 σ
def S9_acts (a1 : Int32) (a2 : Int32) (a3 : Int32) (a4 : Int32) (a5 : Int32) (σ : St) : Option (Int32 × St) := bnd (S9_toldWrong a1 a2 a3 a4 σ) fun r46 σ45 => if r46 = 0 then (bnd (S9_in a5 (0 : Int32) (8 : Int32) σ45) fun r50 σ49 => if r50 = 0 then (some ((-7 : Int32), σ49)) else (S9_acts_39 a1 a2 a3 a4 a5 4096 (0 : Int32) (0 : Int32) σ49)) else (some (r46, σ45))
set_option maxRecDepth 100000 in
set_option maxHeartbeats 4000000 in
theorem v9_acts_96 {g : GT} {X : XT} {a1 : Int32} {a2 : Int32} {a3 : Int32} {a4 : Int32} {a5 : Int32} (hX : OkX g X (m9_acts)) (hN : 95 ≤ g.N) {res : Int32 × St} (hQ : X.Q = QI g X res.1 res.2 ∧ X.cells = 0 ∧ X.slots = 0)  {k39 : Int32 → Int32 → St → Option (Int32 × St)} (hk39 : ∀ (x7 : Int32) (x8 : Int32) (σ : St), k39 x7 x8 σ = some res → V g X (m9_acts) 39 [(0, .ref (g.ad (75))), (1, .int (a1)), (2, .int (a2)), (3, .int (a3)), (4, .int (a4)), (5, .int (a5)), (7, .int (x7)), (8, .int (x8))] [] σ) (x8 : Int32) (s0 : Int32) (s1 : Int32) (σ : St)  (h : S9_acts_96 a1 a2 a3 a4 a5 k39 x8 s0 s1 σ = some res) : V g X (m9_acts) 96 [(0, .ref (g.ad (75))), (1, .int (a1)), (2, .int (a2)), (3, .int (a3)), (4, .int (a4)), (5, .int (a5)), (8, .int (x8))] [.int (s1), .int (s0)] σ := by
  unfold S9_acts_96 at h
  refine V_ior (q := 97) hX dX9_acts_96 rfl ?_
  refine V_istore (lv' := [(7, .int ((s0 ||| s1))), (0, .ref (g.ad (75))), (1, .int (a1)), (2, .int (a2)), (3, .int (a3)), (4, .int (a4)), (5, .int (a5)), (8, .int (x8))]) (q := 99) hX dX9_acts_97 rfl rfl rfl ?_
  refine V_iinc (v := (x8 + 1)) (lv' := [(8, .int ((x8 + 1))), (7, .int ((s0 ||| s1))), (0, .ref (g.ad (75))), (1, .int (a1)), (2, .int (a2)), (3, .int (a3)), (4, .int (a4)), (5, .int (a5))]) (q := 102) hX dX9_acts_99 7 rfl (by rfl) rfl rfl rfl ?_
  refine V_goto hX dX9_acts_102 (q := 39) (by decide) ?_
  refine V.pick [2, 3, 4, 5, 6, 7, 1, 0] rfl ?_
  exact hk39 (s0 ||| s1) (x8 + 1) σ  h
set_option maxRecDepth 100000 in
set_option maxHeartbeats 4000000 in
theorem v9_acts_39n {g : GT} {X : XT} {a1 : Int32} {a2 : Int32} {a3 : Int32} {a4 : Int32} {a5 : Int32} (hX : OkX g X (m9_acts)) (hN : 95 ≤ g.N) {res : Int32 × St} (hQ : X.Q = QI g X res.1 res.2 ∧ X.cells = 0 ∧ X.slots = 0)   (n : Nat) : ∀ (x7 : Int32) (x8 : Int32) (σ : St) , S9_acts_39 a1 a2 a3 a4 a5 n x7 x8 σ = some res → V g X (m9_acts) 39 [(0, .ref (g.ad (75))), (1, .int (a1)), (2, .int (a2)), (3, .int (a3)), (4, .int (a4)), (5, .int (a5)), (7, .int (x7)), (8, .int (x8))] [] σ := by
  induction n with
  | zero => intro x7 x8 σ; intro h; cases h
  | succ n ih =>
    intro x7 x8 σ h
    have h : B9_acts_39 a1 a2 a3 a4 a5 (S9_acts_39 a1 a2 a3 a4 a5 n) x7 x8 σ = some res := h
    unfold B9_acts_39 at h
    refine V_iload (q := 41) hX dX9_acts_39 7 rfl rfl ?_
    refine V_iconst (v := 4) (q := 42) hX dX9_acts_41 (by decide) rfl ?_
    refine V_icmp_ge (q := 45) (t := 105) hX dX9_acts_42 (by decide) rfl (fun z40 => ?_) (fun z40 => ?_)
    · have h := ite_t z40 h
      refine V_iload (q := 107) hX dX9_acts_105 6 rfl rfl ?_
      obtain ⟨f1, f2⟩ := some2 h
      rw [f1, f2] at hQ
      exact V_iret hX hQ rfl dX9_acts_107
    have h := ite_f z40 h
    refine V_iload_n (q := 46) hX dX9_acts_45 3 rfl rfl ?_
    refine V_iconst (v := 3) (q := 47) hX dX9_acts_46 (by decide) rfl ?_
    refine V_iconst (v := 2) (q := 48) hX dX9_acts_47 (by decide) rfl ?_
    refine V_iload (q := 50) hX dX9_acts_48 5 rfl rfl ?_
    refine V_imul (q := 51) hX dX9_acts_50 rfl ?_
    refine V_ishl (q := 52) hX dX9_acts_51 rfl ?_
    refine V_iconst (v := -1) (q := 53) hX dX9_acts_52 (by decide) rfl ?_
    refine V_ixor (q := 54) hX dX9_acts_53 rfl ?_
    refine V_iand (q := 55) hX dX9_acts_54 rfl ?_
    refine V_iload (q := 57) hX dX9_acts_55 7 rfl rfl ?_
    refine V_iconst (v := 2) (q := 58) hX dX9_acts_57 (by decide) rfl ?_
    refine V_iload (q := 60) hX dX9_acts_58 5 rfl rfl ?_
    refine V_imul (q := 61) hX dX9_acts_60 rfl ?_
    refine V_ishl (q := 62) hX dX9_acts_61 rfl ?_
    refine V_ior (q := 63) hX dX9_acts_62 rfl ?_
    refine V_istore (lv' := [(9, .int (((a3 &&& (((3 : Int32) <<< (((2 : Int32) * a5) &&& 31)) ^^^ (-1 : Int32))) ||| (x8 <<< (((2 : Int32) * a5) &&& 31))))), (0, .ref (g.ad (75))), (1, .int (a1)), (2, .int (a2)), (3, .int (a3)), (4, .int (a4)), (5, .int (a5)), (7, .int (x7)), (8, .int (x8))]) (q := 65) hX dX9_acts_63 rfl rfl rfl ?_
    refine V_iload (q := 67) hX dX9_acts_65 7 rfl rfl ?_
    refine V_aload_n (q := 68) hX dX9_acts_67 1 rfl rfl ?_
    refine V_iload_n (q := 69) hX dX9_acts_68 2 rfl rfl ?_
    refine V_iload_n (q := 70) hX dX9_acts_69 3 rfl rfl ?_
    refine V_bipush (v := 10) (q := 72) hX dX9_acts_70 (by decide) rfl ?_
    refine V_idiv (q := 73) hX (by decide) dX9_acts_72 rfl ?_
    refine V_iload_n (q := 74) hX dX9_acts_73 3 rfl rfl ?_
    refine V_bipush (v := 10) (q := 76) hX dX9_acts_74 (by decide) rfl ?_
    refine V_irem (q := 77) hX (by decide) dX9_acts_76 rfl ?_
    refine V_iload (q := 79) hX dX9_acts_77 0 rfl rfl ?_
    refine V_iload (q := 81) hX dX9_acts_79 5 rfl rfl ?_
    obtain ⟨r42, σ41, e43, h⟩ := bnd_some h
    refine V_cvI (n := 95) (c := 9) (nf := 39) (C := RX9) (T := TX9) (As := [.int (a1), .int ((a2 / (10 : Int32))), .int ((jrem a2 (10 : Int32))), .int (((a3 &&& (((3 : Int32) <<< (((2 : Int32) * a5) &&& 31)) ^^^ (-1 : Int32))) ||| (x8 <<< (((2 : Int32) * a5) &&& 31)))), .int (a4)]) (q := 84) hX (c9_unlike hX.2.2.2.2.1 hN e43) (goodV_of k5_229 k5_231 kp_62 k1_16 (cons_g k5_232)) (nA := 5) (by decide) rfl rfl rfl rfl rfl ⟨rfl, by decide⟩ hN rfl rfl rfl dX9_acts_81 rfl ?_
    refine V_iconst (v := -1) (q := 85) hX dX9_acts_84 (by decide) rfl ?_
    refine V_icmp_ne (q := 88) (t := 95) hX dX9_acts_85 (by decide) rfl (fun z44 => ?_) (fun z44 => ?_)
    · have h := ite_f z44 h
      refine V_iconst (v := 0) (q := 96) hX dX9_acts_95 (by decide) rfl ?_
      refine V.pick [1, 2, 3, 4, 5, 6, 8] rfl ?_
      exact v9_acts_96 hX hN hQ ih x8 x7 (0 : Int32) σ41 h
    have h := ite_t z44 h
    refine V_iconst (v := 1) (q := 89) hX dX9_acts_88 (by decide) rfl ?_
    refine V_iload (q := 91) hX dX9_acts_89 8 rfl rfl ?_
    refine V_ishl (q := 92) hX dX9_acts_91 rfl ?_
    refine V_goto hX dX9_acts_92 (q := 96) (by decide) ?_
    refine V.pick [1, 2, 3, 4, 5, 6, 8] rfl ?_
    exact v9_acts_96 hX hN hQ ih x8 x7 ((1 : Int32) <<< (x8 &&& 31)) σ41 h
theorem v9_acts_39 {g : GT} {X : XT} {a1 : Int32} {a2 : Int32} {a3 : Int32} {a4 : Int32} {a5 : Int32} (hX : OkX g X (m9_acts)) (hN : 95 ≤ g.N) {res : Int32 × St} (hQ : X.Q = QI g X res.1 res.2 ∧ X.cells = 0 ∧ X.slots = 0) (x7 : Int32) (x8 : Int32) (σ : St) (h : S9_acts_39 a1 a2 a3 a4 a5 4096 x7 x8 σ = some res) : V g X (m9_acts) 39 [(0, .ref (g.ad (75))), (1, .int (a1)), (2, .int (a2)), (3, .int (a3)), (4, .int (a4)), (5, .int (a5)), (7, .int (x7)), (8, .int (x8))] [] σ := v9_acts_39n hX hN hQ 4096 x7 x8 σ h
set_option maxRecDepth 100000 in
set_option maxHeartbeats 4000000 in
theorem v9_acts {g : GT} {X : XT} {a1 : Int32} {a2 : Int32} {a3 : Int32} {a4 : Int32} {a5 : Int32} (hX : OkX g X (m9_acts)) (hN : 95 ≤ g.N) {res : Int32 × St} (hQ : X.Q = QI g X res.1 res.2 ∧ X.cells = 0 ∧ X.slots = 0) {σ : St} (h : S9_acts a1 a2 a3 a4 a5 σ = some res) : V g X (m9_acts) 0 [(0, .ref (g.ad (75))), (1, .int (a1)), (2, .int (a2)), (3, .int (a3)), (4, .int (a4)), (5, .int (a5))] [] σ := by
  unfold S9_acts at h
  refine V_aload_n (q := 1) hX dX9_acts_0 0 rfl rfl ?_
  refine V_iload_n (q := 2) hX dX9_acts_1 1 rfl rfl ?_
  refine V_iload_n (q := 3) hX dX9_acts_2 2 rfl rfl ?_
  refine V_iload_n (q := 4) hX dX9_acts_3 3 rfl rfl ?_
  refine V_iload (q := 6) hX dX9_acts_4 4 rfl rfl ?_
  obtain ⟨r46, σ45, e47, h⟩ := bnd_some h
  refine V_cvI (n := 95) (c := 9) (nf := 39) (C := RX9) (T := TX9) (As := [.int (a1), .int (a2), .int (a3), .int (a4)]) (q := 9) hX (c9_toldWrong hX.2.2.2.2.1 hN e47) (goodV_of k5_221 k5_223 kp_60 k1_16 (cons_g k5_224)) (nA := 4) (by decide) rfl rfl rfl rfl rfl ⟨rfl, by decide⟩ hN rfl rfl rfl dX9_acts_6 rfl ?_
  refine V_istore (lv' := [(6, .int (r46)), (0, .ref (g.ad (75))), (1, .int (a1)), (2, .int (a2)), (3, .int (a3)), (4, .int (a4)), (5, .int (a5))]) (q := 11) hX dX9_acts_9 rfl rfl rfl ?_
  refine V_iload (q := 13) hX dX9_acts_11 0 rfl rfl ?_
  refine V_if_eq (q := 16) (t := 19) hX dX9_acts_13 (by decide) rfl (fun z48 => ?_) (fun z48 => ?_)
  · have h := ite_t z48 h
    refine V_iload (q := 21) hX dX9_acts_19 6 rfl rfl ?_
    refine V_iconst (v := 0) (q := 22) hX dX9_acts_21 (by decide) rfl ?_
    refine V_bipush (v := 8) (q := 24) hX dX9_acts_22 (by decide) rfl ?_
    obtain ⟨r50, σ49, e51, h⟩ := bnd_some h
    refine V_csI (As := [.int (a5), .int ((0 : Int32)), .int ((8 : Int32))]) (q := 27) hX (c9_in hX.2.2.2.2.1 hN e51) (goodS_of k4_143 k4_144 k1_16 (cons_g k4_145)) (nA := 3) (by decide) rfl rfl rfl rfl rfl dX9_acts_24 rfl ?_
    refine V_if_ne (q := 30) (t := 33) hX dX9_acts_27 (by decide) rfl (fun z52 => ?_) (fun z52 => ?_)
    · have h := ite_f z52 h
      refine V_iconst (v := 0) (q := 34) hX dX9_acts_33 (by decide) rfl ?_
      refine V_istore (lv' := [(7, .int ((0 : Int32))), (6, .int (r46)), (0, .ref (g.ad (75))), (1, .int (a1)), (2, .int (a2)), (3, .int (a3)), (4, .int (a4)), (5, .int (a5))]) (q := 36) hX dX9_acts_34 rfl rfl rfl ?_
      refine V_iconst (v := 0) (q := 37) hX dX9_acts_36 (by decide) rfl ?_
      refine V_istore (lv' := [(8, .int ((0 : Int32))), (7, .int ((0 : Int32))), (6, .int (r46)), (0, .ref (g.ad (75))), (1, .int (a1)), (2, .int (a2)), (3, .int (a3)), (4, .int (a4)), (5, .int (a5))]) (q := 39) hX dX9_acts_37 rfl rfl rfl ?_
      refine V.pick [3, 4, 5, 6, 7, 8, 1, 0] rfl ?_
      exact v9_acts_39 hX hN hQ (0 : Int32) (0 : Int32) σ49 h
    have h := ite_t z52 h
    refine V_bipush (v := -7) (q := 32) hX dX9_acts_30 (by decide) rfl ?_
    obtain ⟨f1, f2⟩ := some2 h
    rw [f1, f2] at hQ
    exact V_iret hX hQ rfl dX9_acts_32
  have h := ite_f z48 h
  refine V_iload (q := 18) hX dX9_acts_16 0 rfl rfl ?_
  obtain ⟨f1, f2⟩ := some2 h
  rw [f1, f2] at hQ
  exact V_iret hX hQ rfl dX9_acts_18
set_option maxRecDepth 100000 in
set_option maxHeartbeats 4000000 in
theorem c9_acts {g : GT} {l : Launch} (hg : OkG g) (hN : 95 ≤ g.N) {a1 : Int32} {a2 : Int32} {a3 : Int32} {a4 : Int32} {a5 : Int32} {σ : St} {r : Int32} {σ' : St} (h : S9_acts a1 a2 a3 a4 a5 σ = some (r, σ')) : CtI g l m9_acts yX9_acts [.ref (g.ad (75)), .int (a1), .int (a2), .int (a3), .int (a4), .int (a5)] σ r σ' := CtI.of hg (by decide) rfl rfl (fun X h1 h2 h3 => v9_acts h1 hN (res := (r, σ')) h3 h)

abbrev m9_heavy : MI := (cX9_heavy, RX9, 13, some .int, 8)
def S9_heavy_150 (a1 : Int32) (a2 : Int32) (a3 : Int32) (a4 : Int32) (a5 : Int32) (k74 : Int32 → Int32 → Int32 → Int32 → St → Option (Int32 × St)) (x8 : Int32) (x9 : Int32) (x11 : Int32) (s0 : Int32) (σ : St) : Option (Int32 × St) := k74 x8 x9 s0 (x11 + 1) σ
def S9_heavy_148 (a1 : Int32) (a2 : Int32) (a3 : Int32) (a4 : Int32) (a5 : Int32) (k74 : Int32 → Int32 → Int32 → Int32 → St → Option (Int32 × St)) (x8 : Int32) (x9 : Int32) (x10 : Int32) (x11 : Int32) (σ : St) : Option (Int32 × St) := S9_heavy_150 a1 a2 a3 a4 a5 k74 x8 x9 x11 x10 σ
def S9_heavy_129 (a1 : Int32) (a2 : Int32) (a3 : Int32) (a4 : Int32) (a5 : Int32) (k74 : Int32 → Int32 → Int32 → Int32 → St → Option (Int32 × St)) (x8 : Int32) (x10 : Int32) (x11 : Int32) (x12 : Int32) (s0 : Int32) (s1 : Int32) (σ : St) : Option (Int32 × St) := if x12 = 0 then (S9_heavy_148 a1 a2 a3 a4 a5 k74 x8 (s0 + s1) x10 x11 σ) else (if x10 = (-1 : Int32) then (S9_heavy_150 a1 a2 a3 a4 a5 k74 x8 (s0 + s1) x11 x11 σ) else (S9_heavy_148 a1 a2 a3 a4 a5 k74 x8 (s0 + s1) x10 x11 σ))
def S9_heavy_115 (a1 : Int32) (a2 : Int32) (a3 : Int32) (a4 : Int32) (a5 : Int32) (k74 : Int32 → Int32 → Int32 → Int32 → St → Option (Int32 × St)) (x8 : Int32) (x9 : Int32) (x10 : Int32) (x11 : Int32) (s0 : Int32) (σ : St) : Option (Int32 × St) := if s0 = 0 then (S9_heavy_129 a1 a2 a3 a4 a5 k74 x8 x10 x11 s0 x9 (0 : Int32) σ) else (S9_heavy_129 a1 a2 a3 a4 a5 k74 x8 x10 x11 s0 x9 (1 : Int32) σ)
def B9_heavy_74 (a1 : Int32) (a2 : Int32) (a3 : Int32) (a4 : Int32) (a5 : Int32) (rec : Int32 → Int32 → Int32 → Int32 → St → Option (Int32 × St)) (x8 : Int32) (x9 : Int32) (x10 : Int32) (x11 : Int32) (σ : St) : Option (Int32 × St) := if (99 : Int32) < x11 then (if inb (((5 : Int32) * (a2 / (10 : Int32))) + (a5 / (10 : Int32))) 30 then (if (jrem a5 (10 : Int32)) = 0 then (some (x9, (sI σ 78 ((((5 : Int32) * (a2 / (10 : Int32))) + (a5 / (10 : Int32)))).toNatClampNeg x8))) else (some (x10, (sI σ 78 ((((5 : Int32) * (a2 / (10 : Int32))) + (a5 / (10 : Int32)))).toNatClampNeg x8)))) else none) else (if inb (((5 : Int32) * (a2 / (10 : Int32))) + (a5 / (10 : Int32))) 30 then (bnd (S9_unlike a1 (a2 / (10 : Int32)) (jrem a2 (10 : Int32)) a3 a4 (sI σ 78 ((((5 : Int32) * (a2 / (10 : Int32))) + (a5 / (10 : Int32)))).toNatClampNeg x11)) fun r72 σ71 => if r72 = (-1 : Int32) then (S9_heavy_115 a1 a2 a3 a4 a5 rec x8 x9 x10 x11 (1 : Int32) σ71) else (S9_heavy_115 a1 a2 a3 a4 a5 rec x8 x9 x10 x11 (0 : Int32) σ71)) else none)
def S9_heavy_74 (a1 : Int32) (a2 : Int32) (a3 : Int32) (a4 : Int32) (a5 : Int32) : Nat → Int32 → Int32 → Int32 → Int32 → St → Option (Int32 × St)
  | 0, _, _, _, _, _ => none
  | n + 1, x8, x9, x10, x11, σ => B9_heavy_74 a1 a2 a3 a4 a5 (S9_heavy_74 a1 a2 a3 a4 a5 n) x8 x9 x10 x11 σ
def S9_heavy (a1 : Int32) (a2 : Int32) (a3 : Int32) (a4 : Int32) (a5 : Int32) (σ : St) : Option (Int32 × St) := bnd (S9_toldWrong a1 a2 a3 a4 σ) fun r76 σ75 => if r76 = 0 then (bnd (S9_in a5 (0 : Int32) (11 : Int32) σ75) fun r80 σ79 => if r80 = 0 then (some ((-7 : Int32), σ79)) else (if (jrem a5 (10 : Int32)) ≤ (1 : Int32) then (if inb (((5 : Int32) * (a2 / (10 : Int32))) + (a5 / (10 : Int32))) 30 then (S9_heavy_74 a1 a2 a3 a4 a5 4096 (gI σ79 78 ((((5 : Int32) * (a2 / (10 : Int32))) + (a5 / (10 : Int32)))).toNatClampNeg) (0 : Int32) (-1 : Int32) (0 : Int32) σ79) else none) else (some ((-7 : Int32), σ79)))) else (some (r76, σ75))
set_option maxRecDepth 100000 in
set_option maxHeartbeats 4000000 in
theorem v9_heavy_150 {g : GT} {X : XT} {a1 : Int32} {a2 : Int32} {a3 : Int32} {a4 : Int32} {a5 : Int32} (hX : OkX g X (m9_heavy)) (hN : 95 ≤ g.N) {res : Int32 × St} (hQ : X.Q = QI g X res.1 res.2 ∧ X.cells = 0 ∧ X.slots = 0)  {k74 : Int32 → Int32 → Int32 → Int32 → St → Option (Int32 × St)} (hk74 : ∀ (x8 : Int32) (x9 : Int32) (x10 : Int32) (x11 : Int32) (σ : St), k74 x8 x9 x10 x11 σ = some res → V g X (m9_heavy) 74 [(0, .ref (g.ad (75))), (1, .int (a1)), (2, .int (a2)), (3, .int (a3)), (4, .int (a4)), (5, .int (a5)), (7, .int ((((5 : Int32) * (a2 / (10 : Int32))) + (a5 / (10 : Int32))))), (8, .int (x8)), (9, .int (x9)), (10, .int (x10)), (11, .int (x11))] [] σ) (x8 : Int32) (x9 : Int32) (x11 : Int32) (s0 : Int32) (σ : St)  (h : S9_heavy_150 a1 a2 a3 a4 a5 k74 x8 x9 x11 s0 σ = some res) : V g X (m9_heavy) 150 [(0, .ref (g.ad (75))), (1, .int (a1)), (2, .int (a2)), (3, .int (a3)), (4, .int (a4)), (5, .int (a5)), (7, .int ((((5 : Int32) * (a2 / (10 : Int32))) + (a5 / (10 : Int32))))), (8, .int (x8)), (9, .int (x9)), (11, .int (x11))] [.int (s0)] σ := by
  unfold S9_heavy_150 at h
  refine V_istore (lv' := [(10, .int (s0)), (0, .ref (g.ad (75))), (1, .int (a1)), (2, .int (a2)), (3, .int (a3)), (4, .int (a4)), (5, .int (a5)), (7, .int ((((5 : Int32) * (a2 / (10 : Int32))) + (a5 / (10 : Int32))))), (8, .int (x8)), (9, .int (x9)), (11, .int (x11))]) (q := 152) hX dX9_heavy_150 rfl rfl rfl ?_
  refine V_iinc (v := (x11 + 1)) (lv' := [(11, .int ((x11 + 1))), (10, .int (s0)), (0, .ref (g.ad (75))), (1, .int (a1)), (2, .int (a2)), (3, .int (a3)), (4, .int (a4)), (5, .int (a5)), (7, .int ((((5 : Int32) * (a2 / (10 : Int32))) + (a5 / (10 : Int32))))), (8, .int (x8)), (9, .int (x9))]) (q := 155) hX dX9_heavy_152 10 rfl (by rfl) rfl rfl rfl ?_
  refine V_goto hX dX9_heavy_155 (q := 74) (by decide) ?_
  refine V.pick [2, 3, 4, 5, 6, 7, 8, 9, 10, 1, 0] rfl ?_
  exact hk74 x8 x9 s0 (x11 + 1) σ  h
set_option maxRecDepth 100000 in
set_option maxHeartbeats 4000000 in
theorem v9_heavy_148 {g : GT} {X : XT} {a1 : Int32} {a2 : Int32} {a3 : Int32} {a4 : Int32} {a5 : Int32} (hX : OkX g X (m9_heavy)) (hN : 95 ≤ g.N) {res : Int32 × St} (hQ : X.Q = QI g X res.1 res.2 ∧ X.cells = 0 ∧ X.slots = 0)  {k74 : Int32 → Int32 → Int32 → Int32 → St → Option (Int32 × St)} (hk74 : ∀ (x8 : Int32) (x9 : Int32) (x10 : Int32) (x11 : Int32) (σ : St), k74 x8 x9 x10 x11 σ = some res → V g X (m9_heavy) 74 [(0, .ref (g.ad (75))), (1, .int (a1)), (2, .int (a2)), (3, .int (a3)), (4, .int (a4)), (5, .int (a5)), (7, .int ((((5 : Int32) * (a2 / (10 : Int32))) + (a5 / (10 : Int32))))), (8, .int (x8)), (9, .int (x9)), (10, .int (x10)), (11, .int (x11))] [] σ) (x8 : Int32) (x9 : Int32) (x10 : Int32) (x11 : Int32) (σ : St)  (h : S9_heavy_148 a1 a2 a3 a4 a5 k74 x8 x9 x10 x11 σ = some res) : V g X (m9_heavy) 148 [(0, .ref (g.ad (75))), (1, .int (a1)), (2, .int (a2)), (3, .int (a3)), (4, .int (a4)), (5, .int (a5)), (7, .int ((((5 : Int32) * (a2 / (10 : Int32))) + (a5 / (10 : Int32))))), (8, .int (x8)), (9, .int (x9)), (10, .int (x10)), (11, .int (x11))] [] σ := by
  unfold S9_heavy_148 at h
  refine V_iload (q := 150) hX dX9_heavy_148 9 rfl rfl ?_
  refine V.pick [0, 1, 2, 3, 4, 5, 6, 7, 8, 10] rfl ?_
  exact v9_heavy_150 hX hN hQ hk74 x8 x9 x11 x10 σ h
set_option maxRecDepth 100000 in
set_option maxHeartbeats 4000000 in
theorem v9_heavy_129 {g : GT} {X : XT} {a1 : Int32} {a2 : Int32} {a3 : Int32} {a4 : Int32} {a5 : Int32} (hX : OkX g X (m9_heavy)) (hN : 95 ≤ g.N) {res : Int32 × St} (hQ : X.Q = QI g X res.1 res.2 ∧ X.cells = 0 ∧ X.slots = 0)  {k74 : Int32 → Int32 → Int32 → Int32 → St → Option (Int32 × St)} (hk74 : ∀ (x8 : Int32) (x9 : Int32) (x10 : Int32) (x11 : Int32) (σ : St), k74 x8 x9 x10 x11 σ = some res → V g X (m9_heavy) 74 [(0, .ref (g.ad (75))), (1, .int (a1)), (2, .int (a2)), (3, .int (a3)), (4, .int (a4)), (5, .int (a5)), (7, .int ((((5 : Int32) * (a2 / (10 : Int32))) + (a5 / (10 : Int32))))), (8, .int (x8)), (9, .int (x9)), (10, .int (x10)), (11, .int (x11))] [] σ) (x8 : Int32) (x10 : Int32) (x11 : Int32) (x12 : Int32) (s0 : Int32) (s1 : Int32) (σ : St)  (h : S9_heavy_129 a1 a2 a3 a4 a5 k74 x8 x10 x11 x12 s0 s1 σ = some res) : V g X (m9_heavy) 129 [(0, .ref (g.ad (75))), (1, .int (a1)), (2, .int (a2)), (3, .int (a3)), (4, .int (a4)), (5, .int (a5)), (7, .int ((((5 : Int32) * (a2 / (10 : Int32))) + (a5 / (10 : Int32))))), (8, .int (x8)), (10, .int (x10)), (11, .int (x11)), (12, .int (x12))] [.int (s1), .int (s0)] σ := by
  unfold S9_heavy_129 at h
  refine V_iadd (q := 130) hX dX9_heavy_129 rfl ?_
  refine V_istore (lv' := [(9, .int ((s0 + s1))), (0, .ref (g.ad (75))), (1, .int (a1)), (2, .int (a2)), (3, .int (a3)), (4, .int (a4)), (5, .int (a5)), (7, .int ((((5 : Int32) * (a2 / (10 : Int32))) + (a5 / (10 : Int32))))), (8, .int (x8)), (10, .int (x10)), (11, .int (x11)), (12, .int (x12))]) (q := 132) hX dX9_heavy_130 rfl rfl rfl ?_
  refine V_iload (q := 134) hX dX9_heavy_132 11 rfl rfl ?_
  refine V_if_eq (q := 137) (t := 148) hX dX9_heavy_134 (by decide) rfl (fun z64 => ?_) (fun z64 => ?_)
  · have h := ite_t z64 h
    refine V.pick [1, 2, 3, 4, 5, 6, 7, 8, 0, 9, 10] rfl ?_
    exact v9_heavy_148 hX hN hQ hk74 x8 (s0 + s1) x10 x11 σ h
  have h := ite_f z64 h
  refine V_iload (q := 139) hX dX9_heavy_137 9 rfl rfl ?_
  refine V_iconst (v := -1) (q := 140) hX dX9_heavy_139 (by decide) rfl ?_
  refine V_icmp_ne (q := 143) (t := 148) hX dX9_heavy_140 (by decide) rfl (fun z65 => ?_) (fun z65 => ?_)
  · have h := ite_f z65 h
    refine V.pick [1, 2, 3, 4, 5, 6, 7, 8, 0, 9, 10] rfl ?_
    exact v9_heavy_148 hX hN hQ hk74 x8 (s0 + s1) x10 x11 σ h
  have h := ite_t z65 h
  refine V_iload (q := 145) hX dX9_heavy_143 10 rfl rfl ?_
  refine V_goto hX dX9_heavy_145 (q := 150) (by decide) ?_
  refine V.pick [1, 2, 3, 4, 5, 6, 7, 8, 0, 10] rfl ?_
  exact v9_heavy_150 hX hN hQ hk74 x8 (s0 + s1) x11 x11 σ h
set_option maxRecDepth 100000 in
set_option maxHeartbeats 4000000 in
theorem v9_heavy_115 {g : GT} {X : XT} {a1 : Int32} {a2 : Int32} {a3 : Int32} {a4 : Int32} {a5 : Int32} (hX : OkX g X (m9_heavy)) (hN : 95 ≤ g.N) {res : Int32 × St} (hQ : X.Q = QI g X res.1 res.2 ∧ X.cells = 0 ∧ X.slots = 0)  {k74 : Int32 → Int32 → Int32 → Int32 → St → Option (Int32 × St)} (hk74 : ∀ (x8 : Int32) (x9 : Int32) (x10 : Int32) (x11 : Int32) (σ : St), k74 x8 x9 x10 x11 σ = some res → V g X (m9_heavy) 74 [(0, .ref (g.ad (75))), (1, .int (a1)), (2, .int (a2)), (3, .int (a3)), (4, .int (a4)), (5, .int (a5)), (7, .int ((((5 : Int32) * (a2 / (10 : Int32))) + (a5 / (10 : Int32))))), (8, .int (x8)), (9, .int (x9)), (10, .int (x10)), (11, .int (x11))] [] σ) (x8 : Int32) (x9 : Int32) (x10 : Int32) (x11 : Int32) (s0 : Int32) (σ : St)  (h : S9_heavy_115 a1 a2 a3 a4 a5 k74 x8 x9 x10 x11 s0 σ = some res) : V g X (m9_heavy) 115 [(0, .ref (g.ad (75))), (1, .int (a1)), (2, .int (a2)), (3, .int (a3)), (4, .int (a4)), (5, .int (a5)), (7, .int ((((5 : Int32) * (a2 / (10 : Int32))) + (a5 / (10 : Int32))))), (8, .int (x8)), (9, .int (x9)), (10, .int (x10)), (11, .int (x11))] [.int (s0)] σ := by
  unfold S9_heavy_115 at h
  refine V_istore (lv' := [(12, .int (s0)), (0, .ref (g.ad (75))), (1, .int (a1)), (2, .int (a2)), (3, .int (a3)), (4, .int (a4)), (5, .int (a5)), (7, .int ((((5 : Int32) * (a2 / (10 : Int32))) + (a5 / (10 : Int32))))), (8, .int (x8)), (9, .int (x9)), (10, .int (x10)), (11, .int (x11))]) (q := 117) hX dX9_heavy_115 rfl rfl rfl ?_
  refine V_iload (q := 119) hX dX9_heavy_117 9 rfl rfl ?_
  refine V_iload (q := 121) hX dX9_heavy_119 0 rfl rfl ?_
  refine V_if_eq (q := 124) (t := 128) hX dX9_heavy_121 (by decide) rfl (fun z66 => ?_) (fun z66 => ?_)
  · have h := ite_t z66 h
    refine V_iconst (v := 0) (q := 129) hX dX9_heavy_128 (by decide) rfl ?_
    refine V.pick [1, 2, 3, 4, 5, 6, 7, 8, 10, 11, 0] rfl ?_
    exact v9_heavy_129 hX hN hQ hk74 x8 x10 x11 s0 x9 (0 : Int32) σ h
  have h := ite_f z66 h
  refine V_iconst (v := 1) (q := 125) hX dX9_heavy_124 (by decide) rfl ?_
  refine V_goto hX dX9_heavy_125 (q := 129) (by decide) ?_
  refine V.pick [1, 2, 3, 4, 5, 6, 7, 8, 10, 11, 0] rfl ?_
  exact v9_heavy_129 hX hN hQ hk74 x8 x10 x11 s0 x9 (1 : Int32) σ h
set_option maxRecDepth 100000 in
set_option maxHeartbeats 4000000 in
theorem v9_heavy_74n {g : GT} {X : XT} {a1 : Int32} {a2 : Int32} {a3 : Int32} {a4 : Int32} {a5 : Int32} (hX : OkX g X (m9_heavy)) (hN : 95 ≤ g.N) {res : Int32 × St} (hQ : X.Q = QI g X res.1 res.2 ∧ X.cells = 0 ∧ X.slots = 0)   (n : Nat) : ∀ (x8 : Int32) (x9 : Int32) (x10 : Int32) (x11 : Int32) (σ : St) , S9_heavy_74 a1 a2 a3 a4 a5 n x8 x9 x10 x11 σ = some res → V g X (m9_heavy) 74 [(0, .ref (g.ad (75))), (1, .int (a1)), (2, .int (a2)), (3, .int (a3)), (4, .int (a4)), (5, .int (a5)), (7, .int ((((5 : Int32) * (a2 / (10 : Int32))) + (a5 / (10 : Int32))))), (8, .int (x8)), (9, .int (x9)), (10, .int (x10)), (11, .int (x11))] [] σ := by
  induction n with
  | zero => intro x8 x9 x10 x11 σ; intro h; cases h
  | succ n ih =>
    intro x8 x9 x10 x11 σ h
    have h : B9_heavy_74 a1 a2 a3 a4 a5 (S9_heavy_74 a1 a2 a3 a4 a5 n) x8 x9 x10 x11 σ = some res := h
    unfold B9_heavy_74 at h
    refine V_iload (q := 76) hX dX9_heavy_74 10 rfl rfl ?_
    refine V_bipush (v := 99) (q := 78) hX dX9_heavy_76 (by decide) rfl ?_
    refine V_icmp_gt (q := 81) (t := 158) hX dX9_heavy_78 (by decide) rfl (fun z67 => ?_) (fun z67 => ?_)
    · have h := ite_t z67 h
      refine V_aload_n (q := 159) hX dX9_heavy_158 0 rfl rfl ?_
      refine V_getF (r := 78) (n := 95) (c := 9) (k := 3) (nf := 39) (C := RX9) (T := TX9) (q := 162) hX rfl rfl iG9 k4_185 rfl rfl ⟨rfl, by decide⟩ hN rfl rfl rfl rfl dX9_heavy_159 rfl ?_
      refine V_iload (q := 164) hX dX9_heavy_162 6 rfl rfl ?_
      refine V_iload (q := 166) hX dX9_heavy_164 7 rfl rfl ?_
      obtain ⟨z68, h⟩ := chk_t h
      refine V_iast (n := 95) (len := 30) (q := 167) hX ⟨rfl, rfl, by decide⟩ hN z68 dX9_heavy_166 rfl ?_
      refine V_iload (q := 169) hX dX9_heavy_167 5 rfl rfl ?_
      refine V_bipush (v := 10) (q := 171) hX dX9_heavy_169 (by decide) rfl ?_
      refine V_irem (q := 172) hX (by decide) dX9_heavy_171 rfl ?_
      refine V_if_ne (q := 175) (t := 180) hX dX9_heavy_172 (by decide) rfl (fun z69 => ?_) (fun z69 => ?_)
      · have h := ite_f z69 h
        refine V_iload (q := 182) hX dX9_heavy_180 9 rfl rfl ?_
        obtain ⟨f1, f2⟩ := some2 h
        rw [f1, f2] at hQ
        exact V_iret hX hQ rfl dX9_heavy_182
      have h := ite_t z69 h
      refine V_iload (q := 177) hX dX9_heavy_175 8 rfl rfl ?_
      refine V_goto hX dX9_heavy_177 (q := 182) (by decide) ?_
      obtain ⟨f1, f2⟩ := some2 h
      rw [f1, f2] at hQ
      exact V_iret hX hQ rfl dX9_heavy_182
    have h := ite_f z67 h
    refine V_aload_n (q := 82) hX dX9_heavy_81 0 rfl rfl ?_
    refine V_getF (r := 78) (n := 95) (c := 9) (k := 3) (nf := 39) (C := RX9) (T := TX9) (q := 85) hX rfl rfl iG9 k4_185 rfl rfl ⟨rfl, by decide⟩ hN rfl rfl rfl rfl dX9_heavy_82 rfl ?_
    refine V_iload (q := 87) hX dX9_heavy_85 6 rfl rfl ?_
    refine V_iload (q := 89) hX dX9_heavy_87 10 rfl rfl ?_
    obtain ⟨z70, h⟩ := chk_t h
    refine V_iast (n := 95) (len := 30) (q := 90) hX ⟨rfl, rfl, by decide⟩ hN z70 dX9_heavy_89 rfl ?_
    refine V_aload_n (q := 91) hX dX9_heavy_90 0 rfl rfl ?_
    refine V_iload_n (q := 92) hX dX9_heavy_91 1 rfl rfl ?_
    refine V_iload_n (q := 93) hX dX9_heavy_92 2 rfl rfl ?_
    refine V_bipush (v := 10) (q := 95) hX dX9_heavy_93 (by decide) rfl ?_
    refine V_idiv (q := 96) hX (by decide) dX9_heavy_95 rfl ?_
    refine V_iload_n (q := 97) hX dX9_heavy_96 2 rfl rfl ?_
    refine V_bipush (v := 10) (q := 99) hX dX9_heavy_97 (by decide) rfl ?_
    refine V_irem (q := 100) hX (by decide) dX9_heavy_99 rfl ?_
    refine V_iload_n (q := 101) hX dX9_heavy_100 3 rfl rfl ?_
    refine V_iload (q := 103) hX dX9_heavy_101 4 rfl rfl ?_
    obtain ⟨r72, σ71, e73, h⟩ := bnd_some h
    refine V_cvI (n := 95) (c := 9) (nf := 39) (C := RX9) (T := TX9) (As := [.int (a1), .int ((a2 / (10 : Int32))), .int ((jrem a2 (10 : Int32))), .int (a3), .int (a4)]) (q := 106) hX (c9_unlike hX.2.2.2.2.1 hN e73) (goodV_of k5_229 k5_231 kp_62 k1_16 (cons_g k5_232)) (nA := 5) (by decide) rfl rfl rfl rfl rfl ⟨rfl, by decide⟩ hN rfl rfl rfl dX9_heavy_103 rfl ?_
    refine V_iconst (v := -1) (q := 107) hX dX9_heavy_106 (by decide) rfl ?_
    refine V_icmp_ne (q := 110) (t := 114) hX dX9_heavy_107 (by decide) rfl (fun z74 => ?_) (fun z74 => ?_)
    · have h := ite_f z74 h
      refine V_iconst (v := 0) (q := 115) hX dX9_heavy_114 (by decide) rfl ?_
      refine V.pick [0, 1, 2, 3, 4, 5, 6, 7, 8, 9, 10] rfl ?_
      exact v9_heavy_115 hX hN hQ ih x8 x9 x10 x11 (0 : Int32) σ71 h
    have h := ite_t z74 h
    refine V_iconst (v := 1) (q := 111) hX dX9_heavy_110 (by decide) rfl ?_
    refine V_goto hX dX9_heavy_111 (q := 115) (by decide) ?_
    refine V.pick [0, 1, 2, 3, 4, 5, 6, 7, 8, 9, 10] rfl ?_
    exact v9_heavy_115 hX hN hQ ih x8 x9 x10 x11 (1 : Int32) σ71 h
theorem v9_heavy_74 {g : GT} {X : XT} {a1 : Int32} {a2 : Int32} {a3 : Int32} {a4 : Int32} {a5 : Int32} (hX : OkX g X (m9_heavy)) (hN : 95 ≤ g.N) {res : Int32 × St} (hQ : X.Q = QI g X res.1 res.2 ∧ X.cells = 0 ∧ X.slots = 0) (x8 : Int32) (x9 : Int32) (x10 : Int32) (x11 : Int32) (σ : St) (h : S9_heavy_74 a1 a2 a3 a4 a5 4096 x8 x9 x10 x11 σ = some res) : V g X (m9_heavy) 74 [(0, .ref (g.ad (75))), (1, .int (a1)), (2, .int (a2)), (3, .int (a3)), (4, .int (a4)), (5, .int (a5)), (7, .int ((((5 : Int32) * (a2 / (10 : Int32))) + (a5 / (10 : Int32))))), (8, .int (x8)), (9, .int (x9)), (10, .int (x10)), (11, .int (x11))] [] σ := v9_heavy_74n hX hN hQ 4096 x8 x9 x10 x11 σ h
set_option maxRecDepth 100000 in
set_option maxHeartbeats 4000000 in
theorem v9_heavy {g : GT} {X : XT} {a1 : Int32} {a2 : Int32} {a3 : Int32} {a4 : Int32} {a5 : Int32} (hX : OkX g X (m9_heavy)) (hN : 95 ≤ g.N) {res : Int32 × St} (hQ : X.Q = QI g X res.1 res.2 ∧ X.cells = 0 ∧ X.slots = 0) {σ : St} (h : S9_heavy a1 a2 a3 a4 a5 σ = some res) : V g X (m9_heavy) 0 [(0, .ref (g.ad (75))), (1, .int (a1)), (2, .int (a2)), (3, .int (a3)), (4, .int (a4)), (5, .int (a5))] [] σ := by
  unfold S9_heavy at h
  refine V_aload_n (q := 1) hX dX9_heavy_0 0 rfl rfl ?_
  refine V_iload_n (q := 2) hX dX9_heavy_1 1 rfl rfl ?_
  refine V_iload_n (q := 3) hX dX9_heavy_2 2 rfl rfl ?_
  refine V_iload_n (q := 4) hX dX9_heavy_3 3 rfl rfl ?_
  refine V_iload (q := 6) hX dX9_heavy_4 4 rfl rfl ?_
  obtain ⟨r76, σ75, e77, h⟩ := bnd_some h
  refine V_cvI (n := 95) (c := 9) (nf := 39) (C := RX9) (T := TX9) (As := [.int (a1), .int (a2), .int (a3), .int (a4)]) (q := 9) hX (c9_toldWrong hX.2.2.2.2.1 hN e77) (goodV_of k5_221 k5_223 kp_60 k1_16 (cons_g k5_224)) (nA := 4) (by decide) rfl rfl rfl rfl rfl ⟨rfl, by decide⟩ hN rfl rfl rfl dX9_heavy_6 rfl ?_
  refine V_istore (lv' := [(6, .int (r76)), (0, .ref (g.ad (75))), (1, .int (a1)), (2, .int (a2)), (3, .int (a3)), (4, .int (a4)), (5, .int (a5))]) (q := 11) hX dX9_heavy_9 rfl rfl rfl ?_
  refine V_iload (q := 13) hX dX9_heavy_11 0 rfl rfl ?_
  refine V_if_eq (q := 16) (t := 19) hX dX9_heavy_13 (by decide) rfl (fun z78 => ?_) (fun z78 => ?_)
  · have h := ite_t z78 h
    refine V_iload (q := 21) hX dX9_heavy_19 6 rfl rfl ?_
    refine V_iconst (v := 0) (q := 22) hX dX9_heavy_21 (by decide) rfl ?_
    refine V_bipush (v := 11) (q := 24) hX dX9_heavy_22 (by decide) rfl ?_
    obtain ⟨r80, σ79, e81, h⟩ := bnd_some h
    refine V_csI (As := [.int (a5), .int ((0 : Int32)), .int ((11 : Int32))]) (q := 27) hX (c9_in hX.2.2.2.2.1 hN e81) (goodS_of k4_143 k4_144 k1_16 (cons_g k4_145)) (nA := 3) (by decide) rfl rfl rfl rfl rfl dX9_heavy_24 rfl ?_
    refine V_if_eq (q := 30) (t := 39) hX dX9_heavy_27 (by decide) rfl (fun z82 => ?_) (fun z82 => ?_)
    · have h := ite_t z82 h
      refine V_bipush (v := -7) (q := 41) hX dX9_heavy_39 (by decide) rfl ?_
      obtain ⟨f1, f2⟩ := some2 h
      rw [f1, f2] at hQ
      exact V_iret hX hQ rfl dX9_heavy_41
    have h := ite_f z82 h
    refine V_iload (q := 32) hX dX9_heavy_30 6 rfl rfl ?_
    refine V_bipush (v := 10) (q := 34) hX dX9_heavy_32 (by decide) rfl ?_
    refine V_irem (q := 35) hX (by decide) dX9_heavy_34 rfl ?_
    refine V_iconst (v := 1) (q := 36) hX dX9_heavy_35 (by decide) rfl ?_
    refine V_icmp_le (q := 39) (t := 42) hX dX9_heavy_36 (by decide) rfl (fun z83 => ?_) (fun z83 => ?_)
    · have h := ite_t z83 h
      refine V_iconst (v := 5) (q := 43) hX dX9_heavy_42 (by decide) rfl ?_
      refine V_iload_n (q := 44) hX dX9_heavy_43 3 rfl rfl ?_
      refine V_bipush (v := 10) (q := 46) hX dX9_heavy_44 (by decide) rfl ?_
      refine V_idiv (q := 47) hX (by decide) dX9_heavy_46 rfl ?_
      refine V_imul (q := 48) hX dX9_heavy_47 rfl ?_
      refine V_iload (q := 50) hX dX9_heavy_48 6 rfl rfl ?_
      refine V_bipush (v := 10) (q := 52) hX dX9_heavy_50 (by decide) rfl ?_
      refine V_idiv (q := 53) hX (by decide) dX9_heavy_52 rfl ?_
      refine V_iadd (q := 54) hX dX9_heavy_53 rfl ?_
      refine V_istore (lv' := [(7, .int ((((5 : Int32) * (a2 / (10 : Int32))) + (a5 / (10 : Int32))))), (6, .int (r76)), (0, .ref (g.ad (75))), (1, .int (a1)), (2, .int (a2)), (3, .int (a3)), (4, .int (a4)), (5, .int (a5))]) (q := 56) hX dX9_heavy_54 rfl rfl rfl ?_
      refine V_aload_n (q := 57) hX dX9_heavy_56 2 rfl rfl ?_
      refine V_getF (r := 78) (n := 95) (c := 9) (k := 3) (nf := 39) (C := RX9) (T := TX9) (q := 60) hX rfl rfl iG9 k4_185 rfl rfl ⟨rfl, by decide⟩ hN rfl rfl rfl rfl dX9_heavy_57 rfl ?_
      refine V_iload (q := 62) hX dX9_heavy_60 0 rfl rfl ?_
      obtain ⟨z84, h⟩ := chk_t h
      refine V_iald (n := 95) (len := 30) (q := 63) hX ⟨rfl, rfl, by decide⟩ hN z84 dX9_heavy_62 rfl ?_
      refine V_istore (lv' := [(8, .int ((gI σ79 78 ((((5 : Int32) * (a2 / (10 : Int32))) + (a5 / (10 : Int32)))).toNatClampNeg))), (7, .int ((((5 : Int32) * (a2 / (10 : Int32))) + (a5 / (10 : Int32))))), (6, .int (r76)), (0, .ref (g.ad (75))), (1, .int (a1)), (2, .int (a2)), (3, .int (a3)), (4, .int (a4)), (5, .int (a5))]) (q := 65) hX dX9_heavy_63 rfl rfl rfl ?_
      refine V_iconst (v := 0) (q := 66) hX dX9_heavy_65 (by decide) rfl ?_
      refine V_istore (lv' := [(9, .int ((0 : Int32))), (8, .int ((gI σ79 78 ((((5 : Int32) * (a2 / (10 : Int32))) + (a5 / (10 : Int32)))).toNatClampNeg))), (7, .int ((((5 : Int32) * (a2 / (10 : Int32))) + (a5 / (10 : Int32))))), (6, .int (r76)), (0, .ref (g.ad (75))), (1, .int (a1)), (2, .int (a2)), (3, .int (a3)), (4, .int (a4)), (5, .int (a5))]) (q := 68) hX dX9_heavy_66 rfl rfl rfl ?_
      refine V_iconst (v := -1) (q := 69) hX dX9_heavy_68 (by decide) rfl ?_
      refine V_istore (lv' := [(10, .int ((-1 : Int32))), (9, .int ((0 : Int32))), (8, .int ((gI σ79 78 ((((5 : Int32) * (a2 / (10 : Int32))) + (a5 / (10 : Int32)))).toNatClampNeg))), (7, .int ((((5 : Int32) * (a2 / (10 : Int32))) + (a5 / (10 : Int32))))), (6, .int (r76)), (0, .ref (g.ad (75))), (1, .int (a1)), (2, .int (a2)), (3, .int (a3)), (4, .int (a4)), (5, .int (a5))]) (q := 71) hX dX9_heavy_69 rfl rfl rfl ?_
      refine V_iconst (v := 0) (q := 72) hX dX9_heavy_71 (by decide) rfl ?_
      refine V_istore (lv' := [(11, .int ((0 : Int32))), (10, .int ((-1 : Int32))), (9, .int ((0 : Int32))), (8, .int ((gI σ79 78 ((((5 : Int32) * (a2 / (10 : Int32))) + (a5 / (10 : Int32)))).toNatClampNeg))), (7, .int ((((5 : Int32) * (a2 / (10 : Int32))) + (a5 / (10 : Int32))))), (6, .int (r76)), (0, .ref (g.ad (75))), (1, .int (a1)), (2, .int (a2)), (3, .int (a3)), (4, .int (a4)), (5, .int (a5))]) (q := 74) hX dX9_heavy_72 rfl rfl rfl ?_
      refine V.pick [6, 7, 8, 9, 10, 11, 4, 3, 2, 1, 0] rfl ?_
      exact v9_heavy_74 hX hN hQ (gI σ79 78 ((((5 : Int32) * (a2 / (10 : Int32))) + (a5 / (10 : Int32)))).toNatClampNeg) (0 : Int32) (-1 : Int32) (0 : Int32) σ79 h
    have h := ite_f z83 h
    refine V_bipush (v := -7) (q := 41) hX dX9_heavy_39 (by decide) rfl ?_
    obtain ⟨f1, f2⟩ := some2 h
    rw [f1, f2] at hQ
    exact V_iret hX hQ rfl dX9_heavy_41
  have h := ite_f z78 h
  refine V_iload (q := 18) hX dX9_heavy_16 0 rfl rfl ?_
  obtain ⟨f1, f2⟩ := some2 h
  rw [f1, f2] at hQ
  exact V_iret hX hQ rfl dX9_heavy_18
set_option maxRecDepth 100000 in
set_option maxHeartbeats 4000000 in
theorem c9_heavy {g : GT} {l : Launch} (hg : OkG g) (hN : 95 ≤ g.N) {a1 : Int32} {a2 : Int32} {a3 : Int32} {a4 : Int32} {a5 : Int32} {σ : St} {r : Int32} {σ' : St} (h : S9_heavy a1 a2 a3 a4 a5 σ = some (r, σ')) : CtI g l m9_heavy yX9_heavy [.ref (g.ad (75)), .int (a1), .int (a2), .int (a3), .int (a4), .int (a5)] σ r σ' := CtI.of hg (by decide) rfl rfl (fun X h1 h2 h3 => v9_heavy h1 hN (res := (r, σ')) h3 h)

abbrev m9_laws : MI := (cX9_laws, RX9, 9, some .int, 8)
def S9_laws_76 (a1 : Int32) (a2 : Int32) (a3 : Int32) (a4 : Int32) (k31 : Int32 → Int32 → Int32 → St → Option (Int32 × St)) (x6 : Int32) (x8 : Int32) (s0 : Int32) (s1 : Int32) (σ : St) : Option (Int32 × St) := k31 x6 (s0 ||| s1) (x8 + 1) σ
def B9_laws_31 (a1 : Int32) (a2 : Int32) (a3 : Int32) (a4 : Int32) (rec : Int32 → Int32 → Int32 → St → Option (Int32 × St)) (x6 : Int32) (x7 : Int32) (x8 : Int32) (σ : St) : Option (Int32 × St) := if (gI σ 75 9) ≤ x8 then (some (x7, (sI σ 75 10 x6))) else (bnd (S9_unlike a1 (a2 / (10 : Int32)) (jrem a2 (10 : Int32)) a3 a4 (sI σ 75 10 x8)) fun r30 σ29 => if r30 = (-1 : Int32) then (S9_laws_76 a1 a2 a3 a4 rec x6 x8 x7 ((1 : Int32) <<< (x8 &&& 31)) σ29) else (S9_laws_76 a1 a2 a3 a4 rec x6 x8 x7 (0 : Int32) σ29))
def S9_laws_31 (a1 : Int32) (a2 : Int32) (a3 : Int32) (a4 : Int32) : Nat → Int32 → Int32 → Int32 → St → Option (Int32 × St)
  | 0, _, _, _, _ => none
  | n + 1, x6, x7, x8, σ => B9_laws_31 a1 a2 a3 a4 (S9_laws_31 a1 a2 a3 a4 n) x6 x7 x8 σ
def S9_laws (a1 : Int32) (a2 : Int32) (a3 : Int32) (a4 : Int32) (σ : St) : Option (Int32 × St) := bnd (S9_toldWrong a1 a2 a3 a4 σ) fun r34 σ33 => if r34 = 0 then (S9_laws_31 a1 a2 a3 a4 4096 (gI σ33 75 10) (0 : Int32) (0 : Int32) σ33) else (some (r34, σ33))
set_option maxRecDepth 100000 in
set_option maxHeartbeats 4000000 in
theorem v9_laws_76 {g : GT} {X : XT} {a1 : Int32} {a2 : Int32} {a3 : Int32} {a4 : Int32} (hX : OkX g X (m9_laws)) (hN : 95 ≤ g.N) {res : Int32 × St} (hQ : X.Q = QI g X res.1 res.2 ∧ X.cells = 0 ∧ X.slots = 0)  {k31 : Int32 → Int32 → Int32 → St → Option (Int32 × St)} (hk31 : ∀ (x6 : Int32) (x7 : Int32) (x8 : Int32) (σ : St), k31 x6 x7 x8 σ = some res → V g X (m9_laws) 31 [(0, .ref (g.ad (75))), (1, .int (a1)), (2, .int (a2)), (3, .int (a3)), (4, .int (a4)), (6, .int (x6)), (7, .int (x7)), (8, .int (x8))] [] σ) (x6 : Int32) (x8 : Int32) (s0 : Int32) (s1 : Int32) (σ : St)  (h : S9_laws_76 a1 a2 a3 a4 k31 x6 x8 s0 s1 σ = some res) : V g X (m9_laws) 76 [(0, .ref (g.ad (75))), (1, .int (a1)), (2, .int (a2)), (3, .int (a3)), (4, .int (a4)), (6, .int (x6)), (8, .int (x8))] [.int (s1), .int (s0)] σ := by
  unfold S9_laws_76 at h
  refine V_ior (q := 77) hX dX9_laws_76 rfl ?_
  refine V_istore (lv' := [(7, .int ((s0 ||| s1))), (0, .ref (g.ad (75))), (1, .int (a1)), (2, .int (a2)), (3, .int (a3)), (4, .int (a4)), (6, .int (x6)), (8, .int (x8))]) (q := 79) hX dX9_laws_77 rfl rfl rfl ?_
  refine V_iinc (v := (x8 + 1)) (lv' := [(8, .int ((x8 + 1))), (7, .int ((s0 ||| s1))), (0, .ref (g.ad (75))), (1, .int (a1)), (2, .int (a2)), (3, .int (a3)), (4, .int (a4)), (6, .int (x6))]) (q := 82) hX dX9_laws_79 7 rfl (by rfl) rfl rfl rfl ?_
  refine V_goto hX dX9_laws_82 (q := 31) (by decide) ?_
  refine V.pick [2, 3, 4, 5, 6, 7, 1, 0] rfl ?_
  exact hk31 x6 (s0 ||| s1) (x8 + 1) σ  h
set_option maxRecDepth 100000 in
set_option maxHeartbeats 4000000 in
theorem v9_laws_31n {g : GT} {X : XT} {a1 : Int32} {a2 : Int32} {a3 : Int32} {a4 : Int32} (hX : OkX g X (m9_laws)) (hN : 95 ≤ g.N) {res : Int32 × St} (hQ : X.Q = QI g X res.1 res.2 ∧ X.cells = 0 ∧ X.slots = 0)   (n : Nat) : ∀ (x6 : Int32) (x7 : Int32) (x8 : Int32) (σ : St) , S9_laws_31 a1 a2 a3 a4 n x6 x7 x8 σ = some res → V g X (m9_laws) 31 [(0, .ref (g.ad (75))), (1, .int (a1)), (2, .int (a2)), (3, .int (a3)), (4, .int (a4)), (6, .int (x6)), (7, .int (x7)), (8, .int (x8))] [] σ := by
  induction n with
  | zero => intro x6 x7 x8 σ; intro h; cases h
  | succ n ih =>
    intro x6 x7 x8 σ h
    have h : B9_laws_31 a1 a2 a3 a4 (S9_laws_31 a1 a2 a3 a4 n) x6 x7 x8 σ = some res := h
    unfold B9_laws_31 at h
    refine V_iload (q := 33) hX dX9_laws_31 7 rfl rfl ?_
    refine V_aload_n (q := 34) hX dX9_laws_33 0 rfl rfl ?_
    refine V_getI (n := 95) (c := 9) (k := 9) (nf := 39) (C := RX9) (T := TX9) (q := 37) hX rfl rfl iG9 k4_191 rfl rfl ⟨rfl, by decide⟩ hN rfl rfl dX9_laws_34 rfl ?_
    refine V_icmp_ge (q := 40) (t := 85) hX dX9_laws_37 (by decide) rfl (fun z28 => ?_) (fun z28 => ?_)
    · have h := ite_t z28 h
      refine V_aload_n (q := 86) hX dX9_laws_85 0 rfl rfl ?_
      refine V_iload (q := 88) hX dX9_laws_86 5 rfl rfl ?_
      refine V_putI (n := 95) (c := 9) (k := 10) (nf := 39) (C := RX9) (T := TX9) (q := 91) hX rfl rfl iG9 k4_192 rfl rfl ⟨rfl, by decide⟩ hN rfl tyX9 tyX9_ok nmX9 rfl rfl (ty := .int) (tyX9_ok 10 (by decide)) rfl rfl dX9_laws_88 rfl ?_
      refine V_iload (q := 93) hX dX9_laws_91 6 rfl rfl ?_
      obtain ⟨f1, f2⟩ := some2 h
      rw [f1, f2] at hQ
      exact V_iret hX hQ rfl dX9_laws_93
    have h := ite_f z28 h
    refine V_aload_n (q := 41) hX dX9_laws_40 0 rfl rfl ?_
    refine V_iload (q := 43) hX dX9_laws_41 7 rfl rfl ?_
    refine V_putI (n := 95) (c := 9) (k := 10) (nf := 39) (C := RX9) (T := TX9) (q := 46) hX rfl rfl iG9 k4_192 rfl rfl ⟨rfl, by decide⟩ hN rfl tyX9 tyX9_ok nmX9 rfl rfl (ty := .int) (tyX9_ok 10 (by decide)) rfl rfl dX9_laws_43 rfl ?_
    refine V_iload (q := 48) hX dX9_laws_46 6 rfl rfl ?_
    refine V_aload_n (q := 49) hX dX9_laws_48 0 rfl rfl ?_
    refine V_iload_n (q := 50) hX dX9_laws_49 1 rfl rfl ?_
    refine V_iload_n (q := 51) hX dX9_laws_50 2 rfl rfl ?_
    refine V_bipush (v := 10) (q := 53) hX dX9_laws_51 (by decide) rfl ?_
    refine V_idiv (q := 54) hX (by decide) dX9_laws_53 rfl ?_
    refine V_iload_n (q := 55) hX dX9_laws_54 2 rfl rfl ?_
    refine V_bipush (v := 10) (q := 57) hX dX9_laws_55 (by decide) rfl ?_
    refine V_irem (q := 58) hX (by decide) dX9_laws_57 rfl ?_
    refine V_iload_n (q := 59) hX dX9_laws_58 3 rfl rfl ?_
    refine V_iload (q := 61) hX dX9_laws_59 4 rfl rfl ?_
    obtain ⟨r30, σ29, e31, h⟩ := bnd_some h
    refine V_cvI (n := 95) (c := 9) (nf := 39) (C := RX9) (T := TX9) (As := [.int (a1), .int ((a2 / (10 : Int32))), .int ((jrem a2 (10 : Int32))), .int (a3), .int (a4)]) (q := 64) hX (c9_unlike hX.2.2.2.2.1 hN e31) (goodV_of k5_229 k5_231 kp_62 k1_16 (cons_g k5_232)) (nA := 5) (by decide) rfl rfl rfl rfl rfl ⟨rfl, by decide⟩ hN rfl rfl rfl dX9_laws_61 rfl ?_
    refine V_iconst (v := -1) (q := 65) hX dX9_laws_64 (by decide) rfl ?_
    refine V_icmp_ne (q := 68) (t := 75) hX dX9_laws_65 (by decide) rfl (fun z32 => ?_) (fun z32 => ?_)
    · have h := ite_f z32 h
      refine V_iconst (v := 0) (q := 76) hX dX9_laws_75 (by decide) rfl ?_
      refine V.pick [0, 1, 2, 3, 4, 5, 7] rfl ?_
      exact v9_laws_76 hX hN hQ ih x6 x8 x7 (0 : Int32) σ29 h
    have h := ite_t z32 h
    refine V_iconst (v := 1) (q := 69) hX dX9_laws_68 (by decide) rfl ?_
    refine V_iload (q := 71) hX dX9_laws_69 7 rfl rfl ?_
    refine V_ishl (q := 72) hX dX9_laws_71 rfl ?_
    refine V_goto hX dX9_laws_72 (q := 76) (by decide) ?_
    refine V.pick [0, 1, 2, 3, 4, 5, 7] rfl ?_
    exact v9_laws_76 hX hN hQ ih x6 x8 x7 ((1 : Int32) <<< (x8 &&& 31)) σ29 h
theorem v9_laws_31 {g : GT} {X : XT} {a1 : Int32} {a2 : Int32} {a3 : Int32} {a4 : Int32} (hX : OkX g X (m9_laws)) (hN : 95 ≤ g.N) {res : Int32 × St} (hQ : X.Q = QI g X res.1 res.2 ∧ X.cells = 0 ∧ X.slots = 0) (x6 : Int32) (x7 : Int32) (x8 : Int32) (σ : St) (h : S9_laws_31 a1 a2 a3 a4 4096 x6 x7 x8 σ = some res) : V g X (m9_laws) 31 [(0, .ref (g.ad (75))), (1, .int (a1)), (2, .int (a2)), (3, .int (a3)), (4, .int (a4)), (6, .int (x6)), (7, .int (x7)), (8, .int (x8))] [] σ := v9_laws_31n hX hN hQ 4096 x6 x7 x8 σ h
set_option maxRecDepth 100000 in
set_option maxHeartbeats 4000000 in
theorem v9_laws {g : GT} {X : XT} {a1 : Int32} {a2 : Int32} {a3 : Int32} {a4 : Int32} (hX : OkX g X (m9_laws)) (hN : 95 ≤ g.N) {res : Int32 × St} (hQ : X.Q = QI g X res.1 res.2 ∧ X.cells = 0 ∧ X.slots = 0) {σ : St} (h : S9_laws a1 a2 a3 a4 σ = some res) : V g X (m9_laws) 0 [(0, .ref (g.ad (75))), (1, .int (a1)), (2, .int (a2)), (3, .int (a3)), (4, .int (a4))] [] σ := by
  unfold S9_laws at h
  refine V_aload_n (q := 1) hX dX9_laws_0 0 rfl rfl ?_
  refine V_iload_n (q := 2) hX dX9_laws_1 1 rfl rfl ?_
  refine V_iload_n (q := 3) hX dX9_laws_2 2 rfl rfl ?_
  refine V_iload_n (q := 4) hX dX9_laws_3 3 rfl rfl ?_
  refine V_iload (q := 6) hX dX9_laws_4 4 rfl rfl ?_
  obtain ⟨r34, σ33, e35, h⟩ := bnd_some h
  refine V_cvI (n := 95) (c := 9) (nf := 39) (C := RX9) (T := TX9) (As := [.int (a1), .int (a2), .int (a3), .int (a4)]) (q := 9) hX (c9_toldWrong hX.2.2.2.2.1 hN e35) (goodV_of k5_221 k5_223 kp_60 k1_16 (cons_g k5_224)) (nA := 4) (by decide) rfl rfl rfl rfl rfl ⟨rfl, by decide⟩ hN rfl rfl rfl dX9_laws_6 rfl ?_
  refine V_istore (lv' := [(5, .int (r34)), (0, .ref (g.ad (75))), (1, .int (a1)), (2, .int (a2)), (3, .int (a3)), (4, .int (a4))]) (q := 11) hX dX9_laws_9 rfl rfl rfl ?_
  refine V_iload (q := 13) hX dX9_laws_11 0 rfl rfl ?_
  refine V_if_eq (q := 16) (t := 19) hX dX9_laws_13 (by decide) rfl (fun z36 => ?_) (fun z36 => ?_)
  · have h := ite_t z36 h
    refine V_aload_n (q := 20) hX dX9_laws_19 1 rfl rfl ?_
    refine V_getI (n := 95) (c := 9) (k := 10) (nf := 39) (C := RX9) (T := TX9) (q := 23) hX rfl rfl iG9 k4_192 rfl rfl ⟨rfl, by decide⟩ hN rfl rfl dX9_laws_20 rfl ?_
    refine V_istore (lv' := [(6, .int ((gI σ33 75 10))), (5, .int (r34)), (0, .ref (g.ad (75))), (1, .int (a1)), (2, .int (a2)), (3, .int (a3)), (4, .int (a4))]) (q := 25) hX dX9_laws_23 rfl rfl rfl ?_
    refine V_iconst (v := 0) (q := 26) hX dX9_laws_25 (by decide) rfl ?_
    refine V_istore (lv' := [(7, .int ((0 : Int32))), (6, .int ((gI σ33 75 10))), (5, .int (r34)), (0, .ref (g.ad (75))), (1, .int (a1)), (2, .int (a2)), (3, .int (a3)), (4, .int (a4))]) (q := 28) hX dX9_laws_26 rfl rfl rfl ?_
    refine V_iconst (v := 0) (q := 29) hX dX9_laws_28 (by decide) rfl ?_
    refine V_istore (lv' := [(8, .int ((0 : Int32))), (7, .int ((0 : Int32))), (6, .int ((gI σ33 75 10))), (5, .int (r34)), (0, .ref (g.ad (75))), (1, .int (a1)), (2, .int (a2)), (3, .int (a3)), (4, .int (a4))]) (q := 31) hX dX9_laws_29 rfl rfl rfl ?_
    refine V.pick [4, 5, 6, 7, 8, 2, 1, 0] rfl ?_
    exact v9_laws_31 hX hN hQ (gI σ33 75 10) (0 : Int32) (0 : Int32) σ33 h
  have h := ite_f z36 h
  refine V_iload (q := 18) hX dX9_laws_16 0 rfl rfl ?_
  obtain ⟨f1, f2⟩ := some2 h
  rw [f1, f2] at hQ
  exact V_iret hX hQ rfl dX9_laws_18
set_option maxRecDepth 100000 in
set_option maxHeartbeats 4000000 in
theorem c9_laws {g : GT} {l : Launch} (hg : OkG g) (hN : 95 ≤ g.N) {a1 : Int32} {a2 : Int32} {a3 : Int32} {a4 : Int32} {σ : St} {r : Int32} {σ' : St} (h : S9_laws a1 a2 a3 a4 σ = some (r, σ')) : CtI g l m9_laws yX9_laws [.ref (g.ad (75)), .int (a1), .int (a2), .int (a3), .int (a4)] σ r σ' := CtI.of hg (by decide) rfl rfl (fun X h1 h2 h3 => v9_laws h1 hN (res := (r, σ')) h3 h)

abbrev m9_whose : MI := (cX9_whose, RX9, 8, some .int, 8)
def S9_whose_90 (a1 : Int32) (a2 : Int32) (a3 : Int32) (a4 : Int32) (k50 : Int32 → Int32 → St → Option (Int32 × St)) (x7 : Int32) (s0 : Int32) (s1 : Int32) (σ : St) : Option (Int32 × St) := k50 (s0 ||| s1) (x7 + 1) σ
def S9_whose_89 (a1 : Int32) (a2 : Int32) (a3 : Int32) (a4 : Int32) (k50 : Int32 → Int32 → St → Option (Int32 × St)) (x7 : Int32) (s0 : Int32) (σ : St) : Option (Int32 × St) := S9_whose_90 a1 a2 a3 a4 k50 x7 s0 (0 : Int32) σ
def B9_whose_50 (a1 : Int32) (a2 : Int32) (a3 : Int32) (a4 : Int32) (rec : Int32 → Int32 → St → Option (Int32 × St)) (x6 : Int32) (x7 : Int32) (σ : St) : Option (Int32 × St) := if (gI σ 75 0) ≤ x7 then (some (x6, σ)) else (if x7 = a2 then (S9_whose_89 a1 a2 a3 a4 rec x7 x6 σ) else (bnd (S9_unlike a1 a2 x7 a3 a4 σ) fun r70 σ69 => if r70 = (-1 : Int32) then (S9_whose_90 a1 a2 a3 a4 rec x7 x6 ((1 : Int32) <<< (x7 &&& 31)) σ69) else (S9_whose_89 a1 a2 a3 a4 rec x7 x6 σ69)))
def S9_whose_50 (a1 : Int32) (a2 : Int32) (a3 : Int32) (a4 : Int32) : Nat → Int32 → Int32 → St → Option (Int32 × St)
  | 0, _, _, _ => none
  | n + 1, x6, x7, σ => B9_whose_50 a1 a2 a3 a4 (S9_whose_50 a1 a2 a3 a4 n) x6 x7 σ
def S9_whose (a1 : Int32) (a2 : Int32) (a3 : Int32) (a4 : Int32) (σ : St) : Option (Int32 × St) := bnd (S9_sheetWrong a1 σ) fun r74 σ73 => if r74 = 0 then (bnd (S9_isMan a2 σ73) fun r78 σ77 => if r78 = 0 then (some ((-5 : Int32), σ77)) else (bnd (S9_isPlan a3 σ77) fun r82 σ81 => if r82 = 0 then (some ((-7 : Int32), σ81)) else (bnd (S9_isPlan a4 σ81) fun r86 σ85 => if r86 = 0 then (some ((-7 : Int32), σ85)) else (S9_whose_50 a1 a2 a3 a4 4096 (0 : Int32) (0 : Int32) σ85)))) else (some (r74, σ73))
set_option maxRecDepth 100000 in
set_option maxHeartbeats 4000000 in
theorem v9_whose_90 {g : GT} {X : XT} {a1 : Int32} {a2 : Int32} {a3 : Int32} {a4 : Int32} (hX : OkX g X (m9_whose)) (hN : 95 ≤ g.N) {res : Int32 × St} (hQ : X.Q = QI g X res.1 res.2 ∧ X.cells = 0 ∧ X.slots = 0)  {k50 : Int32 → Int32 → St → Option (Int32 × St)} (hk50 : ∀ (x6 : Int32) (x7 : Int32) (σ : St), k50 x6 x7 σ = some res → V g X (m9_whose) 50 [(0, .ref (g.ad (75))), (1, .int (a1)), (2, .int (a2)), (3, .int (a3)), (4, .int (a4)), (6, .int (x6)), (7, .int (x7))] [] σ) (x7 : Int32) (s0 : Int32) (s1 : Int32) (σ : St)  (h : S9_whose_90 a1 a2 a3 a4 k50 x7 s0 s1 σ = some res) : V g X (m9_whose) 90 [(0, .ref (g.ad (75))), (1, .int (a1)), (2, .int (a2)), (3, .int (a3)), (4, .int (a4)), (7, .int (x7))] [.int (s1), .int (s0)] σ := by
  unfold S9_whose_90 at h
  refine V_ior (q := 91) hX dX9_whose_90 rfl ?_
  refine V_istore (lv' := [(6, .int ((s0 ||| s1))), (0, .ref (g.ad (75))), (1, .int (a1)), (2, .int (a2)), (3, .int (a3)), (4, .int (a4)), (7, .int (x7))]) (q := 93) hX dX9_whose_91 rfl rfl rfl ?_
  refine V_iinc (v := (x7 + 1)) (lv' := [(7, .int ((x7 + 1))), (6, .int ((s0 ||| s1))), (0, .ref (g.ad (75))), (1, .int (a1)), (2, .int (a2)), (3, .int (a3)), (4, .int (a4))]) (q := 96) hX dX9_whose_93 6 rfl (by rfl) rfl rfl rfl ?_
  refine V_goto hX dX9_whose_96 (q := 50) (by decide) ?_
  refine V.pick [2, 3, 4, 5, 6, 1, 0] rfl ?_
  exact hk50 (s0 ||| s1) (x7 + 1) σ  h
set_option maxRecDepth 100000 in
set_option maxHeartbeats 4000000 in
theorem v9_whose_89 {g : GT} {X : XT} {a1 : Int32} {a2 : Int32} {a3 : Int32} {a4 : Int32} (hX : OkX g X (m9_whose)) (hN : 95 ≤ g.N) {res : Int32 × St} (hQ : X.Q = QI g X res.1 res.2 ∧ X.cells = 0 ∧ X.slots = 0)  {k50 : Int32 → Int32 → St → Option (Int32 × St)} (hk50 : ∀ (x6 : Int32) (x7 : Int32) (σ : St), k50 x6 x7 σ = some res → V g X (m9_whose) 50 [(0, .ref (g.ad (75))), (1, .int (a1)), (2, .int (a2)), (3, .int (a3)), (4, .int (a4)), (6, .int (x6)), (7, .int (x7))] [] σ) (x7 : Int32) (s0 : Int32) (σ : St)  (h : S9_whose_89 a1 a2 a3 a4 k50 x7 s0 σ = some res) : V g X (m9_whose) 89 [(0, .ref (g.ad (75))), (1, .int (a1)), (2, .int (a2)), (3, .int (a3)), (4, .int (a4)), (7, .int (x7))] [.int (s0)] σ := by
  unfold S9_whose_89 at h
  refine V_iconst (v := 0) (q := 90) hX dX9_whose_89 (by decide) rfl ?_
  refine V.pick [0, 1, 2, 3, 4, 5] rfl ?_
  exact v9_whose_90 hX hN hQ hk50 x7 s0 (0 : Int32) σ h
set_option maxRecDepth 100000 in
set_option maxHeartbeats 4000000 in
theorem v9_whose_50n {g : GT} {X : XT} {a1 : Int32} {a2 : Int32} {a3 : Int32} {a4 : Int32} (hX : OkX g X (m9_whose)) (hN : 95 ≤ g.N) {res : Int32 × St} (hQ : X.Q = QI g X res.1 res.2 ∧ X.cells = 0 ∧ X.slots = 0)   (n : Nat) : ∀ (x6 : Int32) (x7 : Int32) (σ : St) , S9_whose_50 a1 a2 a3 a4 n x6 x7 σ = some res → V g X (m9_whose) 50 [(0, .ref (g.ad (75))), (1, .int (a1)), (2, .int (a2)), (3, .int (a3)), (4, .int (a4)), (6, .int (x6)), (7, .int (x7))] [] σ := by
  induction n with
  | zero => intro x6 x7 σ; intro h; cases h
  | succ n ih =>
    intro x6 x7 σ h
    have h : B9_whose_50 a1 a2 a3 a4 (S9_whose_50 a1 a2 a3 a4 n) x6 x7 σ = some res := h
    unfold B9_whose_50 at h
    refine V_iload (q := 52) hX dX9_whose_50 6 rfl rfl ?_
    refine V_aload_n (q := 53) hX dX9_whose_52 0 rfl rfl ?_
    refine V_getI (n := 95) (c := 9) (k := 0) (nf := 39) (C := RX9) (T := TX9) (q := 56) hX rfl rfl iG9 k4_182 rfl rfl ⟨rfl, by decide⟩ hN rfl rfl dX9_whose_53 rfl ?_
    refine V_icmp_ge (q := 59) (t := 99) hX dX9_whose_56 (by decide) rfl (fun z67 => ?_) (fun z67 => ?_)
    · have h := ite_t z67 h
      refine V_iload (q := 101) hX dX9_whose_99 5 rfl rfl ?_
      obtain ⟨f1, f2⟩ := some2 h
      rw [f1, f2] at hQ
      exact V_iret hX hQ rfl dX9_whose_101
    have h := ite_f z67 h
    refine V_iload (q := 61) hX dX9_whose_59 5 rfl rfl ?_
    refine V_iload (q := 63) hX dX9_whose_61 6 rfl rfl ?_
    refine V_iload_n (q := 64) hX dX9_whose_63 2 rfl rfl ?_
    refine V_icmp_eq (q := 67) (t := 89) hX dX9_whose_64 (by decide) rfl (fun z68 => ?_) (fun z68 => ?_)
    · have h := ite_t z68 h
      refine V.pick [0, 1, 2, 3, 4, 6] rfl ?_
      exact v9_whose_89 hX hN hQ ih x7 x6 σ h
    have h := ite_f z68 h
    refine V_aload_n (q := 68) hX dX9_whose_67 0 rfl rfl ?_
    refine V_iload_n (q := 69) hX dX9_whose_68 1 rfl rfl ?_
    refine V_iload_n (q := 70) hX dX9_whose_69 2 rfl rfl ?_
    refine V_iload (q := 72) hX dX9_whose_70 6 rfl rfl ?_
    refine V_iload_n (q := 73) hX dX9_whose_72 3 rfl rfl ?_
    refine V_iload (q := 75) hX dX9_whose_73 4 rfl rfl ?_
    obtain ⟨r70, σ69, e71, h⟩ := bnd_some h
    refine V_cvI (n := 95) (c := 9) (nf := 39) (C := RX9) (T := TX9) (As := [.int (a1), .int (a2), .int (x7), .int (a3), .int (a4)]) (q := 78) hX (c9_unlike hX.2.2.2.2.1 hN e71) (goodV_of k5_229 k5_231 kp_62 k1_16 (cons_g k5_232)) (nA := 5) (by decide) rfl rfl rfl rfl rfl ⟨rfl, by decide⟩ hN rfl rfl rfl dX9_whose_75 rfl ?_
    refine V_iconst (v := -1) (q := 79) hX dX9_whose_78 (by decide) rfl ?_
    refine V_icmp_ne (q := 82) (t := 89) hX dX9_whose_79 (by decide) rfl (fun z72 => ?_) (fun z72 => ?_)
    · have h := ite_f z72 h
      refine V.pick [0, 1, 2, 3, 4, 6] rfl ?_
      exact v9_whose_89 hX hN hQ ih x7 x6 σ69 h
    have h := ite_t z72 h
    refine V_iconst (v := 1) (q := 83) hX dX9_whose_82 (by decide) rfl ?_
    refine V_iload (q := 85) hX dX9_whose_83 6 rfl rfl ?_
    refine V_ishl (q := 86) hX dX9_whose_85 rfl ?_
    refine V_goto hX dX9_whose_86 (q := 90) (by decide) ?_
    refine V.pick [0, 1, 2, 3, 4, 6] rfl ?_
    exact v9_whose_90 hX hN hQ ih x7 x6 ((1 : Int32) <<< (x7 &&& 31)) σ69 h
theorem v9_whose_50 {g : GT} {X : XT} {a1 : Int32} {a2 : Int32} {a3 : Int32} {a4 : Int32} (hX : OkX g X (m9_whose)) (hN : 95 ≤ g.N) {res : Int32 × St} (hQ : X.Q = QI g X res.1 res.2 ∧ X.cells = 0 ∧ X.slots = 0) (x6 : Int32) (x7 : Int32) (σ : St) (h : S9_whose_50 a1 a2 a3 a4 4096 x6 x7 σ = some res) : V g X (m9_whose) 50 [(0, .ref (g.ad (75))), (1, .int (a1)), (2, .int (a2)), (3, .int (a3)), (4, .int (a4)), (6, .int (x6)), (7, .int (x7))] [] σ := v9_whose_50n hX hN hQ 4096 x6 x7 σ h
set_option maxRecDepth 100000 in
set_option maxHeartbeats 4000000 in
theorem v9_whose {g : GT} {X : XT} {a1 : Int32} {a2 : Int32} {a3 : Int32} {a4 : Int32} (hX : OkX g X (m9_whose)) (hN : 95 ≤ g.N) {res : Int32 × St} (hQ : X.Q = QI g X res.1 res.2 ∧ X.cells = 0 ∧ X.slots = 0) {σ : St} (h : S9_whose a1 a2 a3 a4 σ = some res) : V g X (m9_whose) 0 [(0, .ref (g.ad (75))), (1, .int (a1)), (2, .int (a2)), (3, .int (a3)), (4, .int (a4))] [] σ := by
  unfold S9_whose at h
  refine V_aload_n (q := 1) hX dX9_whose_0 0 rfl rfl ?_
  refine V_iload_n (q := 2) hX dX9_whose_1 1 rfl rfl ?_
  obtain ⟨r74, σ73, e75, h⟩ := bnd_some h
  refine V_cvI (n := 95) (c := 9) (nf := 39) (C := RX9) (T := TX9) (As := [.int (a1)]) (q := 5) hX (c9_sheetWrong hX.2.2.2.2.1 hN e75) (goodV_of k5_225 k5_227 kp_61 k1_16 (cons_g k5_228)) (nA := 1) (by decide) rfl rfl rfl rfl rfl ⟨rfl, by decide⟩ hN rfl rfl rfl dX9_whose_2 rfl ?_
  refine V_istore (lv' := [(5, .int (r74)), (0, .ref (g.ad (75))), (1, .int (a1)), (2, .int (a2)), (3, .int (a3)), (4, .int (a4))]) (q := 7) hX dX9_whose_5 rfl rfl rfl ?_
  refine V_iload (q := 9) hX dX9_whose_7 0 rfl rfl ?_
  refine V_if_eq (q := 12) (t := 15) hX dX9_whose_9 (by decide) rfl (fun z76 => ?_) (fun z76 => ?_)
  · have h := ite_t z76 h
    refine V_aload_n (q := 16) hX dX9_whose_15 1 rfl rfl ?_
    refine V_iload_n (q := 17) hX dX9_whose_16 3 rfl rfl ?_
    obtain ⟨r78, σ77, e79, h⟩ := bnd_some h
    refine V_cvI (n := 95) (c := 9) (nf := 39) (C := RX9) (T := TX9) (As := [.int (a2)]) (q := 20) hX (c9_isMan hX.2.2.2.2.1 hN e79) (goodV_of k5_80 k5_82 kp_42 k1_16 (cons_g k5_83)) (nA := 1) (by decide) rfl rfl rfl rfl rfl ⟨rfl, by decide⟩ hN rfl rfl rfl dX9_whose_17 rfl ?_
    refine V_if_ne (q := 23) (t := 26) hX dX9_whose_20 (by decide) rfl (fun z80 => ?_) (fun z80 => ?_)
    · have h := ite_f z80 h
      refine V_iload_n (q := 27) hX dX9_whose_26 4 rfl rfl ?_
      obtain ⟨r82, σ81, e83, h⟩ := bnd_some h
      refine V_csI (As := [.int (a3)]) (q := 30) hX (c9_isPlan hX.2.2.2.2.1 hN e83) (goodS_of k5_122 k5_123 k1_16 (cons_g k5_124)) (nA := 1) (by decide) rfl rfl rfl rfl rfl dX9_whose_27 rfl ?_
      refine V_if_eq (q := 33) (t := 41) hX dX9_whose_30 (by decide) rfl (fun z84 => ?_) (fun z84 => ?_)
      · have h := ite_t z84 h
        refine V_bipush (v := -7) (q := 43) hX dX9_whose_41 (by decide) rfl ?_
        obtain ⟨f1, f2⟩ := some2 h
        rw [f1, f2] at hQ
        exact V_iret hX hQ rfl dX9_whose_43
      have h := ite_f z84 h
      refine V_iload (q := 35) hX dX9_whose_33 5 rfl rfl ?_
      obtain ⟨r86, σ85, e87, h⟩ := bnd_some h
      refine V_csI (As := [.int (a4)]) (q := 38) hX (c9_isPlan hX.2.2.2.2.1 hN e87) (goodS_of k5_122 k5_123 k1_16 (cons_g k5_124)) (nA := 1) (by decide) rfl rfl rfl rfl rfl dX9_whose_35 rfl ?_
      refine V_if_ne (q := 41) (t := 44) hX dX9_whose_38 (by decide) rfl (fun z88 => ?_) (fun z88 => ?_)
      · have h := ite_f z88 h
        refine V_iconst (v := 0) (q := 45) hX dX9_whose_44 (by decide) rfl ?_
        refine V_istore (lv' := [(6, .int ((0 : Int32))), (5, .int (r74)), (0, .ref (g.ad (75))), (1, .int (a1)), (2, .int (a2)), (3, .int (a3)), (4, .int (a4))]) (q := 47) hX dX9_whose_45 rfl rfl rfl ?_
        refine V_iconst (v := 0) (q := 48) hX dX9_whose_47 (by decide) rfl ?_
        refine V_istore (lv' := [(7, .int ((0 : Int32))), (6, .int ((0 : Int32))), (5, .int (r74)), (0, .ref (g.ad (75))), (1, .int (a1)), (2, .int (a2)), (3, .int (a3)), (4, .int (a4))]) (q := 50) hX dX9_whose_48 rfl rfl rfl ?_
        refine V.pick [3, 4, 5, 6, 7, 1, 0] rfl ?_
        exact v9_whose_50 hX hN hQ (0 : Int32) (0 : Int32) σ85 h
      have h := ite_t z88 h
      refine V_bipush (v := -7) (q := 43) hX dX9_whose_41 (by decide) rfl ?_
      obtain ⟨f1, f2⟩ := some2 h
      rw [f1, f2] at hQ
      exact V_iret hX hQ rfl dX9_whose_43
    have h := ite_t z80 h
    refine V_bipush (v := -5) (q := 25) hX dX9_whose_23 (by decide) rfl ?_
    obtain ⟨f1, f2⟩ := some2 h
    rw [f1, f2] at hQ
    exact V_iret hX hQ rfl dX9_whose_25
  have h := ite_f z76 h
  refine V_iload (q := 14) hX dX9_whose_12 0 rfl rfl ?_
  obtain ⟨f1, f2⟩ := some2 h
  rw [f1, f2] at hQ
  exact V_iret hX hQ rfl dX9_whose_14
set_option maxRecDepth 100000 in
set_option maxHeartbeats 4000000 in
theorem c9_whose {g : GT} {l : Launch} (hg : OkG g) (hN : 95 ≤ g.N) {a1 : Int32} {a2 : Int32} {a3 : Int32} {a4 : Int32} {σ : St} {r : Int32} {σ' : St} (h : S9_whose a1 a2 a3 a4 σ = some (r, σ')) : CtI g l m9_whose yX9_whose [.ref (g.ad (75)), .int (a1), .int (a2), .int (a3), .int (a4)] σ r σ' := CtI.of hg (by decide) rfl rfl (fun X h1 h2 h3 => v9_whose h1 hN (res := (r, σ')) h3 h)

abbrev m9_film : MI := (cX9_film, RX9, 6, some .int, 7)
def S9_film_122 (a1 : Int32) (a2 : Int32) (a3 : Int32) (a4 : Int32) (k76 : Int32 → St → Option (Int32 × St)) (x5 : Int32) (s1 : Int32) (s2 : Int32) (σ : St) : Option (Int32 × St) := if inb s1 160 then (k76 (x5 + 1) (sI σ 86 (s1).toNatClampNeg s2)) else none
def B9_film_76 (a1 : Int32) (a2 : Int32) (a3 : Int32) (a4 : Int32) (rec : Int32 → St → Option (Int32 × St)) (x5 : Int32) (σ : St) : Option (Int32 × St) := if (40 : Int32) ≤ x5 then (some ((gI σ 75 36), σ)) else (if (gI σ 75 36) ≤ x5 then (S9_film_122 a1 a2 a3 a4 rec x5 (((40 : Int32) * a1) + x5) (0 : Int32) σ) else (bnd (S9_within (x5 + (1 : Int32)) (0 : Int32) (9 : Int32) σ) fun r89 σ88 => if inb r89 10 then (S9_film_122 a1 a2 a3 a4 rec x5 (((40 : Int32) * a1) + x5) (gI σ88 93 (r89).toNatClampNeg) σ88) else none))
def S9_film_76 (a1 : Int32) (a2 : Int32) (a3 : Int32) (a4 : Int32) : Nat → Int32 → St → Option (Int32 × St)
  | 0, _, _ => none
  | n + 1, x5, σ => B9_film_76 a1 a2 a3 a4 (S9_film_76 a1 a2 a3 a4 n) x5 σ
def S9_film (a1 : Int32) (a2 : Int32) (a3 : Int32) (a4 : Int32) (σ : St) : Option (Int32 × St) := bnd (S9_in a1 (0 : Int32) (3 : Int32) σ) fun r93 σ92 => if r93 = 0 then (some ((-2 : Int32), σ92)) else (bnd (S9_areTwoMen a2 σ92) fun r97 σ96 => if r97 = 0 then (some ((-5 : Int32), σ96)) else (bnd (S9_isPlan a3 σ96) fun r101 σ100 => if r101 = 0 then (some ((-7 : Int32), σ100)) else (bnd (S9_isPlan a4 σ100) fun r105 σ104 => if r105 = 0 then (some ((-7 : Int32), σ104)) else (bnd (S9_bout0 (a2 / (10 : Int32)) (jrem a2 (10 : Int32)) a3 a4 σ104) fun r109 σ108 => if inb a1 4 then (if inb a1 4 then (S9_film_76 a1 a2 a3 a4 4096 (0 : Int32) (sI (sI σ108 84 (a1).toNatClampNeg (0 : Int32)) 85 (a1).toNatClampNeg (gI (sI σ108 84 (a1).toNatClampNeg (0 : Int32)) 75 36))) else none) else none))))
set_option maxRecDepth 100000 in
set_option maxHeartbeats 4000000 in
theorem v9_film_122 {g : GT} {X : XT} {a1 : Int32} {a2 : Int32} {a3 : Int32} {a4 : Int32} (hX : OkX g X (m9_film)) (hN : 95 ≤ g.N) {res : Int32 × St} (hQ : X.Q = QI g X res.1 res.2 ∧ X.cells = 0 ∧ X.slots = 0)  {k76 : Int32 → St → Option (Int32 × St)} (hk76 : ∀ (x5 : Int32) (σ : St), k76 x5 σ = some res → V g X (m9_film) 76 [(0, .ref (g.ad (75))), (1, .int (a1)), (5, .int (x5))] [] σ) (x5 : Int32) (s1 : Int32) (s2 : Int32) (σ : St)  (h : S9_film_122 a1 a2 a3 a4 k76 x5 s1 s2 σ = some res) : V g X (m9_film) 122 [(0, .ref (g.ad (75))), (1, .int (a1)), (5, .int (x5))] [.int (s2), .int (s1), .ref (g.ad (86))] σ := by
  unfold S9_film_122 at h
  obtain ⟨z85, h⟩ := chk_t h
  refine V_iast (n := 95) (len := 160) (q := 123) hX ⟨rfl, rfl, by decide⟩ hN z85 dX9_film_122 rfl ?_
  refine V_iinc (v := (x5 + 1)) (lv' := [(5, .int ((x5 + 1))), (0, .ref (g.ad (75))), (1, .int (a1))]) (q := 126) hX dX9_film_123 2 rfl (by rfl) rfl rfl rfl ?_
  refine V_goto hX dX9_film_126 (q := 76) (by decide) ?_
  refine V.pick [1, 2, 0] rfl ?_
  exact hk76 (x5 + 1) (sI σ 86 (s1).toNatClampNeg s2)  h
set_option maxRecDepth 100000 in
set_option maxHeartbeats 4000000 in
theorem v9_film_76n {g : GT} {X : XT} {a1 : Int32} {a2 : Int32} {a3 : Int32} {a4 : Int32} (hX : OkX g X (m9_film)) (hN : 95 ≤ g.N) {res : Int32 × St} (hQ : X.Q = QI g X res.1 res.2 ∧ X.cells = 0 ∧ X.slots = 0)   (n : Nat) : ∀ (x5 : Int32) (σ : St) , S9_film_76 a1 a2 a3 a4 n x5 σ = some res → V g X (m9_film) 76 [(0, .ref (g.ad (75))), (1, .int (a1)), (5, .int (x5))] [] σ := by
  induction n with
  | zero => intro x5 σ; intro h; cases h
  | succ n ih =>
    intro x5 σ h
    have h : B9_film_76 a1 a2 a3 a4 (S9_film_76 a1 a2 a3 a4 n) x5 σ = some res := h
    unfold B9_film_76 at h
    refine V_iload (q := 78) hX dX9_film_76 2 rfl rfl ?_
    refine V_bipush (v := 40) (q := 80) hX dX9_film_78 (by decide) rfl ?_
    refine V_icmp_ge (q := 83) (t := 129) hX dX9_film_80 (by decide) rfl (fun z86 => ?_) (fun z86 => ?_)
    · have h := ite_t z86 h
      refine V_aload_n (q := 130) hX dX9_film_129 0 rfl rfl ?_
      refine V_getI (n := 95) (c := 9) (k := 36) (nf := 39) (C := RX9) (T := TX9) (q := 133) hX rfl rfl iG9 k4_218 rfl rfl ⟨rfl, by decide⟩ hN rfl rfl dX9_film_130 rfl ?_
      obtain ⟨f1, f2⟩ := some2 h
      rw [f1, f2] at hQ
      exact V_iret hX hQ rfl dX9_film_133
    have h := ite_f z86 h
    refine V_aload_n (q := 84) hX dX9_film_83 0 rfl rfl ?_
    refine V_getF (r := 86) (n := 95) (c := 9) (k := 16) (nf := 39) (C := RX9) (T := TX9) (q := 87) hX rfl rfl iG9 k4_198 rfl rfl ⟨rfl, by decide⟩ hN rfl rfl rfl rfl dX9_film_84 rfl ?_
    refine V_bipush (v := 40) (q := 89) hX dX9_film_87 (by decide) rfl ?_
    refine V_iload_n (q := 90) hX dX9_film_89 1 rfl rfl ?_
    refine V_imul (q := 91) hX dX9_film_90 rfl ?_
    refine V_iload (q := 93) hX dX9_film_91 2 rfl rfl ?_
    refine V_iadd (q := 94) hX dX9_film_93 rfl ?_
    refine V_iload (q := 96) hX dX9_film_94 2 rfl rfl ?_
    refine V_aload_n (q := 97) hX dX9_film_96 0 rfl rfl ?_
    refine V_getI (n := 95) (c := 9) (k := 36) (nf := 39) (C := RX9) (T := TX9) (q := 100) hX rfl rfl iG9 k4_218 rfl rfl ⟨rfl, by decide⟩ hN rfl rfl dX9_film_97 rfl ?_
    refine V_icmp_ge (q := 103) (t := 121) hX dX9_film_100 (by decide) rfl (fun z87 => ?_) (fun z87 => ?_)
    · have h := ite_t z87 h
      refine V_iconst (v := 0) (q := 122) hX dX9_film_121 (by decide) rfl ?_
      refine V.pick [0, 1, 2] rfl ?_
      exact v9_film_122 hX hN hQ ih x5 (((40 : Int32) * a1) + x5) (0 : Int32) σ h
    have h := ite_f z87 h
    refine V_aload_n (q := 104) hX dX9_film_103 0 rfl rfl ?_
    refine V_getF (r := 93) (n := 95) (c := 9) (k := 37) (nf := 39) (C := RX9) (T := TX9) (q := 107) hX rfl rfl iG9 k4_219 rfl rfl ⟨rfl, by decide⟩ hN rfl rfl rfl rfl dX9_film_104 rfl ?_
    refine V_iload (q := 109) hX dX9_film_107 2 rfl rfl ?_
    refine V_iconst (v := 1) (q := 110) hX dX9_film_109 (by decide) rfl ?_
    refine V_iadd (q := 111) hX dX9_film_110 rfl ?_
    refine V_iconst (v := 0) (q := 112) hX dX9_film_111 (by decide) rfl ?_
    refine V_bipush (v := 9) (q := 114) hX dX9_film_112 (by decide) rfl ?_
    obtain ⟨r89, σ88, e90, h⟩ := bnd_some h
    refine V_csI (As := [.int ((x5 + (1 : Int32))), .int ((0 : Int32)), .int ((9 : Int32))]) (q := 117) hX (c9_within hX.2.2.2.2.1 hN e90) (goodS_of k5_95 k5_96 k1_16 (cons_g k5_97)) (nA := 3) (by decide) rfl rfl rfl rfl rfl dX9_film_114 rfl ?_
    obtain ⟨z91, h⟩ := chk_t h
    refine V_iald (n := 95) (len := 10) (q := 118) hX ⟨rfl, rfl, by decide⟩ hN z91 dX9_film_117 rfl ?_
    refine V_goto hX dX9_film_118 (q := 122) (by decide) ?_
    refine V.pick [0, 1, 2] rfl ?_
    exact v9_film_122 hX hN hQ ih x5 (((40 : Int32) * a1) + x5) (gI σ88 93 (r89).toNatClampNeg) σ88 h
theorem v9_film_76 {g : GT} {X : XT} {a1 : Int32} {a2 : Int32} {a3 : Int32} {a4 : Int32} (hX : OkX g X (m9_film)) (hN : 95 ≤ g.N) {res : Int32 × St} (hQ : X.Q = QI g X res.1 res.2 ∧ X.cells = 0 ∧ X.slots = 0) (x5 : Int32) (σ : St) (h : S9_film_76 a1 a2 a3 a4 4096 x5 σ = some res) : V g X (m9_film) 76 [(0, .ref (g.ad (75))), (1, .int (a1)), (5, .int (x5))] [] σ := v9_film_76n hX hN hQ 4096 x5 σ h
set_option maxRecDepth 100000 in
set_option maxHeartbeats 4000000 in
theorem v9_film {g : GT} {X : XT} {a1 : Int32} {a2 : Int32} {a3 : Int32} {a4 : Int32} (hX : OkX g X (m9_film)) (hN : 95 ≤ g.N) {res : Int32 × St} (hQ : X.Q = QI g X res.1 res.2 ∧ X.cells = 0 ∧ X.slots = 0) {σ : St} (h : S9_film a1 a2 a3 a4 σ = some res) : V g X (m9_film) 0 [(0, .ref (g.ad (75))), (1, .int (a1)), (2, .int (a2)), (3, .int (a3)), (4, .int (a4))] [] σ := by
  unfold S9_film at h
  refine V_iload_n (q := 1) hX dX9_film_0 1 rfl rfl ?_
  refine V_iconst (v := 0) (q := 2) hX dX9_film_1 (by decide) rfl ?_
  refine V_iconst (v := 3) (q := 3) hX dX9_film_2 (by decide) rfl ?_
  obtain ⟨r93, σ92, e94, h⟩ := bnd_some h
  refine V_csI (As := [.int (a1), .int ((0 : Int32)), .int ((3 : Int32))]) (q := 6) hX (c9_in hX.2.2.2.2.1 hN e94) (goodS_of k4_143 k4_144 k1_16 (cons_g k4_145)) (nA := 3) (by decide) rfl rfl rfl rfl rfl dX9_film_3 rfl ?_
  refine V_if_ne (q := 9) (t := 12) hX dX9_film_6 (by decide) rfl (fun z95 => ?_) (fun z95 => ?_)
  · have h := ite_f z95 h
    refine V_aload_n (q := 13) hX dX9_film_12 0 rfl rfl ?_
    refine V_iload_n (q := 14) hX dX9_film_13 2 rfl rfl ?_
    obtain ⟨r97, σ96, e98, h⟩ := bnd_some h
    refine V_cvI (n := 95) (c := 9) (nf := 39) (C := RX9) (T := TX9) (As := [.int (a2)]) (q := 17) hX (c9_areTwoMen hX.2.2.2.2.1 hN e98) (goodV_of k5_114 k5_116 kp_45 k1_16 (cons_g k5_117)) (nA := 1) (by decide) rfl rfl rfl rfl rfl ⟨rfl, by decide⟩ hN rfl rfl rfl dX9_film_14 rfl ?_
    refine V_if_ne (q := 20) (t := 23) hX dX9_film_17 (by decide) rfl (fun z99 => ?_) (fun z99 => ?_)
    · have h := ite_f z99 h
      refine V_iload_n (q := 24) hX dX9_film_23 3 rfl rfl ?_
      obtain ⟨r101, σ100, e102, h⟩ := bnd_some h
      refine V_csI (As := [.int (a3)]) (q := 27) hX (c9_isPlan hX.2.2.2.2.1 hN e102) (goodS_of k5_122 k5_123 k1_16 (cons_g k5_124)) (nA := 1) (by decide) rfl rfl rfl rfl rfl dX9_film_24 rfl ?_
      refine V_if_eq (q := 30) (t := 38) hX dX9_film_27 (by decide) rfl (fun z103 => ?_) (fun z103 => ?_)
      · have h := ite_t z103 h
        refine V_bipush (v := -7) (q := 40) hX dX9_film_38 (by decide) rfl ?_
        obtain ⟨f1, f2⟩ := some2 h
        rw [f1, f2] at hQ
        exact V_iret hX hQ rfl dX9_film_40
      have h := ite_f z103 h
      refine V_iload (q := 32) hX dX9_film_30 4 rfl rfl ?_
      obtain ⟨r105, σ104, e106, h⟩ := bnd_some h
      refine V_csI (As := [.int (a4)]) (q := 35) hX (c9_isPlan hX.2.2.2.2.1 hN e106) (goodS_of k5_122 k5_123 k1_16 (cons_g k5_124)) (nA := 1) (by decide) rfl rfl rfl rfl rfl dX9_film_32 rfl ?_
      refine V_if_ne (q := 38) (t := 41) hX dX9_film_35 (by decide) rfl (fun z107 => ?_) (fun z107 => ?_)
      · have h := ite_f z107 h
        refine V_aload_n (q := 42) hX dX9_film_41 0 rfl rfl ?_
        refine V_iload_n (q := 43) hX dX9_film_42 2 rfl rfl ?_
        refine V_bipush (v := 10) (q := 45) hX dX9_film_43 (by decide) rfl ?_
        refine V_idiv (q := 46) hX (by decide) dX9_film_45 rfl ?_
        refine V_iload_n (q := 47) hX dX9_film_46 2 rfl rfl ?_
        refine V_bipush (v := 10) (q := 49) hX dX9_film_47 (by decide) rfl ?_
        refine V_irem (q := 50) hX (by decide) dX9_film_49 rfl ?_
        refine V_iload_n (q := 51) hX dX9_film_50 3 rfl rfl ?_
        refine V_iload (q := 53) hX dX9_film_51 4 rfl rfl ?_
        obtain ⟨r109, σ108, e110, h⟩ := bnd_some h
        refine V_cvV (n := 95) (c := 9) (nf := 39) (C := RX9) (T := TX9) (As := [.int ((a2 / (10 : Int32))), .int ((jrem a2 (10 : Int32))), .int (a3), .int (a4)]) (q := 56) hX (c9_bout0 hX.2.2.2.2.1 hN e110) (goodV_of k5_126 k5_128 kp_47 k1_16 (cons_g k5_129)) (nA := 4) (by decide) rfl rfl rfl rfl rfl ⟨rfl, by decide⟩ hN rfl rfl rfl dX9_film_53 rfl ?_
        refine V_aload_n (q := 57) hX dX9_film_56 0 rfl rfl ?_
        refine V_getF (r := 84) (n := 95) (c := 9) (k := 14) (nf := 39) (C := RX9) (T := TX9) (q := 60) hX rfl rfl iG9 k4_196 rfl rfl ⟨rfl, by decide⟩ hN rfl rfl rfl rfl dX9_film_57 rfl ?_
        refine V_iload_n (q := 61) hX dX9_film_60 1 rfl rfl ?_
        refine V_iconst (v := 0) (q := 62) hX dX9_film_61 (by decide) rfl ?_
        obtain ⟨z111, h⟩ := chk_t h
        refine V_iast (n := 95) (len := 4) (q := 63) hX ⟨rfl, rfl, by decide⟩ hN z111 dX9_film_62 rfl ?_
        refine V_aload_n (q := 64) hX dX9_film_63 0 rfl rfl ?_
        refine V_getF (r := 85) (n := 95) (c := 9) (k := 15) (nf := 39) (C := RX9) (T := TX9) (q := 67) hX rfl rfl iG9 k4_197 rfl rfl ⟨rfl, by decide⟩ hN rfl rfl rfl rfl dX9_film_64 rfl ?_
        refine V_iload_n (q := 68) hX dX9_film_67 1 rfl rfl ?_
        refine V_aload_n (q := 69) hX dX9_film_68 0 rfl rfl ?_
        refine V_getI (n := 95) (c := 9) (k := 36) (nf := 39) (C := RX9) (T := TX9) (q := 72) hX rfl rfl iG9 k4_218 rfl rfl ⟨rfl, by decide⟩ hN rfl rfl dX9_film_69 rfl ?_
        obtain ⟨z112, h⟩ := chk_t h
        refine V_iast (n := 95) (len := 4) (q := 73) hX ⟨rfl, rfl, by decide⟩ hN z112 dX9_film_72 rfl ?_
        refine V_iconst (v := 0) (q := 74) hX dX9_film_73 (by decide) rfl ?_
        refine V_istore (lv' := [(5, .int ((0 : Int32))), (0, .ref (g.ad (75))), (1, .int (a1)), (2, .int (a2)), (3, .int (a3)), (4, .int (a4))]) (q := 76) hX dX9_film_74 rfl rfl rfl ?_
        refine V.pick [1, 2, 0] rfl ?_
        exact v9_film_76 hX hN hQ (0 : Int32) (sI (sI σ108 84 (a1).toNatClampNeg (0 : Int32)) 85 (a1).toNatClampNeg (gI (sI σ108 84 (a1).toNatClampNeg (0 : Int32)) 75 36)) h
      have h := ite_t z107 h
      refine V_bipush (v := -7) (q := 40) hX dX9_film_38 (by decide) rfl ?_
      obtain ⟨f1, f2⟩ := some2 h
      rw [f1, f2] at hQ
      exact V_iret hX hQ rfl dX9_film_40
    have h := ite_t z99 h
    refine V_bipush (v := -5) (q := 22) hX dX9_film_20 (by decide) rfl ?_
    obtain ⟨f1, f2⟩ := some2 h
    rw [f1, f2] at hQ
    exact V_iret hX hQ rfl dX9_film_22
  have h := ite_t z95 h
  refine V_bipush (v := -2) (q := 11) hX dX9_film_9 (by decide) rfl ?_
  obtain ⟨f1, f2⟩ := some2 h
  rw [f1, f2] at hQ
  exact V_iret hX hQ rfl dX9_film_11
set_option maxRecDepth 100000 in
set_option maxHeartbeats 4000000 in
theorem c9_film {g : GT} {l : Launch} (hg : OkG g) (hN : 95 ≤ g.N) {a1 : Int32} {a2 : Int32} {a3 : Int32} {a4 : Int32} {σ : St} {r : Int32} {σ' : St} (h : S9_film a1 a2 a3 a4 σ = some (r, σ')) : CtI g l m9_film yX9_film [.ref (g.ad (75)), .int (a1), .int (a2), .int (a3), .int (a4)] σ r σ' := CtI.of hg (by decide) rfl rfl (fun X h1 h2 h3 => v9_film h1 hN (res := (r, σ')) h3 h)

abbrev m9_boutBy : MI := (cX9_boutBy, RX9, 6, none, 6)
def S9_boutBy (a1 : Int32) (σ : St) : Option (Unit × St) := bnd (S9_bouts (((jlrem (jlrem ((((a1).toInt64) + (1 : Int64)) * (48271 : Int64)) (2147483647 : Int64)) (262144 : Int64))).toInt32) (((jlrem (jlrem ((jlrem ((((a1).toInt64) + (1 : Int64)) * (48271 : Int64)) (2147483647 : Int64)) * (48271 : Int64)) (2147483647 : Int64)) (262144 : Int64))).toInt32) σ) fun r5 σ4 => some ((), σ4)
set_option maxRecDepth 100000 in
set_option maxHeartbeats 4000000 in
theorem v9_boutBy {g : GT} {X : XT} {a1 : Int32} (hX : OkX g X (m9_boutBy)) (hN : 95 ≤ g.N) {res : Unit × St} (hQ : X.Q = QV g X res.2 ∧ X.cells = 0 ∧ X.slots = 0) {σ : St} (h : S9_boutBy a1 σ = some res) : V g X (m9_boutBy) 0 [(0, .ref (g.ad (75))), (1, .int (a1))] [] σ := by
  unfold S9_boutBy at h
  refine V_iload_n (q := 1) hX dX9_boutBy_0 1 rfl rfl ?_
  refine V_i2l (q := 2) hX dX9_boutBy_1 rfl ?_
  refine V_lconst (v := 1) (q := 3) hX dX9_boutBy_2 (by decide) rfl ?_
  refine V_ladd (q := 4) hX dX9_boutBy_3 rfl ?_
  refine V_ldc2 (v := 48271) (q := 7) hX k6_26 dX9_boutBy_4 rfl ?_
  refine V_lmul (q := 8) hX dX9_boutBy_7 rfl ?_
  refine V_ldc2 (v := 2147483647) (q := 11) hX k6_27 dX9_boutBy_8 rfl ?_
  refine V_lrem (q := 12) hX (by decide) dX9_boutBy_11 rfl ?_
  refine V_lstore_n (lv' := [(2, .long ((jlrem ((((a1).toInt64) + (1 : Int64)) * (48271 : Int64)) (2147483647 : Int64)))), (0, .ref (g.ad (75))), (1, .int (a1))]) (q := 13) hX dX9_boutBy_12 rfl rfl rfl ?_
  refine V_lload_n (q := 14) hX dX9_boutBy_13 0 rfl rfl ?_
  refine V_ldc2 (v := 48271) (q := 17) hX k6_26 dX9_boutBy_14 rfl ?_
  refine V_lmul (q := 18) hX dX9_boutBy_17 rfl ?_
  refine V_ldc2 (v := 2147483647) (q := 21) hX k6_27 dX9_boutBy_18 rfl ?_
  refine V_lrem (q := 22) hX (by decide) dX9_boutBy_21 rfl ?_
  refine V_lstore (lv' := [(4, .long ((jlrem ((jlrem ((((a1).toInt64) + (1 : Int64)) * (48271 : Int64)) (2147483647 : Int64)) * (48271 : Int64)) (2147483647 : Int64)))), (2, .long ((jlrem ((((a1).toInt64) + (1 : Int64)) * (48271 : Int64)) (2147483647 : Int64)))), (0, .ref (g.ad (75))), (1, .int (a1))]) (q := 24) hX dX9_boutBy_22 rfl rfl rfl ?_
  refine V_aload_n (q := 25) hX dX9_boutBy_24 2 rfl rfl ?_
  refine V_lload_n (q := 26) hX dX9_boutBy_25 1 rfl rfl ?_
  refine V_ldc2 (v := 262144) (q := 29) hX k6_28 dX9_boutBy_26 rfl ?_
  refine V_lrem (q := 30) hX (by decide) dX9_boutBy_29 rfl ?_
  refine V_l2i (q := 31) hX dX9_boutBy_30 rfl ?_
  refine V_lload (q := 33) hX dX9_boutBy_31 0 rfl rfl ?_
  refine V_ldc2 (v := 262144) (q := 36) hX k6_28 dX9_boutBy_33 rfl ?_
  refine V_lrem (q := 37) hX (by decide) dX9_boutBy_36 rfl ?_
  refine V_l2i (q := 38) hX dX9_boutBy_37 rfl ?_
  obtain ⟨r5, σ4, e6, h⟩ := bnd_some h
  refine V_cvV (n := 95) (c := 9) (nf := 39) (C := RX9) (T := TX9) (As := [.int ((((jlrem (jlrem ((((a1).toInt64) + (1 : Int64)) * (48271 : Int64)) (2147483647 : Int64)) (262144 : Int64))).toInt32)), .int ((((jlrem (jlrem ((jlrem ((((a1).toInt64) + (1 : Int64)) * (48271 : Int64)) (2147483647 : Int64)) * (48271 : Int64)) (2147483647 : Int64)) (262144 : Int64))).toInt32))]) (q := 41) hX (c9_bouts hX.2.2.2.2.1 hN e6) (goodV_of k5_142 k5_144 kp_51 k1_16 (cons_g k5_145)) (nA := 2) (by decide) rfl rfl rfl rfl rfl ⟨rfl, by decide⟩ hN rfl rfl rfl dX9_boutBy_38 rfl ?_
  obtain ⟨f1, f2⟩ := some2 h
  rw [f2] at hQ
  exact V_vret hX hQ rfl dX9_boutBy_41
set_option maxRecDepth 100000 in
set_option maxHeartbeats 4000000 in
theorem c9_boutBy {g : GT} {l : Launch} (hg : OkG g) (hN : 95 ≤ g.N) {a1 : Int32} {σ : St} {r : Unit} {σ' : St} (h : S9_boutBy a1 σ = some (r, σ')) : CtV g l m9_boutBy yX9_boutBy [.ref (g.ad (75)), .int (a1)] σ σ' := CtV.of hg (by decide) rfl rfl (fun X h1 h2 h3 => v9_boutBy h1 hN (res := (r, σ')) h3 h)

abbrev m9_drawn : MI := (cX9_drawn, RX9, 5, some .int, 7)
def S9_drawn (a1 : Int32) (a2 : Int32) (a3 : Int32) (a4 : Int32) (σ : St) : Option (Int32 × St) := bnd (S9_areTwo a2 a3 σ) fun r21 σ20 => if r21 = 0 then (some ((-5 : Int32), σ20)) else (bnd (S9_in a1 (0 : Int32) (99999 : Int32) σ20) fun r25 σ24 => if r25 = 0 then (some ((-7 : Int32), σ24)) else (bnd (S9_in a4 (0 : Int32) (1 : Int32) σ24) fun r29 σ28 => if r29 = 0 then (some ((-7 : Int32), σ28)) else (bnd (S9_begins a2 a3 σ28) fun r33 σ32 => bnd (S9_boutBy a1 σ32) fun r36 σ35 => if a4 = 0 then (some ((gI σ35 75 35), σ35)) else (some ((gI σ35 75 36), σ35)))))
set_option maxRecDepth 100000 in
set_option maxHeartbeats 4000000 in
theorem v9_drawn {g : GT} {X : XT} {a1 : Int32} {a2 : Int32} {a3 : Int32} {a4 : Int32} (hX : OkX g X (m9_drawn)) (hN : 95 ≤ g.N) {res : Int32 × St} (hQ : X.Q = QI g X res.1 res.2 ∧ X.cells = 0 ∧ X.slots = 0) {σ : St} (h : S9_drawn a1 a2 a3 a4 σ = some res) : V g X (m9_drawn) 0 [(0, .ref (g.ad (75))), (1, .int (a1)), (2, .int (a2)), (3, .int (a3)), (4, .int (a4))] [] σ := by
  unfold S9_drawn at h
  refine V_aload_n (q := 1) hX dX9_drawn_0 0 rfl rfl ?_
  refine V_iload_n (q := 2) hX dX9_drawn_1 2 rfl rfl ?_
  refine V_iload_n (q := 3) hX dX9_drawn_2 3 rfl rfl ?_
  obtain ⟨r21, σ20, e22, h⟩ := bnd_some h
  refine V_cvI (n := 95) (c := 9) (nf := 39) (C := RX9) (T := TX9) (As := [.int (a2), .int (a3)]) (q := 6) hX (c9_areTwo hX.2.2.2.2.1 hN e22) (goodV_of k5_118 k5_120 kp_46 k1_16 (cons_g k5_121)) (nA := 2) (by decide) rfl rfl rfl rfl rfl ⟨rfl, by decide⟩ hN rfl rfl rfl dX9_drawn_3 rfl ?_
  refine V_if_ne (q := 9) (t := 12) hX dX9_drawn_6 (by decide) rfl (fun z23 => ?_) (fun z23 => ?_)
  · have h := ite_f z23 h
    refine V_iload_n (q := 13) hX dX9_drawn_12 1 rfl rfl ?_
    refine V_iconst (v := 0) (q := 14) hX dX9_drawn_13 (by decide) rfl ?_
    refine V_ldcw (v := 99999) (q := 17) hX k6_21 dX9_drawn_14 rfl ?_
    obtain ⟨r25, σ24, e26, h⟩ := bnd_some h
    refine V_csI (As := [.int (a1), .int ((0 : Int32)), .int ((99999 : Int32))]) (q := 20) hX (c9_in hX.2.2.2.2.1 hN e26) (goodS_of k4_143 k4_144 k1_16 (cons_g k4_145)) (nA := 3) (by decide) rfl rfl rfl rfl rfl dX9_drawn_17 rfl ?_
    refine V_if_eq (q := 23) (t := 33) hX dX9_drawn_20 (by decide) rfl (fun z27 => ?_) (fun z27 => ?_)
    · have h := ite_t z27 h
      refine V_bipush (v := -7) (q := 35) hX dX9_drawn_33 (by decide) rfl ?_
      obtain ⟨f1, f2⟩ := some2 h
      rw [f1, f2] at hQ
      exact V_iret hX hQ rfl dX9_drawn_35
    have h := ite_f z27 h
    refine V_iload (q := 25) hX dX9_drawn_23 4 rfl rfl ?_
    refine V_iconst (v := 0) (q := 26) hX dX9_drawn_25 (by decide) rfl ?_
    refine V_iconst (v := 1) (q := 27) hX dX9_drawn_26 (by decide) rfl ?_
    obtain ⟨r29, σ28, e30, h⟩ := bnd_some h
    refine V_csI (As := [.int (a4), .int ((0 : Int32)), .int ((1 : Int32))]) (q := 30) hX (c9_in hX.2.2.2.2.1 hN e30) (goodS_of k4_143 k4_144 k1_16 (cons_g k4_145)) (nA := 3) (by decide) rfl rfl rfl rfl rfl dX9_drawn_27 rfl ?_
    refine V_if_ne (q := 33) (t := 36) hX dX9_drawn_30 (by decide) rfl (fun z31 => ?_) (fun z31 => ?_)
    · have h := ite_f z31 h
      refine V_aload_n (q := 37) hX dX9_drawn_36 0 rfl rfl ?_
      refine V_iload_n (q := 38) hX dX9_drawn_37 2 rfl rfl ?_
      refine V_iload_n (q := 39) hX dX9_drawn_38 3 rfl rfl ?_
      obtain ⟨r33, σ32, e34, h⟩ := bnd_some h
      refine V_cvV (n := 95) (c := 9) (nf := 39) (C := RX9) (T := TX9) (As := [.int (a2), .int (a3)]) (q := 42) hX (c9_begins hX.2.2.2.2.1 hN e34) (goodV_of k5_130 k5_132 kp_48 k1_16 (cons_g k5_133)) (nA := 2) (by decide) rfl rfl rfl rfl rfl ⟨rfl, by decide⟩ hN rfl rfl rfl dX9_drawn_39 rfl ?_
      refine V_aload_n (q := 43) hX dX9_drawn_42 0 rfl rfl ?_
      refine V_iload_n (q := 44) hX dX9_drawn_43 1 rfl rfl ?_
      obtain ⟨r36, σ35, e37, h⟩ := bnd_some h
      refine V_cvV (n := 95) (c := 9) (nf := 39) (C := RX9) (T := TX9) (As := [.int (a1)]) (q := 47) hX (c9_boutBy hX.2.2.2.2.1 hN e37) (goodV_of k6_22 k6_24 kp_63 k1_16 (cons_g k6_25)) (nA := 1) (by decide) rfl rfl rfl rfl rfl ⟨rfl, by decide⟩ hN rfl rfl rfl dX9_drawn_44 rfl ?_
      refine V_iload (q := 49) hX dX9_drawn_47 4 rfl rfl ?_
      refine V_if_ne (q := 52) (t := 59) hX dX9_drawn_49 (by decide) rfl (fun z38 => ?_) (fun z38 => ?_)
      · have h := ite_f z38 h
        refine V_aload_n (q := 60) hX dX9_drawn_59 0 rfl rfl ?_
        refine V_getI (n := 95) (c := 9) (k := 36) (nf := 39) (C := RX9) (T := TX9) (q := 63) hX rfl rfl iG9 k4_218 rfl rfl ⟨rfl, by decide⟩ hN rfl rfl dX9_drawn_60 rfl ?_
        obtain ⟨f1, f2⟩ := some2 h
        rw [f1, f2] at hQ
        exact V_iret hX hQ rfl dX9_drawn_63
      have h := ite_t z38 h
      refine V_aload_n (q := 53) hX dX9_drawn_52 0 rfl rfl ?_
      refine V_getI (n := 95) (c := 9) (k := 35) (nf := 39) (C := RX9) (T := TX9) (q := 56) hX rfl rfl iG9 k4_217 rfl rfl ⟨rfl, by decide⟩ hN rfl rfl dX9_drawn_53 rfl ?_
      refine V_goto hX dX9_drawn_56 (q := 63) (by decide) ?_
      obtain ⟨f1, f2⟩ := some2 h
      rw [f1, f2] at hQ
      exact V_iret hX hQ rfl dX9_drawn_63
    have h := ite_t z31 h
    refine V_bipush (v := -7) (q := 35) hX dX9_drawn_33 (by decide) rfl ?_
    obtain ⟨f1, f2⟩ := some2 h
    rw [f1, f2] at hQ
    exact V_iret hX hQ rfl dX9_drawn_35
  have h := ite_t z23 h
  refine V_bipush (v := -5) (q := 11) hX dX9_drawn_9 (by decide) rfl ?_
  obtain ⟨f1, f2⟩ := some2 h
  rw [f1, f2] at hQ
  exact V_iret hX hQ rfl dX9_drawn_11
set_option maxRecDepth 100000 in
set_option maxHeartbeats 4000000 in
theorem c9_drawn {g : GT} {l : Launch} (hg : OkG g) (hN : 95 ≤ g.N) {a1 : Int32} {a2 : Int32} {a3 : Int32} {a4 : Int32} {σ : St} {r : Int32} {σ' : St} (h : S9_drawn a1 a2 a3 a4 σ = some (r, σ')) : CtI g l m9_drawn yX9_drawn [.ref (g.ad (75)), .int (a1), .int (a2), .int (a3), .int (a4)] σ r σ' := CtI.of hg (by decide) rfl rfl (fun X h1 h2 h3 => v9_drawn h1 hN (res := (r, σ')) h3 h)

abbrev m9_odds : MI := (cX9_odds, RX9, 9, some .long, 7)
def S9_odds_87 (a1 : Int32) (a2 : Int32) (a3 : Int32) (a4 : Int32) (a5 : Int32) (k58 : Int64 → Int32 → St → Option (Int64 × St)) (x8 : Int32) (s0 : Int64) (s1 : Int64) (σ : St) : Option (Int64 × St) := k58 (s0 + s1) (x8 + 1) σ
def B9_odds_58 (a1 : Int32) (a2 : Int32) (a3 : Int32) (a4 : Int32) (a5 : Int32) (rec : Int64 → Int32 → St → Option (Int64 × St)) (x6 : Int64) (x8 : Int32) (σ : St) : Option (Int64 × St) := if a2 ≤ x8 then (bnd (S9_lowest x6 ((a2).toInt64) a5 σ) fun r84 σ83 => some (r84, σ83)) else (bnd (S9_boutBy (a1 + x8) σ) fun r87 σ86 => if (gI σ86 75 35) = a3 then (S9_odds_87 a1 a2 a3 a4 a5 rec x8 x6 (1 : Int64) σ86) else (S9_odds_87 a1 a2 a3 a4 a5 rec x8 x6 (0 : Int64) σ86))
def S9_odds_58 (a1 : Int32) (a2 : Int32) (a3 : Int32) (a4 : Int32) (a5 : Int32) : Nat → Int64 → Int32 → St → Option (Int64 × St)
  | 0, _, _, _ => none
  | n + 1, x6, x8, σ => B9_odds_58 a1 a2 a3 a4 a5 (S9_odds_58 a1 a2 a3 a4 a5 n) x6 x8 σ
def S9_odds (a1 : Int32) (a2 : Int32) (a3 : Int32) (a4 : Int32) (a5 : Int32) (σ : St) : Option (Int64 × St) := bnd (S9_in a1 (0 : Int32) (99999 : Int32) σ) fun r91 σ90 => if r91 = 0 then (some ((-4611686018427387904 : Int64), σ90)) else (bnd (S9_in a2 (1 : Int32) (40 : Int32) σ90) fun r95 σ94 => if r95 = 0 then (some ((-4611686018427387904 : Int64), σ94)) else (bnd (S9_areTwo a3 a4 σ94) fun r99 σ98 => if r99 = 0 then (some ((-4611686018427387904 : Int64), σ98)) else (bnd (S9_in a5 (0 : Int32) (1 : Int32) σ98) fun r103 σ102 => if r103 = 0 then (some ((-4611686018427387904 : Int64), σ102)) else (bnd (S9_begins a3 a4 σ102) fun r107 σ106 => S9_odds_58 a1 a2 a3 a4 a5 4096 (0 : Int64) (0 : Int32) σ106))))
set_option maxRecDepth 100000 in
set_option maxHeartbeats 4000000 in
theorem v9_odds_87 {g : GT} {X : XT} {a1 : Int32} {a2 : Int32} {a3 : Int32} {a4 : Int32} {a5 : Int32} (hX : OkX g X (m9_odds)) (hN : 95 ≤ g.N) {res : Int64 × St} (hQ : X.Q = QJ g X res.1 res.2 ∧ X.cells = 0 ∧ X.slots = 0)  {k58 : Int64 → Int32 → St → Option (Int64 × St)} (hk58 : ∀ (x6 : Int64) (x8 : Int32) (σ : St), k58 x6 x8 σ = some res → V g X (m9_odds) 58 [(0, .ref (g.ad (75))), (1, .int (a1)), (2, .int (a2)), (3, .int (a3)), (5, .int (a5)), (6, .long (x6)), (8, .int (x8))] [] σ) (x8 : Int32) (s0 : Int64) (s1 : Int64) (σ : St)  (h : S9_odds_87 a1 a2 a3 a4 a5 k58 x8 s0 s1 σ = some res) : V g X (m9_odds) 87 [(0, .ref (g.ad (75))), (1, .int (a1)), (2, .int (a2)), (3, .int (a3)), (5, .int (a5)), (8, .int (x8))] [.long (s1), .long (s0)] σ := by
  unfold S9_odds_87 at h
  refine V_ladd (q := 88) hX dX9_odds_87 rfl ?_
  refine V_lstore (lv' := [(6, .long ((s0 + s1))), (0, .ref (g.ad (75))), (1, .int (a1)), (2, .int (a2)), (3, .int (a3)), (5, .int (a5)), (8, .int (x8))]) (q := 90) hX dX9_odds_88 rfl rfl rfl ?_
  refine V_iinc (v := (x8 + 1)) (lv' := [(8, .int ((x8 + 1))), (6, .long ((s0 + s1))), (0, .ref (g.ad (75))), (1, .int (a1)), (2, .int (a2)), (3, .int (a3)), (5, .int (a5))]) (q := 93) hX dX9_odds_90 6 rfl (by rfl) rfl rfl rfl ?_
  refine V_goto hX dX9_odds_93 (q := 58) (by decide) ?_
  refine V.pick [2, 3, 4, 5, 6, 1, 0] rfl ?_
  exact hk58 (s0 + s1) (x8 + 1) σ  h
set_option maxRecDepth 100000 in
set_option maxHeartbeats 4000000 in
theorem v9_odds_58n {g : GT} {X : XT} {a1 : Int32} {a2 : Int32} {a3 : Int32} {a4 : Int32} {a5 : Int32} (hX : OkX g X (m9_odds)) (hN : 95 ≤ g.N) {res : Int64 × St} (hQ : X.Q = QJ g X res.1 res.2 ∧ X.cells = 0 ∧ X.slots = 0)   (n : Nat) : ∀ (x6 : Int64) (x8 : Int32) (σ : St) , S9_odds_58 a1 a2 a3 a4 a5 n x6 x8 σ = some res → V g X (m9_odds) 58 [(0, .ref (g.ad (75))), (1, .int (a1)), (2, .int (a2)), (3, .int (a3)), (5, .int (a5)), (6, .long (x6)), (8, .int (x8))] [] σ := by
  induction n with
  | zero => intro x6 x8 σ; intro h; cases h
  | succ n ih =>
    intro x6 x8 σ h
    have h : B9_odds_58 a1 a2 a3 a4 a5 (S9_odds_58 a1 a2 a3 a4 a5 n) x6 x8 σ = some res := h
    unfold B9_odds_58 at h
    refine V_iload (q := 60) hX dX9_odds_58 6 rfl rfl ?_
    refine V_iload_n (q := 61) hX dX9_odds_60 2 rfl rfl ?_
    refine V_icmp_ge (q := 64) (t := 96) hX dX9_odds_61 (by decide) rfl (fun z82 => ?_) (fun z82 => ?_)
    · have h := ite_t z82 h
      refine V_lload (q := 98) hX dX9_odds_96 5 rfl rfl ?_
      refine V_iload_n (q := 99) hX dX9_odds_98 2 rfl rfl ?_
      refine V_i2l (q := 100) hX dX9_odds_99 rfl ?_
      refine V_iload (q := 102) hX dX9_odds_100 4 rfl rfl ?_
      obtain ⟨r84, σ83, e85, h⟩ := bnd_some h
      refine V_csJ (As := [.long (x6), .long (((a2).toInt64)), .int (a5)]) (q := 105) hX (c9_lowest hX.2.2.2.2.1 hN e85) (goodS_of k5_186 k5_187 k1_16 (cons_g k5_188)) (nA := 3) (by decide) rfl rfl rfl rfl rfl dX9_odds_102 rfl ?_
      obtain ⟨f1, f2⟩ := some2 h
      rw [f1, f2] at hQ
      exact V_lret hX hQ rfl dX9_odds_105
    have h := ite_f z82 h
    refine V_aload_n (q := 65) hX dX9_odds_64 0 rfl rfl ?_
    refine V_iload_n (q := 66) hX dX9_odds_65 1 rfl rfl ?_
    refine V_iload (q := 68) hX dX9_odds_66 6 rfl rfl ?_
    refine V_iadd (q := 69) hX dX9_odds_68 rfl ?_
    obtain ⟨r87, σ86, e88, h⟩ := bnd_some h
    refine V_cvV (n := 95) (c := 9) (nf := 39) (C := RX9) (T := TX9) (As := [.int ((a1 + x8))]) (q := 72) hX (c9_boutBy hX.2.2.2.2.1 hN e88) (goodV_of k6_22 k6_24 kp_63 k1_16 (cons_g k6_25)) (nA := 1) (by decide) rfl rfl rfl rfl rfl ⟨rfl, by decide⟩ hN rfl rfl rfl dX9_odds_69 rfl ?_
    refine V_lload (q := 74) hX dX9_odds_72 5 rfl rfl ?_
    refine V_aload_n (q := 75) hX dX9_odds_74 0 rfl rfl ?_
    refine V_getI (n := 95) (c := 9) (k := 35) (nf := 39) (C := RX9) (T := TX9) (q := 78) hX rfl rfl iG9 k4_217 rfl rfl ⟨rfl, by decide⟩ hN rfl rfl dX9_odds_75 rfl ?_
    refine V_iload_n (q := 79) hX dX9_odds_78 3 rfl rfl ?_
    refine V_icmp_ne (q := 82) (t := 86) hX dX9_odds_79 (by decide) rfl (fun z89 => ?_) (fun z89 => ?_)
    · have h := ite_f z89 h
      refine V_lconst (v := 0) (q := 87) hX dX9_odds_86 (by decide) rfl ?_
      refine V.pick [0, 1, 2, 3, 4, 6] rfl ?_
      exact v9_odds_87 hX hN hQ ih x8 x6 (0 : Int64) σ86 h
    have h := ite_t z89 h
    refine V_lconst (v := 1) (q := 83) hX dX9_odds_82 (by decide) rfl ?_
    refine V_goto hX dX9_odds_83 (q := 87) (by decide) ?_
    refine V.pick [0, 1, 2, 3, 4, 6] rfl ?_
    exact v9_odds_87 hX hN hQ ih x8 x6 (1 : Int64) σ86 h
theorem v9_odds_58 {g : GT} {X : XT} {a1 : Int32} {a2 : Int32} {a3 : Int32} {a4 : Int32} {a5 : Int32} (hX : OkX g X (m9_odds)) (hN : 95 ≤ g.N) {res : Int64 × St} (hQ : X.Q = QJ g X res.1 res.2 ∧ X.cells = 0 ∧ X.slots = 0) (x6 : Int64) (x8 : Int32) (σ : St) (h : S9_odds_58 a1 a2 a3 a4 a5 4096 x6 x8 σ = some res) : V g X (m9_odds) 58 [(0, .ref (g.ad (75))), (1, .int (a1)), (2, .int (a2)), (3, .int (a3)), (5, .int (a5)), (6, .long (x6)), (8, .int (x8))] [] σ := v9_odds_58n hX hN hQ 4096 x6 x8 σ h
set_option maxRecDepth 100000 in
set_option maxHeartbeats 4000000 in
theorem v9_odds {g : GT} {X : XT} {a1 : Int32} {a2 : Int32} {a3 : Int32} {a4 : Int32} {a5 : Int32} (hX : OkX g X (m9_odds)) (hN : 95 ≤ g.N) {res : Int64 × St} (hQ : X.Q = QJ g X res.1 res.2 ∧ X.cells = 0 ∧ X.slots = 0) {σ : St} (h : S9_odds a1 a2 a3 a4 a5 σ = some res) : V g X (m9_odds) 0 [(0, .ref (g.ad (75))), (1, .int (a1)), (2, .int (a2)), (3, .int (a3)), (4, .int (a4)), (5, .int (a5))] [] σ := by
  unfold S9_odds at h
  refine V_iload_n (q := 1) hX dX9_odds_0 1 rfl rfl ?_
  refine V_iconst (v := 0) (q := 2) hX dX9_odds_1 (by decide) rfl ?_
  refine V_ldcw (v := 99999) (q := 5) hX k6_21 dX9_odds_2 rfl ?_
  obtain ⟨r91, σ90, e92, h⟩ := bnd_some h
  refine V_csI (As := [.int (a1), .int ((0 : Int32)), .int ((99999 : Int32))]) (q := 8) hX (c9_in hX.2.2.2.2.1 hN e92) (goodS_of k4_143 k4_144 k1_16 (cons_g k4_145)) (nA := 3) (by decide) rfl rfl rfl rfl rfl dX9_odds_5 rfl ?_
  refine V_if_eq (q := 11) (t := 41) hX dX9_odds_8 (by decide) rfl (fun z93 => ?_) (fun z93 => ?_)
  · have h := ite_t z93 h
    refine V_ldc2 (v := -4611686018427387904) (q := 44) hX k5_185 dX9_odds_41 rfl ?_
    obtain ⟨f1, f2⟩ := some2 h
    rw [f1, f2] at hQ
    exact V_lret hX hQ rfl dX9_odds_44
  have h := ite_f z93 h
  refine V_iload_n (q := 12) hX dX9_odds_11 2 rfl rfl ?_
  refine V_iconst (v := 1) (q := 13) hX dX9_odds_12 (by decide) rfl ?_
  refine V_bipush (v := 40) (q := 15) hX dX9_odds_13 (by decide) rfl ?_
  obtain ⟨r95, σ94, e96, h⟩ := bnd_some h
  refine V_csI (As := [.int (a2), .int ((1 : Int32)), .int ((40 : Int32))]) (q := 18) hX (c9_in hX.2.2.2.2.1 hN e96) (goodS_of k4_143 k4_144 k1_16 (cons_g k4_145)) (nA := 3) (by decide) rfl rfl rfl rfl rfl dX9_odds_15 rfl ?_
  refine V_if_eq (q := 21) (t := 41) hX dX9_odds_18 (by decide) rfl (fun z97 => ?_) (fun z97 => ?_)
  · have h := ite_t z97 h
    refine V_ldc2 (v := -4611686018427387904) (q := 44) hX k5_185 dX9_odds_41 rfl ?_
    obtain ⟨f1, f2⟩ := some2 h
    rw [f1, f2] at hQ
    exact V_lret hX hQ rfl dX9_odds_44
  have h := ite_f z97 h
  refine V_aload_n (q := 22) hX dX9_odds_21 0 rfl rfl ?_
  refine V_iload_n (q := 23) hX dX9_odds_22 3 rfl rfl ?_
  refine V_iload (q := 25) hX dX9_odds_23 4 rfl rfl ?_
  obtain ⟨r99, σ98, e100, h⟩ := bnd_some h
  refine V_cvI (n := 95) (c := 9) (nf := 39) (C := RX9) (T := TX9) (As := [.int (a3), .int (a4)]) (q := 28) hX (c9_areTwo hX.2.2.2.2.1 hN e100) (goodV_of k5_118 k5_120 kp_46 k1_16 (cons_g k5_121)) (nA := 2) (by decide) rfl rfl rfl rfl rfl ⟨rfl, by decide⟩ hN rfl rfl rfl dX9_odds_25 rfl ?_
  refine V_if_eq (q := 31) (t := 41) hX dX9_odds_28 (by decide) rfl (fun z101 => ?_) (fun z101 => ?_)
  · have h := ite_t z101 h
    refine V_ldc2 (v := -4611686018427387904) (q := 44) hX k5_185 dX9_odds_41 rfl ?_
    obtain ⟨f1, f2⟩ := some2 h
    rw [f1, f2] at hQ
    exact V_lret hX hQ rfl dX9_odds_44
  have h := ite_f z101 h
  refine V_iload (q := 33) hX dX9_odds_31 5 rfl rfl ?_
  refine V_iconst (v := 0) (q := 34) hX dX9_odds_33 (by decide) rfl ?_
  refine V_iconst (v := 1) (q := 35) hX dX9_odds_34 (by decide) rfl ?_
  obtain ⟨r103, σ102, e104, h⟩ := bnd_some h
  refine V_csI (As := [.int (a5), .int ((0 : Int32)), .int ((1 : Int32))]) (q := 38) hX (c9_in hX.2.2.2.2.1 hN e104) (goodS_of k4_143 k4_144 k1_16 (cons_g k4_145)) (nA := 3) (by decide) rfl rfl rfl rfl rfl dX9_odds_35 rfl ?_
  refine V_if_ne (q := 41) (t := 45) hX dX9_odds_38 (by decide) rfl (fun z105 => ?_) (fun z105 => ?_)
  · have h := ite_f z105 h
    refine V_aload_n (q := 46) hX dX9_odds_45 0 rfl rfl ?_
    refine V_iload_n (q := 47) hX dX9_odds_46 3 rfl rfl ?_
    refine V_iload (q := 49) hX dX9_odds_47 4 rfl rfl ?_
    obtain ⟨r107, σ106, e108, h⟩ := bnd_some h
    refine V_cvV (n := 95) (c := 9) (nf := 39) (C := RX9) (T := TX9) (As := [.int (a3), .int (a4)]) (q := 52) hX (c9_begins hX.2.2.2.2.1 hN e108) (goodV_of k5_130 k5_132 kp_48 k1_16 (cons_g k5_133)) (nA := 2) (by decide) rfl rfl rfl rfl rfl ⟨rfl, by decide⟩ hN rfl rfl rfl dX9_odds_49 rfl ?_
    refine V_lconst (v := 0) (q := 53) hX dX9_odds_52 (by decide) rfl ?_
    refine V_lstore (lv' := [(6, .long ((0 : Int64))), (0, .ref (g.ad (75))), (1, .int (a1)), (2, .int (a2)), (3, .int (a3)), (4, .int (a4)), (5, .int (a5))]) (q := 55) hX dX9_odds_53 rfl rfl rfl ?_
    refine V_iconst (v := 0) (q := 56) hX dX9_odds_55 (by decide) rfl ?_
    refine V_istore (lv' := [(8, .int ((0 : Int32))), (6, .long ((0 : Int64))), (0, .ref (g.ad (75))), (1, .int (a1)), (2, .int (a2)), (3, .int (a3)), (4, .int (a4)), (5, .int (a5))]) (q := 58) hX dX9_odds_56 rfl rfl rfl ?_
    refine V.pick [2, 3, 4, 5, 7, 1, 0] rfl ?_
    exact v9_odds_58 hX hN hQ (0 : Int64) (0 : Int32) σ106 h
  have h := ite_t z105 h
  refine V_ldc2 (v := -4611686018427387904) (q := 44) hX k5_185 dX9_odds_41 rfl ?_
  obtain ⟨f1, f2⟩ := some2 h
  rw [f1, f2] at hQ
  exact V_lret hX hQ rfl dX9_odds_44
set_option maxRecDepth 100000 in
set_option maxHeartbeats 4000000 in
theorem c9_odds {g : GT} {l : Launch} (hg : OkG g) (hN : 95 ≤ g.N) {a1 : Int32} {a2 : Int32} {a3 : Int32} {a4 : Int32} {a5 : Int32} {σ : St} {r : Int64} {σ' : St} (h : S9_odds a1 a2 a3 a4 a5 σ = some (r, σ')) : CtJ g l m9_odds yX9_odds [.ref (g.ad (75)), .int (a1), .int (a2), .int (a3), .int (a4), .int (a5)] σ r σ' := CtJ.of hg (by decide) rfl rfl (fun X h1 h2 h3 => v9_odds h1 hN (res := (r, σ')) h3 h)
