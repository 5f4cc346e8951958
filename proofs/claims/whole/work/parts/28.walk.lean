abbrev m8_laws : MI := (cX8_laws, RX8, 8, some .int, 5)
def S8_laws_92 (a1 : Int32) (a2 : Int32) (a3 : Int32) (a4 : Int32) (k25 : Int32 → Int32 → St → Option (Int32 × St)) (x7 : Int32) (s0 : Int32) (s1 : Int32) (σ : St) : Option (Int32 × St) := k25 (s0 ||| s1) (x7 + 1) σ
def B8_laws_25 (a1 : Int32) (a2 : Int32) (a3 : Int32) (a4 : Int32) (rec : Int32 → Int32 → St → Option (Int32 × St)) (x6 : Int32) (x7 : Int32) (σ : St) : Option (Int32 × St) := if (gI σ 0 9) ≤ x7 then (some (x6, σ)) else (bnd (S8_theOne a2 σ) fun r84 σ83 => bnd (S8_theOther a2 σ83) fun r87 σ86 => bnd (S8_textAt x7 σ86) fun r90 σ89 => bnd (S0_pair r84 r87 r90 σ89) fun r93 σ92 => bnd (S0_goThrough a3 a4 σ92) fun r96 σ95 => bnd (S8_sheetAt a1 σ95) fun r99 σ98 => bnd (S0_firstOtherwise r99 σ98) fun r102 σ101 => if 0 ≤ r102 then (S8_laws_92 a1 a2 a3 a4 rec x7 x6 (0 : Int32) σ101) else (S8_laws_92 a1 a2 a3 a4 rec x7 x6 ((1 : Int32) <<< (x7 &&& 31)) σ101))
def S8_laws_25 (a1 : Int32) (a2 : Int32) (a3 : Int32) (a4 : Int32) : Nat → Int32 → Int32 → St → Option (Int32 × St)
  | 0, _, _, _ => none
  | n + 1, x6, x7, σ => B8_laws_25 a1 a2 a3 a4 (S8_laws_25 a1 a2 a3 a4 n) x6 x7 σ
def S8_laws (a1 : Int32) (a2 : Int32) (a3 : Int32) (a4 : Int32) (σ : St) : Option (Int32 × St) := bnd (S8_toldFault a1 a2 a3 a4 σ) fun r106 σ105 => if r106 = 0 then (S8_laws_25 a1 a2 a3 a4 4096 (0 : Int32) (0 : Int32) σ105) else (some (r106, σ105))
set_option maxRecDepth 100000 in
set_option maxHeartbeats 4000000 in
theorem v8_laws_92 {g : GT} {X : XT} {a1 : Int32} {a2 : Int32} {a3 : Int32} {a4 : Int32} (hX : OkX g X (m8_laws)) (hN : 75 ≤ g.N) {res : Int32 × St} (hQ : X.Q = QI g X res.1 res.2 ∧ X.cells = 0 ∧ X.slots = 0)  {k25 : Int32 → Int32 → St → Option (Int32 × St)} (hk25 : ∀ (x6 : Int32) (x7 : Int32) (σ : St), k25 x6 x7 σ = some res → V g X (m8_laws) 25 [(0, .ref (g.ad (0))), (1, .int (a1)), (2, .int (a2)), (3, .int (a3)), (4, .int (a4)), (6, .int (x6)), (7, .int (x7))] [] σ) (x7 : Int32) (s0 : Int32) (s1 : Int32) (σ : St)  (h : S8_laws_92 a1 a2 a3 a4 k25 x7 s0 s1 σ = some res) : V g X (m8_laws) 92 [(0, .ref (g.ad (0))), (1, .int (a1)), (2, .int (a2)), (3, .int (a3)), (4, .int (a4)), (7, .int (x7))] [.int (s1), .int (s0)] σ := by
  unfold S8_laws_92 at h
  refine V_ior (q := 93) hX dX8_laws_92 rfl ?_
  refine V_istore (lv' := [(6, .int ((s0 ||| s1))), (0, .ref (g.ad (0))), (1, .int (a1)), (2, .int (a2)), (3, .int (a3)), (4, .int (a4)), (7, .int (x7))]) (q := 95) hX dX8_laws_93 rfl rfl rfl ?_
  refine V_iinc (v := (x7 + 1)) (lv' := [(7, .int ((x7 + 1))), (6, .int ((s0 ||| s1))), (0, .ref (g.ad (0))), (1, .int (a1)), (2, .int (a2)), (3, .int (a3)), (4, .int (a4))]) (q := 98) hX dX8_laws_95 6 rfl (by rfl) rfl rfl rfl ?_
  refine V_goto hX dX8_laws_98 (q := 25) (by decide) ?_
  refine V.pick [2, 3, 4, 5, 6, 1, 0] rfl ?_
  exact hk25 (s0 ||| s1) (x7 + 1) σ  h
set_option maxRecDepth 100000 in
set_option maxHeartbeats 4000000 in
theorem v8_laws_25n {g : GT} {X : XT} {a1 : Int32} {a2 : Int32} {a3 : Int32} {a4 : Int32} (hX : OkX g X (m8_laws)) (hN : 75 ≤ g.N) {res : Int32 × St} (hQ : X.Q = QI g X res.1 res.2 ∧ X.cells = 0 ∧ X.slots = 0)   (n : Nat) : ∀ (x6 : Int32) (x7 : Int32) (σ : St) , S8_laws_25 a1 a2 a3 a4 n x6 x7 σ = some res → V g X (m8_laws) 25 [(0, .ref (g.ad (0))), (1, .int (a1)), (2, .int (a2)), (3, .int (a3)), (4, .int (a4)), (6, .int (x6)), (7, .int (x7))] [] σ := by
  induction n with
  | zero => intro x6 x7 σ; intro h; cases h
  | succ n ih =>
    intro x6 x7 σ h
    have h : B8_laws_25 a1 a2 a3 a4 (S8_laws_25 a1 a2 a3 a4 n) x6 x7 σ = some res := h
    unfold B8_laws_25 at h
    refine V_iload (q := 27) hX dX8_laws_25 6 rfl rfl ?_
    refine V_aload_n (q := 28) hX dX8_laws_27 0 rfl rfl ?_
    refine V_getI (n := 75) (c := 8) (k := 9) (nf := 11) (C := RX8) (T := TX8) (q := 31) hX rfl rfl iG8 k2_184 rfl rfl ⟨rfl, by decide⟩ hN rfl rfl dX8_laws_28 rfl ?_
    refine V_icmp_ge (q := 34) (t := 101) hX dX8_laws_31 (by decide) rfl (fun z82 => ?_) (fun z82 => ?_)
    · have h := ite_t z82 h
      refine V_iload (q := 103) hX dX8_laws_101 5 rfl rfl ?_
      obtain ⟨f1, f2⟩ := some2 h
      rw [f1, f2] at hQ
      exact V_iret hX hQ rfl dX8_laws_103
    have h := ite_f z82 h
    refine V_aload_n (q := 35) hX dX8_laws_34 0 rfl rfl ?_
    refine V_getF (r := 35) (n := 75) (c := 8) (k := 8) (nf := 11) (C := RX8) (T := TX8) (q := 38) hX rfl rfl iG8 k2_183 rfl rfl ⟨rfl, by decide⟩ hN rfl rfl rfl rfl dX8_laws_35 rfl ?_
    refine V_aload_n (q := 39) hX dX8_laws_38 0 rfl rfl ?_
    refine V_iload_n (q := 40) hX dX8_laws_39 2 rfl rfl ?_
    obtain ⟨r84, σ83, e85, h⟩ := bnd_some h
    refine V_cvR (n := 75) (c := 8) (nf := 11) (C := RX8) (T := TX8) (As := [.int (a2)]) (q := 43) hX (c8_theOne hX.2.2.2.2.1 hN e85) (goodV_of k3_82 k3_84 kp_16 k1_1 (cons_g k3_85)) (nA := 1) (by decide) rfl rfl rfl rfl rfl ⟨rfl, by decide⟩ hN rfl rfl rfl dX8_laws_40 rfl ?_
    refine V_aload_n (q := 44) hX dX8_laws_43 0 rfl rfl ?_
    refine V_iload_n (q := 45) hX dX8_laws_44 2 rfl rfl ?_
    obtain ⟨r87, σ86, e88, h⟩ := bnd_some h
    refine V_cvR (n := 75) (c := 8) (nf := 11) (C := RX8) (T := TX8) (As := [.int (a2)]) (q := 48) hX (c8_theOther hX.2.2.2.2.1 hN e88) (goodV_of k3_86 k3_88 kp_17 k1_1 (cons_g k3_89)) (nA := 1) (by decide) rfl rfl rfl rfl rfl ⟨rfl, by decide⟩ hN rfl rfl rfl dX8_laws_45 rfl ?_
    refine V_aload_n (q := 49) hX dX8_laws_48 0 rfl rfl ?_
    refine V_iload (q := 51) hX dX8_laws_49 6 rfl rfl ?_
    obtain ⟨r90, σ89, e91, h⟩ := bnd_some h
    refine V_cvR (n := 75) (c := 8) (nf := 11) (C := RX8) (T := TX8) (As := [.int (x7)]) (q := 54) hX (c8_textAt hX.2.2.2.2.1 hN e91) (goodV_of k2_225 k2_227 kp_12 k1_1 (cons_g k2_228)) (nA := 1) (by decide) rfl rfl rfl rfl rfl ⟨rfl, by decide⟩ hN rfl rfl rfl dX8_laws_51 rfl ?_
    obtain ⟨r93, σ92, e94, h⟩ := bnd_some h
    refine V_cvV (n := 75) (c := 0) (nf := 6) (C := RX0) (T := TX0) (As := [.ref (g.ad (r84)), .ref (g.ad (r87)), .ref (g.ad (r90))]) (q := 57) hX (c0_pair hX.2.2.2.2.1 hN (sh8_theOne e85) (sh8_theOther e88) (sh8_textAt e91) e94) (goodV_of k3_90 k3_91 k3_92 k1_7 (cons_g k3_93)) (nA := 3) (by decide) rfl rfl rfl rfl rfl ⟨rfl, by decide⟩ hN rfl rfl rfl dX8_laws_54 rfl ?_
    refine V_aload_n (q := 58) hX dX8_laws_57 0 rfl rfl ?_
    refine V_getF (r := 35) (n := 75) (c := 8) (k := 8) (nf := 11) (C := RX8) (T := TX8) (q := 61) hX rfl rfl iG8 k2_183 rfl rfl ⟨rfl, by decide⟩ hN rfl rfl rfl rfl dX8_laws_58 rfl ?_
    refine V_iload_n (q := 62) hX dX8_laws_61 3 rfl rfl ?_
    refine V_iload (q := 64) hX dX8_laws_62 4 rfl rfl ?_
    obtain ⟨r96, σ95, e97, h⟩ := bnd_some h
    refine V_cvV (n := 75) (c := 0) (nf := 6) (C := RX0) (T := TX0) (As := [.int (a3), .int (a4)]) (q := 67) hX (c0_goThrough hX.2.2.2.2.1 hN e97) (goodV_of k3_117 k3_118 k3_119 k1_7 (cons_g k3_120)) (nA := 2) (by decide) rfl rfl rfl rfl rfl ⟨rfl, by decide⟩ hN rfl rfl rfl dX8_laws_64 rfl ?_
    refine V_iload (q := 69) hX dX8_laws_67 5 rfl rfl ?_
    refine V_aload_n (q := 70) hX dX8_laws_69 0 rfl rfl ?_
    refine V_getF (r := 35) (n := 75) (c := 8) (k := 8) (nf := 11) (C := RX8) (T := TX8) (q := 73) hX rfl rfl iG8 k2_183 rfl rfl ⟨rfl, by decide⟩ hN rfl rfl rfl rfl dX8_laws_70 rfl ?_
    refine V_aload_n (q := 74) hX dX8_laws_73 0 rfl rfl ?_
    refine V_iload_n (q := 75) hX dX8_laws_74 1 rfl rfl ?_
    obtain ⟨r99, σ98, e100, h⟩ := bnd_some h
    refine V_cvR (n := 75) (c := 8) (nf := 11) (C := RX8) (T := TX8) (As := [.int (a1)]) (q := 78) hX (c8_sheetAt hX.2.2.2.2.1 hN e100) (goodV_of k3_231 k3_233 kp_27 k1_1 (cons_g k3_234)) (nA := 1) (by decide) rfl rfl rfl rfl rfl ⟨rfl, by decide⟩ hN rfl rfl rfl dX8_laws_75 rfl ?_
    obtain ⟨r102, σ101, e103, h⟩ := bnd_some h
    refine V_cvI (n := 75) (c := 0) (nf := 6) (C := RX0) (T := TX0) (As := [.ref (g.ad (r99))]) (q := 81) hX (c0_firstOtherwise hX.2.2.2.2.1 hN (sh8_sheetAt e100) e103) (goodV_of k4_29 k4_30 k4_31 k1_7 (cons_g k4_32)) (nA := 1) (by decide) rfl rfl rfl rfl rfl ⟨rfl, by decide⟩ hN rfl rfl rfl dX8_laws_78 rfl ?_
    refine V_if_ge (q := 84) (t := 91) hX dX8_laws_81 (by decide) rfl (fun z104 => ?_) (fun z104 => ?_)
    · have h := ite_t z104 h
      refine V_iconst (v := 0) (q := 92) hX dX8_laws_91 (by decide) rfl ?_
      refine V.pick [0, 1, 2, 3, 4, 6] rfl ?_
      exact v8_laws_92 hX hN hQ ih x7 x6 (0 : Int32) σ101 h
    have h := ite_f z104 h
    refine V_iconst (v := 1) (q := 85) hX dX8_laws_84 (by decide) rfl ?_
    refine V_iload (q := 87) hX dX8_laws_85 6 rfl rfl ?_
    refine V_ishl (q := 88) hX dX8_laws_87 rfl ?_
    refine V_goto hX dX8_laws_88 (q := 92) (by decide) ?_
    refine V.pick [0, 1, 2, 3, 4, 6] rfl ?_
    exact v8_laws_92 hX hN hQ ih x7 x6 ((1 : Int32) <<< (x7 &&& 31)) σ101 h
theorem v8_laws_25 {g : GT} {X : XT} {a1 : Int32} {a2 : Int32} {a3 : Int32} {a4 : Int32} (hX : OkX g X (m8_laws)) (hN : 75 ≤ g.N) {res : Int32 × St} (hQ : X.Q = QI g X res.1 res.2 ∧ X.cells = 0 ∧ X.slots = 0) (x6 : Int32) (x7 : Int32) (σ : St) (h : S8_laws_25 a1 a2 a3 a4 4096 x6 x7 σ = some res) : V g X (m8_laws) 25 [(0, .ref (g.ad (0))), (1, .int (a1)), (2, .int (a2)), (3, .int (a3)), (4, .int (a4)), (6, .int (x6)), (7, .int (x7))] [] σ := v8_laws_25n hX hN hQ 4096 x6 x7 σ h
set_option maxRecDepth 100000 in
set_option maxHeartbeats 4000000 in
theorem v8_laws {g : GT} {X : XT} {a1 : Int32} {a2 : Int32} {a3 : Int32} {a4 : Int32} (hX : OkX g X (m8_laws)) (hN : 75 ≤ g.N) {res : Int32 × St} (hQ : X.Q = QI g X res.1 res.2 ∧ X.cells = 0 ∧ X.slots = 0) {σ : St} (h : S8_laws a1 a2 a3 a4 σ = some res) : V g X (m8_laws) 0 [(0, .ref (g.ad (0))), (1, .int (a1)), (2, .int (a2)), (3, .int (a3)), (4, .int (a4))] [] σ := by
  unfold S8_laws at h
  refine V_aload_n (q := 1) hX dX8_laws_0 0 rfl rfl ?_
  refine V_iload_n (q := 2) hX dX8_laws_1 1 rfl rfl ?_
  refine V_iload_n (q := 3) hX dX8_laws_2 2 rfl rfl ?_
  refine V_iload_n (q := 4) hX dX8_laws_3 3 rfl rfl ?_
  refine V_iload (q := 6) hX dX8_laws_4 4 rfl rfl ?_
  obtain ⟨r106, σ105, e107, h⟩ := bnd_some h
  refine V_cvI (n := 75) (c := 8) (nf := 11) (C := RX8) (T := TX8) (As := [.int (a1), .int (a2), .int (a3), .int (a4)]) (q := 9) hX (c8_toldFault hX.2.2.2.2.1 hN e107) (goodV_of k4_21 k4_23 kp_29 k1_1 (cons_g k4_24)) (nA := 4) (by decide) rfl rfl rfl rfl rfl ⟨rfl, by decide⟩ hN rfl rfl rfl dX8_laws_6 rfl ?_
  refine V_istore (lv' := [(5, .int (r106)), (0, .ref (g.ad (0))), (1, .int (a1)), (2, .int (a2)), (3, .int (a3)), (4, .int (a4))]) (q := 11) hX dX8_laws_9 rfl rfl rfl ?_
  refine V_iload (q := 13) hX dX8_laws_11 0 rfl rfl ?_
  refine V_if_eq (q := 16) (t := 19) hX dX8_laws_13 (by decide) rfl (fun z108 => ?_) (fun z108 => ?_)
  · have h := ite_t z108 h
    refine V_iconst (v := 0) (q := 20) hX dX8_laws_19 (by decide) rfl ?_
    refine V_istore (lv' := [(6, .int ((0 : Int32))), (5, .int (r106)), (0, .ref (g.ad (0))), (1, .int (a1)), (2, .int (a2)), (3, .int (a3)), (4, .int (a4))]) (q := 22) hX dX8_laws_20 rfl rfl rfl ?_
    refine V_iconst (v := 0) (q := 23) hX dX8_laws_22 (by decide) rfl ?_
    refine V_istore (lv' := [(7, .int ((0 : Int32))), (6, .int ((0 : Int32))), (5, .int (r106)), (0, .ref (g.ad (0))), (1, .int (a1)), (2, .int (a2)), (3, .int (a3)), (4, .int (a4))]) (q := 25) hX dX8_laws_23 rfl rfl rfl ?_
    refine V.pick [3, 4, 5, 6, 7, 1, 0] rfl ?_
    exact v8_laws_25 hX hN hQ (0 : Int32) (0 : Int32) σ105 h
  have h := ite_f z108 h
  refine V_iload (q := 18) hX dX8_laws_16 0 rfl rfl ?_
  obtain ⟨f1, f2⟩ := some2 h
  rw [f1, f2] at hQ
  exact V_iret hX hQ rfl dX8_laws_18
set_option maxRecDepth 100000 in
set_option maxHeartbeats 4000000 in
theorem c8_laws {g : GT} {l : Launch} (hg : OkG g) (hN : 75 ≤ g.N) {a1 : Int32} {a2 : Int32} {a3 : Int32} {a4 : Int32} {σ : St} {r : Int32} {σ' : St} (h : S8_laws a1 a2 a3 a4 σ = some (r, σ')) : CtI g l m8_laws yX8_laws [.ref (g.ad (0)), .int (a1), .int (a2), .int (a3), .int (a4)] σ r σ' := CtI.of hg (by decide) rfl rfl (fun X h1 h2 h3 => v8_laws h1 hN (res := (r, σ')) h3 h)

abbrev m8_whose : MI := (cX8_whose, RX8, 8, some .int, 6)
def S8_whose_110 (a1 : Int32) (a2 : Int32) (a3 : Int32) (a4 : Int32) (k47 : Int32 → Int32 → St → Option (Int32 × St)) (x6 : Int32) (x7 : Int32) (σ : St) : Option (Int32 × St) := k47 x6 (x7 + 1) σ
def S8_whose_107 (a1 : Int32) (a2 : Int32) (a3 : Int32) (a4 : Int32) (k47 : Int32 → Int32 → St → Option (Int32 × St)) (x7 : Int32) (s0 : Int32) (s1 : Int32) (σ : St) : Option (Int32 × St) := S8_whose_110 a1 a2 a3 a4 k47 (s0 ||| s1) x7 σ
def B8_whose_47 (a1 : Int32) (a2 : Int32) (a3 : Int32) (a4 : Int32) (rec : Int32 → Int32 → St → Option (Int32 × St)) (x6 : Int32) (x7 : Int32) (σ : St) : Option (Int32 × St) := if (gI σ 1 1) ≤ x7 then (some (x6, σ)) else (if x7 = a2 then (S8_whose_110 a1 a2 a3 a4 rec x6 x7 σ) else (bnd (S8_pairUp a2 x7 σ) fun r85 σ84 => bnd (S0_goThrough a3 a4 σ84) fun r88 σ87 => bnd (S8_sheetAt a1 σ87) fun r91 σ90 => bnd (S0_firstOtherwise r91 σ90) fun r94 σ93 => if 0 ≤ r94 then (S8_whose_107 a1 a2 a3 a4 rec x7 x6 (0 : Int32) σ93) else (S8_whose_107 a1 a2 a3 a4 rec x7 x6 ((1 : Int32) <<< (x7 &&& 31)) σ93)))
def S8_whose_47 (a1 : Int32) (a2 : Int32) (a3 : Int32) (a4 : Int32) : Nat → Int32 → Int32 → St → Option (Int32 × St)
  | 0, _, _, _ => none
  | n + 1, x6, x7, σ => B8_whose_47 a1 a2 a3 a4 (S8_whose_47 a1 a2 a3 a4 n) x6 x7 σ
def S8_whose (a1 : Int32) (a2 : Int32) (a3 : Int32) (a4 : Int32) (σ : St) : Option (Int32 × St) := bnd (S8_cellsFault a1 σ) fun r98 σ97 => if r98 = 0 then (bnd (S5_has 1 a2 σ97) fun r102 σ101 => if r102 = 0 then (some ((-5 : Int32), σ101)) else (bnd (S8_arePlans a3 a4 σ101) fun r106 σ105 => if r106 = 0 then (some ((-7 : Int32), σ105)) else (S8_whose_47 a1 a2 a3 a4 4096 (0 : Int32) (0 : Int32) σ105))) else (some (r98, σ97))
set_option maxRecDepth 100000 in
set_option maxHeartbeats 4000000 in
theorem v8_whose_110 {g : GT} {X : XT} {a1 : Int32} {a2 : Int32} {a3 : Int32} {a4 : Int32} (hX : OkX g X (m8_whose)) (hN : 75 ≤ g.N) {res : Int32 × St} (hQ : X.Q = QI g X res.1 res.2 ∧ X.cells = 0 ∧ X.slots = 0)  {k47 : Int32 → Int32 → St → Option (Int32 × St)} (hk47 : ∀ (x6 : Int32) (x7 : Int32) (σ : St), k47 x6 x7 σ = some res → V g X (m8_whose) 47 [(0, .ref (g.ad (0))), (1, .int (a1)), (2, .int (a2)), (3, .int (a3)), (4, .int (a4)), (6, .int (x6)), (7, .int (x7))] [] σ) (x6 : Int32) (x7 : Int32) (σ : St)  (h : S8_whose_110 a1 a2 a3 a4 k47 x6 x7 σ = some res) : V g X (m8_whose) 110 [(0, .ref (g.ad (0))), (1, .int (a1)), (2, .int (a2)), (3, .int (a3)), (4, .int (a4)), (6, .int (x6)), (7, .int (x7))] [] σ := by
  unfold S8_whose_110 at h
  refine V_iinc (v := (x7 + 1)) (lv' := [(7, .int ((x7 + 1))), (0, .ref (g.ad (0))), (1, .int (a1)), (2, .int (a2)), (3, .int (a3)), (4, .int (a4)), (6, .int (x6))]) (q := 113) hX dX8_whose_110 6 rfl (by rfl) rfl rfl rfl ?_
  refine V_goto hX dX8_whose_113 (q := 47) (by decide) ?_
  refine V.pick [1, 2, 3, 4, 5, 6, 0] rfl ?_
  exact hk47 x6 (x7 + 1) σ  h
set_option maxRecDepth 100000 in
set_option maxHeartbeats 4000000 in
theorem v8_whose_107 {g : GT} {X : XT} {a1 : Int32} {a2 : Int32} {a3 : Int32} {a4 : Int32} (hX : OkX g X (m8_whose)) (hN : 75 ≤ g.N) {res : Int32 × St} (hQ : X.Q = QI g X res.1 res.2 ∧ X.cells = 0 ∧ X.slots = 0)  {k47 : Int32 → Int32 → St → Option (Int32 × St)} (hk47 : ∀ (x6 : Int32) (x7 : Int32) (σ : St), k47 x6 x7 σ = some res → V g X (m8_whose) 47 [(0, .ref (g.ad (0))), (1, .int (a1)), (2, .int (a2)), (3, .int (a3)), (4, .int (a4)), (6, .int (x6)), (7, .int (x7))] [] σ) (x7 : Int32) (s0 : Int32) (s1 : Int32) (σ : St)  (h : S8_whose_107 a1 a2 a3 a4 k47 x7 s0 s1 σ = some res) : V g X (m8_whose) 107 [(0, .ref (g.ad (0))), (1, .int (a1)), (2, .int (a2)), (3, .int (a3)), (4, .int (a4)), (7, .int (x7))] [.int (s1), .int (s0)] σ := by
  unfold S8_whose_107 at h
  refine V_ior (q := 108) hX dX8_whose_107 rfl ?_
  refine V_istore (lv' := [(6, .int ((s0 ||| s1))), (0, .ref (g.ad (0))), (1, .int (a1)), (2, .int (a2)), (3, .int (a3)), (4, .int (a4)), (7, .int (x7))]) (q := 110) hX dX8_whose_108 rfl rfl rfl ?_
  refine V.pick [1, 2, 3, 4, 5, 0, 6] rfl ?_
  exact v8_whose_110 hX hN hQ hk47 (s0 ||| s1) x7 σ h
set_option maxRecDepth 100000 in
set_option maxHeartbeats 4000000 in
theorem v8_whose_47n {g : GT} {X : XT} {a1 : Int32} {a2 : Int32} {a3 : Int32} {a4 : Int32} (hX : OkX g X (m8_whose)) (hN : 75 ≤ g.N) {res : Int32 × St} (hQ : X.Q = QI g X res.1 res.2 ∧ X.cells = 0 ∧ X.slots = 0)   (n : Nat) : ∀ (x6 : Int32) (x7 : Int32) (σ : St) , S8_whose_47 a1 a2 a3 a4 n x6 x7 σ = some res → V g X (m8_whose) 47 [(0, .ref (g.ad (0))), (1, .int (a1)), (2, .int (a2)), (3, .int (a3)), (4, .int (a4)), (6, .int (x6)), (7, .int (x7))] [] σ := by
  induction n with
  | zero => intro x6 x7 σ; intro h; cases h
  | succ n ih =>
    intro x6 x7 σ h
    have h : B8_whose_47 a1 a2 a3 a4 (S8_whose_47 a1 a2 a3 a4 n) x6 x7 σ = some res := h
    unfold B8_whose_47 at h
    refine V_iload (q := 49) hX dX8_whose_47 6 rfl rfl ?_
    refine V_aload_n (q := 50) hX dX8_whose_49 0 rfl rfl ?_
    refine V_getF (r := 1) (n := 75) (c := 8) (k := 0) (nf := 11) (C := RX8) (T := TX8) (q := 53) hX rfl rfl iG8 k2_175 rfl rfl ⟨rfl, by decide⟩ hN rfl rfl rfl rfl dX8_whose_50 rfl ?_
    refine V_getI (n := 75) (c := 5) (k := 1) (nf := 4) (C := RX5) (T := TX5) (q := 56) hX rfl rfl iG5 k1_72 rfl rfl ⟨rfl, by decide⟩ hN rfl rfl dX8_whose_53 rfl ?_
    refine V_icmp_ge (q := 59) (t := 116) hX dX8_whose_56 (by decide) rfl (fun z82 => ?_) (fun z82 => ?_)
    · have h := ite_t z82 h
      refine V_iload (q := 118) hX dX8_whose_116 5 rfl rfl ?_
      obtain ⟨f1, f2⟩ := some2 h
      rw [f1, f2] at hQ
      exact V_iret hX hQ rfl dX8_whose_118
    have h := ite_f z82 h
    refine V_iload (q := 61) hX dX8_whose_59 6 rfl rfl ?_
    refine V_iload_n (q := 62) hX dX8_whose_61 2 rfl rfl ?_
    refine V_icmp_eq (q := 65) (t := 110) hX dX8_whose_62 (by decide) rfl (fun z83 => ?_) (fun z83 => ?_)
    · have h := ite_t z83 h
      refine V.pick [0, 1, 2, 3, 4, 5, 6] rfl ?_
      exact v8_whose_110 hX hN hQ ih x6 x7 σ h
    have h := ite_f z83 h
    refine V_aload_n (q := 66) hX dX8_whose_65 0 rfl rfl ?_
    refine V_iload_n (q := 67) hX dX8_whose_66 2 rfl rfl ?_
    refine V_iload (q := 69) hX dX8_whose_67 6 rfl rfl ?_
    obtain ⟨r85, σ84, e86, h⟩ := bnd_some h
    refine V_cvV (n := 75) (c := 8) (nf := 11) (C := RX8) (T := TX8) (As := [.int (a2), .int (x7)]) (q := 72) hX (c8_pairUp hX.2.2.2.2.1 hN e86) (goodV_of k3_211 k3_213 kp_23 k1_1 (cons_g k3_214)) (nA := 2) (by decide) rfl rfl rfl rfl rfl ⟨rfl, by decide⟩ hN rfl rfl rfl dX8_whose_69 rfl ?_
    refine V_aload_n (q := 73) hX dX8_whose_72 0 rfl rfl ?_
    refine V_getF (r := 35) (n := 75) (c := 8) (k := 8) (nf := 11) (C := RX8) (T := TX8) (q := 76) hX rfl rfl iG8 k2_183 rfl rfl ⟨rfl, by decide⟩ hN rfl rfl rfl rfl dX8_whose_73 rfl ?_
    refine V_iload_n (q := 77) hX dX8_whose_76 3 rfl rfl ?_
    refine V_iload (q := 79) hX dX8_whose_77 4 rfl rfl ?_
    obtain ⟨r88, σ87, e89, h⟩ := bnd_some h
    refine V_cvV (n := 75) (c := 0) (nf := 6) (C := RX0) (T := TX0) (As := [.int (a3), .int (a4)]) (q := 82) hX (c0_goThrough hX.2.2.2.2.1 hN e89) (goodV_of k3_117 k3_118 k3_119 k1_7 (cons_g k3_120)) (nA := 2) (by decide) rfl rfl rfl rfl rfl ⟨rfl, by decide⟩ hN rfl rfl rfl dX8_whose_79 rfl ?_
    refine V_iload (q := 84) hX dX8_whose_82 5 rfl rfl ?_
    refine V_aload_n (q := 85) hX dX8_whose_84 0 rfl rfl ?_
    refine V_getF (r := 35) (n := 75) (c := 8) (k := 8) (nf := 11) (C := RX8) (T := TX8) (q := 88) hX rfl rfl iG8 k2_183 rfl rfl ⟨rfl, by decide⟩ hN rfl rfl rfl rfl dX8_whose_85 rfl ?_
    refine V_aload_n (q := 89) hX dX8_whose_88 0 rfl rfl ?_
    refine V_iload_n (q := 90) hX dX8_whose_89 1 rfl rfl ?_
    obtain ⟨r91, σ90, e92, h⟩ := bnd_some h
    refine V_cvR (n := 75) (c := 8) (nf := 11) (C := RX8) (T := TX8) (As := [.int (a1)]) (q := 93) hX (c8_sheetAt hX.2.2.2.2.1 hN e92) (goodV_of k3_231 k3_233 kp_27 k1_1 (cons_g k3_234)) (nA := 1) (by decide) rfl rfl rfl rfl rfl ⟨rfl, by decide⟩ hN rfl rfl rfl dX8_whose_90 rfl ?_
    obtain ⟨r94, σ93, e95, h⟩ := bnd_some h
    refine V_cvI (n := 75) (c := 0) (nf := 6) (C := RX0) (T := TX0) (As := [.ref (g.ad (r91))]) (q := 96) hX (c0_firstOtherwise hX.2.2.2.2.1 hN (sh8_sheetAt e92) e95) (goodV_of k4_29 k4_30 k4_31 k1_7 (cons_g k4_32)) (nA := 1) (by decide) rfl rfl rfl rfl rfl ⟨rfl, by decide⟩ hN rfl rfl rfl dX8_whose_93 rfl ?_
    refine V_if_ge (q := 99) (t := 106) hX dX8_whose_96 (by decide) rfl (fun z96 => ?_) (fun z96 => ?_)
    · have h := ite_t z96 h
      refine V_iconst (v := 0) (q := 107) hX dX8_whose_106 (by decide) rfl ?_
      refine V.pick [0, 1, 2, 3, 4, 6] rfl ?_
      exact v8_whose_107 hX hN hQ ih x7 x6 (0 : Int32) σ93 h
    have h := ite_f z96 h
    refine V_iconst (v := 1) (q := 100) hX dX8_whose_99 (by decide) rfl ?_
    refine V_iload (q := 102) hX dX8_whose_100 6 rfl rfl ?_
    refine V_ishl (q := 103) hX dX8_whose_102 rfl ?_
    refine V_goto hX dX8_whose_103 (q := 107) (by decide) ?_
    refine V.pick [0, 1, 2, 3, 4, 6] rfl ?_
    exact v8_whose_107 hX hN hQ ih x7 x6 ((1 : Int32) <<< (x7 &&& 31)) σ93 h
theorem v8_whose_47 {g : GT} {X : XT} {a1 : Int32} {a2 : Int32} {a3 : Int32} {a4 : Int32} (hX : OkX g X (m8_whose)) (hN : 75 ≤ g.N) {res : Int32 × St} (hQ : X.Q = QI g X res.1 res.2 ∧ X.cells = 0 ∧ X.slots = 0) (x6 : Int32) (x7 : Int32) (σ : St) (h : S8_whose_47 a1 a2 a3 a4 4096 x6 x7 σ = some res) : V g X (m8_whose) 47 [(0, .ref (g.ad (0))), (1, .int (a1)), (2, .int (a2)), (3, .int (a3)), (4, .int (a4)), (6, .int (x6)), (7, .int (x7))] [] σ := v8_whose_47n hX hN hQ 4096 x6 x7 σ h
set_option maxRecDepth 100000 in
set_option maxHeartbeats 4000000 in
theorem v8_whose {g : GT} {X : XT} {a1 : Int32} {a2 : Int32} {a3 : Int32} {a4 : Int32} (hX : OkX g X (m8_whose)) (hN : 75 ≤ g.N) {res : Int32 × St} (hQ : X.Q = QI g X res.1 res.2 ∧ X.cells = 0 ∧ X.slots = 0) {σ : St} (h : S8_whose a1 a2 a3 a4 σ = some res) : V g X (m8_whose) 0 [(0, .ref (g.ad (0))), (1, .int (a1)), (2, .int (a2)), (3, .int (a3)), (4, .int (a4))] [] σ := by
  unfold S8_whose at h
  refine V_aload_n (q := 1) hX dX8_whose_0 0 rfl rfl ?_
  refine V_iload_n (q := 2) hX dX8_whose_1 1 rfl rfl ?_
  obtain ⟨r98, σ97, e99, h⟩ := bnd_some h
  refine V_cvI (n := 75) (c := 8) (nf := 11) (C := RX8) (T := TX8) (As := [.int (a1)]) (q := 5) hX (c8_cellsFault hX.2.2.2.2.1 hN e99) (goodV_of k4_25 k4_27 kp_30 k1_1 (cons_g k4_28)) (nA := 1) (by decide) rfl rfl rfl rfl rfl ⟨rfl, by decide⟩ hN rfl rfl rfl dX8_whose_2 rfl ?_
  refine V_istore (lv' := [(5, .int (r98)), (0, .ref (g.ad (0))), (1, .int (a1)), (2, .int (a2)), (3, .int (a3)), (4, .int (a4))]) (q := 7) hX dX8_whose_5 rfl rfl rfl ?_
  refine V_iload (q := 9) hX dX8_whose_7 0 rfl rfl ?_
  refine V_if_eq (q := 12) (t := 15) hX dX8_whose_9 (by decide) rfl (fun z100 => ?_) (fun z100 => ?_)
  · have h := ite_t z100 h
    refine V_aload_n (q := 16) hX dX8_whose_15 1 rfl rfl ?_
    refine V_getF (r := 1) (n := 75) (c := 8) (k := 0) (nf := 11) (C := RX8) (T := TX8) (q := 19) hX rfl rfl iG8 k2_175 rfl rfl ⟨rfl, by decide⟩ hN rfl rfl rfl rfl dX8_whose_16 rfl ?_
    refine V_iload_n (q := 20) hX dX8_whose_19 3 rfl rfl ?_
    obtain ⟨r102, σ101, e103, h⟩ := bnd_some h
    refine V_cvI (n := 75) (c := 5) (nf := 4) (C := RX5) (T := TX5) (As := [.int (a2)]) (q := 23) hX (c5_has hX.2.2.2.2.1 hN ⟨rfl, by decide⟩ e103) (goodV_of k2_237 k2_238 k2_239 k1_2 (cons_g k3_0)) (nA := 1) (by decide) rfl rfl rfl rfl rfl ⟨rfl, by decide⟩ hN rfl rfl rfl dX8_whose_20 rfl ?_
    refine V_if_ne (q := 26) (t := 29) hX dX8_whose_23 (by decide) rfl (fun z104 => ?_) (fun z104 => ?_)
    · have h := ite_f z104 h
      refine V_iload_n (q := 30) hX dX8_whose_29 4 rfl rfl ?_
      refine V_iload (q := 32) hX dX8_whose_30 5 rfl rfl ?_
      obtain ⟨r106, σ105, e107, h⟩ := bnd_some h
      refine V_csI (As := [.int (a3), .int (a4)]) (q := 35) hX (c8_arePlans hX.2.2.2.2.1 hN e107) (goodS_of k3_75 k3_76 k1_1 (cons_g k3_77)) (nA := 2) (by decide) rfl rfl rfl rfl rfl dX8_whose_32 rfl ?_
      refine V_if_ne (q := 38) (t := 41) hX dX8_whose_35 (by decide) rfl (fun z108 => ?_) (fun z108 => ?_)
      · have h := ite_f z108 h
        refine V_iconst (v := 0) (q := 42) hX dX8_whose_41 (by decide) rfl ?_
        refine V_istore (lv' := [(6, .int ((0 : Int32))), (5, .int (r98)), (0, .ref (g.ad (0))), (1, .int (a1)), (2, .int (a2)), (3, .int (a3)), (4, .int (a4))]) (q := 44) hX dX8_whose_42 rfl rfl rfl ?_
        refine V_iconst (v := 0) (q := 45) hX dX8_whose_44 (by decide) rfl ?_
        refine V_istore (lv' := [(7, .int ((0 : Int32))), (6, .int ((0 : Int32))), (5, .int (r98)), (0, .ref (g.ad (0))), (1, .int (a1)), (2, .int (a2)), (3, .int (a3)), (4, .int (a4))]) (q := 47) hX dX8_whose_45 rfl rfl rfl ?_
        refine V.pick [3, 4, 5, 6, 7, 1, 0] rfl ?_
        exact v8_whose_47 hX hN hQ (0 : Int32) (0 : Int32) σ105 h
      have h := ite_t z108 h
      refine V_bipush (v := -7) (q := 40) hX dX8_whose_38 (by decide) rfl ?_
      obtain ⟨f1, f2⟩ := some2 h
      rw [f1, f2] at hQ
      exact V_iret hX hQ rfl dX8_whose_40
    have h := ite_t z104 h
    refine V_bipush (v := -5) (q := 28) hX dX8_whose_26 (by decide) rfl ?_
    obtain ⟨f1, f2⟩ := some2 h
    rw [f1, f2] at hQ
    exact V_iret hX hQ rfl dX8_whose_28
  have h := ite_f z100 h
  refine V_iload (q := 14) hX dX8_whose_12 0 rfl rfl ?_
  obtain ⟨f1, f2⟩ := some2 h
  rw [f1, f2] at hQ
  exact V_iret hX hQ rfl dX8_whose_14
set_option maxRecDepth 100000 in
set_option maxHeartbeats 4000000 in
theorem c8_whose {g : GT} {l : Launch} (hg : OkG g) (hN : 75 ≤ g.N) {a1 : Int32} {a2 : Int32} {a3 : Int32} {a4 : Int32} {σ : St} {r : Int32} {σ' : St} (h : S8_whose a1 a2 a3 a4 σ = some (r, σ')) : CtI g l m8_whose yX8_whose [.ref (g.ad (0)), .int (a1), .int (a2), .int (a3), .int (a4)] σ r σ' := CtI.of hg (by decide) rfl rfl (fun X h1 h2 h3 => v8_whose h1 hN (res := (r, σ')) h3 h)

abbrev m8_film : MI := (cX8_film, RX8, 6, some .int, 5)
def B8_film_84 (a1 : Int32) (a2 : Int32) (a3 : Int32) (a4 : Int32) (rec : Int32 → St → Option (Int32 × St)) (x5 : Int32) (σ : St) : Option (Int32 × St) := if (gI σ 35 4) ≤ x5 then (some ((gI σ 35 4), σ)) else (bnd (S8_sheetAt a1 σ) fun r89 σ88 => bnd (S0_cellBehind (x5 + (1 : Int32)) σ88) fun r92 σ91 => bnd (S3_write r89 x5 r92 σ91) fun r95 σ94 => rec (x5 + 1) σ94)
def S8_film_84 (a1 : Int32) (a2 : Int32) (a3 : Int32) (a4 : Int32) : Nat → Int32 → St → Option (Int32 × St)
  | 0, _, _ => none
  | n + 1, x5, σ => B8_film_84 a1 a2 a3 a4 (S8_film_84 a1 a2 a3 a4 n) x5 σ
def S8_film (a1 : Int32) (a2 : Int32) (a3 : Int32) (a4 : Int32) (σ : St) : Option (Int32 × St) := bnd (S8_isSheet a1 σ) fun r98 σ97 => if r98 = 0 then (some ((-2 : Int32), σ97)) else (bnd (S8_isPair a2 σ97) fun r102 σ101 => if r102 = 0 then (some ((-5 : Int32), σ101)) else (bnd (S8_arePlans a3 a4 σ101) fun r106 σ105 => if r106 = 0 then (some ((-7 : Int32), σ105)) else (bnd (S8_theOne a2 σ105) fun r110 σ109 => bnd (S8_theOther a2 σ109) fun r113 σ112 => bnd (S8_theLaw σ112) fun r116 σ115 => bnd (S0_pair r110 r113 r116 σ115) fun r119 σ118 => bnd (S0_goThrough a3 a4 σ118) fun r122 σ121 => bnd (S8_sheetAt a1 σ121) fun r125 σ124 => bnd (S3_becomesRow r125 (0 : Int32) (gI σ124 35 4) σ124) fun r128 σ127 => S8_film_84 a1 a2 a3 a4 4096 (0 : Int32) σ127)))
set_option maxRecDepth 100000 in
set_option maxHeartbeats 4000000 in
theorem v8_film_84n {g : GT} {X : XT} {a1 : Int32} {a2 : Int32} {a3 : Int32} {a4 : Int32} (hX : OkX g X (m8_film)) (hN : 75 ≤ g.N) {res : Int32 × St} (hQ : X.Q = QI g X res.1 res.2 ∧ X.cells = 0 ∧ X.slots = 0)   (n : Nat) : ∀ (x5 : Int32) (σ : St) , S8_film_84 a1 a2 a3 a4 n x5 σ = some res → V g X (m8_film) 84 [(0, .ref (g.ad (0))), (1, .int (a1)), (5, .int (x5))] [] σ := by
  induction n with
  | zero => intro x5 σ; intro h; cases h
  | succ n ih =>
    intro x5 σ h
    have h : B8_film_84 a1 a2 a3 a4 (S8_film_84 a1 a2 a3 a4 n) x5 σ = some res := h
    unfold B8_film_84 at h
    refine V_iload (q := 86) hX dX8_film_84 2 rfl rfl ?_
    refine V_aload_n (q := 87) hX dX8_film_86 0 rfl rfl ?_
    refine V_getF (r := 35) (n := 75) (c := 8) (k := 8) (nf := 11) (C := RX8) (T := TX8) (q := 90) hX rfl rfl iG8 k2_183 rfl rfl ⟨rfl, by decide⟩ hN rfl rfl rfl rfl dX8_film_87 rfl ?_
    refine V_getI (n := 75) (c := 0) (k := 4) (nf := 6) (C := RX0) (T := TX0) (q := 93) hX rfl rfl iG0 k1_190 rfl rfl ⟨rfl, by decide⟩ hN rfl rfl dX8_film_90 rfl ?_
    refine V_icmp_ge (q := 96) (t := 123) hX dX8_film_93 (by decide) rfl (fun z87 => ?_) (fun z87 => ?_)
    · have h := ite_t z87 h
      refine V_aload_n (q := 124) hX dX8_film_123 0 rfl rfl ?_
      refine V_getF (r := 35) (n := 75) (c := 8) (k := 8) (nf := 11) (C := RX8) (T := TX8) (q := 127) hX rfl rfl iG8 k2_183 rfl rfl ⟨rfl, by decide⟩ hN rfl rfl rfl rfl dX8_film_124 rfl ?_
      refine V_getI (n := 75) (c := 0) (k := 4) (nf := 6) (C := RX0) (T := TX0) (q := 130) hX rfl rfl iG0 k1_190 rfl rfl ⟨rfl, by decide⟩ hN rfl rfl dX8_film_127 rfl ?_
      obtain ⟨f1, f2⟩ := some2 h
      rw [f1, f2] at hQ
      exact V_iret hX hQ rfl dX8_film_130
    have h := ite_f z87 h
    refine V_aload_n (q := 97) hX dX8_film_96 0 rfl rfl ?_
    refine V_iload_n (q := 98) hX dX8_film_97 1 rfl rfl ?_
    obtain ⟨r89, σ88, e90, h⟩ := bnd_some h
    refine V_cvR (n := 75) (c := 8) (nf := 11) (C := RX8) (T := TX8) (As := [.int (a1)]) (q := 101) hX (c8_sheetAt hX.2.2.2.2.1 hN e90) (goodV_of k3_231 k3_233 kp_27 k1_1 (cons_g k3_234)) (nA := 1) (by decide) rfl rfl rfl rfl rfl ⟨rfl, by decide⟩ hN rfl rfl rfl dX8_film_98 rfl ?_
    refine V_iload (q := 103) hX dX8_film_101 2 rfl rfl ?_
    refine V_aload_n (q := 104) hX dX8_film_103 0 rfl rfl ?_
    refine V_getF (r := 35) (n := 75) (c := 8) (k := 8) (nf := 11) (C := RX8) (T := TX8) (q := 107) hX rfl rfl iG8 k2_183 rfl rfl ⟨rfl, by decide⟩ hN rfl rfl rfl rfl dX8_film_104 rfl ?_
    refine V_iload (q := 109) hX dX8_film_107 2 rfl rfl ?_
    refine V_iconst (v := 1) (q := 110) hX dX8_film_109 (by decide) rfl ?_
    refine V_iadd (q := 111) hX dX8_film_110 rfl ?_
    obtain ⟨r92, σ91, e93, h⟩ := bnd_some h
    refine V_cvI (n := 75) (c := 0) (nf := 6) (C := RX0) (T := TX0) (As := [.int ((x5 + (1 : Int32)))]) (q := 114) hX (c0_cellBehind hX.2.2.2.2.1 hN e93) (goodV_of k3_155 k3_156 k3_157 k1_7 (cons_g k3_158)) (nA := 1) (by decide) rfl rfl rfl rfl rfl ⟨rfl, by decide⟩ hN rfl rfl rfl dX8_film_111 rfl ?_
    obtain ⟨r95, σ94, e96, h⟩ := bnd_some h
    refine V_cvV (n := 75) (c := 3) (nf := 3) (C := RX3) (T := TX3) (As := [.int (x5), .int (r92)]) (q := 117) hX (c3_write hX.2.2.2.2.1 hN (sh8_sheetAt e90) e96) (goodV_of k4_69 k4_70 k4_71 k1_9 (cons_g k4_72)) (nA := 2) (by decide) rfl rfl rfl rfl rfl (sh8_sheetAt  e90) hN rfl rfl rfl dX8_film_114 rfl ?_
    refine V_iinc (v := (x5 + 1)) (lv' := [(5, .int ((x5 + 1))), (0, .ref (g.ad (0))), (1, .int (a1))]) (q := 120) hX dX8_film_117 2 rfl (by rfl) rfl rfl rfl ?_
    refine V_goto hX dX8_film_120 (q := 84) (by decide) ?_
    refine V.pick [1, 2, 0] rfl ?_
    exact ih (x5 + 1) σ94  h
theorem v8_film_84 {g : GT} {X : XT} {a1 : Int32} {a2 : Int32} {a3 : Int32} {a4 : Int32} (hX : OkX g X (m8_film)) (hN : 75 ≤ g.N) {res : Int32 × St} (hQ : X.Q = QI g X res.1 res.2 ∧ X.cells = 0 ∧ X.slots = 0) (x5 : Int32) (σ : St) (h : S8_film_84 a1 a2 a3 a4 4096 x5 σ = some res) : V g X (m8_film) 84 [(0, .ref (g.ad (0))), (1, .int (a1)), (5, .int (x5))] [] σ := v8_film_84n hX hN hQ 4096 x5 σ h
set_option maxRecDepth 100000 in
set_option maxHeartbeats 4000000 in
theorem v8_film {g : GT} {X : XT} {a1 : Int32} {a2 : Int32} {a3 : Int32} {a4 : Int32} (hX : OkX g X (m8_film)) (hN : 75 ≤ g.N) {res : Int32 × St} (hQ : X.Q = QI g X res.1 res.2 ∧ X.cells = 0 ∧ X.slots = 0) {σ : St} (h : S8_film a1 a2 a3 a4 σ = some res) : V g X (m8_film) 0 [(0, .ref (g.ad (0))), (1, .int (a1)), (2, .int (a2)), (3, .int (a3)), (4, .int (a4))] [] σ := by
  unfold S8_film at h
  refine V_aload_n (q := 1) hX dX8_film_0 0 rfl rfl ?_
  refine V_iload_n (q := 2) hX dX8_film_1 1 rfl rfl ?_
  obtain ⟨r98, σ97, e99, h⟩ := bnd_some h
  refine V_cvI (n := 75) (c := 8) (nf := 11) (C := RX8) (T := TX8) (As := [.int (a1)]) (q := 5) hX (c8_isSheet hX.2.2.2.2.1 hN e99) (goodV_of k3_227 k3_229 kp_26 k1_1 (cons_g k3_230)) (nA := 1) (by decide) rfl rfl rfl rfl rfl ⟨rfl, by decide⟩ hN rfl rfl rfl dX8_film_2 rfl ?_
  refine V_if_ne (q := 8) (t := 11) hX dX8_film_5 (by decide) rfl (fun z100 => ?_) (fun z100 => ?_)
  · have h := ite_f z100 h
    refine V_aload_n (q := 12) hX dX8_film_11 0 rfl rfl ?_
    refine V_iload_n (q := 13) hX dX8_film_12 2 rfl rfl ?_
    obtain ⟨r102, σ101, e103, h⟩ := bnd_some h
    refine V_cvI (n := 75) (c := 8) (nf := 11) (C := RX8) (T := TX8) (As := [.int (a2)]) (q := 16) hX (c8_isPair hX.2.2.2.2.1 hN e103) (goodV_of k3_67 k3_69 kp_14 k1_1 (cons_g k3_70)) (nA := 1) (by decide) rfl rfl rfl rfl rfl ⟨rfl, by decide⟩ hN rfl rfl rfl dX8_film_13 rfl ?_
    refine V_if_ne (q := 19) (t := 22) hX dX8_film_16 (by decide) rfl (fun z104 => ?_) (fun z104 => ?_)
    · have h := ite_f z104 h
      refine V_iload_n (q := 23) hX dX8_film_22 3 rfl rfl ?_
      refine V_iload (q := 25) hX dX8_film_23 4 rfl rfl ?_
      obtain ⟨r106, σ105, e107, h⟩ := bnd_some h
      refine V_csI (As := [.int (a3), .int (a4)]) (q := 28) hX (c8_arePlans hX.2.2.2.2.1 hN e107) (goodS_of k3_75 k3_76 k1_1 (cons_g k3_77)) (nA := 2) (by decide) rfl rfl rfl rfl rfl dX8_film_25 rfl ?_
      refine V_if_ne (q := 31) (t := 34) hX dX8_film_28 (by decide) rfl (fun z108 => ?_) (fun z108 => ?_)
      · have h := ite_f z108 h
        refine V_aload_n (q := 35) hX dX8_film_34 0 rfl rfl ?_
        refine V_getF (r := 35) (n := 75) (c := 8) (k := 8) (nf := 11) (C := RX8) (T := TX8) (q := 38) hX rfl rfl iG8 k2_183 rfl rfl ⟨rfl, by decide⟩ hN rfl rfl rfl rfl dX8_film_35 rfl ?_
        refine V_aload_n (q := 39) hX dX8_film_38 0 rfl rfl ?_
        refine V_iload_n (q := 40) hX dX8_film_39 2 rfl rfl ?_
        obtain ⟨r110, σ109, e111, h⟩ := bnd_some h
        refine V_cvR (n := 75) (c := 8) (nf := 11) (C := RX8) (T := TX8) (As := [.int (a2)]) (q := 43) hX (c8_theOne hX.2.2.2.2.1 hN e111) (goodV_of k3_82 k3_84 kp_16 k1_1 (cons_g k3_85)) (nA := 1) (by decide) rfl rfl rfl rfl rfl ⟨rfl, by decide⟩ hN rfl rfl rfl dX8_film_40 rfl ?_
        refine V_aload_n (q := 44) hX dX8_film_43 0 rfl rfl ?_
        refine V_iload_n (q := 45) hX dX8_film_44 2 rfl rfl ?_
        obtain ⟨r113, σ112, e114, h⟩ := bnd_some h
        refine V_cvR (n := 75) (c := 8) (nf := 11) (C := RX8) (T := TX8) (As := [.int (a2)]) (q := 48) hX (c8_theOther hX.2.2.2.2.1 hN e114) (goodV_of k3_86 k3_88 kp_17 k1_1 (cons_g k3_89)) (nA := 1) (by decide) rfl rfl rfl rfl rfl ⟨rfl, by decide⟩ hN rfl rfl rfl dX8_film_45 rfl ?_
        refine V_aload_n (q := 49) hX dX8_film_48 0 rfl rfl ?_
        obtain ⟨r116, σ115, e117, h⟩ := bnd_some h
        refine V_cvR (n := 75) (c := 8) (nf := 11) (C := RX8) (T := TX8) (As := []) (q := 52) hX (c8_theLaw hX.2.2.2.2.1 hN e117) (goodV_of k3_1 k3_3 kp_13 k1_1 (cons_g k3_4)) (nA := 0) (by decide) rfl rfl rfl rfl rfl ⟨rfl, by decide⟩ hN rfl rfl rfl dX8_film_49 rfl ?_
        obtain ⟨r119, σ118, e120, h⟩ := bnd_some h
        refine V_cvV (n := 75) (c := 0) (nf := 6) (C := RX0) (T := TX0) (As := [.ref (g.ad (r110)), .ref (g.ad (r113)), .ref (g.ad (r116))]) (q := 55) hX (c0_pair hX.2.2.2.2.1 hN (sh8_theOne e111) (sh8_theOther e114) (sh8_theLaw e117) e120) (goodV_of k3_90 k3_91 k3_92 k1_7 (cons_g k3_93)) (nA := 3) (by decide) rfl rfl rfl rfl rfl ⟨rfl, by decide⟩ hN rfl rfl rfl dX8_film_52 rfl ?_
        refine V_aload_n (q := 56) hX dX8_film_55 0 rfl rfl ?_
        refine V_getF (r := 35) (n := 75) (c := 8) (k := 8) (nf := 11) (C := RX8) (T := TX8) (q := 59) hX rfl rfl iG8 k2_183 rfl rfl ⟨rfl, by decide⟩ hN rfl rfl rfl rfl dX8_film_56 rfl ?_
        refine V_iload_n (q := 60) hX dX8_film_59 3 rfl rfl ?_
        refine V_iload (q := 62) hX dX8_film_60 4 rfl rfl ?_
        obtain ⟨r122, σ121, e123, h⟩ := bnd_some h
        refine V_cvV (n := 75) (c := 0) (nf := 6) (C := RX0) (T := TX0) (As := [.int (a3), .int (a4)]) (q := 65) hX (c0_goThrough hX.2.2.2.2.1 hN e123) (goodV_of k3_117 k3_118 k3_119 k1_7 (cons_g k3_120)) (nA := 2) (by decide) rfl rfl rfl rfl rfl ⟨rfl, by decide⟩ hN rfl rfl rfl dX8_film_62 rfl ?_
        refine V_aload_n (q := 66) hX dX8_film_65 0 rfl rfl ?_
        refine V_iload_n (q := 67) hX dX8_film_66 1 rfl rfl ?_
        obtain ⟨r125, σ124, e126, h⟩ := bnd_some h
        refine V_cvR (n := 75) (c := 8) (nf := 11) (C := RX8) (T := TX8) (As := [.int (a1)]) (q := 70) hX (c8_sheetAt hX.2.2.2.2.1 hN e126) (goodV_of k3_231 k3_233 kp_27 k1_1 (cons_g k3_234)) (nA := 1) (by decide) rfl rfl rfl rfl rfl ⟨rfl, by decide⟩ hN rfl rfl rfl dX8_film_67 rfl ?_
        refine V_iconst (v := 0) (q := 71) hX dX8_film_70 (by decide) rfl ?_
        refine V_aload_n (q := 72) hX dX8_film_71 0 rfl rfl ?_
        refine V_getF (r := 35) (n := 75) (c := 8) (k := 8) (nf := 11) (C := RX8) (T := TX8) (q := 75) hX rfl rfl iG8 k2_183 rfl rfl ⟨rfl, by decide⟩ hN rfl rfl rfl rfl dX8_film_72 rfl ?_
        refine V_getI (n := 75) (c := 0) (k := 4) (nf := 6) (C := RX0) (T := TX0) (q := 78) hX rfl rfl iG0 k1_190 rfl rfl ⟨rfl, by decide⟩ hN rfl rfl dX8_film_75 rfl ?_
        obtain ⟨r128, σ127, e129, h⟩ := bnd_some h
        refine V_cvV (n := 75) (c := 3) (nf := 3) (C := RX3) (T := TX3) (As := [.int ((0 : Int32)), .int ((gI σ124 35 4))]) (q := 81) hX (c3_becomesRow hX.2.2.2.2.1 hN (sh8_sheetAt e126) e129) (goodV_of k4_63 k4_64 k4_65 k1_9 (cons_g k4_66)) (nA := 2) (by decide) rfl rfl rfl rfl rfl (sh8_sheetAt  e126) hN rfl rfl rfl dX8_film_78 rfl ?_
        refine V_iconst (v := 0) (q := 82) hX dX8_film_81 (by decide) rfl ?_
        refine V_istore (lv' := [(5, .int ((0 : Int32))), (0, .ref (g.ad (0))), (1, .int (a1)), (2, .int (a2)), (3, .int (a3)), (4, .int (a4))]) (q := 84) hX dX8_film_82 rfl rfl rfl ?_
        refine V.pick [1, 2, 0] rfl ?_
        exact v8_film_84 hX hN hQ (0 : Int32) σ127 h
      have h := ite_t z108 h
      refine V_bipush (v := -7) (q := 33) hX dX8_film_31 (by decide) rfl ?_
      obtain ⟨f1, f2⟩ := some2 h
      rw [f1, f2] at hQ
      exact V_iret hX hQ rfl dX8_film_33
    have h := ite_t z104 h
    refine V_bipush (v := -5) (q := 21) hX dX8_film_19 (by decide) rfl ?_
    obtain ⟨f1, f2⟩ := some2 h
    rw [f1, f2] at hQ
    exact V_iret hX hQ rfl dX8_film_21
  have h := ite_t z100 h
  refine V_bipush (v := -2) (q := 10) hX dX8_film_8 (by decide) rfl ?_
  obtain ⟨f1, f2⟩ := some2 h
  rw [f1, f2] at hQ
  exact V_iret hX hQ rfl dX8_film_10
set_option maxRecDepth 100000 in
set_option maxHeartbeats 4000000 in
theorem c8_film {g : GT} {l : Launch} (hg : OkG g) (hN : 75 ≤ g.N) {a1 : Int32} {a2 : Int32} {a3 : Int32} {a4 : Int32} {σ : St} {r : Int32} {σ' : St} (h : S8_film a1 a2 a3 a4 σ = some (r, σ')) : CtI g l m8_film yX8_film [.ref (g.ad (0)), .int (a1), .int (a2), .int (a3), .int (a4)] σ r σ' := CtI.of hg (by decide) rfl rfl (fun X h1 h2 h3 => v8_film h1 hN (res := (r, σ')) h3 h)

abbrev m8_isSeed : MI := (cX8_isSeed, RX8, 1, some .boolean, 1)
def S8_isSeed (a0 : Int32) (σ : St) : Option (Int32 × St) := if a0 < 0 then (some ((0 : Int32), σ)) else (if (99999 : Int32) < a0 then (some ((0 : Int32), σ)) else (some ((1 : Int32), σ)))
set_option maxRecDepth 100000 in
set_option maxHeartbeats 4000000 in
theorem v8_isSeed {g : GT} {X : XT} {a0 : Int32} (hX : OkX g X (m8_isSeed)) (hN : 75 ≤ g.N) {res : Int32 × St} (hQ : X.Q = QI g X res.1 res.2 ∧ X.cells = 0 ∧ X.slots = 0) {σ : St} (h : S8_isSeed a0 σ = some res) : V g X (m8_isSeed) 0 [(0, .int (a0))] [] σ := by
  unfold S8_isSeed at h
  refine V_iload_n (q := 1) hX dX8_isSeed_0 0 rfl rfl ?_
  refine V_if_lt (q := 4) (t := 15) hX dX8_isSeed_1 (by decide) rfl (fun z3 => ?_) (fun z3 => ?_)
  · have h := ite_t z3 h
    refine V_iconst (v := 0) (q := 16) hX dX8_isSeed_15 (by decide) rfl ?_
    obtain ⟨f1, f2⟩ := some2 h
    rw [f1, f2] at hQ
    exact V_zret (ty := .boolean) hX hQ rfl rfl dX8_isSeed_16
  have h := ite_f z3 h
  refine V_iload_n (q := 5) hX dX8_isSeed_4 0 rfl rfl ?_
  refine V_ldcw (v := 99999) (q := 8) hX k4_80 dX8_isSeed_5 rfl ?_
  refine V_icmp_gt (q := 11) (t := 15) hX dX8_isSeed_8 (by decide) rfl (fun z4 => ?_) (fun z4 => ?_)
  · have h := ite_t z4 h
    refine V_iconst (v := 0) (q := 16) hX dX8_isSeed_15 (by decide) rfl ?_
    obtain ⟨f1, f2⟩ := some2 h
    rw [f1, f2] at hQ
    exact V_zret (ty := .boolean) hX hQ rfl rfl dX8_isSeed_16
  have h := ite_f z4 h
  refine V_iconst (v := 1) (q := 12) hX dX8_isSeed_11 (by decide) rfl ?_
  refine V_goto hX dX8_isSeed_12 (q := 16) (by decide) ?_
  obtain ⟨f1, f2⟩ := some2 h
  rw [f1, f2] at hQ
  exact V_zret (ty := .boolean) hX hQ rfl rfl dX8_isSeed_16
set_option maxRecDepth 100000 in
set_option maxHeartbeats 4000000 in
theorem c8_isSeed {g : GT} {l : Launch} (hg : OkG g) (hN : 75 ≤ g.N) {a0 : Int32} {σ : St} {r : Int32} {σ' : St} (h : S8_isSeed a0 σ = some (r, σ')) : CtI g l m8_isSeed yX8_isSeed [.int (a0)] σ r σ' := CtI.of hg (by decide) rfl rfl (fun X h1 h2 h3 => v8_isSeed h1 hN (res := (r, σ')) h3 h)

abbrev m8_goThroughByLots : MI := (cX8_goThroughByLots, RX8, 6, none, 5)
def S8_goThroughByLots (a1 : Int32) (σ : St) : Option (Unit × St) := bnd (S0_goThrough (((jlrem (jlrem ((((a1 + (1 : Int32))).toInt64) * (48271 : Int64)) (2147483647 : Int64)) (262144 : Int64))).toInt32) (((jlrem (jlrem ((jlrem ((((a1 + (1 : Int32))).toInt64) * (48271 : Int64)) (2147483647 : Int64)) * (48271 : Int64)) (2147483647 : Int64)) (262144 : Int64))).toInt32) σ) fun r5 σ4 => some ((), σ4)
set_option maxRecDepth 100000 in
set_option maxHeartbeats 4000000 in
theorem v8_goThroughByLots {g : GT} {X : XT} {a1 : Int32} (hX : OkX g X (m8_goThroughByLots)) (hN : 75 ≤ g.N) {res : Unit × St} (hQ : X.Q = QV g X res.2 ∧ X.cells = 0 ∧ X.slots = 0) {σ : St} (h : S8_goThroughByLots a1 σ = some res) : V g X (m8_goThroughByLots) 0 [(0, .ref (g.ad (0))), (1, .int (a1))] [] σ := by
  unfold S8_goThroughByLots at h
  refine V_iload_n (q := 1) hX dX8_goThroughByLots_0 1 rfl rfl ?_
  refine V_iconst (v := 1) (q := 2) hX dX8_goThroughByLots_1 (by decide) rfl ?_
  refine V_iadd (q := 3) hX dX8_goThroughByLots_2 rfl ?_
  refine V_i2l (q := 4) hX dX8_goThroughByLots_3 rfl ?_
  refine V_ldc2 (v := 48271) (q := 7) hX k4_85 dX8_goThroughByLots_4 rfl ?_
  refine V_lmul (q := 8) hX dX8_goThroughByLots_7 rfl ?_
  refine V_ldc2 (v := 2147483647) (q := 11) hX k4_86 dX8_goThroughByLots_8 rfl ?_
  refine V_lrem (q := 12) hX (by decide) dX8_goThroughByLots_11 rfl ?_
  refine V_lstore_n (lv' := [(2, .long ((jlrem ((((a1 + (1 : Int32))).toInt64) * (48271 : Int64)) (2147483647 : Int64)))), (0, .ref (g.ad (0))), (1, .int (a1))]) (q := 13) hX dX8_goThroughByLots_12 rfl rfl rfl ?_
  refine V_lload_n (q := 14) hX dX8_goThroughByLots_13 0 rfl rfl ?_
  refine V_ldc2 (v := 48271) (q := 17) hX k4_85 dX8_goThroughByLots_14 rfl ?_
  refine V_lmul (q := 18) hX dX8_goThroughByLots_17 rfl ?_
  refine V_ldc2 (v := 2147483647) (q := 21) hX k4_86 dX8_goThroughByLots_18 rfl ?_
  refine V_lrem (q := 22) hX (by decide) dX8_goThroughByLots_21 rfl ?_
  refine V_lstore (lv' := [(4, .long ((jlrem ((jlrem ((((a1 + (1 : Int32))).toInt64) * (48271 : Int64)) (2147483647 : Int64)) * (48271 : Int64)) (2147483647 : Int64)))), (2, .long ((jlrem ((((a1 + (1 : Int32))).toInt64) * (48271 : Int64)) (2147483647 : Int64)))), (0, .ref (g.ad (0))), (1, .int (a1))]) (q := 24) hX dX8_goThroughByLots_22 rfl rfl rfl ?_
  refine V_aload_n (q := 25) hX dX8_goThroughByLots_24 2 rfl rfl ?_
  refine V_getF (r := 35) (n := 75) (c := 8) (k := 8) (nf := 11) (C := RX8) (T := TX8) (q := 28) hX rfl rfl iG8 k2_183 rfl rfl ⟨rfl, by decide⟩ hN rfl rfl rfl rfl dX8_goThroughByLots_25 rfl ?_
  refine V_lload_n (q := 29) hX dX8_goThroughByLots_28 1 rfl rfl ?_
  refine V_ldc2 (v := 262144) (q := 32) hX k4_87 dX8_goThroughByLots_29 rfl ?_
  refine V_lrem (q := 33) hX (by decide) dX8_goThroughByLots_32 rfl ?_
  refine V_l2i (q := 34) hX dX8_goThroughByLots_33 rfl ?_
  refine V_lload (q := 36) hX dX8_goThroughByLots_34 0 rfl rfl ?_
  refine V_ldc2 (v := 262144) (q := 39) hX k4_87 dX8_goThroughByLots_36 rfl ?_
  refine V_lrem (q := 40) hX (by decide) dX8_goThroughByLots_39 rfl ?_
  refine V_l2i (q := 41) hX dX8_goThroughByLots_40 rfl ?_
  obtain ⟨r5, σ4, e6, h⟩ := bnd_some h
  refine V_cvV (n := 75) (c := 0) (nf := 6) (C := RX0) (T := TX0) (As := [.int ((((jlrem (jlrem ((((a1 + (1 : Int32))).toInt64) * (48271 : Int64)) (2147483647 : Int64)) (262144 : Int64))).toInt32)), .int ((((jlrem (jlrem ((jlrem ((((a1 + (1 : Int32))).toInt64) * (48271 : Int64)) (2147483647 : Int64)) * (48271 : Int64)) (2147483647 : Int64)) (262144 : Int64))).toInt32))]) (q := 44) hX (c0_goThrough hX.2.2.2.2.1 hN e6) (goodV_of k3_117 k3_118 k3_119 k1_7 (cons_g k3_120)) (nA := 2) (by decide) rfl rfl rfl rfl rfl ⟨rfl, by decide⟩ hN rfl rfl rfl dX8_goThroughByLots_41 rfl ?_
  obtain ⟨f1, f2⟩ := some2 h
  rw [f2] at hQ
  exact V_vret hX hQ rfl dX8_goThroughByLots_44
set_option maxRecDepth 100000 in
set_option maxHeartbeats 4000000 in
theorem c8_goThroughByLots {g : GT} {l : Launch} (hg : OkG g) (hN : 75 ≤ g.N) {a1 : Int32} {σ : St} {r : Unit} {σ' : St} (h : S8_goThroughByLots a1 σ = some (r, σ')) : CtV g l m8_goThroughByLots yX8_goThroughByLots [.ref (g.ad (0)), .int (a1)] σ σ' := CtV.of hg (by decide) rfl rfl (fun X h1 h2 h3 => v8_goThroughByLots h1 hN (res := (r, σ')) h3 h)

abbrev m8_drawn : MI := (cX8_drawn, RX8, 5, some .int, 6)
def S8_drawn_33 (a1 : Int32) (a2 : Int32) (a3 : Int32) (a4 : Int32) (σ : St) : Option (Int32 × St) := bnd (S8_pairUp a2 a3 σ) fun r42 σ41 => bnd (S8_goThroughByLots a1 σ41) fun r45 σ44 => if a4 = 0 then (bnd (S8_winnerOf a2 a3 σ44) fun r49 σ48 => some (r49, σ48)) else (some ((gI σ44 35 4), σ44))
def S8_drawn (a1 : Int32) (a2 : Int32) (a3 : Int32) (a4 : Int32) (σ : St) : Option (Int32 × St) := bnd (S8_areTwo a2 a3 σ) fun r52 σ51 => if r52 = 0 then (some ((-5 : Int32), σ51)) else (bnd (S8_isSeed a1 σ51) fun r56 σ55 => if r56 = 0 then (some ((-7 : Int32), σ55)) else (if a4 = 0 then (S8_drawn_33 a1 a2 a3 a4 σ55) else (if a4 = (1 : Int32) then (S8_drawn_33 a1 a2 a3 a4 σ55) else (some ((-7 : Int32), σ55)))))
set_option maxRecDepth 100000 in
set_option maxHeartbeats 4000000 in
theorem v8_drawn_33 {g : GT} {X : XT} {a1 : Int32} {a2 : Int32} {a3 : Int32} {a4 : Int32} (hX : OkX g X (m8_drawn)) (hN : 75 ≤ g.N) {res : Int32 × St} (hQ : X.Q = QI g X res.1 res.2 ∧ X.cells = 0 ∧ X.slots = 0)    (σ : St)  (h : S8_drawn_33 a1 a2 a3 a4 σ = some res) : V g X (m8_drawn) 33 [(0, .ref (g.ad (0))), (1, .int (a1)), (2, .int (a2)), (3, .int (a3)), (4, .int (a4))] [] σ := by
  unfold S8_drawn_33 at h
  refine V_aload_n (q := 34) hX dX8_drawn_33 0 rfl rfl ?_
  refine V_iload_n (q := 35) hX dX8_drawn_34 2 rfl rfl ?_
  refine V_iload_n (q := 36) hX dX8_drawn_35 3 rfl rfl ?_
  obtain ⟨r42, σ41, e43, h⟩ := bnd_some h
  refine V_cvV (n := 75) (c := 8) (nf := 11) (C := RX8) (T := TX8) (As := [.int (a2), .int (a3)]) (q := 39) hX (c8_pairUp hX.2.2.2.2.1 hN e43) (goodV_of k3_211 k3_213 kp_23 k1_1 (cons_g k3_214)) (nA := 2) (by decide) rfl rfl rfl rfl rfl ⟨rfl, by decide⟩ hN rfl rfl rfl dX8_drawn_36 rfl ?_
  refine V_aload_n (q := 40) hX dX8_drawn_39 0 rfl rfl ?_
  refine V_iload_n (q := 41) hX dX8_drawn_40 1 rfl rfl ?_
  obtain ⟨r45, σ44, e46, h⟩ := bnd_some h
  refine V_cvV (n := 75) (c := 8) (nf := 11) (C := RX8) (T := TX8) (As := [.int (a1)]) (q := 44) hX (c8_goThroughByLots hX.2.2.2.2.1 hN e46) (goodV_of k4_81 k4_83 kp_32 k1_1 (cons_g k4_84)) (nA := 1) (by decide) rfl rfl rfl rfl rfl ⟨rfl, by decide⟩ hN rfl rfl rfl dX8_drawn_41 rfl ?_
  refine V_iload (q := 46) hX dX8_drawn_44 4 rfl rfl ?_
  refine V_if_ne (q := 49) (t := 58) hX dX8_drawn_46 (by decide) rfl (fun z47 => ?_) (fun z47 => ?_)
  · have h := ite_f z47 h
    refine V_aload_n (q := 59) hX dX8_drawn_58 0 rfl rfl ?_
    refine V_getF (r := 35) (n := 75) (c := 8) (k := 8) (nf := 11) (C := RX8) (T := TX8) (q := 62) hX rfl rfl iG8 k2_183 rfl rfl ⟨rfl, by decide⟩ hN rfl rfl rfl rfl dX8_drawn_59 rfl ?_
    refine V_getI (n := 75) (c := 0) (k := 4) (nf := 6) (C := RX0) (T := TX0) (q := 65) hX rfl rfl iG0 k1_190 rfl rfl ⟨rfl, by decide⟩ hN rfl rfl dX8_drawn_62 rfl ?_
    obtain ⟨f1, f2⟩ := some2 h
    rw [f1, f2] at hQ
    exact V_iret hX hQ rfl dX8_drawn_65
  have h := ite_t z47 h
  refine V_aload_n (q := 50) hX dX8_drawn_49 0 rfl rfl ?_
  refine V_iload_n (q := 51) hX dX8_drawn_50 2 rfl rfl ?_
  refine V_iload_n (q := 52) hX dX8_drawn_51 3 rfl rfl ?_
  obtain ⟨r49, σ48, e50, h⟩ := bnd_some h
  refine V_cvI (n := 75) (c := 8) (nf := 11) (C := RX8) (T := TX8) (As := [.int (a2), .int (a3)]) (q := 55) hX (c8_winnerOf hX.2.2.2.2.1 hN e50) (goodV_of k3_159 k3_161 kp_20 k1_1 (cons_g k3_162)) (nA := 2) (by decide) rfl rfl rfl rfl rfl ⟨rfl, by decide⟩ hN rfl rfl rfl dX8_drawn_52 rfl ?_
  refine V_goto hX dX8_drawn_55 (q := 65) (by decide) ?_
  obtain ⟨f1, f2⟩ := some2 h
  rw [f1, f2] at hQ
  exact V_iret hX hQ rfl dX8_drawn_65
set_option maxRecDepth 100000 in
set_option maxHeartbeats 4000000 in
theorem v8_drawn {g : GT} {X : XT} {a1 : Int32} {a2 : Int32} {a3 : Int32} {a4 : Int32} (hX : OkX g X (m8_drawn)) (hN : 75 ≤ g.N) {res : Int32 × St} (hQ : X.Q = QI g X res.1 res.2 ∧ X.cells = 0 ∧ X.slots = 0) {σ : St} (h : S8_drawn a1 a2 a3 a4 σ = some res) : V g X (m8_drawn) 0 [(0, .ref (g.ad (0))), (1, .int (a1)), (2, .int (a2)), (3, .int (a3)), (4, .int (a4))] [] σ := by
  unfold S8_drawn at h
  refine V_aload_n (q := 1) hX dX8_drawn_0 0 rfl rfl ?_
  refine V_iload_n (q := 2) hX dX8_drawn_1 2 rfl rfl ?_
  refine V_iload_n (q := 3) hX dX8_drawn_2 3 rfl rfl ?_
  obtain ⟨r52, σ51, e53, h⟩ := bnd_some h
  refine V_cvI (n := 75) (c := 8) (nf := 11) (C := RX8) (T := TX8) (As := [.int (a2), .int (a3)]) (q := 6) hX (c8_areTwo hX.2.2.2.2.1 hN e53) (goodV_of k3_71 k3_73 kp_15 k1_1 (cons_g k3_74)) (nA := 2) (by decide) rfl rfl rfl rfl rfl ⟨rfl, by decide⟩ hN rfl rfl rfl dX8_drawn_3 rfl ?_
  refine V_if_ne (q := 9) (t := 12) hX dX8_drawn_6 (by decide) rfl (fun z54 => ?_) (fun z54 => ?_)
  · have h := ite_f z54 h
    refine V_iload_n (q := 13) hX dX8_drawn_12 1 rfl rfl ?_
    obtain ⟨r56, σ55, e57, h⟩ := bnd_some h
    refine V_csI (As := [.int (a1)]) (q := 16) hX (c8_isSeed hX.2.2.2.2.1 hN e57) (goodS_of k4_77 k4_78 k1_1 (cons_g k4_79)) (nA := 1) (by decide) rfl rfl rfl rfl rfl dX8_drawn_13 rfl ?_
    refine V_if_eq (q := 19) (t := 30) hX dX8_drawn_16 (by decide) rfl (fun z58 => ?_) (fun z58 => ?_)
    · have h := ite_t z58 h
      refine V_bipush (v := -7) (q := 32) hX dX8_drawn_30 (by decide) rfl ?_
      obtain ⟨f1, f2⟩ := some2 h
      rw [f1, f2] at hQ
      exact V_iret hX hQ rfl dX8_drawn_32
    have h := ite_f z58 h
    refine V_iload (q := 21) hX dX8_drawn_19 4 rfl rfl ?_
    refine V_if_eq (q := 24) (t := 33) hX dX8_drawn_21 (by decide) rfl (fun z59 => ?_) (fun z59 => ?_)
    · have h := ite_t z59 h
      refine V.pick [0, 1, 2, 3, 4] rfl ?_
      exact v8_drawn_33 hX hN hQ σ55 h
    have h := ite_f z59 h
    refine V_iload (q := 26) hX dX8_drawn_24 4 rfl rfl ?_
    refine V_iconst (v := 1) (q := 27) hX dX8_drawn_26 (by decide) rfl ?_
    refine V_icmp_eq (q := 30) (t := 33) hX dX8_drawn_27 (by decide) rfl (fun z60 => ?_) (fun z60 => ?_)
    · have h := ite_t z60 h
      refine V.pick [0, 1, 2, 3, 4] rfl ?_
      exact v8_drawn_33 hX hN hQ σ55 h
    have h := ite_f z60 h
    refine V_bipush (v := -7) (q := 32) hX dX8_drawn_30 (by decide) rfl ?_
    obtain ⟨f1, f2⟩ := some2 h
    rw [f1, f2] at hQ
    exact V_iret hX hQ rfl dX8_drawn_32
  have h := ite_t z54 h
  refine V_bipush (v := -5) (q := 11) hX dX8_drawn_9 (by decide) rfl ?_
  obtain ⟨f1, f2⟩ := some2 h
  rw [f1, f2] at hQ
  exact V_iret hX hQ rfl dX8_drawn_11
set_option maxRecDepth 100000 in
set_option maxHeartbeats 4000000 in
theorem c8_drawn {g : GT} {l : Launch} (hg : OkG g) (hN : 75 ≤ g.N) {a1 : Int32} {a2 : Int32} {a3 : Int32} {a4 : Int32} {σ : St} {r : Int32} {σ' : St} (h : S8_drawn a1 a2 a3 a4 σ = some (r, σ')) : CtI g l m8_drawn yX8_drawn [.ref (g.ad (0)), .int (a1), .int (a2), .int (a3), .int (a4)] σ r σ' := CtI.of hg (by decide) rfl rfl (fun X h1 h2 h3 => v8_drawn h1 hN (res := (r, σ')) h3 h)

abbrev m8_odds : MI := (cX8_odds, RX8, 9, some .long, 6)
def S8_odds_99 (a1 : Int32) (a2 : Int32) (a3 : Int32) (a4 : Int32) (a5 : Int32) (k68 : Int32 → Int32 → St → Option (Int64 × St)) (x8 : Int32) (s0 : Int32) (s1 : Int32) (σ : St) : Option (Int64 × St) := k68 (s0 + s1) (x8 + 1) σ
def B8_odds_68 (a1 : Int32) (a2 : Int32) (a3 : Int32) (a4 : Int32) (a5 : Int32) (rec : Int32 → Int32 → St → Option (Int64 × St)) (x7 : Int32) (x8 : Int32) (σ : St) : Option (Int64 × St) := if a2 ≤ x8 then (bnd (S8_inLowestTerms x7 a2 a5 σ) fun r75 σ74 => some (r75, σ74)) else (bnd (S8_goThroughByLots (a1 + x8) σ) fun r78 σ77 => if (gI σ77 35 5) ≤ 0 then (S8_odds_99 a1 a2 a3 a4 a5 rec x8 x7 (0 : Int32) σ77) else (S8_odds_99 a1 a2 a3 a4 a5 rec x8 x7 (1 : Int32) σ77))
def S8_odds_68 (a1 : Int32) (a2 : Int32) (a3 : Int32) (a4 : Int32) (a5 : Int32) : Nat → Int32 → Int32 → St → Option (Int64 × St)
  | 0, _, _, _ => none
  | n + 1, x7, x8, σ => B8_odds_68 a1 a2 a3 a4 a5 (S8_odds_68 a1 a2 a3 a4 a5 n) x7 x8 σ
def S8_odds_55 (a1 : Int32) (a2 : Int32) (a3 : Int32) (a4 : Int32) (a5 : Int32) (σ : St) : Option (Int64 × St) := bnd (S8_pairUp a3 a4 σ) fun r82 σ81 => S8_odds_68 a1 a2 a3 a4 a5 4096 (0 : Int32) (0 : Int32) σ81
def S8_odds_23 (a1 : Int32) (a2 : Int32) (a3 : Int32) (a4 : Int32) (a5 : Int32) (s0 : Int32) (σ : St) : Option (Int64 × St) := if s0 = 0 then (some ((-4611686018427387904 : Int64), σ)) else (bnd (S8_areTwo a3 a4 σ) fun r86 σ85 => if r86 = 0 then (some ((-4611686018427387904 : Int64), σ85)) else (if a5 = 0 then (S8_odds_55 a1 a2 a3 a4 a5 σ85) else (if a5 = (1 : Int32) then (S8_odds_55 a1 a2 a3 a4 a5 σ85) else (some ((-4611686018427387904 : Int64), σ85)))))
def S8_odds_22 (a1 : Int32) (a2 : Int32) (a3 : Int32) (a4 : Int32) (a5 : Int32) (σ : St) : Option (Int64 × St) := S8_odds_23 a1 a2 a3 a4 a5 (0 : Int32) σ
def S8_odds (a1 : Int32) (a2 : Int32) (a3 : Int32) (a4 : Int32) (a5 : Int32) (σ : St) : Option (Int64 × St) := bnd (S8_isSeed a1 σ) fun r92 σ91 => if r92 = 0 then (S8_odds_22 a1 a2 a3 a4 a5 σ91) else (if a2 < (1 : Int32) then (S8_odds_22 a1 a2 a3 a4 a5 σ91) else (if (40 : Int32) < a2 then (S8_odds_22 a1 a2 a3 a4 a5 σ91) else (S8_odds_23 a1 a2 a3 a4 a5 (1 : Int32) σ91)))
set_option maxRecDepth 100000 in
set_option maxHeartbeats 4000000 in
theorem v8_odds_99 {g : GT} {X : XT} {a1 : Int32} {a2 : Int32} {a3 : Int32} {a4 : Int32} {a5 : Int32} (hX : OkX g X (m8_odds)) (hN : 75 ≤ g.N) {res : Int64 × St} (hQ : X.Q = QJ g X res.1 res.2 ∧ X.cells = 0 ∧ X.slots = 0)  {k68 : Int32 → Int32 → St → Option (Int64 × St)} (hk68 : ∀ (x7 : Int32) (x8 : Int32) (σ : St), k68 x7 x8 σ = some res → V g X (m8_odds) 68 [(0, .ref (g.ad (0))), (1, .int (a1)), (2, .int (a2)), (5, .int (a5)), (7, .int (x7)), (8, .int (x8))] [] σ) (x8 : Int32) (s0 : Int32) (s1 : Int32) (σ : St)  (h : S8_odds_99 a1 a2 a3 a4 a5 k68 x8 s0 s1 σ = some res) : V g X (m8_odds) 99 [(0, .ref (g.ad (0))), (1, .int (a1)), (2, .int (a2)), (5, .int (a5)), (8, .int (x8))] [.int (s1), .int (s0)] σ := by
  unfold S8_odds_99 at h
  refine V_iadd (q := 100) hX dX8_odds_99 rfl ?_
  refine V_istore (lv' := [(7, .int ((s0 + s1))), (0, .ref (g.ad (0))), (1, .int (a1)), (2, .int (a2)), (5, .int (a5)), (8, .int (x8))]) (q := 102) hX dX8_odds_100 rfl rfl rfl ?_
  refine V_iinc (v := (x8 + 1)) (lv' := [(8, .int ((x8 + 1))), (7, .int ((s0 + s1))), (0, .ref (g.ad (0))), (1, .int (a1)), (2, .int (a2)), (5, .int (a5))]) (q := 105) hX dX8_odds_102 5 rfl (by rfl) rfl rfl rfl ?_
  refine V_goto hX dX8_odds_105 (q := 68) (by decide) ?_
  refine V.pick [2, 3, 4, 5, 1, 0] rfl ?_
  exact hk68 (s0 + s1) (x8 + 1) σ  h
set_option maxRecDepth 100000 in
set_option maxHeartbeats 4000000 in
theorem v8_odds_68n {g : GT} {X : XT} {a1 : Int32} {a2 : Int32} {a3 : Int32} {a4 : Int32} {a5 : Int32} (hX : OkX g X (m8_odds)) (hN : 75 ≤ g.N) {res : Int64 × St} (hQ : X.Q = QJ g X res.1 res.2 ∧ X.cells = 0 ∧ X.slots = 0)   (n : Nat) : ∀ (x7 : Int32) (x8 : Int32) (σ : St) , S8_odds_68 a1 a2 a3 a4 a5 n x7 x8 σ = some res → V g X (m8_odds) 68 [(0, .ref (g.ad (0))), (1, .int (a1)), (2, .int (a2)), (5, .int (a5)), (7, .int (x7)), (8, .int (x8))] [] σ := by
  induction n with
  | zero => intro x7 x8 σ; intro h; cases h
  | succ n ih =>
    intro x7 x8 σ h
    have h : B8_odds_68 a1 a2 a3 a4 a5 (S8_odds_68 a1 a2 a3 a4 a5 n) x7 x8 σ = some res := h
    unfold B8_odds_68 at h
    refine V_iload (q := 70) hX dX8_odds_68 5 rfl rfl ?_
    refine V_iload_n (q := 71) hX dX8_odds_70 2 rfl rfl ?_
    refine V_icmp_ge (q := 74) (t := 108) hX dX8_odds_71 (by decide) rfl (fun z73 => ?_) (fun z73 => ?_)
    · have h := ite_t z73 h
      refine V_iload (q := 110) hX dX8_odds_108 4 rfl rfl ?_
      refine V_iload_n (q := 111) hX dX8_odds_110 2 rfl rfl ?_
      refine V_iload (q := 113) hX dX8_odds_111 3 rfl rfl ?_
      obtain ⟨r75, σ74, e76, h⟩ := bnd_some h
      refine V_csJ (As := [.int (x7), .int (a2), .int (a5)]) (q := 116) hX (c8_inLowestTerms hX.2.2.2.2.1 hN e76) (goodS_of k3_195 k3_196 k1_1 (cons_g k3_197)) (nA := 3) (by decide) rfl rfl rfl rfl rfl dX8_odds_113 rfl ?_
      obtain ⟨f1, f2⟩ := some2 h
      rw [f1, f2] at hQ
      exact V_lret hX hQ rfl dX8_odds_116
    have h := ite_f z73 h
    refine V_aload_n (q := 75) hX dX8_odds_74 0 rfl rfl ?_
    refine V_iload_n (q := 76) hX dX8_odds_75 1 rfl rfl ?_
    refine V_iload (q := 78) hX dX8_odds_76 5 rfl rfl ?_
    refine V_iadd (q := 79) hX dX8_odds_78 rfl ?_
    obtain ⟨r78, σ77, e79, h⟩ := bnd_some h
    refine V_cvV (n := 75) (c := 8) (nf := 11) (C := RX8) (T := TX8) (As := [.int ((a1 + x8))]) (q := 82) hX (c8_goThroughByLots hX.2.2.2.2.1 hN e79) (goodV_of k4_81 k4_83 kp_32 k1_1 (cons_g k4_84)) (nA := 1) (by decide) rfl rfl rfl rfl rfl ⟨rfl, by decide⟩ hN rfl rfl rfl dX8_odds_79 rfl ?_
    refine V_iload (q := 84) hX dX8_odds_82 4 rfl rfl ?_
    refine V_aload_n (q := 85) hX dX8_odds_84 0 rfl rfl ?_
    refine V_getF (r := 35) (n := 75) (c := 8) (k := 8) (nf := 11) (C := RX8) (T := TX8) (q := 88) hX rfl rfl iG8 k2_183 rfl rfl ⟨rfl, by decide⟩ hN rfl rfl rfl rfl dX8_odds_85 rfl ?_
    refine V_getI (n := 75) (c := 0) (k := 5) (nf := 6) (C := RX0) (T := TX0) (q := 91) hX rfl rfl iG0 k1_192 rfl rfl ⟨rfl, by decide⟩ hN rfl rfl dX8_odds_88 rfl ?_
    refine V_if_le (q := 94) (t := 98) hX dX8_odds_91 (by decide) rfl (fun z80 => ?_) (fun z80 => ?_)
    · have h := ite_t z80 h
      refine V_iconst (v := 0) (q := 99) hX dX8_odds_98 (by decide) rfl ?_
      refine V.pick [0, 1, 2, 3, 5] rfl ?_
      exact v8_odds_99 hX hN hQ ih x8 x7 (0 : Int32) σ77 h
    have h := ite_f z80 h
    refine V_iconst (v := 1) (q := 95) hX dX8_odds_94 (by decide) rfl ?_
    refine V_goto hX dX8_odds_95 (q := 99) (by decide) ?_
    refine V.pick [0, 1, 2, 3, 5] rfl ?_
    exact v8_odds_99 hX hN hQ ih x8 x7 (1 : Int32) σ77 h
theorem v8_odds_68 {g : GT} {X : XT} {a1 : Int32} {a2 : Int32} {a3 : Int32} {a4 : Int32} {a5 : Int32} (hX : OkX g X (m8_odds)) (hN : 75 ≤ g.N) {res : Int64 × St} (hQ : X.Q = QJ g X res.1 res.2 ∧ X.cells = 0 ∧ X.slots = 0) (x7 : Int32) (x8 : Int32) (σ : St) (h : S8_odds_68 a1 a2 a3 a4 a5 4096 x7 x8 σ = some res) : V g X (m8_odds) 68 [(0, .ref (g.ad (0))), (1, .int (a1)), (2, .int (a2)), (5, .int (a5)), (7, .int (x7)), (8, .int (x8))] [] σ := v8_odds_68n hX hN hQ 4096 x7 x8 σ h
set_option maxRecDepth 100000 in
set_option maxHeartbeats 4000000 in
theorem v8_odds_55 {g : GT} {X : XT} {a1 : Int32} {a2 : Int32} {a3 : Int32} {a4 : Int32} {a5 : Int32} (hX : OkX g X (m8_odds)) (hN : 75 ≤ g.N) {res : Int64 × St} (hQ : X.Q = QJ g X res.1 res.2 ∧ X.cells = 0 ∧ X.slots = 0)    (σ : St)  (h : S8_odds_55 a1 a2 a3 a4 a5 σ = some res) : V g X (m8_odds) 55 [(0, .ref (g.ad (0))), (1, .int (a1)), (2, .int (a2)), (3, .int (a3)), (4, .int (a4)), (5, .int (a5))] [] σ := by
  unfold S8_odds_55 at h
  refine V_aload_n (q := 56) hX dX8_odds_55 0 rfl rfl ?_
  refine V_iload_n (q := 57) hX dX8_odds_56 3 rfl rfl ?_
  refine V_iload (q := 59) hX dX8_odds_57 4 rfl rfl ?_
  obtain ⟨r82, σ81, e83, h⟩ := bnd_some h
  refine V_cvV (n := 75) (c := 8) (nf := 11) (C := RX8) (T := TX8) (As := [.int (a3), .int (a4)]) (q := 62) hX (c8_pairUp hX.2.2.2.2.1 hN e83) (goodV_of k3_211 k3_213 kp_23 k1_1 (cons_g k3_214)) (nA := 2) (by decide) rfl rfl rfl rfl rfl ⟨rfl, by decide⟩ hN rfl rfl rfl dX8_odds_59 rfl ?_
  refine V_iconst (v := 0) (q := 63) hX dX8_odds_62 (by decide) rfl ?_
  refine V_istore (lv' := [(7, .int ((0 : Int32))), (0, .ref (g.ad (0))), (1, .int (a1)), (2, .int (a2)), (3, .int (a3)), (4, .int (a4)), (5, .int (a5))]) (q := 65) hX dX8_odds_63 rfl rfl rfl ?_
  refine V_iconst (v := 0) (q := 66) hX dX8_odds_65 (by decide) rfl ?_
  refine V_istore (lv' := [(8, .int ((0 : Int32))), (7, .int ((0 : Int32))), (0, .ref (g.ad (0))), (1, .int (a1)), (2, .int (a2)), (3, .int (a3)), (4, .int (a4)), (5, .int (a5))]) (q := 68) hX dX8_odds_66 rfl rfl rfl ?_
  refine V.pick [2, 3, 4, 7, 1, 0] rfl ?_
  exact v8_odds_68 hX hN hQ (0 : Int32) (0 : Int32) σ81 h
set_option maxRecDepth 100000 in
set_option maxHeartbeats 4000000 in
theorem v8_odds_23 {g : GT} {X : XT} {a1 : Int32} {a2 : Int32} {a3 : Int32} {a4 : Int32} {a5 : Int32} (hX : OkX g X (m8_odds)) (hN : 75 ≤ g.N) {res : Int64 × St} (hQ : X.Q = QJ g X res.1 res.2 ∧ X.cells = 0 ∧ X.slots = 0)   (s0 : Int32) (σ : St)  (h : S8_odds_23 a1 a2 a3 a4 a5 s0 σ = some res) : V g X (m8_odds) 23 [(0, .ref (g.ad (0))), (1, .int (a1)), (2, .int (a2)), (3, .int (a3)), (4, .int (a4)), (5, .int (a5))] [.int (s0)] σ := by
  unfold S8_odds_23 at h
  refine V_istore (lv' := [(6, .int (s0)), (0, .ref (g.ad (0))), (1, .int (a1)), (2, .int (a2)), (3, .int (a3)), (4, .int (a4)), (5, .int (a5))]) (q := 25) hX dX8_odds_23 rfl rfl rfl ?_
  refine V_iload (q := 27) hX dX8_odds_25 0 rfl rfl ?_
  refine V_if_eq (q := 30) (t := 51) hX dX8_odds_27 (by decide) rfl (fun z84 => ?_) (fun z84 => ?_)
  · have h := ite_t z84 h
    refine V_ldc2 (v := -4611686018427387904) (q := 54) hX k3_194 dX8_odds_51 rfl ?_
    obtain ⟨f1, f2⟩ := some2 h
    rw [f1, f2] at hQ
    exact V_lret hX hQ rfl dX8_odds_54
  have h := ite_f z84 h
  refine V_aload_n (q := 31) hX dX8_odds_30 1 rfl rfl ?_
  refine V_iload_n (q := 32) hX dX8_odds_31 4 rfl rfl ?_
  refine V_iload (q := 34) hX dX8_odds_32 5 rfl rfl ?_
  obtain ⟨r86, σ85, e87, h⟩ := bnd_some h
  refine V_cvI (n := 75) (c := 8) (nf := 11) (C := RX8) (T := TX8) (As := [.int (a3), .int (a4)]) (q := 37) hX (c8_areTwo hX.2.2.2.2.1 hN e87) (goodV_of k3_71 k3_73 kp_15 k1_1 (cons_g k3_74)) (nA := 2) (by decide) rfl rfl rfl rfl rfl ⟨rfl, by decide⟩ hN rfl rfl rfl dX8_odds_34 rfl ?_
  refine V_if_eq (q := 40) (t := 51) hX dX8_odds_37 (by decide) rfl (fun z88 => ?_) (fun z88 => ?_)
  · have h := ite_t z88 h
    refine V_ldc2 (v := -4611686018427387904) (q := 54) hX k3_194 dX8_odds_51 rfl ?_
    obtain ⟨f1, f2⟩ := some2 h
    rw [f1, f2] at hQ
    exact V_lret hX hQ rfl dX8_odds_54
  have h := ite_f z88 h
  refine V_iload (q := 42) hX dX8_odds_40 6 rfl rfl ?_
  refine V_if_eq (q := 45) (t := 55) hX dX8_odds_42 (by decide) rfl (fun z89 => ?_) (fun z89 => ?_)
  · have h := ite_t z89 h
    refine V.pick [1, 2, 3, 4, 5, 6] rfl ?_
    exact v8_odds_55 hX hN hQ σ85 h
  have h := ite_f z89 h
  refine V_iload (q := 47) hX dX8_odds_45 6 rfl rfl ?_
  refine V_iconst (v := 1) (q := 48) hX dX8_odds_47 (by decide) rfl ?_
  refine V_icmp_eq (q := 51) (t := 55) hX dX8_odds_48 (by decide) rfl (fun z90 => ?_) (fun z90 => ?_)
  · have h := ite_t z90 h
    refine V.pick [1, 2, 3, 4, 5, 6] rfl ?_
    exact v8_odds_55 hX hN hQ σ85 h
  have h := ite_f z90 h
  refine V_ldc2 (v := -4611686018427387904) (q := 54) hX k3_194 dX8_odds_51 rfl ?_
  obtain ⟨f1, f2⟩ := some2 h
  rw [f1, f2] at hQ
  exact V_lret hX hQ rfl dX8_odds_54
set_option maxRecDepth 100000 in
set_option maxHeartbeats 4000000 in
theorem v8_odds_22 {g : GT} {X : XT} {a1 : Int32} {a2 : Int32} {a3 : Int32} {a4 : Int32} {a5 : Int32} (hX : OkX g X (m8_odds)) (hN : 75 ≤ g.N) {res : Int64 × St} (hQ : X.Q = QJ g X res.1 res.2 ∧ X.cells = 0 ∧ X.slots = 0)    (σ : St)  (h : S8_odds_22 a1 a2 a3 a4 a5 σ = some res) : V g X (m8_odds) 22 [(0, .ref (g.ad (0))), (1, .int (a1)), (2, .int (a2)), (3, .int (a3)), (4, .int (a4)), (5, .int (a5))] [] σ := by
  unfold S8_odds_22 at h
  refine V_iconst (v := 0) (q := 23) hX dX8_odds_22 (by decide) rfl ?_
  refine V.pick [0, 1, 2, 3, 4, 5] rfl ?_
  exact v8_odds_23 hX hN hQ (0 : Int32) σ h
set_option maxRecDepth 100000 in
set_option maxHeartbeats 4000000 in
theorem v8_odds {g : GT} {X : XT} {a1 : Int32} {a2 : Int32} {a3 : Int32} {a4 : Int32} {a5 : Int32} (hX : OkX g X (m8_odds)) (hN : 75 ≤ g.N) {res : Int64 × St} (hQ : X.Q = QJ g X res.1 res.2 ∧ X.cells = 0 ∧ X.slots = 0) {σ : St} (h : S8_odds a1 a2 a3 a4 a5 σ = some res) : V g X (m8_odds) 0 [(0, .ref (g.ad (0))), (1, .int (a1)), (2, .int (a2)), (3, .int (a3)), (4, .int (a4)), (5, .int (a5))] [] σ := by
  unfold S8_odds at h
  refine V_iload_n (q := 1) hX dX8_odds_0 1 rfl rfl ?_
  obtain ⟨r92, σ91, e93, h⟩ := bnd_some h
  refine V_csI (As := [.int (a1)]) (q := 4) hX (c8_isSeed hX.2.2.2.2.1 hN e93) (goodS_of k4_77 k4_78 k1_1 (cons_g k4_79)) (nA := 1) (by decide) rfl rfl rfl rfl rfl dX8_odds_1 rfl ?_
  refine V_if_eq (q := 7) (t := 22) hX dX8_odds_4 (by decide) rfl (fun z94 => ?_) (fun z94 => ?_)
  · have h := ite_t z94 h
    refine V.pick [0, 1, 2, 3, 4, 5] rfl ?_
    exact v8_odds_22 hX hN hQ σ91 h
  have h := ite_f z94 h
  refine V_iload_n (q := 8) hX dX8_odds_7 2 rfl rfl ?_
  refine V_iconst (v := 1) (q := 9) hX dX8_odds_8 (by decide) rfl ?_
  refine V_icmp_lt (q := 12) (t := 22) hX dX8_odds_9 (by decide) rfl (fun z95 => ?_) (fun z95 => ?_)
  · have h := ite_t z95 h
    refine V.pick [0, 1, 2, 3, 4, 5] rfl ?_
    exact v8_odds_22 hX hN hQ σ91 h
  have h := ite_f z95 h
  refine V_iload_n (q := 13) hX dX8_odds_12 2 rfl rfl ?_
  refine V_bipush (v := 40) (q := 15) hX dX8_odds_13 (by decide) rfl ?_
  refine V_icmp_gt (q := 18) (t := 22) hX dX8_odds_15 (by decide) rfl (fun z96 => ?_) (fun z96 => ?_)
  · have h := ite_t z96 h
    refine V.pick [0, 1, 2, 3, 4, 5] rfl ?_
    exact v8_odds_22 hX hN hQ σ91 h
  have h := ite_f z96 h
  refine V_iconst (v := 1) (q := 19) hX dX8_odds_18 (by decide) rfl ?_
  refine V_goto hX dX8_odds_19 (q := 23) (by decide) ?_
  refine V.pick [0, 1, 2, 3, 4, 5] rfl ?_
  exact v8_odds_23 hX hN hQ (1 : Int32) σ91 h
set_option maxRecDepth 100000 in
set_option maxHeartbeats 4000000 in
theorem c8_odds {g : GT} {l : Launch} (hg : OkG g) (hN : 75 ≤ g.N) {a1 : Int32} {a2 : Int32} {a3 : Int32} {a4 : Int32} {a5 : Int32} {σ : St} {r : Int64} {σ' : St} (h : S8_odds a1 a2 a3 a4 a5 σ = some (r, σ')) : CtJ g l m8_odds yX8_odds [.ref (g.ad (0)), .int (a1), .int (a2), .int (a3), .int (a4), .int (a5)] σ r σ' := CtJ.of hg (by decide) rfl rfl (fun X h1 h2 h3 => v8_odds h1 hN (res := (r, σ')) h3 h)

abbrev m8_image : MI := (cX8_image, RX8, 1, some .int, 4)
def S8_image (σ : St) : Option (Int32 × St) := bnd (S5_becomesLike 17 1 σ) fun r5 σ4 => some ((gI (sI σ4 0 10 (1 : Int32)) 1 1), (sI σ4 0 10 (1 : Int32)))
set_option maxRecDepth 100000 in
set_option maxHeartbeats 4000000 in
theorem v8_image {g : GT} {X : XT} (hX : OkX g X (m8_image)) (hN : 75 ≤ g.N) {res : Int32 × St} (hQ : X.Q = QI g X res.1 res.2 ∧ X.cells = 0 ∧ X.slots = 0) {σ : St} (h : S8_image σ = some res) : V g X (m8_image) 0 [(0, .ref (g.ad (0)))] [] σ := by
  unfold S8_image at h
  refine V_aload_n (q := 1) hX dX8_image_0 0 rfl rfl ?_
  refine V_getF (r := 17) (n := 75) (c := 8) (k := 2) (nf := 11) (C := RX8) (T := TX8) (q := 4) hX rfl rfl iG8 k2_177 rfl rfl ⟨rfl, by decide⟩ hN rfl rfl rfl rfl dX8_image_1 rfl ?_
  refine V_aload_n (q := 5) hX dX8_image_4 0 rfl rfl ?_
  refine V_getF (r := 1) (n := 75) (c := 8) (k := 0) (nf := 11) (C := RX8) (T := TX8) (q := 8) hX rfl rfl iG8 k2_175 rfl rfl ⟨rfl, by decide⟩ hN rfl rfl rfl rfl dX8_image_5 rfl ?_
  obtain ⟨r5, σ4, e6, h⟩ := bnd_some h
  refine V_cvV (n := 75) (c := 5) (nf := 4) (C := RX5) (T := TX5) (As := [.ref (g.ad (1))]) (q := 11) hX (c5_becomesLike hX.2.2.2.2.1 hN ⟨rfl, by decide⟩ ⟨rfl, by decide⟩ e6) (goodV_of k4_12 k4_13 k4_14 k1_2 (cons_g k4_15)) (nA := 1) (by decide) rfl rfl rfl rfl rfl ⟨rfl, by decide⟩ hN rfl rfl rfl dX8_image_8 rfl ?_
  refine V_aload_n (q := 12) hX dX8_image_11 0 rfl rfl ?_
  refine V_iconst (v := 1) (q := 13) hX dX8_image_12 (by decide) rfl ?_
  refine V_putI (n := 75) (c := 8) (k := 10) (nf := 11) (C := RX8) (T := TX8) (q := 16) hX rfl rfl iG8 k2_185 rfl rfl ⟨rfl, by decide⟩ hN rfl tyX8 tyX8_ok nmX8 rfl rfl (ty := .boolean) (tyX8_ok 10 (by decide)) rfl rfl dX8_image_13 rfl ?_
  refine V_aload_n (q := 17) hX dX8_image_16 0 rfl rfl ?_
  refine V_getF (r := 1) (n := 75) (c := 8) (k := 0) (nf := 11) (C := RX8) (T := TX8) (q := 20) hX rfl rfl iG8 k2_175 rfl rfl ⟨rfl, by decide⟩ hN rfl rfl rfl rfl dX8_image_17 rfl ?_
  refine V_getI (n := 75) (c := 5) (k := 1) (nf := 4) (C := RX5) (T := TX5) (q := 23) hX rfl rfl iG5 k1_72 rfl rfl ⟨rfl, by decide⟩ hN rfl rfl dX8_image_20 rfl ?_
  obtain ⟨f1, f2⟩ := some2 h
  rw [f1, f2] at hQ
  exact V_iret hX hQ rfl dX8_image_23
set_option maxRecDepth 100000 in
set_option maxHeartbeats 4000000 in
theorem c8_image {g : GT} {l : Launch} (hg : OkG g) (hN : 75 ≤ g.N) {σ : St} {r : Int32} {σ' : St} (h : S8_image σ = some (r, σ')) : CtI g l m8_image yX8_image [.ref (g.ad (0))] σ r σ' := CtI.of hg (by decide) rfl rfl (fun X h1 h2 h3 => v8_image h1 hN (res := (r, σ')) h3 h)

abbrev m8_back : MI := (cX8_back, RX8, 1, some .int, 4)
def S8_back (σ : St) : Option (Int32 × St) := if (gI σ 0 10) = 0 then (some ((-3 : Int32), σ)) else (bnd (S5_becomesLike 1 17 σ) fun r7 σ6 => some ((gI σ6 1 1), σ6))
set_option maxRecDepth 100000 in
set_option maxHeartbeats 4000000 in
theorem v8_back {g : GT} {X : XT} (hX : OkX g X (m8_back)) (hN : 75 ≤ g.N) {res : Int32 × St} (hQ : X.Q = QI g X res.1 res.2 ∧ X.cells = 0 ∧ X.slots = 0) {σ : St} (h : S8_back σ = some res) : V g X (m8_back) 0 [(0, .ref (g.ad (0)))] [] σ := by
  unfold S8_back at h
  refine V_aload_n (q := 1) hX dX8_back_0 0 rfl rfl ?_
  refine V_getI (n := 75) (c := 8) (k := 10) (nf := 11) (C := RX8) (T := TX8) (q := 4) hX rfl rfl iG8 k2_185 rfl rfl ⟨rfl, by decide⟩ hN rfl rfl dX8_back_1 rfl ?_
  refine V_if_ne (q := 7) (t := 10) hX dX8_back_4 (by decide) rfl (fun z5 => ?_) (fun z5 => ?_)
  · have h := ite_f z5 h
    refine V_aload_n (q := 11) hX dX8_back_10 0 rfl rfl ?_
    refine V_getF (r := 1) (n := 75) (c := 8) (k := 0) (nf := 11) (C := RX8) (T := TX8) (q := 14) hX rfl rfl iG8 k2_175 rfl rfl ⟨rfl, by decide⟩ hN rfl rfl rfl rfl dX8_back_11 rfl ?_
    refine V_aload_n (q := 15) hX dX8_back_14 0 rfl rfl ?_
    refine V_getF (r := 17) (n := 75) (c := 8) (k := 2) (nf := 11) (C := RX8) (T := TX8) (q := 18) hX rfl rfl iG8 k2_177 rfl rfl ⟨rfl, by decide⟩ hN rfl rfl rfl rfl dX8_back_15 rfl ?_
    obtain ⟨r7, σ6, e8, h⟩ := bnd_some h
    refine V_cvV (n := 75) (c := 5) (nf := 4) (C := RX5) (T := TX5) (As := [.ref (g.ad (17))]) (q := 21) hX (c5_becomesLike hX.2.2.2.2.1 hN ⟨rfl, by decide⟩ ⟨rfl, by decide⟩ e8) (goodV_of k4_12 k4_13 k4_14 k1_2 (cons_g k4_15)) (nA := 1) (by decide) rfl rfl rfl rfl rfl ⟨rfl, by decide⟩ hN rfl rfl rfl dX8_back_18 rfl ?_
    refine V_aload_n (q := 22) hX dX8_back_21 0 rfl rfl ?_
    refine V_getF (r := 1) (n := 75) (c := 8) (k := 0) (nf := 11) (C := RX8) (T := TX8) (q := 25) hX rfl rfl iG8 k2_175 rfl rfl ⟨rfl, by decide⟩ hN rfl rfl rfl rfl dX8_back_22 rfl ?_
    refine V_getI (n := 75) (c := 5) (k := 1) (nf := 4) (C := RX5) (T := TX5) (q := 28) hX rfl rfl iG5 k1_72 rfl rfl ⟨rfl, by decide⟩ hN rfl rfl dX8_back_25 rfl ?_
    obtain ⟨f1, f2⟩ := some2 h
    rw [f1, f2] at hQ
    exact V_iret hX hQ rfl dX8_back_28
  have h := ite_t z5 h
  refine V_bipush (v := -3) (q := 9) hX dX8_back_7 (by decide) rfl ?_
  obtain ⟨f1, f2⟩ := some2 h
  rw [f1, f2] at hQ
  exact V_iret hX hQ rfl dX8_back_9
set_option maxRecDepth 100000 in
set_option maxHeartbeats 4000000 in
theorem c8_back {g : GT} {l : Launch} (hg : OkG g) (hN : 75 ≤ g.N) {σ : St} {r : Int32} {σ' : St} (h : S8_back σ = some (r, σ')) : CtI g l m8_back yX8_back [.ref (g.ad (0))] σ r σ' := CtI.of hg (by decide) rfl rfl (fun X h1 h2 h3 => v8_back h1 hN (res := (r, σ')) h3 h)

abbrev m8_sheet : MI := (cX8_sheet, RX8, 4, some .int, 4)
def S8_sheet_60 (a1 : Int32) (a2 : Int32) (a3 : Int32) (s0 : Nat) (s2 : Int32) (σ : St) : Option (Int32 × St) := bnd (S3_becomesRow s0 a2 s2 σ) fun r36 σ35 => some ((1 : Int32), σ35)
def S8_sheet_44 (a1 : Int32) (a2 : Int32) (a3 : Int32) (σ : St) : Option (Int32 × St) := bnd (S8_sheetAt a1 σ) fun r39 σ38 => if a2 = (-1 : Int32) then (S8_sheet_60 a1 a2 a3 r39 (0 : Int32) σ38) else (S8_sheet_60 a1 a2 a3 r39 a3 σ38)
def S8_sheet_32 (a1 : Int32) (a2 : Int32) (a3 : Int32) (σ : St) : Option (Int32 × St) := if a2 = (-1 : Int32) then (S8_sheet_44 a1 a2 a3 σ) else (if 0 ≤ a3 then (S8_sheet_44 a1 a2 a3 σ) else (some ((-14 : Int32), σ)))
def S8_sheet (a1 : Int32) (a2 : Int32) (a3 : Int32) (σ : St) : Option (Int32 × St) := bnd (S8_isSheet a1 σ) fun r45 σ44 => if r45 = 0 then (some ((-2 : Int32), σ44)) else (if a2 < (-1 : Int32) then (some ((-2 : Int32), σ44)) else (if (2 : Int32) < a2 then (some ((-2 : Int32), σ44)) else (if a2 = (-1 : Int32) then (S8_sheet_32 a1 a2 a3 σ44) else (if a3 ≤ (40 : Int32) then (S8_sheet_32 a1 a2 a3 σ44) else (some ((-2 : Int32), σ44))))))
set_option maxRecDepth 100000 in
set_option maxHeartbeats 4000000 in
theorem v8_sheet_60 {g : GT} {X : XT} {a1 : Int32} {a2 : Int32} {a3 : Int32} (hX : OkX g X (m8_sheet)) (hN : 75 ≤ g.N) {res : Int32 × St} (hQ : X.Q = QI g X res.1 res.2 ∧ X.cells = 0 ∧ X.slots = 0)   (s0 : Nat) (s2 : Int32) (σ : St) (hs0 : Ob 75 3 s0) (h : S8_sheet_60 a1 a2 a3 s0 s2 σ = some res) : V g X (m8_sheet) 60 [] [.int (s2), .int (a2), .ref (g.ad (s0))] σ := by
  unfold S8_sheet_60 at h
  obtain ⟨r36, σ35, e37, h⟩ := bnd_some h
  refine V_cvV (n := 75) (c := 3) (nf := 3) (C := RX3) (T := TX3) (As := [.int (a2), .int (s2)]) (q := 63) hX (c3_becomesRow hX.2.2.2.2.1 hN hs0 e37) (goodV_of k4_63 k4_64 k4_65 k1_9 (cons_g k4_66)) (nA := 2) (by decide) rfl rfl rfl rfl rfl hs0 hN rfl rfl rfl dX8_sheet_60 rfl ?_
  refine V_iconst (v := 1) (q := 64) hX dX8_sheet_63 (by decide) rfl ?_
  obtain ⟨f1, f2⟩ := some2 h
  rw [f1, f2] at hQ
  exact V_iret hX hQ rfl dX8_sheet_64
set_option maxRecDepth 100000 in
set_option maxHeartbeats 4000000 in
theorem v8_sheet_44 {g : GT} {X : XT} {a1 : Int32} {a2 : Int32} {a3 : Int32} (hX : OkX g X (m8_sheet)) (hN : 75 ≤ g.N) {res : Int32 × St} (hQ : X.Q = QI g X res.1 res.2 ∧ X.cells = 0 ∧ X.slots = 0)    (σ : St)  (h : S8_sheet_44 a1 a2 a3 σ = some res) : V g X (m8_sheet) 44 [(0, .ref (g.ad (0))), (1, .int (a1)), (2, .int (a2)), (3, .int (a3))] [] σ := by
  unfold S8_sheet_44 at h
  refine V_aload_n (q := 45) hX dX8_sheet_44 0 rfl rfl ?_
  refine V_iload_n (q := 46) hX dX8_sheet_45 1 rfl rfl ?_
  obtain ⟨r39, σ38, e40, h⟩ := bnd_some h
  refine V_cvR (n := 75) (c := 8) (nf := 11) (C := RX8) (T := TX8) (As := [.int (a1)]) (q := 49) hX (c8_sheetAt hX.2.2.2.2.1 hN e40) (goodV_of k3_231 k3_233 kp_27 k1_1 (cons_g k3_234)) (nA := 1) (by decide) rfl rfl rfl rfl rfl ⟨rfl, by decide⟩ hN rfl rfl rfl dX8_sheet_46 rfl ?_
  refine V_iload_n (q := 50) hX dX8_sheet_49 2 rfl rfl ?_
  refine V_iload_n (q := 51) hX dX8_sheet_50 2 rfl rfl ?_
  refine V_iconst (v := -1) (q := 52) hX dX8_sheet_51 (by decide) rfl ?_
  refine V_icmp_ne (q := 55) (t := 59) hX dX8_sheet_52 (by decide) rfl (fun z41 => ?_) (fun z41 => ?_)
  · have h := ite_f z41 h
    refine V_iload_n (q := 60) hX dX8_sheet_59 3 rfl rfl ?_
    refine V.pick [] rfl ?_
    exact v8_sheet_60 hX hN hQ r39 a3 σ38 (sh8_sheetAt e40) h
  have h := ite_t z41 h
  refine V_iconst (v := 0) (q := 56) hX dX8_sheet_55 (by decide) rfl ?_
  refine V_goto hX dX8_sheet_56 (q := 60) (by decide) ?_
  refine V.pick [] rfl ?_
  exact v8_sheet_60 hX hN hQ r39 (0 : Int32) σ38 (sh8_sheetAt e40) h
set_option maxRecDepth 100000 in
set_option maxHeartbeats 4000000 in
theorem v8_sheet_32 {g : GT} {X : XT} {a1 : Int32} {a2 : Int32} {a3 : Int32} (hX : OkX g X (m8_sheet)) (hN : 75 ≤ g.N) {res : Int32 × St} (hQ : X.Q = QI g X res.1 res.2 ∧ X.cells = 0 ∧ X.slots = 0)    (σ : St)  (h : S8_sheet_32 a1 a2 a3 σ = some res) : V g X (m8_sheet) 32 [(0, .ref (g.ad (0))), (1, .int (a1)), (2, .int (a2)), (3, .int (a3))] [] σ := by
  unfold S8_sheet_32 at h
  refine V_iload_n (q := 33) hX dX8_sheet_32 2 rfl rfl ?_
  refine V_iconst (v := -1) (q := 34) hX dX8_sheet_33 (by decide) rfl ?_
  refine V_icmp_eq (q := 37) (t := 44) hX dX8_sheet_34 (by decide) rfl (fun z42 => ?_) (fun z42 => ?_)
  · have h := ite_t z42 h
    refine V.pick [0, 1, 2, 3] rfl ?_
    exact v8_sheet_44 hX hN hQ σ h
  have h := ite_f z42 h
  refine V_iload_n (q := 38) hX dX8_sheet_37 3 rfl rfl ?_
  refine V_if_ge (q := 41) (t := 44) hX dX8_sheet_38 (by decide) rfl (fun z43 => ?_) (fun z43 => ?_)
  · have h := ite_t z43 h
    refine V.pick [0, 1, 2, 3] rfl ?_
    exact v8_sheet_44 hX hN hQ σ h
  have h := ite_f z43 h
  refine V_bipush (v := -14) (q := 43) hX dX8_sheet_41 (by decide) rfl ?_
  obtain ⟨f1, f2⟩ := some2 h
  rw [f1, f2] at hQ
  exact V_iret hX hQ rfl dX8_sheet_43
set_option maxRecDepth 100000 in
set_option maxHeartbeats 4000000 in
theorem v8_sheet {g : GT} {X : XT} {a1 : Int32} {a2 : Int32} {a3 : Int32} (hX : OkX g X (m8_sheet)) (hN : 75 ≤ g.N) {res : Int32 × St} (hQ : X.Q = QI g X res.1 res.2 ∧ X.cells = 0 ∧ X.slots = 0) {σ : St} (h : S8_sheet a1 a2 a3 σ = some res) : V g X (m8_sheet) 0 [(0, .ref (g.ad (0))), (1, .int (a1)), (2, .int (a2)), (3, .int (a3))] [] σ := by
  unfold S8_sheet at h
  refine V_aload_n (q := 1) hX dX8_sheet_0 0 rfl rfl ?_
  refine V_iload_n (q := 2) hX dX8_sheet_1 1 rfl rfl ?_
  obtain ⟨r45, σ44, e46, h⟩ := bnd_some h
  refine V_cvI (n := 75) (c := 8) (nf := 11) (C := RX8) (T := TX8) (As := [.int (a1)]) (q := 5) hX (c8_isSheet hX.2.2.2.2.1 hN e46) (goodV_of k3_227 k3_229 kp_26 k1_1 (cons_g k3_230)) (nA := 1) (by decide) rfl rfl rfl rfl rfl ⟨rfl, by decide⟩ hN rfl rfl rfl dX8_sheet_2 rfl ?_
  refine V_if_eq (q := 8) (t := 29) hX dX8_sheet_5 (by decide) rfl (fun z47 => ?_) (fun z47 => ?_)
  · have h := ite_t z47 h
    refine V_bipush (v := -2) (q := 31) hX dX8_sheet_29 (by decide) rfl ?_
    obtain ⟨f1, f2⟩ := some2 h
    rw [f1, f2] at hQ
    exact V_iret hX hQ rfl dX8_sheet_31
  have h := ite_f z47 h
  refine V_iload_n (q := 9) hX dX8_sheet_8 2 rfl rfl ?_
  refine V_iconst (v := -1) (q := 10) hX dX8_sheet_9 (by decide) rfl ?_
  refine V_icmp_lt (q := 13) (t := 29) hX dX8_sheet_10 (by decide) rfl (fun z48 => ?_) (fun z48 => ?_)
  · have h := ite_t z48 h
    refine V_bipush (v := -2) (q := 31) hX dX8_sheet_29 (by decide) rfl ?_
    obtain ⟨f1, f2⟩ := some2 h
    rw [f1, f2] at hQ
    exact V_iret hX hQ rfl dX8_sheet_31
  have h := ite_f z48 h
  refine V_iload_n (q := 14) hX dX8_sheet_13 2 rfl rfl ?_
  refine V_iconst (v := 2) (q := 15) hX dX8_sheet_14 (by decide) rfl ?_
  refine V_icmp_gt (q := 18) (t := 29) hX dX8_sheet_15 (by decide) rfl (fun z49 => ?_) (fun z49 => ?_)
  · have h := ite_t z49 h
    refine V_bipush (v := -2) (q := 31) hX dX8_sheet_29 (by decide) rfl ?_
    obtain ⟨f1, f2⟩ := some2 h
    rw [f1, f2] at hQ
    exact V_iret hX hQ rfl dX8_sheet_31
  have h := ite_f z49 h
  refine V_iload_n (q := 19) hX dX8_sheet_18 2 rfl rfl ?_
  refine V_iconst (v := -1) (q := 20) hX dX8_sheet_19 (by decide) rfl ?_
  refine V_icmp_eq (q := 23) (t := 32) hX dX8_sheet_20 (by decide) rfl (fun z50 => ?_) (fun z50 => ?_)
  · have h := ite_t z50 h
    refine V.pick [0, 1, 2, 3] rfl ?_
    exact v8_sheet_32 hX hN hQ σ44 h
  have h := ite_f z50 h
  refine V_iload_n (q := 24) hX dX8_sheet_23 3 rfl rfl ?_
  refine V_bipush (v := 40) (q := 26) hX dX8_sheet_24 (by decide) rfl ?_
  refine V_icmp_le (q := 29) (t := 32) hX dX8_sheet_26 (by decide) rfl (fun z51 => ?_) (fun z51 => ?_)
  · have h := ite_t z51 h
    refine V.pick [0, 1, 2, 3] rfl ?_
    exact v8_sheet_32 hX hN hQ σ44 h
  have h := ite_f z51 h
  refine V_bipush (v := -2) (q := 31) hX dX8_sheet_29 (by decide) rfl ?_
  obtain ⟨f1, f2⟩ := some2 h
  rw [f1, f2] at hQ
  exact V_iret hX hQ rfl dX8_sheet_31
set_option maxRecDepth 100000 in
set_option maxHeartbeats 4000000 in
theorem c8_sheet {g : GT} {l : Launch} (hg : OkG g) (hN : 75 ≤ g.N) {a1 : Int32} {a2 : Int32} {a3 : Int32} {σ : St} {r : Int32} {σ' : St} (h : S8_sheet a1 a2 a3 σ = some (r, σ')) : CtI g l m8_sheet yX8_sheet [.ref (g.ad (0)), .int (a1), .int (a2), .int (a3)] σ r σ' := CtI.of hg (by decide) rfl rfl (fun X h1 h2 h3 => v8_sheet h1 hN (res := (r, σ')) h3 h)

abbrev m8_cell : MI := (cX8_cell, RX8, 5, some .int, 3)
def S8_cell (a1 : Int32) (a2 : Int32) (a3 : Int32) (σ : St) : Option (Int32 × St) := bnd (S8_sheetFault a1 σ) fun r19 σ18 => if r19 = 0 then (bnd (S8_sheetAt a1 σ18) fun r23 σ22 => bnd (S3_hasFrom r23 a2 (1 : Int32) σ22) fun r26 σ25 => if r26 = 0 then (some ((-12 : Int32), σ25)) else (bnd (S8_sheetAt a1 σ25) fun r30 σ29 => bnd (S3_write r30 a2 a3 σ29) fun r33 σ32 => some ((1 : Int32), σ32))) else (some (r19, σ18))
set_option maxRecDepth 100000 in
set_option maxHeartbeats 4000000 in
theorem v8_cell {g : GT} {X : XT} {a1 : Int32} {a2 : Int32} {a3 : Int32} (hX : OkX g X (m8_cell)) (hN : 75 ≤ g.N) {res : Int32 × St} (hQ : X.Q = QI g X res.1 res.2 ∧ X.cells = 0 ∧ X.slots = 0) {σ : St} (h : S8_cell a1 a2 a3 σ = some res) : V g X (m8_cell) 0 [(0, .ref (g.ad (0))), (1, .int (a1)), (2, .int (a2)), (3, .int (a3))] [] σ := by
  unfold S8_cell at h
  refine V_aload_n (q := 1) hX dX8_cell_0 0 rfl rfl ?_
  refine V_iload_n (q := 2) hX dX8_cell_1 1 rfl rfl ?_
  obtain ⟨r19, σ18, e20, h⟩ := bnd_some h
  refine V_cvI (n := 75) (c := 8) (nf := 11) (C := RX8) (T := TX8) (As := [.int (a1)]) (q := 5) hX (c8_sheetFault hX.2.2.2.2.1 hN e20) (goodV_of k3_223 k3_225 kp_25 k1_1 (cons_g k3_226)) (nA := 1) (by decide) rfl rfl rfl rfl rfl ⟨rfl, by decide⟩ hN rfl rfl rfl dX8_cell_2 rfl ?_
  refine V_istore (lv' := [(4, .int (r19)), (0, .ref (g.ad (0))), (1, .int (a1)), (2, .int (a2)), (3, .int (a3))]) (q := 7) hX dX8_cell_5 rfl rfl rfl ?_
  refine V_iload (q := 9) hX dX8_cell_7 0 rfl rfl ?_
  refine V_if_eq (q := 12) (t := 15) hX dX8_cell_9 (by decide) rfl (fun z21 => ?_) (fun z21 => ?_)
  · have h := ite_t z21 h
    refine V_aload_n (q := 16) hX dX8_cell_15 1 rfl rfl ?_
    refine V_iload_n (q := 17) hX dX8_cell_16 2 rfl rfl ?_
    obtain ⟨r23, σ22, e24, h⟩ := bnd_some h
    refine V_cvR (n := 75) (c := 8) (nf := 11) (C := RX8) (T := TX8) (As := [.int (a1)]) (q := 20) hX (c8_sheetAt hX.2.2.2.2.1 hN e24) (goodV_of k3_231 k3_233 kp_27 k1_1 (cons_g k3_234)) (nA := 1) (by decide) rfl rfl rfl rfl rfl ⟨rfl, by decide⟩ hN rfl rfl rfl dX8_cell_17 rfl ?_
    refine V_iload_n (q := 21) hX dX8_cell_20 3 rfl rfl ?_
    refine V_iconst (v := 1) (q := 22) hX dX8_cell_21 (by decide) rfl ?_
    obtain ⟨r26, σ25, e27, h⟩ := bnd_some h
    refine V_cvI (n := 75) (c := 3) (nf := 3) (C := RX3) (T := TX3) (As := [.int (a2), .int ((1 : Int32))]) (q := 25) hX (c3_hasFrom hX.2.2.2.2.1 hN (sh8_sheetAt e24) e27) (goodV_of k4_108 k4_109 k4_110 k1_9 (cons_g k4_111)) (nA := 2) (by decide) rfl rfl rfl rfl rfl (sh8_sheetAt  e24) hN rfl rfl rfl dX8_cell_22 rfl ?_
    refine V_if_ne (q := 28) (t := 31) hX dX8_cell_25 (by decide) rfl (fun z28 => ?_) (fun z28 => ?_)
    · have h := ite_f z28 h
      refine V_aload_n (q := 32) hX dX8_cell_31 1 rfl rfl ?_
      refine V_iload_n (q := 33) hX dX8_cell_32 2 rfl rfl ?_
      obtain ⟨r30, σ29, e31, h⟩ := bnd_some h
      refine V_cvR (n := 75) (c := 8) (nf := 11) (C := RX8) (T := TX8) (As := [.int (a1)]) (q := 36) hX (c8_sheetAt hX.2.2.2.2.1 hN e31) (goodV_of k3_231 k3_233 kp_27 k1_1 (cons_g k3_234)) (nA := 1) (by decide) rfl rfl rfl rfl rfl ⟨rfl, by decide⟩ hN rfl rfl rfl dX8_cell_33 rfl ?_
      refine V_iload_n (q := 37) hX dX8_cell_36 3 rfl rfl ?_
      refine V_iload_n (q := 38) hX dX8_cell_37 4 rfl rfl ?_
      obtain ⟨r33, σ32, e34, h⟩ := bnd_some h
      refine V_cvV (n := 75) (c := 3) (nf := 3) (C := RX3) (T := TX3) (As := [.int (a2), .int (a3)]) (q := 41) hX (c3_write hX.2.2.2.2.1 hN (sh8_sheetAt e31) e34) (goodV_of k4_69 k4_70 k4_71 k1_9 (cons_g k4_72)) (nA := 2) (by decide) rfl rfl rfl rfl rfl (sh8_sheetAt  e31) hN rfl rfl rfl dX8_cell_38 rfl ?_
      refine V_iconst (v := 1) (q := 42) hX dX8_cell_41 (by decide) rfl ?_
      obtain ⟨f1, f2⟩ := some2 h
      rw [f1, f2] at hQ
      exact V_iret hX hQ rfl dX8_cell_42
    have h := ite_t z28 h
    refine V_bipush (v := -12) (q := 30) hX dX8_cell_28 (by decide) rfl ?_
    obtain ⟨f1, f2⟩ := some2 h
    rw [f1, f2] at hQ
    exact V_iret hX hQ rfl dX8_cell_30
  have h := ite_f z21 h
  refine V_iload (q := 14) hX dX8_cell_12 0 rfl rfl ?_
  obtain ⟨f1, f2⟩ := some2 h
  rw [f1, f2] at hQ
  exact V_iret hX hQ rfl dX8_cell_14
set_option maxRecDepth 100000 in
set_option maxHeartbeats 4000000 in
theorem c8_cell {g : GT} {l : Launch} (hg : OkG g) (hN : 75 ≤ g.N) {a1 : Int32} {a2 : Int32} {a3 : Int32} {σ : St} {r : Int32} {σ' : St} (h : S8_cell a1 a2 a3 σ = some (r, σ')) : CtI g l m8_cell yX8_cell [.ref (g.ad (0)), .int (a1), .int (a2), .int (a3)] σ r σ' := CtI.of hg (by decide) rfl rfl (fun X h1 h2 h3 => v8_cell h1 hN (res := (r, σ')) h3 h)

abbrev m8_copy : MI := (cX8_copy, RX8, 8, some .int, 2)
def S8_copy (a1 : Int32) (a2 : Int32) (a3 : Int32) (a4 : Int32) (a5 : Int32) (σ : St) : Option (Int32 × St) := bnd (S8_isSheet a1 σ) fun r32 σ31 => if r32 = 0 then (some ((-2 : Int32), σ31)) else (bnd (S8_isSheet a3 σ31) fun r36 σ35 => if r36 = 0 then (some ((-2 : Int32), σ35)) else (bnd (S8_sheetAt a1 σ35) fun r40 σ39 => bnd (S8_sheetAt a3 σ39) fun r43 σ42 => if (gI σ42 r40 1) = (-1 : Int32) then (some ((-11 : Int32), σ42)) else (if (gI σ42 r43 1) = (-1 : Int32) then (some ((-11 : Int32), σ42)) else (if (gI σ42 r40 1) = (gI σ42 r43 1) then (bnd (S3_hasFrom r40 a2 a5 σ42) fun r49 σ48 => if r49 = 0 then (some ((-12 : Int32), σ48)) else (bnd (S3_hasFrom r43 a4 a5 σ48) fun r53 σ52 => if r53 = 0 then (some ((-12 : Int32), σ52)) else (if ¬ a2 < 0 then (if ¬ a4 < 0 then (if ¬ a5 < 0 then (if (a2).toNatClampNeg + (a5).toNatClampNeg ≤ 40 then (if (a4).toNatClampNeg + (a5).toNatClampNeg ≤ 40 then (some (a5, (copyS σ52 (r40 + 1) a2 (r43 + 1) a4 a5))) else none) else none) else none) else none) else none))) else (some ((-13 : Int32), σ42))))))
set_option maxRecDepth 100000 in
set_option maxHeartbeats 4000000 in
theorem v8_copy {g : GT} {X : XT} {a1 : Int32} {a2 : Int32} {a3 : Int32} {a4 : Int32} {a5 : Int32} (hX : OkX g X (m8_copy)) (hN : 75 ≤ g.N) {res : Int32 × St} (hQ : X.Q = QI g X res.1 res.2 ∧ X.cells = 0 ∧ X.slots = 0) {σ : St} (h : S8_copy a1 a2 a3 a4 a5 σ = some res) : V g X (m8_copy) 0 [(0, .ref (g.ad (0))), (1, .int (a1)), (2, .int (a2)), (3, .int (a3)), (4, .int (a4)), (5, .int (a5))] [] σ := by
  unfold S8_copy at h
  refine V_aload_n (q := 1) hX dX8_copy_0 0 rfl rfl ?_
  refine V_iload_n (q := 2) hX dX8_copy_1 1 rfl rfl ?_
  obtain ⟨r32, σ31, e33, h⟩ := bnd_some h
  refine V_cvI (n := 75) (c := 8) (nf := 11) (C := RX8) (T := TX8) (As := [.int (a1)]) (q := 5) hX (c8_isSheet hX.2.2.2.2.1 hN e33) (goodV_of k3_227 k3_229 kp_26 k1_1 (cons_g k3_230)) (nA := 1) (by decide) rfl rfl rfl rfl rfl ⟨rfl, by decide⟩ hN rfl rfl rfl dX8_copy_2 rfl ?_
  refine V_if_eq (q := 8) (t := 16) hX dX8_copy_5 (by decide) rfl (fun z34 => ?_) (fun z34 => ?_)
  · have h := ite_t z34 h
    refine V_bipush (v := -2) (q := 18) hX dX8_copy_16 (by decide) rfl ?_
    obtain ⟨f1, f2⟩ := some2 h
    rw [f1, f2] at hQ
    exact V_iret hX hQ rfl dX8_copy_18
  have h := ite_f z34 h
  refine V_aload_n (q := 9) hX dX8_copy_8 0 rfl rfl ?_
  refine V_iload_n (q := 10) hX dX8_copy_9 3 rfl rfl ?_
  obtain ⟨r36, σ35, e37, h⟩ := bnd_some h
  refine V_cvI (n := 75) (c := 8) (nf := 11) (C := RX8) (T := TX8) (As := [.int (a3)]) (q := 13) hX (c8_isSheet hX.2.2.2.2.1 hN e37) (goodV_of k3_227 k3_229 kp_26 k1_1 (cons_g k3_230)) (nA := 1) (by decide) rfl rfl rfl rfl rfl ⟨rfl, by decide⟩ hN rfl rfl rfl dX8_copy_10 rfl ?_
  refine V_if_ne (q := 16) (t := 19) hX dX8_copy_13 (by decide) rfl (fun z38 => ?_) (fun z38 => ?_)
  · have h := ite_f z38 h
    refine V_aload_n (q := 20) hX dX8_copy_19 0 rfl rfl ?_
    refine V_iload_n (q := 21) hX dX8_copy_20 1 rfl rfl ?_
    obtain ⟨r40, σ39, e41, h⟩ := bnd_some h
    refine V_cvR (n := 75) (c := 8) (nf := 11) (C := RX8) (T := TX8) (As := [.int (a1)]) (q := 24) hX (c8_sheetAt hX.2.2.2.2.1 hN e41) (goodV_of k3_231 k3_233 kp_27 k1_1 (cons_g k3_234)) (nA := 1) (by decide) rfl rfl rfl rfl rfl ⟨rfl, by decide⟩ hN rfl rfl rfl dX8_copy_21 rfl ?_
    refine V_astore (lv' := [(6, .ref (g.ad (r40))), (0, .ref (g.ad (0))), (1, .int (a1)), (2, .int (a2)), (3, .int (a3)), (4, .int (a4)), (5, .int (a5))]) (q := 26) hX dX8_copy_24 rfl rfl rfl ?_
    refine V_aload_n (q := 27) hX dX8_copy_26 1 rfl rfl ?_
    refine V_iload_n (q := 28) hX dX8_copy_27 4 rfl rfl ?_
    obtain ⟨r43, σ42, e44, h⟩ := bnd_some h
    refine V_cvR (n := 75) (c := 8) (nf := 11) (C := RX8) (T := TX8) (As := [.int (a3)]) (q := 31) hX (c8_sheetAt hX.2.2.2.2.1 hN e44) (goodV_of k3_231 k3_233 kp_27 k1_1 (cons_g k3_234)) (nA := 1) (by decide) rfl rfl rfl rfl rfl ⟨rfl, by decide⟩ hN rfl rfl rfl dX8_copy_28 rfl ?_
    refine V_astore (lv' := [(7, .ref (g.ad (r43))), (6, .ref (g.ad (r40))), (0, .ref (g.ad (0))), (1, .int (a1)), (2, .int (a2)), (3, .int (a3)), (4, .int (a4)), (5, .int (a5))]) (q := 33) hX dX8_copy_31 rfl rfl rfl ?_
    refine V_aload (q := 35) hX dX8_copy_33 1 rfl rfl ?_
    refine V_getI (n := 75) (c := 3) (k := 1) (nf := 3) (C := RX3) (T := TX3) (q := 38) hX rfl rfl iG3 k1_215 rfl rfl (sh8_sheetAt  e41) hN rfl rfl dX8_copy_35 rfl ?_
    refine V_iconst (v := -1) (q := 39) hX dX8_copy_38 (by decide) rfl ?_
    refine V_icmp_eq (q := 42) (t := 51) hX dX8_copy_39 (by decide) rfl (fun z45 => ?_) (fun z45 => ?_)
    · have h := ite_t z45 h
      refine V_bipush (v := -11) (q := 53) hX dX8_copy_51 (by decide) rfl ?_
      obtain ⟨f1, f2⟩ := some2 h
      rw [f1, f2] at hQ
      exact V_iret hX hQ rfl dX8_copy_53
    have h := ite_f z45 h
    refine V_aload (q := 44) hX dX8_copy_42 0 rfl rfl ?_
    refine V_getI (n := 75) (c := 3) (k := 1) (nf := 3) (C := RX3) (T := TX3) (q := 47) hX rfl rfl iG3 k1_215 rfl rfl (sh8_sheetAt  e44) hN rfl rfl dX8_copy_44 rfl ?_
    refine V_iconst (v := -1) (q := 48) hX dX8_copy_47 (by decide) rfl ?_
    refine V_icmp_ne (q := 51) (t := 54) hX dX8_copy_48 (by decide) rfl (fun z46 => ?_) (fun z46 => ?_)
    · have h := ite_f z46 h
      refine V_aload (q := 56) hX dX8_copy_54 1 rfl rfl ?_
      refine V_getI (n := 75) (c := 3) (k := 1) (nf := 3) (C := RX3) (T := TX3) (q := 59) hX rfl rfl iG3 k1_215 rfl rfl (sh8_sheetAt  e41) hN rfl rfl dX8_copy_56 rfl ?_
      refine V_aload (q := 61) hX dX8_copy_59 0 rfl rfl ?_
      refine V_getI (n := 75) (c := 3) (k := 1) (nf := 3) (C := RX3) (T := TX3) (q := 64) hX rfl rfl iG3 k1_215 rfl rfl (sh8_sheetAt  e44) hN rfl rfl dX8_copy_61 rfl ?_
      refine V_icmp_eq (q := 67) (t := 70) hX dX8_copy_64 (by decide) rfl (fun z47 => ?_) (fun z47 => ?_)
      · have h := ite_t z47 h
        refine V_aload (q := 72) hX dX8_copy_70 1 rfl rfl ?_
        refine V_iload_n (q := 73) hX dX8_copy_72 4 rfl rfl ?_
        refine V_iload (q := 75) hX dX8_copy_73 7 rfl rfl ?_
        obtain ⟨r49, σ48, e50, h⟩ := bnd_some h
        refine V_cvI (n := 75) (c := 3) (nf := 3) (C := RX3) (T := TX3) (As := [.int (a2), .int (a5)]) (q := 78) hX (c3_hasFrom hX.2.2.2.2.1 hN (sh8_sheetAt e41) e50) (goodV_of k4_108 k4_109 k4_110 k1_9 (cons_g k4_111)) (nA := 2) (by decide) rfl rfl rfl rfl rfl (sh8_sheetAt  e41) hN rfl rfl rfl dX8_copy_75 rfl ?_
        refine V_if_eq (q := 81) (t := 93) hX dX8_copy_78 (by decide) rfl (fun z51 => ?_) (fun z51 => ?_)
        · have h := ite_t z51 h
          refine V_bipush (v := -12) (q := 95) hX dX8_copy_93 (by decide) rfl ?_
          obtain ⟨f1, f2⟩ := some2 h
          rw [f1, f2] at hQ
          exact V_iret hX hQ rfl dX8_copy_95
        have h := ite_f z51 h
        refine V_aload (q := 83) hX dX8_copy_81 0 rfl rfl ?_
        refine V_iload (q := 85) hX dX8_copy_83 6 rfl rfl ?_
        refine V_iload (q := 87) hX dX8_copy_85 7 rfl rfl ?_
        obtain ⟨r53, σ52, e54, h⟩ := bnd_some h
        refine V_cvI (n := 75) (c := 3) (nf := 3) (C := RX3) (T := TX3) (As := [.int (a4), .int (a5)]) (q := 90) hX (c3_hasFrom hX.2.2.2.2.1 hN (sh8_sheetAt e44) e54) (goodV_of k4_108 k4_109 k4_110 k1_9 (cons_g k4_111)) (nA := 2) (by decide) rfl rfl rfl rfl rfl (sh8_sheetAt  e44) hN rfl rfl rfl dX8_copy_87 rfl ?_
        refine V_if_ne (q := 93) (t := 96) hX dX8_copy_90 (by decide) rfl (fun z55 => ?_) (fun z55 => ?_)
        · have h := ite_f z55 h
          refine V_aload (q := 98) hX dX8_copy_96 1 rfl rfl ?_
          refine V_getF (r := (r40 + 1)) (n := 75) (c := 3) (k := 0) (nf := 3) (C := RX3) (T := TX3) (q := 101) hX rfl rfl iG3 k1_213 rfl rfl (sh8_sheetAt  e41) hN rfl rfl rfl (rf3 (sh8_sheetAt  e41)) dX8_copy_98 rfl ?_
          refine V_iload_n (q := 102) hX dX8_copy_101 4 rfl rfl ?_
          refine V_aload (q := 104) hX dX8_copy_102 0 rfl rfl ?_
          refine V_getF (r := (r43 + 1)) (n := 75) (c := 3) (k := 0) (nf := 3) (C := RX3) (T := TX3) (q := 107) hX rfl rfl iG3 k1_213 rfl rfl (sh8_sheetAt  e44) hN rfl rfl rfl (rf3 (sh8_sheetAt  e44)) dX8_copy_104 rfl ?_
          refine V_iload (q := 109) hX dX8_copy_107 6 rfl rfl ?_
          refine V_iload (q := 111) hX dX8_copy_109 7 rfl rfl ?_
          obtain ⟨z56, h⟩ := chk_t h
          obtain ⟨z57, h⟩ := chk_t h
          obtain ⟨z58, h⟩ := chk_t h
          obtain ⟨z59, h⟩ := chk_t h
          obtain ⟨z60, h⟩ := chk_t h
          refine V_copy (n := 75) (len := 40) (len' := 40) (q := 114) hX (ar3 (sh8_sheetAt  e41)) (ar3 (sh8_sheetAt  e44)) hN k4_116 z56 z57 z58 z59 z60 rfl dX8_copy_111 rfl ?_
          refine V_iload (q := 116) hX dX8_copy_114 7 rfl rfl ?_
          obtain ⟨f1, f2⟩ := some2 h
          rw [f1, f2] at hQ
          exact V_iret hX hQ rfl dX8_copy_116
        have h := ite_t z55 h
        refine V_bipush (v := -12) (q := 95) hX dX8_copy_93 (by decide) rfl ?_
        obtain ⟨f1, f2⟩ := some2 h
        rw [f1, f2] at hQ
        exact V_iret hX hQ rfl dX8_copy_95
      have h := ite_f z47 h
      refine V_bipush (v := -13) (q := 69) hX dX8_copy_67 (by decide) rfl ?_
      obtain ⟨f1, f2⟩ := some2 h
      rw [f1, f2] at hQ
      exact V_iret hX hQ rfl dX8_copy_69
    have h := ite_t z46 h
    refine V_bipush (v := -11) (q := 53) hX dX8_copy_51 (by decide) rfl ?_
    obtain ⟨f1, f2⟩ := some2 h
    rw [f1, f2] at hQ
    exact V_iret hX hQ rfl dX8_copy_53
  have h := ite_t z38 h
  refine V_bipush (v := -2) (q := 18) hX dX8_copy_16 (by decide) rfl ?_
  obtain ⟨f1, f2⟩ := some2 h
  rw [f1, f2] at hQ
  exact V_iret hX hQ rfl dX8_copy_18
set_option maxRecDepth 100000 in
set_option maxHeartbeats 4000000 in
theorem c8_copy {g : GT} {l : Launch} (hg : OkG g) (hN : 75 ≤ g.N) {a1 : Int32} {a2 : Int32} {a3 : Int32} {a4 : Int32} {a5 : Int32} {σ : St} {r : Int32} {σ' : St} (h : S8_copy a1 a2 a3 a4 a5 σ = some (r, σ')) : CtI g l m8_copy yX8_copy [.ref (g.ad (0)), .int (a1), .int (a2), .int (a3), .int (a4), .int (a5)] σ r σ' := CtI.of hg (by decide) rfl rfl (fun X h1 h2 h3 => v8_copy h1 hN (res := (r, σ')) h3 h)
