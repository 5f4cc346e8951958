abbrev m9_two : MI := (cX9_two, RX9, 3, some .int, 1)
def S9_two_52 (a0 : Int32) (a1 : Int32) (a2 : Int32) (σ : St) : Option (Int32 × St) := some ((1 : Int32), σ)
def S9_two (a0 : Int32) (a1 : Int32) (a2 : Int32) (σ : St) : Option (Int32 × St) := if a0 = 11 then (if a1 = 0 then (if a2 = 0 then (some ((0 : Int32), σ)) else (S9_two_52 a0 a1 a2 σ)) else (S9_two_52 a0 a1 a2 σ)) else (if a0 = 12 then (if a1 = 0 then (some ((0 : Int32), σ)) else (if a2 = 0 then (some ((0 : Int32), σ)) else (some ((1 : Int32), σ)))) else (if a0 = 13 then (some ((a1 * a2), σ)) else (if a0 = 14 then (if a2 ≤ a1 then (some ((0 : Int32), σ)) else (some ((1 : Int32), σ))) else (if a0 = 15 then (if a1 = a2 then (some ((1 : Int32), σ)) else (some ((0 : Int32), σ))) else (if a0 = 16 then (some ((a1 + a2), σ)) else (if a0 = 17 then (some ((a1 - a2), σ)) else (some ((a1 * a2), σ))))))))
set_option maxRecDepth 100000 in
set_option maxHeartbeats 4000000 in
theorem v9_two_52 {g : GT} {X : XT} {a0 : Int32} {a1 : Int32} {a2 : Int32} (hX : OkX g X (m9_two)) (hN : 95 ≤ g.N) {res : Int32 × St} (hQ : X.Q = QI g X res.1 res.2 ∧ X.cells = 0 ∧ X.slots = 0)    (σ : St)  (h : S9_two_52 a0 a1 a2 σ = some res) : V g X (m9_two) 52 [] [] σ := by
  unfold S9_two_52 at h
  refine V_iconst (v := 1) (q := 53) hX dX9_two_52 (by decide) rfl ?_
  refine V_goto hX dX9_two_53 (q := 57) (by decide) ?_
  obtain ⟨f1, f2⟩ := some2 h
  rw [f1, f2] at hQ
  exact V_iret hX hQ rfl dX9_two_57
set_option maxRecDepth 100000 in
set_option maxHeartbeats 4000000 in
theorem v9_two {g : GT} {X : XT} {a0 : Int32} {a1 : Int32} {a2 : Int32} (hX : OkX g X (m9_two)) (hN : 95 ≤ g.N) {res : Int32 × St} (hQ : X.Q = QI g X res.1 res.2 ∧ X.cells = 0 ∧ X.slots = 0) {σ : St} (h : S9_two a0 a1 a2 σ = some res) : V g X (m9_two) 0 [(0, .int (a0)), (1, .int (a1)), (2, .int (a2))] [] σ := by
  unfold S9_two at h
  refine V_iload_n (q := 1) hX dX9_two_0 0 rfl rfl ?_
  by_cases z27 : a0 = 11
  · have h := ite_t z27 h
    refine V_tsw (q := 44) (off := 43) hX dX9_two_1 (by rw [z27]; decide) (by rw [z27]; decide) (by rw [z27]; decide) (by decide) ?_
    refine V_iload_n (q := 45) hX dX9_two_44 1 rfl rfl ?_
    refine V_if_ne (q := 48) (t := 52) hX dX9_two_45 (by decide) rfl (fun z28 => ?_) (fun z28 => ?_)
    · have h := ite_f z28 h
      refine V.pick [] rfl ?_
      exact v9_two_52 hX hN hQ σ h
    have h := ite_t z28 h
    refine V_iload_n (q := 49) hX dX9_two_48 2 rfl rfl ?_
    refine V_if_eq (q := 52) (t := 56) hX dX9_two_49 (by decide) rfl (fun z29 => ?_) (fun z29 => ?_)
    · have h := ite_t z29 h
      refine V_iconst (v := 0) (q := 57) hX dX9_two_56 (by decide) rfl ?_
      obtain ⟨f1, f2⟩ := some2 h
      rw [f1, f2] at hQ
      exact V_iret hX hQ rfl dX9_two_57
    have h := ite_f z29 h
    refine V.pick [] rfl ?_
    exact v9_two_52 hX hN hQ σ h
  have h := ite_f z27 h
  by_cases z30 : a0 = 12
  · have h := ite_t z30 h
    refine V_tsw (q := 58) (off := 57) hX dX9_two_1 (by rw [z30]; decide) (by rw [z30]; decide) (by rw [z30]; decide) (by decide) ?_
    refine V_iload_n (q := 59) hX dX9_two_58 1 rfl rfl ?_
    refine V_if_eq (q := 62) (t := 70) hX dX9_two_59 (by decide) rfl (fun z31 => ?_) (fun z31 => ?_)
    · have h := ite_t z31 h
      refine V_iconst (v := 0) (q := 71) hX dX9_two_70 (by decide) rfl ?_
      obtain ⟨f1, f2⟩ := some2 h
      rw [f1, f2] at hQ
      exact V_iret hX hQ rfl dX9_two_71
    have h := ite_f z31 h
    refine V_iload_n (q := 63) hX dX9_two_62 2 rfl rfl ?_
    refine V_if_eq (q := 66) (t := 70) hX dX9_two_63 (by decide) rfl (fun z32 => ?_) (fun z32 => ?_)
    · have h := ite_t z32 h
      refine V_iconst (v := 0) (q := 71) hX dX9_two_70 (by decide) rfl ?_
      obtain ⟨f1, f2⟩ := some2 h
      rw [f1, f2] at hQ
      exact V_iret hX hQ rfl dX9_two_71
    have h := ite_f z32 h
    refine V_iconst (v := 1) (q := 67) hX dX9_two_66 (by decide) rfl ?_
    refine V_goto hX dX9_two_67 (q := 71) (by decide) ?_
    obtain ⟨f1, f2⟩ := some2 h
    rw [f1, f2] at hQ
    exact V_iret hX hQ rfl dX9_two_71
  have h := ite_f z30 h
  by_cases z33 : a0 = 13
  · have h := ite_t z33 h
    refine V_tsw (q := 102) (off := 101) hX dX9_two_1 (by rw [z33]; decide) (by rw [z33]; decide) (by rw [z33]; decide) (by decide) ?_
    refine V_iload_n (q := 103) hX dX9_two_102 1 rfl rfl ?_
    refine V_iload_n (q := 104) hX dX9_two_103 2 rfl rfl ?_
    refine V_imul (q := 105) hX dX9_two_104 rfl ?_
    obtain ⟨f1, f2⟩ := some2 h
    rw [f1, f2] at hQ
    exact V_iret hX hQ rfl dX9_two_105
  have h := ite_f z33 h
  by_cases z34 : a0 = 14
  · have h := ite_t z34 h
    refine V_tsw (q := 72) (off := 71) hX dX9_two_1 (by rw [z34]; decide) (by rw [z34]; decide) (by rw [z34]; decide) (by decide) ?_
    refine V_iload_n (q := 73) hX dX9_two_72 1 rfl rfl ?_
    refine V_iload_n (q := 74) hX dX9_two_73 2 rfl rfl ?_
    refine V_icmp_ge (q := 77) (t := 81) hX dX9_two_74 (by decide) rfl (fun z35 => ?_) (fun z35 => ?_)
    · have h := ite_t z35 h
      refine V_iconst (v := 0) (q := 82) hX dX9_two_81 (by decide) rfl ?_
      obtain ⟨f1, f2⟩ := some2 h
      rw [f1, f2] at hQ
      exact V_iret hX hQ rfl dX9_two_82
    have h := ite_f z35 h
    refine V_iconst (v := 1) (q := 78) hX dX9_two_77 (by decide) rfl ?_
    refine V_goto hX dX9_two_78 (q := 82) (by decide) ?_
    obtain ⟨f1, f2⟩ := some2 h
    rw [f1, f2] at hQ
    exact V_iret hX hQ rfl dX9_two_82
  have h := ite_f z34 h
  by_cases z36 : a0 = 15
  · have h := ite_t z36 h
    refine V_tsw (q := 83) (off := 82) hX dX9_two_1 (by rw [z36]; decide) (by rw [z36]; decide) (by rw [z36]; decide) (by decide) ?_
    refine V_iload_n (q := 84) hX dX9_two_83 1 rfl rfl ?_
    refine V_iload_n (q := 85) hX dX9_two_84 2 rfl rfl ?_
    refine V_icmp_ne (q := 88) (t := 92) hX dX9_two_85 (by decide) rfl (fun z37 => ?_) (fun z37 => ?_)
    · have h := ite_f z37 h
      refine V_iconst (v := 0) (q := 93) hX dX9_two_92 (by decide) rfl ?_
      obtain ⟨f1, f2⟩ := some2 h
      rw [f1, f2] at hQ
      exact V_iret hX hQ rfl dX9_two_93
    have h := ite_t z37 h
    refine V_iconst (v := 1) (q := 89) hX dX9_two_88 (by decide) rfl ?_
    refine V_goto hX dX9_two_89 (q := 93) (by decide) ?_
    obtain ⟨f1, f2⟩ := some2 h
    rw [f1, f2] at hQ
    exact V_iret hX hQ rfl dX9_two_93
  have h := ite_f z36 h
  by_cases z38 : a0 = 16
  · have h := ite_t z38 h
    refine V_tsw (q := 94) (off := 93) hX dX9_two_1 (by rw [z38]; decide) (by rw [z38]; decide) (by rw [z38]; decide) (by decide) ?_
    refine V_iload_n (q := 95) hX dX9_two_94 1 rfl rfl ?_
    refine V_iload_n (q := 96) hX dX9_two_95 2 rfl rfl ?_
    refine V_iadd (q := 97) hX dX9_two_96 rfl ?_
    obtain ⟨f1, f2⟩ := some2 h
    rw [f1, f2] at hQ
    exact V_iret hX hQ rfl dX9_two_97
  have h := ite_f z38 h
  by_cases z39 : a0 = 17
  · have h := ite_t z39 h
    refine V_tsw (q := 98) (off := 97) hX dX9_two_1 (by rw [z39]; decide) (by rw [z39]; decide) (by rw [z39]; decide) (by decide) ?_
    refine V_iload_n (q := 99) hX dX9_two_98 1 rfl rfl ?_
    refine V_iload_n (q := 100) hX dX9_two_99 2 rfl rfl ?_
    refine V_isub (q := 101) hX dX9_two_100 rfl ?_
    obtain ⟨f1, f2⟩ := some2 h
    rw [f1, f2] at hQ
    exact V_iret hX hQ rfl dX9_two_101
  have h := ite_f z39 h
  refine V_tswD (q := 102) hX dX9_two_1 (by have y0 := neI (v := 11) (by decide) z27; have y1 := neI (v := 12) (by decide) z30; have y2 := neI (v := 13) (by decide) z33; have y3 := neI (v := 14) (by decide) z34; have y4 := neI (v := 15) (by decide) z36; have y5 := neI (v := 16) (by decide) z38; have y6 := neI (v := 17) (by decide) z39; omega) (by decide) ?_
  refine V_iload_n (q := 103) hX dX9_two_102 1 rfl rfl ?_
  refine V_iload_n (q := 104) hX dX9_two_103 2 rfl rfl ?_
  refine V_imul (q := 105) hX dX9_two_104 rfl ?_
  obtain ⟨f1, f2⟩ := some2 h
  rw [f1, f2] at hQ
  exact V_iret hX hQ rfl dX9_two_105
set_option maxRecDepth 100000 in
set_option maxHeartbeats 4000000 in
theorem c9_two {g : GT} {l : Launch} (hg : OkG g) (hN : 95 ≤ g.N) {a0 : Int32} {a1 : Int32} {a2 : Int32} {σ : St} {r : Int32} {σ' : St} (h : S9_two a0 a1 a2 σ = some (r, σ')) : CtI g l m9_two yX9_two [.int (a0), .int (a1), .int (a2)] σ r σ' := CtI.of hg (by decide) rfl rfl (fun X h1 h2 h3 => v9_two h1 hN (res := (r, σ')) h3 h)

abbrev m9_says : MI := (cX9_says, RX9, 5, some .int, 2)
def S9_says_191 (a1 : Int32) (k16 : Int32 → Int32 → St → Option (Int32 × St)) (x2 : Int32) (x3 : Int32) (σ : St) : Option (Int32 × St) := k16 x2 (x3 + 1) σ
def S9_says_93 (a1 : Int32) (k16 : Int32 → Int32 → St → Option (Int32 × St)) (x2 : Int32) (x3 : Int32) (s1 : Int32) (s2 : Int32) (σ : St) : Option (Int32 × St) := if inb s1 200 then (S9_says_191 a1 k16 (x2 + 1) x3 (sI σ 90 (s1).toNatClampNeg s2)) else none
def S9_says_66 (a1 : Int32) (k16 : Int32 → Int32 → St → Option (Int32 × St)) (x2 : Int32) (x3 : Int32) (x4 : Int32) (σ : St) : Option (Int32 × St) := if (11 : Int32) ≤ x4 then (S9_says_93 a1 k16 x2 x3 x2 (x4 - (100000 : Int32)) σ) else (if inb x4 6 then (S9_says_93 a1 k16 x2 x3 x2 (gI σ 91 (x4).toNatClampNeg) σ) else none)
def S9_says_130 (a1 : Int32) (k16 : Int32 → Int32 → St → Option (Int32 × St)) (x2 : Int32) (x3 : Int32) (s1 : Int32) (s2 : Int32) (σ : St) : Option (Int32 × St) := if inb s1 200 then (S9_says_191 a1 k16 x2 x3 (sI σ 90 (s1).toNatClampNeg s2)) else none
def B9_says_16 (a1 : Int32) (rec : Int32 → Int32 → St → Option (Int32 × St)) (x2 : Int32) (x3 : Int32) (σ : St) : Option (Int32 × St) := if inb ((((4 : Int32) * (gI σ 75 10)) + a1) + (1 : Int32)) 24 then (if (gI σ 81 (((((4 : Int32) * (gI σ 75 10)) + a1) + (1 : Int32))).toNatClampNeg) ≤ x3 then (some ((gI σ 90 ((0 : Int32)).toNatClampNeg), σ)) else (if inb (((200 : Int32) * (gI σ 75 10)) + x3) 1200 then (if (100000 : Int32) ≤ (gI σ 80 ((((200 : Int32) * (gI σ 75 10)) + x3)).toNatClampNeg) then (S9_says_66 a1 rec x2 x3 (gI σ 80 ((((200 : Int32) * (gI σ 75 10)) + x3)).toNatClampNeg) σ) else (if (11 : Int32) ≤ (gI σ 80 ((((200 : Int32) * (gI σ 75 10)) + x3)).toNatClampNeg) then (if (gI σ 80 ((((200 : Int32) * (gI σ 75 10)) + x3)).toNatClampNeg) = (13 : Int32) then (if inb (x2 - (1 : Int32)) 200 then (if (gI σ 90 ((x2 - (1 : Int32))).toNatClampNeg) = 0 then (S9_says_130 a1 rec x2 x3 (x2 - (1 : Int32)) (1 : Int32) σ) else (S9_says_130 a1 rec x2 x3 (x2 - (1 : Int32)) (0 : Int32) σ)) else none) else (if (gI σ 80 ((((200 : Int32) * (gI σ 75 10)) + x3)).toNatClampNeg) = (19 : Int32) then (if inb (x2 - (1 : Int32)) 200 then (if inb (x2 - (1 : Int32)) 200 then (S9_says_191 a1 rec x2 x3 (sI σ 90 ((x2 - (1 : Int32))).toNatClampNeg (-(gI σ 90 ((x2 - (1 : Int32))).toNatClampNeg)))) else none) else none) else (if inb ((x2 + (-1)) - (1 : Int32)) 200 then (if inb (x2 + (-1)) 200 then (bnd (S9_two (gI σ 80 ((((200 : Int32) * (gI σ 75 10)) + x3)).toNatClampNeg) (gI σ 90 (((x2 + (-1)) - (1 : Int32))).toNatClampNeg) (gI σ 90 ((x2 + (-1))).toNatClampNeg) σ) fun r80 σ79 => if inb ((x2 + (-1)) - (1 : Int32)) 200 then (S9_says_191 a1 rec (x2 + (-1)) x3 (sI σ79 90 (((x2 + (-1)) - (1 : Int32))).toNatClampNeg r80)) else none) else none) else none))) else (S9_says_66 a1 rec x2 x3 (gI σ 80 ((((200 : Int32) * (gI σ 75 10)) + x3)).toNatClampNeg) σ))) else none)) else none
def S9_says_16 (a1 : Int32) : Nat → Int32 → Int32 → St → Option (Int32 × St)
  | 0, _, _, _ => none
  | n + 1, x2, x3, σ => B9_says_16 a1 (S9_says_16 a1 n) x2 x3 σ
def S9_says (a1 : Int32) (σ : St) : Option (Int32 × St) := if inb (((4 : Int32) * (gI σ 75 10)) + a1) 24 then (S9_says_16 a1 4096 (0 : Int32) (gI σ 81 ((((4 : Int32) * (gI σ 75 10)) + a1)).toNatClampNeg) σ) else none
set_option maxRecDepth 100000 in
set_option maxHeartbeats 4000000 in
theorem v9_says_191 {g : GT} {X : XT} {a1 : Int32} (hX : OkX g X (m9_says)) (hN : 95 ≤ g.N) {res : Int32 × St} (hQ : X.Q = QI g X res.1 res.2 ∧ X.cells = 0 ∧ X.slots = 0)  {k16 : Int32 → Int32 → St → Option (Int32 × St)} (hk16 : ∀ (x2 : Int32) (x3 : Int32) (σ : St), k16 x2 x3 σ = some res → V g X (m9_says) 16 [(0, .ref (g.ad (75))), (1, .int (a1)), (2, .int (x2)), (3, .int (x3))] [] σ) (x2 : Int32) (x3 : Int32) (σ : St)  (h : S9_says_191 a1 k16 x2 x3 σ = some res) : V g X (m9_says) 191 [(0, .ref (g.ad (75))), (1, .int (a1)), (2, .int (x2)), (3, .int (x3))] [] σ := by
  unfold S9_says_191 at h
  refine V_iinc (v := (x3 + 1)) (lv' := [(3, .int ((x3 + 1))), (0, .ref (g.ad (75))), (1, .int (a1)), (2, .int (x2))]) (q := 194) hX dX9_says_191 3 rfl (by rfl) rfl rfl rfl ?_
  refine V_goto hX dX9_says_194 (q := 16) (by decide) ?_
  refine V.pick [1, 2, 3, 0] rfl ?_
  exact hk16 x2 (x3 + 1) σ  h
set_option maxRecDepth 100000 in
set_option maxHeartbeats 4000000 in
theorem v9_says_93 {g : GT} {X : XT} {a1 : Int32} (hX : OkX g X (m9_says)) (hN : 95 ≤ g.N) {res : Int32 × St} (hQ : X.Q = QI g X res.1 res.2 ∧ X.cells = 0 ∧ X.slots = 0)  {k16 : Int32 → Int32 → St → Option (Int32 × St)} (hk16 : ∀ (x2 : Int32) (x3 : Int32) (σ : St), k16 x2 x3 σ = some res → V g X (m9_says) 16 [(0, .ref (g.ad (75))), (1, .int (a1)), (2, .int (x2)), (3, .int (x3))] [] σ) (x2 : Int32) (x3 : Int32) (s1 : Int32) (s2 : Int32) (σ : St)  (h : S9_says_93 a1 k16 x2 x3 s1 s2 σ = some res) : V g X (m9_says) 93 [(0, .ref (g.ad (75))), (1, .int (a1)), (2, .int (x2)), (3, .int (x3))] [.int (s2), .int (s1), .ref (g.ad (90))] σ := by
  unfold S9_says_93 at h
  obtain ⟨z66, h⟩ := chk_t h
  refine V_iast (n := 95) (len := 200) (q := 94) hX ⟨rfl, rfl, by decide⟩ hN z66 dX9_says_93 rfl ?_
  refine V_iinc (v := (x2 + 1)) (lv' := [(2, .int ((x2 + 1))), (0, .ref (g.ad (75))), (1, .int (a1)), (3, .int (x3))]) (q := 97) hX dX9_says_94 2 rfl (by rfl) rfl rfl rfl ?_
  refine V_goto hX dX9_says_97 (q := 191) (by decide) ?_
  refine V.pick [1, 2, 0, 3] rfl ?_
  exact v9_says_191 hX hN hQ hk16 (x2 + 1) x3 (sI σ 90 (s1).toNatClampNeg s2) h
set_option maxRecDepth 100000 in
set_option maxHeartbeats 4000000 in
theorem v9_says_66 {g : GT} {X : XT} {a1 : Int32} (hX : OkX g X (m9_says)) (hN : 95 ≤ g.N) {res : Int32 × St} (hQ : X.Q = QI g X res.1 res.2 ∧ X.cells = 0 ∧ X.slots = 0)  {k16 : Int32 → Int32 → St → Option (Int32 × St)} (hk16 : ∀ (x2 : Int32) (x3 : Int32) (σ : St), k16 x2 x3 σ = some res → V g X (m9_says) 16 [(0, .ref (g.ad (75))), (1, .int (a1)), (2, .int (x2)), (3, .int (x3))] [] σ) (x2 : Int32) (x3 : Int32) (x4 : Int32) (σ : St)  (h : S9_says_66 a1 k16 x2 x3 x4 σ = some res) : V g X (m9_says) 66 [(0, .ref (g.ad (75))), (1, .int (a1)), (2, .int (x2)), (3, .int (x3)), (4, .int (x4))] [] σ := by
  unfold S9_says_66 at h
  refine V_aload_n (q := 67) hX dX9_says_66 0 rfl rfl ?_
  refine V_getF (r := 90) (n := 95) (c := 9) (k := 27) (nf := 39) (C := RX9) (T := TX9) (q := 70) hX rfl rfl iG9 k4_209 rfl rfl ⟨rfl, by decide⟩ hN rfl rfl rfl rfl dX9_says_67 rfl ?_
  refine V_iload_n (q := 71) hX dX9_says_70 2 rfl rfl ?_
  refine V_iload (q := 73) hX dX9_says_71 4 rfl rfl ?_
  refine V_bipush (v := 11) (q := 75) hX dX9_says_73 (by decide) rfl ?_
  refine V_icmp_ge (q := 78) (t := 88) hX dX9_says_75 (by decide) rfl (fun z67 => ?_) (fun z67 => ?_)
  · have h := ite_t z67 h
    refine V_iload (q := 90) hX dX9_says_88 4 rfl rfl ?_
    refine V_ldc (v := 100000) (q := 92) hX k4_154 dX9_says_90 rfl ?_
    refine V_isub (q := 93) hX dX9_says_92 rfl ?_
    refine V.pick [0, 1, 2, 3] rfl ?_
    exact v9_says_93 hX hN hQ hk16 x2 x3 x2 (x4 - (100000 : Int32)) σ h
  have h := ite_f z67 h
  refine V_aload_n (q := 79) hX dX9_says_78 0 rfl rfl ?_
  refine V_getF (r := 91) (n := 95) (c := 9) (k := 28) (nf := 39) (C := RX9) (T := TX9) (q := 82) hX rfl rfl iG9 k4_210 rfl rfl ⟨rfl, by decide⟩ hN rfl rfl rfl rfl dX9_says_79 rfl ?_
  refine V_iload (q := 84) hX dX9_says_82 4 rfl rfl ?_
  obtain ⟨z68, h⟩ := chk_t h
  refine V_iald (n := 95) (len := 6) (q := 85) hX ⟨rfl, rfl, by decide⟩ hN z68 dX9_says_84 rfl ?_
  refine V_goto hX dX9_says_85 (q := 93) (by decide) ?_
  refine V.pick [0, 1, 2, 3] rfl ?_
  exact v9_says_93 hX hN hQ hk16 x2 x3 x2 (gI σ 91 (x4).toNatClampNeg) σ h
set_option maxRecDepth 100000 in
set_option maxHeartbeats 4000000 in
theorem v9_says_130 {g : GT} {X : XT} {a1 : Int32} (hX : OkX g X (m9_says)) (hN : 95 ≤ g.N) {res : Int32 × St} (hQ : X.Q = QI g X res.1 res.2 ∧ X.cells = 0 ∧ X.slots = 0)  {k16 : Int32 → Int32 → St → Option (Int32 × St)} (hk16 : ∀ (x2 : Int32) (x3 : Int32) (σ : St), k16 x2 x3 σ = some res → V g X (m9_says) 16 [(0, .ref (g.ad (75))), (1, .int (a1)), (2, .int (x2)), (3, .int (x3))] [] σ) (x2 : Int32) (x3 : Int32) (s1 : Int32) (s2 : Int32) (σ : St)  (h : S9_says_130 a1 k16 x2 x3 s1 s2 σ = some res) : V g X (m9_says) 130 [(0, .ref (g.ad (75))), (1, .int (a1)), (2, .int (x2)), (3, .int (x3))] [.int (s2), .int (s1), .ref (g.ad (90))] σ := by
  unfold S9_says_130 at h
  obtain ⟨z69, h⟩ := chk_t h
  refine V_iast (n := 95) (len := 200) (q := 131) hX ⟨rfl, rfl, by decide⟩ hN z69 dX9_says_130 rfl ?_
  refine V_goto hX dX9_says_131 (q := 191) (by decide) ?_
  refine V.pick [0, 1, 2, 3] rfl ?_
  exact v9_says_191 hX hN hQ hk16 x2 x3 (sI σ 90 (s1).toNatClampNeg s2) h
set_option maxRecDepth 100000 in
set_option maxHeartbeats 4000000 in
theorem v9_says_16n {g : GT} {X : XT} {a1 : Int32} (hX : OkX g X (m9_says)) (hN : 95 ≤ g.N) {res : Int32 × St} (hQ : X.Q = QI g X res.1 res.2 ∧ X.cells = 0 ∧ X.slots = 0)   (n : Nat) : ∀ (x2 : Int32) (x3 : Int32) (σ : St) , S9_says_16 a1 n x2 x3 σ = some res → V g X (m9_says) 16 [(0, .ref (g.ad (75))), (1, .int (a1)), (2, .int (x2)), (3, .int (x3))] [] σ := by
  induction n with
  | zero => intro x2 x3 σ; intro h; cases h
  | succ n ih =>
    intro x2 x3 σ h
    have h : B9_says_16 a1 (S9_says_16 a1 n) x2 x3 σ = some res := h
    unfold B9_says_16 at h
    refine V_iload_n (q := 17) hX dX9_says_16 3 rfl rfl ?_
    refine V_aload_n (q := 18) hX dX9_says_17 0 rfl rfl ?_
    refine V_getF (r := 81) (n := 95) (c := 9) (k := 8) (nf := 39) (C := RX9) (T := TX9) (q := 21) hX rfl rfl iG9 k4_190 rfl rfl ⟨rfl, by decide⟩ hN rfl rfl rfl rfl dX9_says_18 rfl ?_
    refine V_iconst (v := 4) (q := 22) hX dX9_says_21 (by decide) rfl ?_
    refine V_aload_n (q := 23) hX dX9_says_22 0 rfl rfl ?_
    refine V_getI (n := 95) (c := 9) (k := 10) (nf := 39) (C := RX9) (T := TX9) (q := 26) hX rfl rfl iG9 k4_192 rfl rfl ⟨rfl, by decide⟩ hN rfl rfl dX9_says_23 rfl ?_
    refine V_imul (q := 27) hX dX9_says_26 rfl ?_
    refine V_iload_n (q := 28) hX dX9_says_27 1 rfl rfl ?_
    refine V_iadd (q := 29) hX dX9_says_28 rfl ?_
    refine V_iconst (v := 1) (q := 30) hX dX9_says_29 (by decide) rfl ?_
    refine V_iadd (q := 31) hX dX9_says_30 rfl ?_
    obtain ⟨z70, h⟩ := chk_t h
    refine V_iald (n := 95) (len := 24) (q := 32) hX ⟨rfl, rfl, by decide⟩ hN z70 dX9_says_31 rfl ?_
    refine V_icmp_ge (q := 35) (t := 197) hX dX9_says_32 (by decide) rfl (fun z71 => ?_) (fun z71 => ?_)
    · have h := ite_t z71 h
      refine V_aload_n (q := 198) hX dX9_says_197 0 rfl rfl ?_
      refine V_getF (r := 90) (n := 95) (c := 9) (k := 27) (nf := 39) (C := RX9) (T := TX9) (q := 201) hX rfl rfl iG9 k4_209 rfl rfl ⟨rfl, by decide⟩ hN rfl rfl rfl rfl dX9_says_198 rfl ?_
      refine V_iconst (v := 0) (q := 202) hX dX9_says_201 (by decide) rfl ?_
      refine V_iald (n := 95) (len := 200) (q := 203) hX ⟨rfl, rfl, by decide⟩ hN (by show inb _ _; decide) dX9_says_202 rfl ?_
      obtain ⟨f1, f2⟩ := some2 h
      rw [f1, f2] at hQ
      exact V_iret hX hQ rfl dX9_says_203
    have h := ite_f z71 h
    refine V_aload_n (q := 36) hX dX9_says_35 0 rfl rfl ?_
    refine V_getF (r := 80) (n := 95) (c := 9) (k := 7) (nf := 39) (C := RX9) (T := TX9) (q := 39) hX rfl rfl iG9 k4_189 rfl rfl ⟨rfl, by decide⟩ hN rfl rfl rfl rfl dX9_says_36 rfl ?_
    refine V_sipush (v := 200) (q := 42) hX dX9_says_39 (by decide) rfl ?_
    refine V_aload_n (q := 43) hX dX9_says_42 0 rfl rfl ?_
    refine V_getI (n := 95) (c := 9) (k := 10) (nf := 39) (C := RX9) (T := TX9) (q := 46) hX rfl rfl iG9 k4_192 rfl rfl ⟨rfl, by decide⟩ hN rfl rfl dX9_says_43 rfl ?_
    refine V_imul (q := 47) hX dX9_says_46 rfl ?_
    refine V_iload_n (q := 48) hX dX9_says_47 3 rfl rfl ?_
    refine V_iadd (q := 49) hX dX9_says_48 rfl ?_
    obtain ⟨z72, h⟩ := chk_t h
    refine V_iald (n := 95) (len := 1200) (q := 50) hX ⟨rfl, rfl, by decide⟩ hN z72 dX9_says_49 rfl ?_
    refine V_istore (lv' := [(4, .int ((gI σ 80 ((((200 : Int32) * (gI σ 75 10)) + x3)).toNatClampNeg))), (0, .ref (g.ad (75))), (1, .int (a1)), (2, .int (x2)), (3, .int (x3))]) (q := 52) hX dX9_says_50 rfl rfl rfl ?_
    refine V_iload (q := 54) hX dX9_says_52 0 rfl rfl ?_
    refine V_ldc (v := 100000) (q := 56) hX k4_154 dX9_says_54 rfl ?_
    refine V_icmp_ge (q := 59) (t := 66) hX dX9_says_56 (by decide) rfl (fun z73 => ?_) (fun z73 => ?_)
    · have h := ite_t z73 h
      refine V.pick [1, 2, 3, 4, 0] rfl ?_
      exact v9_says_66 hX hN hQ ih x2 x3 (gI σ 80 ((((200 : Int32) * (gI σ 75 10)) + x3)).toNatClampNeg) σ h
    have h := ite_f z73 h
    refine V_iload (q := 61) hX dX9_says_59 0 rfl rfl ?_
    refine V_bipush (v := 11) (q := 63) hX dX9_says_61 (by decide) rfl ?_
    refine V_icmp_ge (q := 66) (t := 100) hX dX9_says_63 (by decide) rfl (fun z74 => ?_) (fun z74 => ?_)
    · have h := ite_t z74 h
      refine V_iload (q := 102) hX dX9_says_100 0 rfl rfl ?_
      refine V_bipush (v := 13) (q := 104) hX dX9_says_102 (by decide) rfl ?_
      refine V_icmp_ne (q := 107) (t := 134) hX dX9_says_104 (by decide) rfl (fun z75 => ?_) (fun z75 => ?_)
      · have h := ite_f z75 h
        refine V_iload (q := 136) hX dX9_says_134 0 rfl rfl ?_
        refine V_bipush (v := 19) (q := 138) hX dX9_says_136 (by decide) rfl ?_
        refine V_icmp_ne (q := 141) (t := 161) hX dX9_says_138 (by decide) rfl (fun z76 => ?_) (fun z76 => ?_)
        · have h := ite_f z76 h
          refine V_iinc (v := (x2 + (-1))) (lv' := [(2, .int ((x2 + (-1)))), (4, .int ((gI σ 80 ((((200 : Int32) * (gI σ 75 10)) + x3)).toNatClampNeg))), (0, .ref (g.ad (75))), (1, .int (a1)), (3, .int (x3))]) (q := 164) hX dX9_says_161 3 rfl (by rfl) rfl rfl rfl ?_
          refine V_aload_n (q := 165) hX dX9_says_164 2 rfl rfl ?_
          refine V_getF (r := 90) (n := 95) (c := 9) (k := 27) (nf := 39) (C := RX9) (T := TX9) (q := 168) hX rfl rfl iG9 k4_209 rfl rfl ⟨rfl, by decide⟩ hN rfl rfl rfl rfl dX9_says_165 rfl ?_
          refine V_iload_n (q := 169) hX dX9_says_168 0 rfl rfl ?_
          refine V_iconst (v := 1) (q := 170) hX dX9_says_169 (by decide) rfl ?_
          refine V_isub (q := 171) hX dX9_says_170 rfl ?_
          refine V_iload (q := 173) hX dX9_says_171 1 rfl rfl ?_
          refine V_aload_n (q := 174) hX dX9_says_173 2 rfl rfl ?_
          refine V_getF (r := 90) (n := 95) (c := 9) (k := 27) (nf := 39) (C := RX9) (T := TX9) (q := 177) hX rfl rfl iG9 k4_209 rfl rfl ⟨rfl, by decide⟩ hN rfl rfl rfl rfl dX9_says_174 rfl ?_
          refine V_iload_n (q := 178) hX dX9_says_177 0 rfl rfl ?_
          refine V_iconst (v := 1) (q := 179) hX dX9_says_178 (by decide) rfl ?_
          refine V_isub (q := 180) hX dX9_says_179 rfl ?_
          obtain ⟨z77, h⟩ := chk_t h
          refine V_iald (n := 95) (len := 200) (q := 181) hX ⟨rfl, rfl, by decide⟩ hN z77 dX9_says_180 rfl ?_
          refine V_aload_n (q := 182) hX dX9_says_181 2 rfl rfl ?_
          refine V_getF (r := 90) (n := 95) (c := 9) (k := 27) (nf := 39) (C := RX9) (T := TX9) (q := 185) hX rfl rfl iG9 k4_209 rfl rfl ⟨rfl, by decide⟩ hN rfl rfl rfl rfl dX9_says_182 rfl ?_
          refine V_iload_n (q := 186) hX dX9_says_185 0 rfl rfl ?_
          obtain ⟨z78, h⟩ := chk_t h
          refine V_iald (n := 95) (len := 200) (q := 187) hX ⟨rfl, rfl, by decide⟩ hN z78 dX9_says_186 rfl ?_
          obtain ⟨r80, σ79, e81, h⟩ := bnd_some h
          refine V_csI (As := [.int ((gI σ 80 ((((200 : Int32) * (gI σ 75 10)) + x3)).toNatClampNeg)), .int ((gI σ 90 (((x2 + (-1)) - (1 : Int32))).toNatClampNeg)), .int ((gI σ 90 ((x2 + (-1))).toNatClampNeg))]) (q := 190) hX (c9_two hX.2.2.2.2.1 hN e81) (goodS_of k5_92 k5_93 k1_16 (cons_g k5_94)) (nA := 3) (by decide) rfl rfl rfl rfl rfl dX9_says_187 rfl ?_
          obtain ⟨z82, h⟩ := chk_t h
          refine V_iast (n := 95) (len := 200) (q := 191) hX ⟨rfl, rfl, by decide⟩ hN z82 dX9_says_190 rfl ?_
          refine V.pick [2, 3, 0, 4] rfl ?_
          exact v9_says_191 hX hN hQ ih (x2 + (-1)) x3 (sI σ79 90 (((x2 + (-1)) - (1 : Int32))).toNatClampNeg r80) h
        have h := ite_t z76 h
        refine V_aload_n (q := 142) hX dX9_says_141 1 rfl rfl ?_
        refine V_getF (r := 90) (n := 95) (c := 9) (k := 27) (nf := 39) (C := RX9) (T := TX9) (q := 145) hX rfl rfl iG9 k4_209 rfl rfl ⟨rfl, by decide⟩ hN rfl rfl rfl rfl dX9_says_142 rfl ?_
        refine V_iload_n (q := 146) hX dX9_says_145 3 rfl rfl ?_
        refine V_iconst (v := 1) (q := 147) hX dX9_says_146 (by decide) rfl ?_
        refine V_isub (q := 148) hX dX9_says_147 rfl ?_
        refine V_aload_n (q := 149) hX dX9_says_148 1 rfl rfl ?_
        refine V_getF (r := 90) (n := 95) (c := 9) (k := 27) (nf := 39) (C := RX9) (T := TX9) (q := 152) hX rfl rfl iG9 k4_209 rfl rfl ⟨rfl, by decide⟩ hN rfl rfl rfl rfl dX9_says_149 rfl ?_
        refine V_iload_n (q := 153) hX dX9_says_152 3 rfl rfl ?_
        refine V_iconst (v := 1) (q := 154) hX dX9_says_153 (by decide) rfl ?_
        refine V_isub (q := 155) hX dX9_says_154 rfl ?_
        obtain ⟨z83, h⟩ := chk_t h
        refine V_iald (n := 95) (len := 200) (q := 156) hX ⟨rfl, rfl, by decide⟩ hN z83 dX9_says_155 rfl ?_
        refine V_ineg (q := 157) hX dX9_says_156 rfl ?_
        obtain ⟨z84, h⟩ := chk_t h
        refine V_iast (n := 95) (len := 200) (q := 158) hX ⟨rfl, rfl, by decide⟩ hN z84 dX9_says_157 rfl ?_
        refine V_goto hX dX9_says_158 (q := 191) (by decide) ?_
        refine V.pick [1, 2, 3, 4] rfl ?_
        exact v9_says_191 hX hN hQ ih x2 x3 (sI σ 90 ((x2 - (1 : Int32))).toNatClampNeg (-(gI σ 90 ((x2 - (1 : Int32))).toNatClampNeg))) h
      have h := ite_t z75 h
      refine V_aload_n (q := 108) hX dX9_says_107 1 rfl rfl ?_
      refine V_getF (r := 90) (n := 95) (c := 9) (k := 27) (nf := 39) (C := RX9) (T := TX9) (q := 111) hX rfl rfl iG9 k4_209 rfl rfl ⟨rfl, by decide⟩ hN rfl rfl rfl rfl dX9_says_108 rfl ?_
      refine V_iload_n (q := 112) hX dX9_says_111 3 rfl rfl ?_
      refine V_iconst (v := 1) (q := 113) hX dX9_says_112 (by decide) rfl ?_
      refine V_isub (q := 114) hX dX9_says_113 rfl ?_
      refine V_aload_n (q := 115) hX dX9_says_114 1 rfl rfl ?_
      refine V_getF (r := 90) (n := 95) (c := 9) (k := 27) (nf := 39) (C := RX9) (T := TX9) (q := 118) hX rfl rfl iG9 k4_209 rfl rfl ⟨rfl, by decide⟩ hN rfl rfl rfl rfl dX9_says_115 rfl ?_
      refine V_iload_n (q := 119) hX dX9_says_118 3 rfl rfl ?_
      refine V_iconst (v := 1) (q := 120) hX dX9_says_119 (by decide) rfl ?_
      refine V_isub (q := 121) hX dX9_says_120 rfl ?_
      obtain ⟨z85, h⟩ := chk_t h
      refine V_iald (n := 95) (len := 200) (q := 122) hX ⟨rfl, rfl, by decide⟩ hN z85 dX9_says_121 rfl ?_
      refine V_if_ne (q := 125) (t := 129) hX dX9_says_122 (by decide) rfl (fun z86 => ?_) (fun z86 => ?_)
      · have h := ite_f z86 h
        refine V_iconst (v := 0) (q := 130) hX dX9_says_129 (by decide) rfl ?_
        refine V.pick [1, 2, 3, 4] rfl ?_
        exact v9_says_130 hX hN hQ ih x2 x3 (x2 - (1 : Int32)) (0 : Int32) σ h
      have h := ite_t z86 h
      refine V_iconst (v := 1) (q := 126) hX dX9_says_125 (by decide) rfl ?_
      refine V_goto hX dX9_says_126 (q := 130) (by decide) ?_
      refine V.pick [1, 2, 3, 4] rfl ?_
      exact v9_says_130 hX hN hQ ih x2 x3 (x2 - (1 : Int32)) (1 : Int32) σ h
    have h := ite_f z74 h
    refine V.pick [1, 2, 3, 4, 0] rfl ?_
    exact v9_says_66 hX hN hQ ih x2 x3 (gI σ 80 ((((200 : Int32) * (gI σ 75 10)) + x3)).toNatClampNeg) σ h
theorem v9_says_16 {g : GT} {X : XT} {a1 : Int32} (hX : OkX g X (m9_says)) (hN : 95 ≤ g.N) {res : Int32 × St} (hQ : X.Q = QI g X res.1 res.2 ∧ X.cells = 0 ∧ X.slots = 0) (x2 : Int32) (x3 : Int32) (σ : St) (h : S9_says_16 a1 4096 x2 x3 σ = some res) : V g X (m9_says) 16 [(0, .ref (g.ad (75))), (1, .int (a1)), (2, .int (x2)), (3, .int (x3))] [] σ := v9_says_16n hX hN hQ 4096 x2 x3 σ h
set_option maxRecDepth 100000 in
set_option maxHeartbeats 4000000 in
theorem v9_says {g : GT} {X : XT} {a1 : Int32} (hX : OkX g X (m9_says)) (hN : 95 ≤ g.N) {res : Int32 × St} (hQ : X.Q = QI g X res.1 res.2 ∧ X.cells = 0 ∧ X.slots = 0) {σ : St} (h : S9_says a1 σ = some res) : V g X (m9_says) 0 [(0, .ref (g.ad (75))), (1, .int (a1))] [] σ := by
  unfold S9_says at h
  refine V_iconst (v := 0) (q := 1) hX dX9_says_0 (by decide) rfl ?_
  refine V_istore_n (lv' := [(2, .int ((0 : Int32))), (0, .ref (g.ad (75))), (1, .int (a1))]) (q := 2) hX dX9_says_1 rfl rfl rfl ?_
  refine V_aload_n (q := 3) hX dX9_says_2 1 rfl rfl ?_
  refine V_getF (r := 81) (n := 95) (c := 9) (k := 8) (nf := 39) (C := RX9) (T := TX9) (q := 6) hX rfl rfl iG9 k4_190 rfl rfl ⟨rfl, by decide⟩ hN rfl rfl rfl rfl dX9_says_3 rfl ?_
  refine V_iconst (v := 4) (q := 7) hX dX9_says_6 (by decide) rfl ?_
  refine V_aload_n (q := 8) hX dX9_says_7 1 rfl rfl ?_
  refine V_getI (n := 95) (c := 9) (k := 10) (nf := 39) (C := RX9) (T := TX9) (q := 11) hX rfl rfl iG9 k4_192 rfl rfl ⟨rfl, by decide⟩ hN rfl rfl dX9_says_8 rfl ?_
  refine V_imul (q := 12) hX dX9_says_11 rfl ?_
  refine V_iload_n (q := 13) hX dX9_says_12 2 rfl rfl ?_
  refine V_iadd (q := 14) hX dX9_says_13 rfl ?_
  obtain ⟨z87, h⟩ := chk_t h
  refine V_iald (n := 95) (len := 24) (q := 15) hX ⟨rfl, rfl, by decide⟩ hN z87 dX9_says_14 rfl ?_
  refine V_istore_n (lv' := [(3, .int ((gI σ 81 ((((4 : Int32) * (gI σ 75 10)) + a1)).toNatClampNeg))), (2, .int ((0 : Int32))), (0, .ref (g.ad (75))), (1, .int (a1))]) (q := 16) hX dX9_says_15 rfl rfl rfl ?_
  refine V.pick [2, 3, 1, 0] rfl ?_
  exact v9_says_16 hX hN hQ (0 : Int32) (gI σ 81 ((((4 : Int32) * (gI σ 75 10)) + a1)).toNatClampNeg) σ h
set_option maxRecDepth 100000 in
set_option maxHeartbeats 4000000 in
theorem c9_says {g : GT} {l : Launch} (hg : OkG g) (hN : 95 ≤ g.N) {a1 : Int32} {σ : St} {r : Int32} {σ' : St} (h : S9_says a1 σ = some (r, σ')) : CtI g l m9_says yX9_says [.ref (g.ad (75)), .int (a1)] σ r σ' := CtI.of hg (by decide) rfl rfl (fun X h1 h2 h3 => v9_says h1 hN (res := (r, σ')) h3 h)

abbrev m9_force : MI := (cX9_force, RX9, 3, some .int, 2)
def S9_force (a1 : Int32) (σ : St) : Option (Int32 × St) := bnd (S9_in a1 (0 : Int32) ((gI σ 75 9) - (1 : Int32)) σ) fun r6 σ5 => if r6 = 0 then (some ((-2 : Int32), σ5)) else (some ((gI σ5 75 10), (sI σ5 75 10 a1)))
set_option maxRecDepth 100000 in
set_option maxHeartbeats 4000000 in
theorem v9_force {g : GT} {X : XT} {a1 : Int32} (hX : OkX g X (m9_force)) (hN : 95 ≤ g.N) {res : Int32 × St} (hQ : X.Q = QI g X res.1 res.2 ∧ X.cells = 0 ∧ X.slots = 0) {σ : St} (h : S9_force a1 σ = some res) : V g X (m9_force) 0 [(0, .ref (g.ad (75))), (1, .int (a1))] [] σ := by
  unfold S9_force at h
  refine V_iload_n (q := 1) hX dX9_force_0 1 rfl rfl ?_
  refine V_iconst (v := 0) (q := 2) hX dX9_force_1 (by decide) rfl ?_
  refine V_aload_n (q := 3) hX dX9_force_2 0 rfl rfl ?_
  refine V_getI (n := 95) (c := 9) (k := 9) (nf := 39) (C := RX9) (T := TX9) (q := 6) hX rfl rfl iG9 k4_191 rfl rfl ⟨rfl, by decide⟩ hN rfl rfl dX9_force_3 rfl ?_
  refine V_iconst (v := 1) (q := 7) hX dX9_force_6 (by decide) rfl ?_
  refine V_isub (q := 8) hX dX9_force_7 rfl ?_
  obtain ⟨r6, σ5, e7, h⟩ := bnd_some h
  refine V_csI (As := [.int (a1), .int ((0 : Int32)), .int (((gI σ 75 9) - (1 : Int32)))]) (q := 11) hX (c9_in hX.2.2.2.2.1 hN e7) (goodS_of k4_143 k4_144 k1_16 (cons_g k4_145)) (nA := 3) (by decide) rfl rfl rfl rfl rfl dX9_force_8 rfl ?_
  refine V_if_ne (q := 14) (t := 17) hX dX9_force_11 (by decide) rfl (fun z8 => ?_) (fun z8 => ?_)
  · have h := ite_f z8 h
    refine V_aload_n (q := 18) hX dX9_force_17 0 rfl rfl ?_
    refine V_getI (n := 95) (c := 9) (k := 10) (nf := 39) (C := RX9) (T := TX9) (q := 21) hX rfl rfl iG9 k4_192 rfl rfl ⟨rfl, by decide⟩ hN rfl rfl dX9_force_18 rfl ?_
    refine V_istore_n (lv' := [(2, .int ((gI σ5 75 10))), (0, .ref (g.ad (75))), (1, .int (a1))]) (q := 22) hX dX9_force_21 rfl rfl rfl ?_
    refine V_aload_n (q := 23) hX dX9_force_22 1 rfl rfl ?_
    refine V_iload_n (q := 24) hX dX9_force_23 2 rfl rfl ?_
    refine V_putI (n := 95) (c := 9) (k := 10) (nf := 39) (C := RX9) (T := TX9) (q := 27) hX rfl rfl iG9 k4_192 rfl rfl ⟨rfl, by decide⟩ hN rfl tyX9 tyX9_ok nmX9 rfl rfl (ty := .int) (tyX9_ok 10 (by decide)) rfl rfl dX9_force_24 rfl ?_
    refine V_iload_n (q := 28) hX dX9_force_27 0 rfl rfl ?_
    obtain ⟨f1, f2⟩ := some2 h
    rw [f1, f2] at hQ
    exact V_iret hX hQ rfl dX9_force_28
  have h := ite_t z8 h
  refine V_bipush (v := -2) (q := 16) hX dX9_force_14 (by decide) rfl ?_
  obtain ⟨f1, f2⟩ := some2 h
  rw [f1, f2] at hQ
  exact V_iret hX hQ rfl dX9_force_16
set_option maxRecDepth 100000 in
set_option maxHeartbeats 4000000 in
theorem c9_force {g : GT} {l : Launch} (hg : OkG g) (hN : 95 ≤ g.N) {a1 : Int32} {σ : St} {r : Int32} {σ' : St} (h : S9_force a1 σ = some (r, σ')) : CtI g l m9_force yX9_force [.ref (g.ad (75)), .int (a1)] σ r σ' := CtI.of hg (by decide) rfl rfl (fun X h1 h2 h3 => v9_force h1 hN (res := (r, σ')) h3 h)

abbrev m9_asksOf : MI := (cX9_asksOf, RX9, 7, some .int, 3)
def S9_asksOf (a1 : Int32) (a2 : Int32) (a3 : Int32) (a4 : Int32) (a5 : Int32) (σ : St) : Option (Int32 × St) := if inb ((5 : Int32) * a2) 30 then (if inb (((5 : Int32) * a2) + (1 : Int32)) 30 then (if inb (((5 : Int32) * a2) + (2 : Int32)) 30 then (bnd (S9_says a1 (sI (sI (sI (sI (sI (sI σ 91 ((0 : Int32)).toNatClampNeg (gI σ 78 (((5 : Int32) * a2)).toNatClampNeg)) 91 ((1 : Int32)).toNatClampNeg (gI (sI σ 91 ((0 : Int32)).toNatClampNeg (gI σ 78 (((5 : Int32) * a2)).toNatClampNeg)) 78 ((((5 : Int32) * a2) + (1 : Int32))).toNatClampNeg)) 91 ((2 : Int32)).toNatClampNeg a3) 91 ((3 : Int32)).toNatClampNeg a4) 91 ((4 : Int32)).toNatClampNeg a5) 91 ((5 : Int32)).toNatClampNeg (gI (sI (sI (sI (sI (sI σ 91 ((0 : Int32)).toNatClampNeg (gI σ 78 (((5 : Int32) * a2)).toNatClampNeg)) 91 ((1 : Int32)).toNatClampNeg (gI (sI σ 91 ((0 : Int32)).toNatClampNeg (gI σ 78 (((5 : Int32) * a2)).toNatClampNeg)) 78 ((((5 : Int32) * a2) + (1 : Int32))).toNatClampNeg)) 91 ((2 : Int32)).toNatClampNeg a3) 91 ((3 : Int32)).toNatClampNeg a4) 91 ((4 : Int32)).toNatClampNeg a5) 78 ((((5 : Int32) * a2) + (2 : Int32))).toNatClampNeg))) fun r22 σ21 => if a1 = 0 then (bnd (S9_within r22 (0 : Int32) (999 : Int32) σ21) fun r33 σ32 => some (r33, σ32)) else (if a1 = (1 : Int32) then (bnd (S9_within r22 (0 : Int32) (5 : Int32) σ21) fun r30 σ29 => some (r30, σ29)) else (bnd (S9_within r22 (-2 : Int32) (2 : Int32) σ21) fun r27 σ26 => some (r27, σ26)))) else none) else none) else none
set_option maxRecDepth 100000 in
set_option maxHeartbeats 4000000 in
theorem v9_asksOf {g : GT} {X : XT} {a1 : Int32} {a2 : Int32} {a3 : Int32} {a4 : Int32} {a5 : Int32} (hX : OkX g X (m9_asksOf)) (hN : 95 ≤ g.N) {res : Int32 × St} (hQ : X.Q = QI g X res.1 res.2 ∧ X.cells = 0 ∧ X.slots = 0) {σ : St} (h : S9_asksOf a1 a2 a3 a4 a5 σ = some res) : V g X (m9_asksOf) 0 [(0, .ref (g.ad (75))), (1, .int (a1)), (2, .int (a2)), (3, .int (a3)), (4, .int (a4)), (5, .int (a5))] [] σ := by
  unfold S9_asksOf at h
  refine V_aload_n (q := 1) hX dX9_asksOf_0 0 rfl rfl ?_
  refine V_getF (r := 91) (n := 95) (c := 9) (k := 28) (nf := 39) (C := RX9) (T := TX9) (q := 4) hX rfl rfl iG9 k4_210 rfl rfl ⟨rfl, by decide⟩ hN rfl rfl rfl rfl dX9_asksOf_1 rfl ?_
  refine V_iconst (v := 0) (q := 5) hX dX9_asksOf_4 (by decide) rfl ?_
  refine V_aload_n (q := 6) hX dX9_asksOf_5 0 rfl rfl ?_
  refine V_getF (r := 78) (n := 95) (c := 9) (k := 3) (nf := 39) (C := RX9) (T := TX9) (q := 9) hX rfl rfl iG9 k4_185 rfl rfl ⟨rfl, by decide⟩ hN rfl rfl rfl rfl dX9_asksOf_6 rfl ?_
  refine V_iconst (v := 5) (q := 10) hX dX9_asksOf_9 (by decide) rfl ?_
  refine V_iload_n (q := 11) hX dX9_asksOf_10 2 rfl rfl ?_
  refine V_imul (q := 12) hX dX9_asksOf_11 rfl ?_
  obtain ⟨z18, h⟩ := chk_t h
  refine V_iald (n := 95) (len := 30) (q := 13) hX ⟨rfl, rfl, by decide⟩ hN z18 dX9_asksOf_12 rfl ?_
  refine V_iast (n := 95) (len := 6) (q := 14) hX ⟨rfl, rfl, by decide⟩ hN (by show inb _ _; decide) dX9_asksOf_13 rfl ?_
  refine V_aload_n (q := 15) hX dX9_asksOf_14 0 rfl rfl ?_
  refine V_getF (r := 91) (n := 95) (c := 9) (k := 28) (nf := 39) (C := RX9) (T := TX9) (q := 18) hX rfl rfl iG9 k4_210 rfl rfl ⟨rfl, by decide⟩ hN rfl rfl rfl rfl dX9_asksOf_15 rfl ?_
  refine V_iconst (v := 1) (q := 19) hX dX9_asksOf_18 (by decide) rfl ?_
  refine V_aload_n (q := 20) hX dX9_asksOf_19 0 rfl rfl ?_
  refine V_getF (r := 78) (n := 95) (c := 9) (k := 3) (nf := 39) (C := RX9) (T := TX9) (q := 23) hX rfl rfl iG9 k4_185 rfl rfl ⟨rfl, by decide⟩ hN rfl rfl rfl rfl dX9_asksOf_20 rfl ?_
  refine V_iconst (v := 5) (q := 24) hX dX9_asksOf_23 (by decide) rfl ?_
  refine V_iload_n (q := 25) hX dX9_asksOf_24 2 rfl rfl ?_
  refine V_imul (q := 26) hX dX9_asksOf_25 rfl ?_
  refine V_iconst (v := 1) (q := 27) hX dX9_asksOf_26 (by decide) rfl ?_
  refine V_iadd (q := 28) hX dX9_asksOf_27 rfl ?_
  obtain ⟨z19, h⟩ := chk_t h
  refine V_iald (n := 95) (len := 30) (q := 29) hX ⟨rfl, rfl, by decide⟩ hN z19 dX9_asksOf_28 rfl ?_
  refine V_iast (n := 95) (len := 6) (q := 30) hX ⟨rfl, rfl, by decide⟩ hN (by show inb _ _; decide) dX9_asksOf_29 rfl ?_
  refine V_aload_n (q := 31) hX dX9_asksOf_30 0 rfl rfl ?_
  refine V_getF (r := 91) (n := 95) (c := 9) (k := 28) (nf := 39) (C := RX9) (T := TX9) (q := 34) hX rfl rfl iG9 k4_210 rfl rfl ⟨rfl, by decide⟩ hN rfl rfl rfl rfl dX9_asksOf_31 rfl ?_
  refine V_iconst (v := 2) (q := 35) hX dX9_asksOf_34 (by decide) rfl ?_
  refine V_iload_n (q := 36) hX dX9_asksOf_35 3 rfl rfl ?_
  refine V_iast (n := 95) (len := 6) (q := 37) hX ⟨rfl, rfl, by decide⟩ hN (by show inb _ _; decide) dX9_asksOf_36 rfl ?_
  refine V_aload_n (q := 38) hX dX9_asksOf_37 0 rfl rfl ?_
  refine V_getF (r := 91) (n := 95) (c := 9) (k := 28) (nf := 39) (C := RX9) (T := TX9) (q := 41) hX rfl rfl iG9 k4_210 rfl rfl ⟨rfl, by decide⟩ hN rfl rfl rfl rfl dX9_asksOf_38 rfl ?_
  refine V_iconst (v := 3) (q := 42) hX dX9_asksOf_41 (by decide) rfl ?_
  refine V_iload (q := 44) hX dX9_asksOf_42 4 rfl rfl ?_
  refine V_iast (n := 95) (len := 6) (q := 45) hX ⟨rfl, rfl, by decide⟩ hN (by show inb _ _; decide) dX9_asksOf_44 rfl ?_
  refine V_aload_n (q := 46) hX dX9_asksOf_45 0 rfl rfl ?_
  refine V_getF (r := 91) (n := 95) (c := 9) (k := 28) (nf := 39) (C := RX9) (T := TX9) (q := 49) hX rfl rfl iG9 k4_210 rfl rfl ⟨rfl, by decide⟩ hN rfl rfl rfl rfl dX9_asksOf_46 rfl ?_
  refine V_iconst (v := 4) (q := 50) hX dX9_asksOf_49 (by decide) rfl ?_
  refine V_iload (q := 52) hX dX9_asksOf_50 5 rfl rfl ?_
  refine V_iast (n := 95) (len := 6) (q := 53) hX ⟨rfl, rfl, by decide⟩ hN (by show inb _ _; decide) dX9_asksOf_52 rfl ?_
  refine V_aload_n (q := 54) hX dX9_asksOf_53 0 rfl rfl ?_
  refine V_getF (r := 91) (n := 95) (c := 9) (k := 28) (nf := 39) (C := RX9) (T := TX9) (q := 57) hX rfl rfl iG9 k4_210 rfl rfl ⟨rfl, by decide⟩ hN rfl rfl rfl rfl dX9_asksOf_54 rfl ?_
  refine V_iconst (v := 5) (q := 58) hX dX9_asksOf_57 (by decide) rfl ?_
  refine V_aload_n (q := 59) hX dX9_asksOf_58 0 rfl rfl ?_
  refine V_getF (r := 78) (n := 95) (c := 9) (k := 3) (nf := 39) (C := RX9) (T := TX9) (q := 62) hX rfl rfl iG9 k4_185 rfl rfl ⟨rfl, by decide⟩ hN rfl rfl rfl rfl dX9_asksOf_59 rfl ?_
  refine V_iconst (v := 5) (q := 63) hX dX9_asksOf_62 (by decide) rfl ?_
  refine V_iload_n (q := 64) hX dX9_asksOf_63 2 rfl rfl ?_
  refine V_imul (q := 65) hX dX9_asksOf_64 rfl ?_
  refine V_iconst (v := 2) (q := 66) hX dX9_asksOf_65 (by decide) rfl ?_
  refine V_iadd (q := 67) hX dX9_asksOf_66 rfl ?_
  obtain ⟨z20, h⟩ := chk_t h
  refine V_iald (n := 95) (len := 30) (q := 68) hX ⟨rfl, rfl, by decide⟩ hN z20 dX9_asksOf_67 rfl ?_
  refine V_iast (n := 95) (len := 6) (q := 69) hX ⟨rfl, rfl, by decide⟩ hN (by show inb _ _; decide) dX9_asksOf_68 rfl ?_
  refine V_aload_n (q := 70) hX dX9_asksOf_69 0 rfl rfl ?_
  refine V_iload_n (q := 71) hX dX9_asksOf_70 1 rfl rfl ?_
  obtain ⟨r22, σ21, e23, h⟩ := bnd_some h
  refine V_cvI (n := 95) (c := 9) (nf := 39) (C := RX9) (T := TX9) (As := [.int (a1)]) (q := 74) hX (c9_says hX.2.2.2.2.1 hN e23) (goodV_of k5_88 k5_90 kp_44 k1_16 (cons_g k5_91)) (nA := 1) (by decide) rfl rfl rfl rfl rfl ⟨rfl, by decide⟩ hN rfl rfl rfl dX9_asksOf_71 rfl ?_
  refine V_istore (lv' := [(6, .int (r22)), (0, .ref (g.ad (75))), (1, .int (a1)), (2, .int (a2)), (3, .int (a3)), (4, .int (a4)), (5, .int (a5))]) (q := 76) hX dX9_asksOf_74 rfl rfl rfl ?_
  refine V_iload_n (q := 77) hX dX9_asksOf_76 2 rfl rfl ?_
  refine V_if_ne (q := 80) (t := 92) hX dX9_asksOf_77 (by decide) rfl (fun z24 => ?_) (fun z24 => ?_)
  · have h := ite_f z24 h
    refine V_iload_n (q := 93) hX dX9_asksOf_92 2 rfl rfl ?_
    refine V_iconst (v := 1) (q := 94) hX dX9_asksOf_93 (by decide) rfl ?_
    refine V_icmp_ne (q := 97) (t := 107) hX dX9_asksOf_94 (by decide) rfl (fun z25 => ?_) (fun z25 => ?_)
    · have h := ite_f z25 h
      refine V_iload (q := 109) hX dX9_asksOf_107 0 rfl rfl ?_
      refine V_bipush (v := -2) (q := 111) hX dX9_asksOf_109 (by decide) rfl ?_
      refine V_iconst (v := 2) (q := 112) hX dX9_asksOf_111 (by decide) rfl ?_
      obtain ⟨r27, σ26, e28, h⟩ := bnd_some h
      refine V_csI (As := [.int (r22), .int ((-2 : Int32)), .int ((2 : Int32))]) (q := 115) hX (c9_within hX.2.2.2.2.1 hN e28) (goodS_of k5_95 k5_96 k1_16 (cons_g k5_97)) (nA := 3) (by decide) rfl rfl rfl rfl rfl dX9_asksOf_112 rfl ?_
      obtain ⟨f1, f2⟩ := some2 h
      rw [f1, f2] at hQ
      exact V_iret hX hQ rfl dX9_asksOf_115
    have h := ite_t z25 h
    refine V_iload (q := 99) hX dX9_asksOf_97 0 rfl rfl ?_
    refine V_iconst (v := 0) (q := 100) hX dX9_asksOf_99 (by decide) rfl ?_
    refine V_iconst (v := 5) (q := 101) hX dX9_asksOf_100 (by decide) rfl ?_
    obtain ⟨r30, σ29, e31, h⟩ := bnd_some h
    refine V_csI (As := [.int (r22), .int ((0 : Int32)), .int ((5 : Int32))]) (q := 104) hX (c9_within hX.2.2.2.2.1 hN e31) (goodS_of k5_95 k5_96 k1_16 (cons_g k5_97)) (nA := 3) (by decide) rfl rfl rfl rfl rfl dX9_asksOf_101 rfl ?_
    refine V_goto hX dX9_asksOf_104 (q := 115) (by decide) ?_
    obtain ⟨f1, f2⟩ := some2 h
    rw [f1, f2] at hQ
    exact V_iret hX hQ rfl dX9_asksOf_115
  have h := ite_t z24 h
  refine V_iload (q := 82) hX dX9_asksOf_80 0 rfl rfl ?_
  refine V_iconst (v := 0) (q := 83) hX dX9_asksOf_82 (by decide) rfl ?_
  refine V_sipush (v := 999) (q := 86) hX dX9_asksOf_83 (by decide) rfl ?_
  obtain ⟨r33, σ32, e34, h⟩ := bnd_some h
  refine V_csI (As := [.int (r22), .int ((0 : Int32)), .int ((999 : Int32))]) (q := 89) hX (c9_within hX.2.2.2.2.1 hN e34) (goodS_of k5_95 k5_96 k1_16 (cons_g k5_97)) (nA := 3) (by decide) rfl rfl rfl rfl rfl dX9_asksOf_86 rfl ?_
  refine V_goto hX dX9_asksOf_89 (q := 115) (by decide) ?_
  obtain ⟨f1, f2⟩ := some2 h
  rw [f1, f2] at hQ
  exact V_iret hX hQ rfl dX9_asksOf_115
set_option maxRecDepth 100000 in
set_option maxHeartbeats 4000000 in
theorem c9_asksOf {g : GT} {l : Launch} (hg : OkG g) (hN : 95 ≤ g.N) {a1 : Int32} {a2 : Int32} {a3 : Int32} {a4 : Int32} {a5 : Int32} {σ : St} {r : Int32} {σ' : St} (h : S9_asksOf a1 a2 a3 a4 a5 σ = some (r, σ')) : CtI g l m9_asksOf yX9_asksOf [.ref (g.ad (75)), .int (a1), .int (a2), .int (a3), .int (a4), .int (a5)] σ r σ' := CtI.of hg (by decide) rfl rfl (fun X h1 h2 h3 => v9_asksOf h1 hN (res := (r, σ')) h3 h)

abbrev m9_asks : MI := (cX9_asks, RX9, 6, some .int, 4)
def S9_asks_51 (a1 : Int32) (a2 : Int32) (a3 : Int32) (a4 : Int32) (s0 : Int32) (σ : St) : Option (Int32 × St) := if s0 = 0 then (some ((-1000 : Int32), σ)) else (bnd (S9_asksOf a1 a2 (a3 / (10 : Int32)) (jrem a3 (10 : Int32)) a4 σ) fun r45 σ44 => some (r45, σ44))
def S9_asks_50 (a1 : Int32) (a2 : Int32) (a3 : Int32) (a4 : Int32) (σ : St) : Option (Int32 × St) := S9_asks_51 a1 a2 a3 a4 (0 : Int32) σ
def S9_asks (a1 : Int32) (a2 : Int32) (a3 : Int32) (a4 : Int32) (σ : St) : Option (Int32 × St) := bnd (S9_in a1 (0 : Int32) (2 : Int32) σ) fun r48 σ47 => if r48 = 0 then (S9_asks_50 a1 a2 a3 a4 σ47) else (bnd (S9_isMan a2 σ47) fun r52 σ51 => if r52 = 0 then (S9_asks_50 a1 a2 a3 a4 σ51) else (bnd (S9_in a3 (0 : Int32) (33 : Int32) σ51) fun r56 σ55 => if r56 = 0 then (S9_asks_50 a1 a2 a3 a4 σ55) else (if (4 : Int32) ≤ (jrem a3 (10 : Int32)) then (S9_asks_50 a1 a2 a3 a4 σ55) else (bnd (S9_in a4 (0 : Int32) (8 : Int32) σ55) fun r61 σ60 => if r61 = 0 then (S9_asks_50 a1 a2 a3 a4 σ60) else (S9_asks_51 a1 a2 a3 a4 (1 : Int32) σ60)))))
set_option maxRecDepth 100000 in
set_option maxHeartbeats 4000000 in
theorem v9_asks_51 {g : GT} {X : XT} {a1 : Int32} {a2 : Int32} {a3 : Int32} {a4 : Int32} (hX : OkX g X (m9_asks)) (hN : 95 ≤ g.N) {res : Int32 × St} (hQ : X.Q = QI g X res.1 res.2 ∧ X.cells = 0 ∧ X.slots = 0)   (s0 : Int32) (σ : St)  (h : S9_asks_51 a1 a2 a3 a4 s0 σ = some res) : V g X (m9_asks) 51 [(0, .ref (g.ad (75))), (1, .int (a1)), (2, .int (a2)), (3, .int (a3)), (4, .int (a4))] [.int (s0)] σ := by
  unfold S9_asks_51 at h
  refine V_istore (lv' := [(5, .int (s0)), (0, .ref (g.ad (75))), (1, .int (a1)), (2, .int (a2)), (3, .int (a3)), (4, .int (a4))]) (q := 53) hX dX9_asks_51 rfl rfl rfl ?_
  refine V_iload (q := 55) hX dX9_asks_53 0 rfl rfl ?_
  refine V_if_eq (q := 58) (t := 77) hX dX9_asks_55 (by decide) rfl (fun z43 => ?_) (fun z43 => ?_)
  · have h := ite_t z43 h
    refine V_sipush (v := -1000) (q := 80) hX dX9_asks_77 (by decide) rfl ?_
    obtain ⟨f1, f2⟩ := some2 h
    rw [f1, f2] at hQ
    exact V_iret hX hQ rfl dX9_asks_80
  have h := ite_f z43 h
  refine V_aload_n (q := 59) hX dX9_asks_58 1 rfl rfl ?_
  refine V_iload_n (q := 60) hX dX9_asks_59 2 rfl rfl ?_
  refine V_iload_n (q := 61) hX dX9_asks_60 3 rfl rfl ?_
  refine V_iload_n (q := 62) hX dX9_asks_61 4 rfl rfl ?_
  refine V_bipush (v := 10) (q := 64) hX dX9_asks_62 (by decide) rfl ?_
  refine V_idiv (q := 65) hX (by decide) dX9_asks_64 rfl ?_
  refine V_iload_n (q := 66) hX dX9_asks_65 4 rfl rfl ?_
  refine V_bipush (v := 10) (q := 68) hX dX9_asks_66 (by decide) rfl ?_
  refine V_irem (q := 69) hX (by decide) dX9_asks_68 rfl ?_
  refine V_iload (q := 71) hX dX9_asks_69 5 rfl rfl ?_
  obtain ⟨r45, σ44, e46, h⟩ := bnd_some h
  refine V_cvI (n := 95) (c := 9) (nf := 39) (C := RX9) (T := TX9) (As := [.int (a1), .int (a2), .int ((a3 / (10 : Int32))), .int ((jrem a3 (10 : Int32))), .int (a4)]) (q := 74) hX (c9_asksOf hX.2.2.2.2.1 hN e46) (goodV_of k5_84 k5_86 kp_43 k1_16 (cons_g k5_87)) (nA := 5) (by decide) rfl rfl rfl rfl rfl ⟨rfl, by decide⟩ hN rfl rfl rfl dX9_asks_71 rfl ?_
  refine V_goto hX dX9_asks_74 (q := 80) (by decide) ?_
  obtain ⟨f1, f2⟩ := some2 h
  rw [f1, f2] at hQ
  exact V_iret hX hQ rfl dX9_asks_80
set_option maxRecDepth 100000 in
set_option maxHeartbeats 4000000 in
theorem v9_asks_50 {g : GT} {X : XT} {a1 : Int32} {a2 : Int32} {a3 : Int32} {a4 : Int32} (hX : OkX g X (m9_asks)) (hN : 95 ≤ g.N) {res : Int32 × St} (hQ : X.Q = QI g X res.1 res.2 ∧ X.cells = 0 ∧ X.slots = 0)    (σ : St)  (h : S9_asks_50 a1 a2 a3 a4 σ = some res) : V g X (m9_asks) 50 [(0, .ref (g.ad (75))), (1, .int (a1)), (2, .int (a2)), (3, .int (a3)), (4, .int (a4))] [] σ := by
  unfold S9_asks_50 at h
  refine V_iconst (v := 0) (q := 51) hX dX9_asks_50 (by decide) rfl ?_
  refine V.pick [0, 1, 2, 3, 4] rfl ?_
  exact v9_asks_51 hX hN hQ (0 : Int32) σ h
set_option maxRecDepth 100000 in
set_option maxHeartbeats 4000000 in
theorem v9_asks {g : GT} {X : XT} {a1 : Int32} {a2 : Int32} {a3 : Int32} {a4 : Int32} (hX : OkX g X (m9_asks)) (hN : 95 ≤ g.N) {res : Int32 × St} (hQ : X.Q = QI g X res.1 res.2 ∧ X.cells = 0 ∧ X.slots = 0) {σ : St} (h : S9_asks a1 a2 a3 a4 σ = some res) : V g X (m9_asks) 0 [(0, .ref (g.ad (75))), (1, .int (a1)), (2, .int (a2)), (3, .int (a3)), (4, .int (a4))] [] σ := by
  unfold S9_asks at h
  refine V_iload_n (q := 1) hX dX9_asks_0 1 rfl rfl ?_
  refine V_iconst (v := 0) (q := 2) hX dX9_asks_1 (by decide) rfl ?_
  refine V_iconst (v := 2) (q := 3) hX dX9_asks_2 (by decide) rfl ?_
  obtain ⟨r48, σ47, e49, h⟩ := bnd_some h
  refine V_csI (As := [.int (a1), .int ((0 : Int32)), .int ((2 : Int32))]) (q := 6) hX (c9_in hX.2.2.2.2.1 hN e49) (goodS_of k4_143 k4_144 k1_16 (cons_g k4_145)) (nA := 3) (by decide) rfl rfl rfl rfl rfl dX9_asks_3 rfl ?_
  refine V_if_eq (q := 9) (t := 50) hX dX9_asks_6 (by decide) rfl (fun z50 => ?_) (fun z50 => ?_)
  · have h := ite_t z50 h
    refine V.pick [0, 1, 2, 3, 4] rfl ?_
    exact v9_asks_50 hX hN hQ σ47 h
  have h := ite_f z50 h
  refine V_aload_n (q := 10) hX dX9_asks_9 0 rfl rfl ?_
  refine V_iload_n (q := 11) hX dX9_asks_10 2 rfl rfl ?_
  obtain ⟨r52, σ51, e53, h⟩ := bnd_some h
  refine V_cvI (n := 95) (c := 9) (nf := 39) (C := RX9) (T := TX9) (As := [.int (a2)]) (q := 14) hX (c9_isMan hX.2.2.2.2.1 hN e53) (goodV_of k5_80 k5_82 kp_42 k1_16 (cons_g k5_83)) (nA := 1) (by decide) rfl rfl rfl rfl rfl ⟨rfl, by decide⟩ hN rfl rfl rfl dX9_asks_11 rfl ?_
  refine V_if_eq (q := 17) (t := 50) hX dX9_asks_14 (by decide) rfl (fun z54 => ?_) (fun z54 => ?_)
  · have h := ite_t z54 h
    refine V.pick [0, 1, 2, 3, 4] rfl ?_
    exact v9_asks_50 hX hN hQ σ51 h
  have h := ite_f z54 h
  refine V_iload_n (q := 18) hX dX9_asks_17 3 rfl rfl ?_
  refine V_iconst (v := 0) (q := 19) hX dX9_asks_18 (by decide) rfl ?_
  refine V_bipush (v := 33) (q := 21) hX dX9_asks_19 (by decide) rfl ?_
  obtain ⟨r56, σ55, e57, h⟩ := bnd_some h
  refine V_csI (As := [.int (a3), .int ((0 : Int32)), .int ((33 : Int32))]) (q := 24) hX (c9_in hX.2.2.2.2.1 hN e57) (goodS_of k4_143 k4_144 k1_16 (cons_g k4_145)) (nA := 3) (by decide) rfl rfl rfl rfl rfl dX9_asks_21 rfl ?_
  refine V_if_eq (q := 27) (t := 50) hX dX9_asks_24 (by decide) rfl (fun z58 => ?_) (fun z58 => ?_)
  · have h := ite_t z58 h
    refine V.pick [0, 1, 2, 3, 4] rfl ?_
    exact v9_asks_50 hX hN hQ σ55 h
  have h := ite_f z58 h
  refine V_iload_n (q := 28) hX dX9_asks_27 3 rfl rfl ?_
  refine V_bipush (v := 10) (q := 30) hX dX9_asks_28 (by decide) rfl ?_
  refine V_irem (q := 31) hX (by decide) dX9_asks_30 rfl ?_
  refine V_iconst (v := 4) (q := 32) hX dX9_asks_31 (by decide) rfl ?_
  refine V_icmp_ge (q := 35) (t := 50) hX dX9_asks_32 (by decide) rfl (fun z59 => ?_) (fun z59 => ?_)
  · have h := ite_t z59 h
    refine V.pick [0, 1, 2, 3, 4] rfl ?_
    exact v9_asks_50 hX hN hQ σ55 h
  have h := ite_f z59 h
  refine V_iload (q := 37) hX dX9_asks_35 4 rfl rfl ?_
  refine V_iconst (v := 0) (q := 38) hX dX9_asks_37 (by decide) rfl ?_
  refine V_bipush (v := 8) (q := 40) hX dX9_asks_38 (by decide) rfl ?_
  obtain ⟨r61, σ60, e62, h⟩ := bnd_some h
  refine V_csI (As := [.int (a4), .int ((0 : Int32)), .int ((8 : Int32))]) (q := 43) hX (c9_in hX.2.2.2.2.1 hN e62) (goodS_of k4_143 k4_144 k1_16 (cons_g k4_145)) (nA := 3) (by decide) rfl rfl rfl rfl rfl dX9_asks_40 rfl ?_
  refine V_if_eq (q := 46) (t := 50) hX dX9_asks_43 (by decide) rfl (fun z63 => ?_) (fun z63 => ?_)
  · have h := ite_t z63 h
    refine V.pick [0, 1, 2, 3, 4] rfl ?_
    exact v9_asks_50 hX hN hQ σ60 h
  have h := ite_f z63 h
  refine V_iconst (v := 1) (q := 47) hX dX9_asks_46 (by decide) rfl ?_
  refine V_goto hX dX9_asks_47 (q := 51) (by decide) ?_
  refine V.pick [0, 1, 2, 3, 4] rfl ?_
  exact v9_asks_51 hX hN hQ (1 : Int32) σ60 h
set_option maxRecDepth 100000 in
set_option maxHeartbeats 4000000 in
theorem c9_asks {g : GT} {l : Launch} (hg : OkG g) (hN : 95 ≤ g.N) {a1 : Int32} {a2 : Int32} {a3 : Int32} {a4 : Int32} {σ : St} {r : Int32} {σ' : St} (h : S9_asks a1 a2 a3 a4 σ = some (r, σ')) : CtI g l m9_asks yX9_asks [.ref (g.ad (75)), .int (a1), .int (a2), .int (a3), .int (a4)] σ r σ' := CtI.of hg (by decide) rfl rfl (fun X h1 h2 h3 => v9_asks h1 hN (res := (r, σ')) h3 h)

abbrev m9_man : MI := (cX9_man, RX9, 4, some .int, 2)
def S9_man_105 (a1 : Int32) (a2 : Int32) (k64 : Int32 → St → Option (Int32 × St)) (x3 : Int32) (s1 : Int32) (s2 : Int32) (σ : St) : Option (Int32 × St) := if inb s1 30 then (k64 (x3 + 1) (sI σ 78 (s1).toNatClampNeg s2)) else none
def B9_man_64 (a1 : Int32) (a2 : Int32) (rec : Int32 → St → Option (Int32 × St)) (x3 : Int32) (σ : St) : Option (Int32 × St) := if (5 : Int32) ≤ x3 then (some (((gI (sI σ 75 0 ((gI σ 75 0) + (1 : Int32))) 75 0) - (1 : Int32)), (sI σ 75 0 ((gI σ 75 0) + (1 : Int32))))) else (if x3 = 0 then (S9_man_105 a1 a2 rec x3 (((5 : Int32) * (gI σ 75 0)) + x3) (a2 / (100 : Int32)) σ) else (if x3 = (1 : Int32) then (S9_man_105 a1 a2 rec x3 (((5 : Int32) * (gI σ 75 0)) + x3) (jrem a2 (100 : Int32)) σ) else (S9_man_105 a1 a2 rec x3 (((5 : Int32) * (gI σ 75 0)) + x3) (0 : Int32) σ)))
def S9_man_64 (a1 : Int32) (a2 : Int32) : Nat → Int32 → St → Option (Int32 × St)
  | 0, _, _ => none
  | n + 1, x3, σ => B9_man_64 a1 a2 (S9_man_64 a1 a2 n) x3 σ
def S9_man (a1 : Int32) (a2 : Int32) (σ : St) : Option (Int32 × St) := bnd (S9_in a1 (0 : Int32) (59 : Int32) σ) fun r51 σ50 => if r51 = 0 then (some ((-2 : Int32), σ50)) else (bnd (S9_in a2 (0 : Int32) (9999 : Int32) σ50) fun r55 σ54 => if r55 = 0 then (some ((-2 : Int32), σ54)) else (if (gI σ54 75 0) = (6 : Int32) then (some ((-4 : Int32), σ54)) else (if inb (gI σ54 75 0) 6 then (if inb (gI (sI σ54 76 ((gI σ54 75 0)).toNatClampNeg (a1 / (10 : Int32))) 75 0) 6 then (S9_man_64 a1 a2 4096 (0 : Int32) (sI (sI σ54 76 ((gI σ54 75 0)).toNatClampNeg (a1 / (10 : Int32))) 77 ((gI (sI σ54 76 ((gI σ54 75 0)).toNatClampNeg (a1 / (10 : Int32))) 75 0)).toNatClampNeg (jrem a1 (10 : Int32)))) else none) else none)))
set_option maxRecDepth 100000 in
set_option maxHeartbeats 4000000 in
theorem v9_man_105 {g : GT} {X : XT} {a1 : Int32} {a2 : Int32} (hX : OkX g X (m9_man)) (hN : 95 ≤ g.N) {res : Int32 × St} (hQ : X.Q = QI g X res.1 res.2 ∧ X.cells = 0 ∧ X.slots = 0)  {k64 : Int32 → St → Option (Int32 × St)} (hk64 : ∀ (x3 : Int32) (σ : St), k64 x3 σ = some res → V g X (m9_man) 64 [(0, .ref (g.ad (75))), (2, .int (a2)), (3, .int (x3))] [] σ) (x3 : Int32) (s1 : Int32) (s2 : Int32) (σ : St)  (h : S9_man_105 a1 a2 k64 x3 s1 s2 σ = some res) : V g X (m9_man) 105 [(0, .ref (g.ad (75))), (2, .int (a2)), (3, .int (x3))] [.int (s2), .int (s1), .ref (g.ad (78))] σ := by
  unfold S9_man_105 at h
  obtain ⟨z46, h⟩ := chk_t h
  refine V_iast (n := 95) (len := 30) (q := 106) hX ⟨rfl, rfl, by decide⟩ hN z46 dX9_man_105 rfl ?_
  refine V_iinc (v := (x3 + 1)) (lv' := [(3, .int ((x3 + 1))), (0, .ref (g.ad (75))), (2, .int (a2))]) (q := 109) hX dX9_man_106 2 rfl (by rfl) rfl rfl rfl ?_
  refine V_goto hX dX9_man_109 (q := 64) (by decide) ?_
  refine V.pick [1, 2, 0] rfl ?_
  exact hk64 (x3 + 1) (sI σ 78 (s1).toNatClampNeg s2)  h
set_option maxRecDepth 100000 in
set_option maxHeartbeats 4000000 in
theorem v9_man_64n {g : GT} {X : XT} {a1 : Int32} {a2 : Int32} (hX : OkX g X (m9_man)) (hN : 95 ≤ g.N) {res : Int32 × St} (hQ : X.Q = QI g X res.1 res.2 ∧ X.cells = 0 ∧ X.slots = 0)   (n : Nat) : ∀ (x3 : Int32) (σ : St) , S9_man_64 a1 a2 n x3 σ = some res → V g X (m9_man) 64 [(0, .ref (g.ad (75))), (2, .int (a2)), (3, .int (x3))] [] σ := by
  induction n with
  | zero => intro x3 σ; intro h; cases h
  | succ n ih =>
    intro x3 σ h
    have h : B9_man_64 a1 a2 (S9_man_64 a1 a2 n) x3 σ = some res := h
    unfold B9_man_64 at h
    refine V_iload_n (q := 65) hX dX9_man_64 2 rfl rfl ?_
    refine V_iconst (v := 5) (q := 66) hX dX9_man_65 (by decide) rfl ?_
    refine V_icmp_ge (q := 69) (t := 112) hX dX9_man_66 (by decide) rfl (fun z47 => ?_) (fun z47 => ?_)
    · have h := ite_t z47 h
      refine V_aload_n (q := 113) hX dX9_man_112 0 rfl rfl ?_
      refine V_dup (q := 114) hX dX9_man_113 rfl rfl ?_
      refine V_getI (n := 95) (c := 9) (k := 0) (nf := 39) (C := RX9) (T := TX9) (q := 117) hX rfl rfl iG9 k4_182 rfl rfl ⟨rfl, by decide⟩ hN rfl rfl dX9_man_114 rfl ?_
      refine V_iconst (v := 1) (q := 118) hX dX9_man_117 (by decide) rfl ?_
      refine V_iadd (q := 119) hX dX9_man_118 rfl ?_
      refine V_putI (n := 95) (c := 9) (k := 0) (nf := 39) (C := RX9) (T := TX9) (q := 122) hX rfl rfl iG9 k4_182 rfl rfl ⟨rfl, by decide⟩ hN rfl tyX9 tyX9_ok nmX9 rfl rfl (ty := .int) (tyX9_ok 0 (by decide)) rfl rfl dX9_man_119 rfl ?_
      refine V_aload_n (q := 123) hX dX9_man_122 0 rfl rfl ?_
      refine V_getI (n := 95) (c := 9) (k := 0) (nf := 39) (C := RX9) (T := TX9) (q := 126) hX rfl rfl iG9 k4_182 rfl rfl ⟨rfl, by decide⟩ hN rfl rfl dX9_man_123 rfl ?_
      refine V_iconst (v := 1) (q := 127) hX dX9_man_126 (by decide) rfl ?_
      refine V_isub (q := 128) hX dX9_man_127 rfl ?_
      obtain ⟨f1, f2⟩ := some2 h
      rw [f1, f2] at hQ
      exact V_iret hX hQ rfl dX9_man_128
    have h := ite_f z47 h
    refine V_aload_n (q := 70) hX dX9_man_69 0 rfl rfl ?_
    refine V_getF (r := 78) (n := 95) (c := 9) (k := 3) (nf := 39) (C := RX9) (T := TX9) (q := 73) hX rfl rfl iG9 k4_185 rfl rfl ⟨rfl, by decide⟩ hN rfl rfl rfl rfl dX9_man_70 rfl ?_
    refine V_iconst (v := 5) (q := 74) hX dX9_man_73 (by decide) rfl ?_
    refine V_aload_n (q := 75) hX dX9_man_74 0 rfl rfl ?_
    refine V_getI (n := 95) (c := 9) (k := 0) (nf := 39) (C := RX9) (T := TX9) (q := 78) hX rfl rfl iG9 k4_182 rfl rfl ⟨rfl, by decide⟩ hN rfl rfl dX9_man_75 rfl ?_
    refine V_imul (q := 79) hX dX9_man_78 rfl ?_
    refine V_iload_n (q := 80) hX dX9_man_79 2 rfl rfl ?_
    refine V_iadd (q := 81) hX dX9_man_80 rfl ?_
    refine V_iload_n (q := 82) hX dX9_man_81 2 rfl rfl ?_
    refine V_if_ne (q := 85) (t := 92) hX dX9_man_82 (by decide) rfl (fun z48 => ?_) (fun z48 => ?_)
    · have h := ite_f z48 h
      refine V_iload_n (q := 93) hX dX9_man_92 2 rfl rfl ?_
      refine V_iconst (v := 1) (q := 94) hX dX9_man_93 (by decide) rfl ?_
      refine V_icmp_ne (q := 97) (t := 104) hX dX9_man_94 (by decide) rfl (fun z49 => ?_) (fun z49 => ?_)
      · have h := ite_f z49 h
        refine V_iconst (v := 0) (q := 105) hX dX9_man_104 (by decide) rfl ?_
        refine V.pick [0, 1, 2] rfl ?_
        exact v9_man_105 hX hN hQ ih x3 (((5 : Int32) * (gI σ 75 0)) + x3) (0 : Int32) σ h
      have h := ite_t z49 h
      refine V_iload_n (q := 98) hX dX9_man_97 1 rfl rfl ?_
      refine V_bipush (v := 100) (q := 100) hX dX9_man_98 (by decide) rfl ?_
      refine V_irem (q := 101) hX (by decide) dX9_man_100 rfl ?_
      refine V_goto hX dX9_man_101 (q := 105) (by decide) ?_
      refine V.pick [0, 1, 2] rfl ?_
      exact v9_man_105 hX hN hQ ih x3 (((5 : Int32) * (gI σ 75 0)) + x3) (jrem a2 (100 : Int32)) σ h
    have h := ite_t z48 h
    refine V_iload_n (q := 86) hX dX9_man_85 1 rfl rfl ?_
    refine V_bipush (v := 100) (q := 88) hX dX9_man_86 (by decide) rfl ?_
    refine V_idiv (q := 89) hX (by decide) dX9_man_88 rfl ?_
    refine V_goto hX dX9_man_89 (q := 105) (by decide) ?_
    refine V.pick [0, 1, 2] rfl ?_
    exact v9_man_105 hX hN hQ ih x3 (((5 : Int32) * (gI σ 75 0)) + x3) (a2 / (100 : Int32)) σ h
theorem v9_man_64 {g : GT} {X : XT} {a1 : Int32} {a2 : Int32} (hX : OkX g X (m9_man)) (hN : 95 ≤ g.N) {res : Int32 × St} (hQ : X.Q = QI g X res.1 res.2 ∧ X.cells = 0 ∧ X.slots = 0) (x3 : Int32) (σ : St) (h : S9_man_64 a1 a2 4096 x3 σ = some res) : V g X (m9_man) 64 [(0, .ref (g.ad (75))), (2, .int (a2)), (3, .int (x3))] [] σ := v9_man_64n hX hN hQ 4096 x3 σ h
set_option maxRecDepth 100000 in
set_option maxHeartbeats 4000000 in
theorem v9_man {g : GT} {X : XT} {a1 : Int32} {a2 : Int32} (hX : OkX g X (m9_man)) (hN : 95 ≤ g.N) {res : Int32 × St} (hQ : X.Q = QI g X res.1 res.2 ∧ X.cells = 0 ∧ X.slots = 0) {σ : St} (h : S9_man a1 a2 σ = some res) : V g X (m9_man) 0 [(0, .ref (g.ad (75))), (1, .int (a1)), (2, .int (a2))] [] σ := by
  unfold S9_man at h
  refine V_iload_n (q := 1) hX dX9_man_0 1 rfl rfl ?_
  refine V_iconst (v := 0) (q := 2) hX dX9_man_1 (by decide) rfl ?_
  refine V_bipush (v := 59) (q := 4) hX dX9_man_2 (by decide) rfl ?_
  obtain ⟨r51, σ50, e52, h⟩ := bnd_some h
  refine V_csI (As := [.int (a1), .int ((0 : Int32)), .int ((59 : Int32))]) (q := 7) hX (c9_in hX.2.2.2.2.1 hN e52) (goodS_of k4_143 k4_144 k1_16 (cons_g k4_145)) (nA := 3) (by decide) rfl rfl rfl rfl rfl dX9_man_4 rfl ?_
  refine V_if_eq (q := 10) (t := 21) hX dX9_man_7 (by decide) rfl (fun z53 => ?_) (fun z53 => ?_)
  · have h := ite_t z53 h
    refine V_bipush (v := -2) (q := 23) hX dX9_man_21 (by decide) rfl ?_
    obtain ⟨f1, f2⟩ := some2 h
    rw [f1, f2] at hQ
    exact V_iret hX hQ rfl dX9_man_23
  have h := ite_f z53 h
  refine V_iload_n (q := 11) hX dX9_man_10 2 rfl rfl ?_
  refine V_iconst (v := 0) (q := 12) hX dX9_man_11 (by decide) rfl ?_
  refine V_sipush (v := 9999) (q := 15) hX dX9_man_12 (by decide) rfl ?_
  obtain ⟨r55, σ54, e56, h⟩ := bnd_some h
  refine V_csI (As := [.int (a2), .int ((0 : Int32)), .int ((9999 : Int32))]) (q := 18) hX (c9_in hX.2.2.2.2.1 hN e56) (goodS_of k4_143 k4_144 k1_16 (cons_g k4_145)) (nA := 3) (by decide) rfl rfl rfl rfl rfl dX9_man_15 rfl ?_
  refine V_if_ne (q := 21) (t := 24) hX dX9_man_18 (by decide) rfl (fun z57 => ?_) (fun z57 => ?_)
  · have h := ite_f z57 h
    refine V_aload_n (q := 25) hX dX9_man_24 0 rfl rfl ?_
    refine V_getI (n := 95) (c := 9) (k := 0) (nf := 39) (C := RX9) (T := TX9) (q := 28) hX rfl rfl iG9 k4_182 rfl rfl ⟨rfl, by decide⟩ hN rfl rfl dX9_man_25 rfl ?_
    refine V_bipush (v := 6) (q := 30) hX dX9_man_28 (by decide) rfl ?_
    refine V_icmp_ne (q := 33) (t := 36) hX dX9_man_30 (by decide) rfl (fun z58 => ?_) (fun z58 => ?_)
    · have h := ite_f z58 h
      refine V_aload_n (q := 37) hX dX9_man_36 0 rfl rfl ?_
      refine V_getF (r := 76) (n := 95) (c := 9) (k := 1) (nf := 39) (C := RX9) (T := TX9) (q := 40) hX rfl rfl iG9 k4_183 rfl rfl ⟨rfl, by decide⟩ hN rfl rfl rfl rfl dX9_man_37 rfl ?_
      refine V_aload_n (q := 41) hX dX9_man_40 0 rfl rfl ?_
      refine V_getI (n := 95) (c := 9) (k := 0) (nf := 39) (C := RX9) (T := TX9) (q := 44) hX rfl rfl iG9 k4_182 rfl rfl ⟨rfl, by decide⟩ hN rfl rfl dX9_man_41 rfl ?_
      refine V_iload_n (q := 45) hX dX9_man_44 1 rfl rfl ?_
      refine V_bipush (v := 10) (q := 47) hX dX9_man_45 (by decide) rfl ?_
      refine V_idiv (q := 48) hX (by decide) dX9_man_47 rfl ?_
      obtain ⟨z59, h⟩ := chk_t h
      refine V_iast (n := 95) (len := 6) (q := 49) hX ⟨rfl, rfl, by decide⟩ hN z59 dX9_man_48 rfl ?_
      refine V_aload_n (q := 50) hX dX9_man_49 0 rfl rfl ?_
      refine V_getF (r := 77) (n := 95) (c := 9) (k := 2) (nf := 39) (C := RX9) (T := TX9) (q := 53) hX rfl rfl iG9 k4_184 rfl rfl ⟨rfl, by decide⟩ hN rfl rfl rfl rfl dX9_man_50 rfl ?_
      refine V_aload_n (q := 54) hX dX9_man_53 0 rfl rfl ?_
      refine V_getI (n := 95) (c := 9) (k := 0) (nf := 39) (C := RX9) (T := TX9) (q := 57) hX rfl rfl iG9 k4_182 rfl rfl ⟨rfl, by decide⟩ hN rfl rfl dX9_man_54 rfl ?_
      refine V_iload_n (q := 58) hX dX9_man_57 1 rfl rfl ?_
      refine V_bipush (v := 10) (q := 60) hX dX9_man_58 (by decide) rfl ?_
      refine V_irem (q := 61) hX (by decide) dX9_man_60 rfl ?_
      obtain ⟨z60, h⟩ := chk_t h
      refine V_iast (n := 95) (len := 6) (q := 62) hX ⟨rfl, rfl, by decide⟩ hN z60 dX9_man_61 rfl ?_
      refine V_iconst (v := 0) (q := 63) hX dX9_man_62 (by decide) rfl ?_
      refine V_istore_n (lv' := [(3, .int ((0 : Int32))), (0, .ref (g.ad (75))), (1, .int (a1)), (2, .int (a2))]) (q := 64) hX dX9_man_63 rfl rfl rfl ?_
      refine V.pick [1, 3, 0] rfl ?_
      exact v9_man_64 hX hN hQ (0 : Int32) (sI (sI σ54 76 ((gI σ54 75 0)).toNatClampNeg (a1 / (10 : Int32))) 77 ((gI (sI σ54 76 ((gI σ54 75 0)).toNatClampNeg (a1 / (10 : Int32))) 75 0)).toNatClampNeg (jrem a1 (10 : Int32))) h
    have h := ite_t z58 h
    refine V_bipush (v := -4) (q := 35) hX dX9_man_33 (by decide) rfl ?_
    obtain ⟨f1, f2⟩ := some2 h
    rw [f1, f2] at hQ
    exact V_iret hX hQ rfl dX9_man_35
  have h := ite_t z57 h
  refine V_bipush (v := -2) (q := 23) hX dX9_man_21 (by decide) rfl ?_
  obtain ⟨f1, f2⟩ := some2 h
  rw [f1, f2] at hQ
  exact V_iret hX hQ rfl dX9_man_23
set_option maxRecDepth 100000 in
set_option maxHeartbeats 4000000 in
theorem c9_man {g : GT} {l : Launch} (hg : OkG g) (hN : 95 ≤ g.N) {a1 : Int32} {a2 : Int32} {σ : St} {r : Int32} {σ' : St} (h : S9_man a1 a2 σ = some (r, σ')) : CtI g l m9_man yX9_man [.ref (g.ad (75)), .int (a1), .int (a2)] σ r σ' := CtI.of hg (by decide) rfl rfl (fun X h1 h2 h3 => v9_man h1 hN (res := (r, σ')) h3 h)

abbrev m9_put : MI := (cX9_put, RX9, 5, some .int, 3)
def S9_put_34 (a1 : Int32) (a2 : Int32) (a3 : Int32) (s2 : Int32) (σ : St) : Option (Int32 × St) := bnd (S9_in a3 (0 : Int32) s2 σ) fun r32 σ31 => if r32 = 0 then (some ((-7 : Int32), σ31)) else (if inb (((5 : Int32) * a1) + a2) 30 then (if inb (((5 : Int32) * a1) + a2) 30 then (some ((gI σ31 78 ((((5 : Int32) * a1) + a2)).toNatClampNeg), (sI σ31 78 ((((5 : Int32) * a1) + a2)).toNatClampNeg a3))) else none) else none)
def S9_put (a1 : Int32) (a2 : Int32) (a3 : Int32) (σ : St) : Option (Int32 × St) := bnd (S9_isMan a1 σ) fun r38 σ37 => if r38 = 0 then (some ((-5 : Int32), σ37)) else (bnd (S9_in a2 (0 : Int32) (2 : Int32) σ37) fun r42 σ41 => if r42 = 0 then (some ((-7 : Int32), σ41)) else (if a2 = (2 : Int32) then (S9_put_34 a1 a2 a3 (9 : Int32) σ41) else (S9_put_34 a1 a2 a3 (99 : Int32) σ41)))
set_option maxRecDepth 100000 in
set_option maxHeartbeats 4000000 in
theorem v9_put_34 {g : GT} {X : XT} {a1 : Int32} {a2 : Int32} {a3 : Int32} (hX : OkX g X (m9_put)) (hN : 95 ≤ g.N) {res : Int32 × St} (hQ : X.Q = QI g X res.1 res.2 ∧ X.cells = 0 ∧ X.slots = 0)   (s2 : Int32) (σ : St)  (h : S9_put_34 a1 a2 a3 s2 σ = some res) : V g X (m9_put) 34 [(0, .ref (g.ad (75))), (1, .int (a1)), (2, .int (a2)), (3, .int (a3))] [.int (s2), .int ((0 : Int32)), .int (a3)] σ := by
  unfold S9_put_34 at h
  obtain ⟨r32, σ31, e33, h⟩ := bnd_some h
  refine V_csI (As := [.int (a3), .int ((0 : Int32)), .int (s2)]) (q := 37) hX (c9_in hX.2.2.2.2.1 hN e33) (goodS_of k4_143 k4_144 k1_16 (cons_g k4_145)) (nA := 3) (by decide) rfl rfl rfl rfl rfl dX9_put_34 rfl ?_
  refine V_if_ne (q := 40) (t := 43) hX dX9_put_37 (by decide) rfl (fun z34 => ?_) (fun z34 => ?_)
  · have h := ite_f z34 h
    refine V_aload_n (q := 44) hX dX9_put_43 0 rfl rfl ?_
    refine V_getF (r := 78) (n := 95) (c := 9) (k := 3) (nf := 39) (C := RX9) (T := TX9) (q := 47) hX rfl rfl iG9 k4_185 rfl rfl ⟨rfl, by decide⟩ hN rfl rfl rfl rfl dX9_put_44 rfl ?_
    refine V_iconst (v := 5) (q := 48) hX dX9_put_47 (by decide) rfl ?_
    refine V_iload_n (q := 49) hX dX9_put_48 1 rfl rfl ?_
    refine V_imul (q := 50) hX dX9_put_49 rfl ?_
    refine V_iload_n (q := 51) hX dX9_put_50 2 rfl rfl ?_
    refine V_iadd (q := 52) hX dX9_put_51 rfl ?_
    obtain ⟨z35, h⟩ := chk_t h
    refine V_iald (n := 95) (len := 30) (q := 53) hX ⟨rfl, rfl, by decide⟩ hN z35 dX9_put_52 rfl ?_
    refine V_istore (lv' := [(4, .int ((gI σ31 78 ((((5 : Int32) * a1) + a2)).toNatClampNeg))), (0, .ref (g.ad (75))), (1, .int (a1)), (2, .int (a2)), (3, .int (a3))]) (q := 55) hX dX9_put_53 rfl rfl rfl ?_
    refine V_aload_n (q := 56) hX dX9_put_55 1 rfl rfl ?_
    refine V_getF (r := 78) (n := 95) (c := 9) (k := 3) (nf := 39) (C := RX9) (T := TX9) (q := 59) hX rfl rfl iG9 k4_185 rfl rfl ⟨rfl, by decide⟩ hN rfl rfl rfl rfl dX9_put_56 rfl ?_
    refine V_iconst (v := 5) (q := 60) hX dX9_put_59 (by decide) rfl ?_
    refine V_iload_n (q := 61) hX dX9_put_60 2 rfl rfl ?_
    refine V_imul (q := 62) hX dX9_put_61 rfl ?_
    refine V_iload_n (q := 63) hX dX9_put_62 3 rfl rfl ?_
    refine V_iadd (q := 64) hX dX9_put_63 rfl ?_
    refine V_iload_n (q := 65) hX dX9_put_64 4 rfl rfl ?_
    obtain ⟨z36, h⟩ := chk_t h
    refine V_iast (n := 95) (len := 30) (q := 66) hX ⟨rfl, rfl, by decide⟩ hN z36 dX9_put_65 rfl ?_
    refine V_iload (q := 68) hX dX9_put_66 0 rfl rfl ?_
    obtain ⟨f1, f2⟩ := some2 h
    rw [f1, f2] at hQ
    exact V_iret hX hQ rfl dX9_put_68
  have h := ite_t z34 h
  refine V_bipush (v := -7) (q := 42) hX dX9_put_40 (by decide) rfl ?_
  obtain ⟨f1, f2⟩ := some2 h
  rw [f1, f2] at hQ
  exact V_iret hX hQ rfl dX9_put_42
set_option maxRecDepth 100000 in
set_option maxHeartbeats 4000000 in
theorem v9_put {g : GT} {X : XT} {a1 : Int32} {a2 : Int32} {a3 : Int32} (hX : OkX g X (m9_put)) (hN : 95 ≤ g.N) {res : Int32 × St} (hQ : X.Q = QI g X res.1 res.2 ∧ X.cells = 0 ∧ X.slots = 0) {σ : St} (h : S9_put a1 a2 a3 σ = some res) : V g X (m9_put) 0 [(0, .ref (g.ad (75))), (1, .int (a1)), (2, .int (a2)), (3, .int (a3))] [] σ := by
  unfold S9_put at h
  refine V_aload_n (q := 1) hX dX9_put_0 0 rfl rfl ?_
  refine V_iload_n (q := 2) hX dX9_put_1 1 rfl rfl ?_
  obtain ⟨r38, σ37, e39, h⟩ := bnd_some h
  refine V_cvI (n := 95) (c := 9) (nf := 39) (C := RX9) (T := TX9) (As := [.int (a1)]) (q := 5) hX (c9_isMan hX.2.2.2.2.1 hN e39) (goodV_of k5_80 k5_82 kp_42 k1_16 (cons_g k5_83)) (nA := 1) (by decide) rfl rfl rfl rfl rfl ⟨rfl, by decide⟩ hN rfl rfl rfl dX9_put_2 rfl ?_
  refine V_if_ne (q := 8) (t := 11) hX dX9_put_5 (by decide) rfl (fun z40 => ?_) (fun z40 => ?_)
  · have h := ite_f z40 h
    refine V_iload_n (q := 12) hX dX9_put_11 2 rfl rfl ?_
    refine V_iconst (v := 0) (q := 13) hX dX9_put_12 (by decide) rfl ?_
    refine V_iconst (v := 2) (q := 14) hX dX9_put_13 (by decide) rfl ?_
    obtain ⟨r42, σ41, e43, h⟩ := bnd_some h
    refine V_csI (As := [.int (a2), .int ((0 : Int32)), .int ((2 : Int32))]) (q := 17) hX (c9_in hX.2.2.2.2.1 hN e43) (goodS_of k4_143 k4_144 k1_16 (cons_g k4_145)) (nA := 3) (by decide) rfl rfl rfl rfl rfl dX9_put_14 rfl ?_
    refine V_if_eq (q := 20) (t := 40) hX dX9_put_17 (by decide) rfl (fun z44 => ?_) (fun z44 => ?_)
    · have h := ite_t z44 h
      refine V_bipush (v := -7) (q := 42) hX dX9_put_40 (by decide) rfl ?_
      obtain ⟨f1, f2⟩ := some2 h
      rw [f1, f2] at hQ
      exact V_iret hX hQ rfl dX9_put_42
    have h := ite_f z44 h
    refine V_iload_n (q := 21) hX dX9_put_20 3 rfl rfl ?_
    refine V_iconst (v := 0) (q := 22) hX dX9_put_21 (by decide) rfl ?_
    refine V_iload_n (q := 23) hX dX9_put_22 2 rfl rfl ?_
    refine V_iconst (v := 2) (q := 24) hX dX9_put_23 (by decide) rfl ?_
    refine V_icmp_ne (q := 27) (t := 32) hX dX9_put_24 (by decide) rfl (fun z45 => ?_) (fun z45 => ?_)
    · have h := ite_f z45 h
      refine V_bipush (v := 99) (q := 34) hX dX9_put_32 (by decide) rfl ?_
      refine V.pick [0, 1, 2, 3] rfl ?_
      exact v9_put_34 hX hN hQ (99 : Int32) σ41 h
    have h := ite_t z45 h
    refine V_bipush (v := 9) (q := 29) hX dX9_put_27 (by decide) rfl ?_
    refine V_goto hX dX9_put_29 (q := 34) (by decide) ?_
    refine V.pick [0, 1, 2, 3] rfl ?_
    exact v9_put_34 hX hN hQ (9 : Int32) σ41 h
  have h := ite_t z40 h
  refine V_bipush (v := -5) (q := 10) hX dX9_put_8 (by decide) rfl ?_
  obtain ⟨f1, f2⟩ := some2 h
  rw [f1, f2] at hQ
  exact V_iret hX hQ rfl dX9_put_10
set_option maxRecDepth 100000 in
set_option maxHeartbeats 4000000 in
theorem c9_put {g : GT} {l : Launch} (hg : OkG g) (hN : 95 ≤ g.N) {a1 : Int32} {a2 : Int32} {a3 : Int32} {σ : St} {r : Int32} {σ' : St} (h : S9_put a1 a2 a3 σ = some (r, σ')) : CtI g l m9_put yX9_put [.ref (g.ad (75)), .int (a1), .int (a2), .int (a3)] σ r σ' := CtI.of hg (by decide) rfl rfl (fun X h1 h2 h3 => v9_put h1 hN (res := (r, σ')) h3 h)

abbrev m9_told : MI := (cX9_told, RX9, 3, some .int, 3)
def S9_told (a1 : Int32) (a2 : Int32) (σ : St) : Option (Int32 × St) := bnd (S9_isMan a1 σ) fun r15 σ14 => if r15 = 0 then (some ((-5 : Int32), σ14)) else (bnd (S9_in a2 (0 : Int32) (4 : Int32) σ14) fun r19 σ18 => if r19 = 0 then (if a2 = (5 : Int32) then (if inb a1 6 then (some ((gI σ18 76 (a1).toNatClampNeg), σ18)) else none) else (if a2 = (6 : Int32) then (if inb a1 6 then (some ((gI σ18 77 (a1).toNatClampNeg), σ18)) else none) else (some ((-7 : Int32), σ18)))) else (if inb (((5 : Int32) * a1) + a2) 30 then (some ((gI σ18 78 ((((5 : Int32) * a1) + a2)).toNatClampNeg), σ18)) else none))
set_option maxRecDepth 100000 in
set_option maxHeartbeats 4000000 in
theorem v9_told {g : GT} {X : XT} {a1 : Int32} {a2 : Int32} (hX : OkX g X (m9_told)) (hN : 95 ≤ g.N) {res : Int32 × St} (hQ : X.Q = QI g X res.1 res.2 ∧ X.cells = 0 ∧ X.slots = 0) {σ : St} (h : S9_told a1 a2 σ = some res) : V g X (m9_told) 0 [(0, .ref (g.ad (75))), (1, .int (a1)), (2, .int (a2))] [] σ := by
  unfold S9_told at h
  refine V_aload_n (q := 1) hX dX9_told_0 0 rfl rfl ?_
  refine V_iload_n (q := 2) hX dX9_told_1 1 rfl rfl ?_
  obtain ⟨r15, σ14, e16, h⟩ := bnd_some h
  refine V_cvI (n := 95) (c := 9) (nf := 39) (C := RX9) (T := TX9) (As := [.int (a1)]) (q := 5) hX (c9_isMan hX.2.2.2.2.1 hN e16) (goodV_of k5_80 k5_82 kp_42 k1_16 (cons_g k5_83)) (nA := 1) (by decide) rfl rfl rfl rfl rfl ⟨rfl, by decide⟩ hN rfl rfl rfl dX9_told_2 rfl ?_
  refine V_if_ne (q := 8) (t := 11) hX dX9_told_5 (by decide) rfl (fun z17 => ?_) (fun z17 => ?_)
  · have h := ite_f z17 h
    refine V_iload_n (q := 12) hX dX9_told_11 2 rfl rfl ?_
    refine V_iconst (v := 0) (q := 13) hX dX9_told_12 (by decide) rfl ?_
    refine V_iconst (v := 4) (q := 14) hX dX9_told_13 (by decide) rfl ?_
    obtain ⟨r19, σ18, e20, h⟩ := bnd_some h
    refine V_csI (As := [.int (a2), .int ((0 : Int32)), .int ((4 : Int32))]) (q := 17) hX (c9_in hX.2.2.2.2.1 hN e20) (goodS_of k4_143 k4_144 k1_16 (cons_g k4_145)) (nA := 3) (by decide) rfl rfl rfl rfl rfl dX9_told_14 rfl ?_
    refine V_if_eq (q := 20) (t := 33) hX dX9_told_17 (by decide) rfl (fun z21 => ?_) (fun z21 => ?_)
    · have h := ite_t z21 h
      refine V_iload_n (q := 34) hX dX9_told_33 2 rfl rfl ?_
      refine V_iconst (v := 5) (q := 35) hX dX9_told_34 (by decide) rfl ?_
      refine V_icmp_ne (q := 38) (t := 47) hX dX9_told_35 (by decide) rfl (fun z22 => ?_) (fun z22 => ?_)
      · have h := ite_f z22 h
        refine V_iload_n (q := 48) hX dX9_told_47 2 rfl rfl ?_
        refine V_bipush (v := 6) (q := 50) hX dX9_told_48 (by decide) rfl ?_
        refine V_icmp_ne (q := 53) (t := 62) hX dX9_told_50 (by decide) rfl (fun z23 => ?_) (fun z23 => ?_)
        · have h := ite_f z23 h
          refine V_bipush (v := -7) (q := 64) hX dX9_told_62 (by decide) rfl ?_
          obtain ⟨f1, f2⟩ := some2 h
          rw [f1, f2] at hQ
          exact V_iret hX hQ rfl dX9_told_64
        have h := ite_t z23 h
        refine V_aload_n (q := 54) hX dX9_told_53 0 rfl rfl ?_
        refine V_getF (r := 77) (n := 95) (c := 9) (k := 2) (nf := 39) (C := RX9) (T := TX9) (q := 57) hX rfl rfl iG9 k4_184 rfl rfl ⟨rfl, by decide⟩ hN rfl rfl rfl rfl dX9_told_54 rfl ?_
        refine V_iload_n (q := 58) hX dX9_told_57 1 rfl rfl ?_
        obtain ⟨z24, h⟩ := chk_t h
        refine V_iald (n := 95) (len := 6) (q := 59) hX ⟨rfl, rfl, by decide⟩ hN z24 dX9_told_58 rfl ?_
        refine V_goto hX dX9_told_59 (q := 64) (by decide) ?_
        obtain ⟨f1, f2⟩ := some2 h
        rw [f1, f2] at hQ
        exact V_iret hX hQ rfl dX9_told_64
      have h := ite_t z22 h
      refine V_aload_n (q := 39) hX dX9_told_38 0 rfl rfl ?_
      refine V_getF (r := 76) (n := 95) (c := 9) (k := 1) (nf := 39) (C := RX9) (T := TX9) (q := 42) hX rfl rfl iG9 k4_183 rfl rfl ⟨rfl, by decide⟩ hN rfl rfl rfl rfl dX9_told_39 rfl ?_
      refine V_iload_n (q := 43) hX dX9_told_42 1 rfl rfl ?_
      obtain ⟨z25, h⟩ := chk_t h
      refine V_iald (n := 95) (len := 6) (q := 44) hX ⟨rfl, rfl, by decide⟩ hN z25 dX9_told_43 rfl ?_
      refine V_goto hX dX9_told_44 (q := 64) (by decide) ?_
      obtain ⟨f1, f2⟩ := some2 h
      rw [f1, f2] at hQ
      exact V_iret hX hQ rfl dX9_told_64
    have h := ite_f z21 h
    refine V_aload_n (q := 21) hX dX9_told_20 0 rfl rfl ?_
    refine V_getF (r := 78) (n := 95) (c := 9) (k := 3) (nf := 39) (C := RX9) (T := TX9) (q := 24) hX rfl rfl iG9 k4_185 rfl rfl ⟨rfl, by decide⟩ hN rfl rfl rfl rfl dX9_told_21 rfl ?_
    refine V_iconst (v := 5) (q := 25) hX dX9_told_24 (by decide) rfl ?_
    refine V_iload_n (q := 26) hX dX9_told_25 1 rfl rfl ?_
    refine V_imul (q := 27) hX dX9_told_26 rfl ?_
    refine V_iload_n (q := 28) hX dX9_told_27 2 rfl rfl ?_
    refine V_iadd (q := 29) hX dX9_told_28 rfl ?_
    obtain ⟨z26, h⟩ := chk_t h
    refine V_iald (n := 95) (len := 30) (q := 30) hX ⟨rfl, rfl, by decide⟩ hN z26 dX9_told_29 rfl ?_
    refine V_goto hX dX9_told_30 (q := 64) (by decide) ?_
    obtain ⟨f1, f2⟩ := some2 h
    rw [f1, f2] at hQ
    exact V_iret hX hQ rfl dX9_told_64
  have h := ite_t z17 h
  refine V_bipush (v := -5) (q := 10) hX dX9_told_8 (by decide) rfl ?_
  obtain ⟨f1, f2⟩ := some2 h
  rw [f1, f2] at hQ
  exact V_iret hX hQ rfl dX9_told_10
set_option maxRecDepth 100000 in
set_option maxHeartbeats 4000000 in
theorem c9_told {g : GT} {l : Launch} (hg : OkG g) (hN : 95 ≤ g.N) {a1 : Int32} {a2 : Int32} {σ : St} {r : Int32} {σ' : St} (h : S9_told a1 a2 σ = some (r, σ')) : CtI g l m9_told yX9_told [.ref (g.ad (75)), .int (a1), .int (a2)] σ r σ' := CtI.of hg (by decide) rfl rfl (fun X h1 h2 h3 => v9_told h1 hN (res := (r, σ')) h3 h)
