theorem put_put (cf : Nat → va_E) (o : Nat) (a b : va_E) : put (put cf o a) o b = put cf o b := by
  funext i
  by_cases h : i = o <;> simp [put, h]
theorem G_iastP {g : GT} {X : XT} {i : MI} {pc q n0 mc ms n k sl : Nat} {lv : List (Nat × Value)} {st : List Value} {cf0 cf : Nat → va_E} (hX : OkC g X i n0 mc ms) {o len : Nat} {f : Nat → Int32} {z x : Int32} (hcf : cf = put cf0 o (.inl (g.cA 10, len, .inl f))) (hz : inb z len) (hb : decide (o < n ∧ n ≤ 95) = true) (hdg : decode i.cc pc = .ok (.iastore, 1)) (hq : pc + 1 = q) (kk : GV g X i q lv st n (put cf0 o (.inl (g.cA 10, len, .inl (upd f z.toNatClampNeg x)))) k sl) : GV g X i pc lv (.int x :: .int z :: .ref (g.ad o) :: st) n cf k sl := by
  subst hcf
  refine G_iast (len := len) (f := f) hX (by simp [put]) hz hb hdg hq ?_
  rw [put_put]
  exact kk

abbrev mi0 : MI := (cX0_init, RX0, 2, none, 3)
abbrev mi1 : MI := (cX1_init, RX1, 1, none, 2)
abbrev mi2 : MI := (cX2_init, RX2, 1, none, 1)
abbrev mi3 : MI := (cX3_init, RX3, 1, none, 1)
abbrev mi4 : MI := (cX4_init, RX4, 2, none, 2)
abbrev mi5 : MI := (cX5_init, RX5, 2, none, 2)
abbrev mi6 : MI := (cX6_init, RX6, 1, none, 1)
abbrev mi7 : MI := (cX7_init, RX7, 1, none, 1)
abbrev mi8 : MI := (cX8_init, RX8, 2, none, 80)
abbrev mi9 : MI := (cX9_init, RX9, 2, none, 80)
def cr7_3 (g : GT) (cf : Nat → va_E) : Nat → va_E := cf
set_option maxRecDepth 100000 in
set_option maxHeartbeats 8000000 in
theorem ct7_3 {g : GT} {l : Launch} {cf : Nat → va_E} (hg : OkG g) (hL : Lin g) (h : cf 3 = .inr (7, [.int 0, .int 0, .int 0, .int 0, .int 0, .int 0, .int 0])) : CtC g l mi7 yX7_init [.ref (g.ad 3)] 4 cf 4 (cr7_3 g cf) 0 0 :=
  CtC.of hg hL (by decide) rfl rfl rfl rfl (fun X hX hnm hl hQ => by
    refine GV.pick (lv' := [(0, .ref (g.ad 3))]) [0] rfl ?_
    refine G_aload_n (q := 1) hX dX7_init_0 0 rfl rfl ?_
    refine G_obj (q := 4) hX k1_39 rfl dX7_init_1 rfl ?_
    exact G_ret hX hQ rfl rfl dX7_init_4)
def cr7_4 (g : GT) (cf : Nat → va_E) : Nat → va_E := cf
set_option maxRecDepth 100000 in
set_option maxHeartbeats 8000000 in
theorem ct7_4 {g : GT} {l : Launch} {cf : Nat → va_E} (hg : OkG g) (hL : Lin g) (h : cf 4 = .inr (7, [.int 0, .int 0, .int 0, .int 0, .int 0, .int 0, .int 0])) : CtC g l mi7 yX7_init [.ref (g.ad 4)] 5 cf 5 (cr7_4 g cf) 0 0 :=
  CtC.of hg hL (by decide) rfl rfl rfl rfl (fun X hX hnm hl hQ => by
    refine GV.pick (lv' := [(0, .ref (g.ad 4))]) [0] rfl ?_
    refine G_aload_n (q := 1) hX dX7_init_0 0 rfl rfl ?_
    refine G_obj (q := 4) hX k1_39 rfl dX7_init_1 rfl ?_
    exact G_ret hX hQ rfl rfl dX7_init_4)
def cr7_5 (g : GT) (cf : Nat → va_E) : Nat → va_E := cf
set_option maxRecDepth 100000 in
set_option maxHeartbeats 8000000 in
theorem ct7_5 {g : GT} {l : Launch} {cf : Nat → va_E} (hg : OkG g) (hL : Lin g) (h : cf 5 = .inr (7, [.int 0, .int 0, .int 0, .int 0, .int 0, .int 0, .int 0])) : CtC g l mi7 yX7_init [.ref (g.ad 5)] 6 cf 6 (cr7_5 g cf) 0 0 :=
  CtC.of hg hL (by decide) rfl rfl rfl rfl (fun X hX hnm hl hQ => by
    refine GV.pick (lv' := [(0, .ref (g.ad 5))]) [0] rfl ?_
    refine G_aload_n (q := 1) hX dX7_init_0 0 rfl rfl ?_
    refine G_obj (q := 4) hX k1_39 rfl dX7_init_1 rfl ?_
    exact G_ret hX hQ rfl rfl dX7_init_4)
def cr7_6 (g : GT) (cf : Nat → va_E) : Nat → va_E := cf
set_option maxRecDepth 100000 in
set_option maxHeartbeats 8000000 in
theorem ct7_6 {g : GT} {l : Launch} {cf : Nat → va_E} (hg : OkG g) (hL : Lin g) (h : cf 6 = .inr (7, [.int 0, .int 0, .int 0, .int 0, .int 0, .int 0, .int 0])) : CtC g l mi7 yX7_init [.ref (g.ad 6)] 7 cf 7 (cr7_6 g cf) 0 0 :=
  CtC.of hg hL (by decide) rfl rfl rfl rfl (fun X hX hnm hl hQ => by
    refine GV.pick (lv' := [(0, .ref (g.ad 6))]) [0] rfl ?_
    refine G_aload_n (q := 1) hX dX7_init_0 0 rfl rfl ?_
    refine G_obj (q := 4) hX k1_39 rfl dX7_init_1 rfl ?_
    exact G_ret hX hQ rfl rfl dX7_init_4)
def cr7_7 (g : GT) (cf : Nat → va_E) : Nat → va_E := cf
set_option maxRecDepth 100000 in
set_option maxHeartbeats 8000000 in
theorem ct7_7 {g : GT} {l : Launch} {cf : Nat → va_E} (hg : OkG g) (hL : Lin g) (h : cf 7 = .inr (7, [.int 0, .int 0, .int 0, .int 0, .int 0, .int 0, .int 0])) : CtC g l mi7 yX7_init [.ref (g.ad 7)] 8 cf 8 (cr7_7 g cf) 0 0 :=
  CtC.of hg hL (by decide) rfl rfl rfl rfl (fun X hX hnm hl hQ => by
    refine GV.pick (lv' := [(0, .ref (g.ad 7))]) [0] rfl ?_
    refine G_aload_n (q := 1) hX dX7_init_0 0 rfl rfl ?_
    refine G_obj (q := 4) hX k1_39 rfl dX7_init_1 rfl ?_
    exact G_ret hX hQ rfl rfl dX7_init_4)
def cr7_8 (g : GT) (cf : Nat → va_E) : Nat → va_E := cf
set_option maxRecDepth 100000 in
set_option maxHeartbeats 8000000 in
theorem ct7_8 {g : GT} {l : Launch} {cf : Nat → va_E} (hg : OkG g) (hL : Lin g) (h : cf 8 = .inr (7, [.int 0, .int 0, .int 0, .int 0, .int 0, .int 0, .int 0])) : CtC g l mi7 yX7_init [.ref (g.ad 8)] 9 cf 9 (cr7_8 g cf) 0 0 :=
  CtC.of hg hL (by decide) rfl rfl rfl rfl (fun X hX hnm hl hQ => by
    refine GV.pick (lv' := [(0, .ref (g.ad 8))]) [0] rfl ?_
    refine G_aload_n (q := 1) hX dX7_init_0 0 rfl rfl ?_
    refine G_obj (q := 4) hX k1_39 rfl dX7_init_1 rfl ?_
    exact G_ret hX hQ rfl rfl dX7_init_4)
def cr5_1 (g : GT) (cf : Nat → va_E) : Nat → va_E := put (cr7_8 g (put (put (cr7_7 g (put (put (cr7_6 g (put (put (cr7_5 g (put (put (cr7_4 g (put (put (cr7_3 g (put (put (put (put (put (put (cf) 2 (.inl (g.cA 11, 6, .inr (.inr (.inr (.inr (fun _ => none))))))) 1 (.inr (5, [.ref (g.ad 2), .int 0, .int 0, .int 0]))) 1 (.inr (5, [.ref (g.ad 2), .int (0), .int 0, .int 0]))) 1 (.inr (5, [.ref (g.ad 2), .int (0), .int (0), .int 0]))) 1 (.inr (5, [.ref (g.ad 2), .int (0), .int (0), .int (0)]))) 3 (.inr (7, [.int 0, .int 0, .int 0, .int 0, .int 0, .int 0, .int 0])))) 2 (.inl (g.cA 11, 6, .inr (.inr (.inr (.inr (va_up (fun _ => none) (0 : Int32).toNatClampNeg (some (g.ad 3))))))))) 4 (.inr (7, [.int 0, .int 0, .int 0, .int 0, .int 0, .int 0, .int 0])))) 2 (.inl (g.cA 11, 6, .inr (.inr (.inr (.inr (va_up (va_up (fun _ => none) (0 : Int32).toNatClampNeg (some (g.ad 3))) (1 : Int32).toNatClampNeg (some (g.ad 4))))))))) 5 (.inr (7, [.int 0, .int 0, .int 0, .int 0, .int 0, .int 0, .int 0])))) 2 (.inl (g.cA 11, 6, .inr (.inr (.inr (.inr (va_up (va_up (va_up (fun _ => none) (0 : Int32).toNatClampNeg (some (g.ad 3))) (1 : Int32).toNatClampNeg (some (g.ad 4))) (2 : Int32).toNatClampNeg (some (g.ad 5))))))))) 6 (.inr (7, [.int 0, .int 0, .int 0, .int 0, .int 0, .int 0, .int 0])))) 2 (.inl (g.cA 11, 6, .inr (.inr (.inr (.inr (va_up (va_up (va_up (va_up (fun _ => none) (0 : Int32).toNatClampNeg (some (g.ad 3))) (1 : Int32).toNatClampNeg (some (g.ad 4))) (2 : Int32).toNatClampNeg (some (g.ad 5))) (3 : Int32).toNatClampNeg (some (g.ad 6))))))))) 7 (.inr (7, [.int 0, .int 0, .int 0, .int 0, .int 0, .int 0, .int 0])))) 2 (.inl (g.cA 11, 6, .inr (.inr (.inr (.inr (va_up (va_up (va_up (va_up (va_up (fun _ => none) (0 : Int32).toNatClampNeg (some (g.ad 3))) (1 : Int32).toNatClampNeg (some (g.ad 4))) (2 : Int32).toNatClampNeg (some (g.ad 5))) (3 : Int32).toNatClampNeg (some (g.ad 6))) (4 : Int32).toNatClampNeg (some (g.ad 7))))))))) 8 (.inr (7, [.int 0, .int 0, .int 0, .int 0, .int 0, .int 0, .int 0])))) 2 (.inl (g.cA 11, 6, .inr (.inr (.inr (.inr (va_up (va_up (va_up (va_up (va_up (va_up (fun _ => none) (0 : Int32).toNatClampNeg (some (g.ad 3))) (1 : Int32).toNatClampNeg (some (g.ad 4))) (2 : Int32).toNatClampNeg (some (g.ad 5))) (3 : Int32).toNatClampNeg (some (g.ad 6))) (4 : Int32).toNatClampNeg (some (g.ad 7))) (5 : Int32).toNatClampNeg (some (g.ad 8))))))))
set_option maxRecDepth 100000 in
set_option maxHeartbeats 8000000 in
theorem ct5_1 {g : GT} {l : Launch} {cf : Nat → va_E} (hg : OkG g) (hL : Lin g) (h : cf 1 = .inr (5, [.null, .int 0, .int 0, .int 0])) : CtC g l mi5 yX5_init [.ref (g.ad 1)] 2 cf 9 (cr5_1 g cf) 7 48 :=
  CtC.of hg hL (by decide) rfl rfl rfl rfl (fun X hX hnm hl hQ => by
    refine GV.pick (lv' := [(0, .ref (g.ad 1))]) [0] rfl ?_
    refine G_aload_n (q := 1) hX dX5_init_0 0 rfl rfl ?_
    refine G_obj (q := 4) hX k1_32 rfl dX5_init_1 rfl ?_
    refine G_aload_n (q := 5) hX dX5_init_4 0 rfl rfl ?_
    refine G_bipush (v := 6) (q := 7) hX dX5_init_5 (by decide) rfl ?_
    refine G_anew (n0 := 2) (c := 11) (len := 6) (C := RX7) (q := 10) hX hX.2.2.2.2.2.2.1.2.1 (t0 := 1) rfl k1_33 (by decide) rfl dX5_init_7 rfl ?_
    refine G_putF (c := 5) (p := 0) (nf := 4) (C := RX5) (T := TX5) (fs := [.null, .int 0, .int 0, .int 0]) (fs' := [.ref (g.ad 2), .int 0, .int 0, .int 0]) (ty := (tyX5 0)) (q := 13) hX hnm h rfl tyX5 tyX5_ok nmX5 rfl rfl iG5 k1_70 rfl rfl rfl (Nat.le_of_ble_eq_true rfl) (tyX5_ok 0 (by decide)) rfl rfl dX5_init_10 rfl ?_
    refine G_aload_n (q := 14) hX dX5_init_13 0 rfl rfl ?_
    refine G_iconst (v := 0) (q := 15) hX dX5_init_14 (by decide) rfl ?_
    refine G_put (c := 5) (p := 1) (nf := 4) (C := RX5) (T := TX5) (fs := [.ref (g.ad 2), .int 0, .int 0, .int 0]) (fs' := [.ref (g.ad 2), .int (0), .int 0, .int 0]) (ty := .int) (q := 18) hX rfl rfl tyX5 tyX5_ok nmX5 rfl rfl iG5 k1_71 rfl rfl (Nat.le_of_ble_eq_true rfl) (tyX5_ok 1 (by decide)) rfl rfl dX5_init_15 rfl ?_
    refine G_aload_n (q := 19) hX dX5_init_18 0 rfl rfl ?_
    refine G_iconst (v := 0) (q := 20) hX dX5_init_19 (by decide) rfl ?_
    refine G_put (c := 5) (p := 2) (nf := 4) (C := RX5) (T := TX5) (fs := [.ref (g.ad 2), .int (0), .int 0, .int 0]) (fs' := [.ref (g.ad 2), .int (0), .int (0), .int 0]) (ty := .int) (q := 23) hX rfl rfl tyX5 tyX5_ok nmX5 rfl rfl iG5 k1_73 rfl rfl (Nat.le_of_ble_eq_true rfl) (tyX5_ok 2 (by decide)) rfl rfl dX5_init_20 rfl ?_
    refine G_aload_n (q := 24) hX dX5_init_23 0 rfl rfl ?_
    refine G_iconst (v := 0) (q := 25) hX dX5_init_24 (by decide) rfl ?_
    refine G_put (c := 5) (p := 3) (nf := 4) (C := RX5) (T := TX5) (fs := [.ref (g.ad 2), .int (0), .int (0), .int 0]) (fs' := [.ref (g.ad 2), .int (0), .int (0), .int (0)]) (ty := .int) (q := 28) hX rfl rfl tyX5 tyX5_ok nmX5 rfl rfl iG5 k1_75 rfl rfl (Nat.le_of_ble_eq_true rfl) (tyX5_ok 3 (by decide)) rfl rfl dX5_init_25 rfl ?_
    refine G_iconst (v := 0) (q := 29) hX dX5_init_28 (by decide) rfl ?_
    refine G_istore_n (lv' := [(1, .int (0)), (0, .ref (g.ad 1))]) (q := 30) hX dX5_init_29 rfl rfl rfl ?_
    refine G_iload_n (q := 31) hX dX5_init_30 0 rfl rfl ?_
    refine G_aload_n (q := 32) hX dX5_init_31 1 rfl rfl ?_
    refine G_get (c := 5) (p := 0) (nf := 4) (C := RX5) (T := TX5) (fs := [.ref (g.ad 2), .int (0), .int (0), .int (0)]) (v := .ref (g.ad 2)) (q := 35) hX rfl rfl rfl iG5 k1_70 rfl rfl dX5_init_32 rfl ?_
    refine G_alen (t0 := 1) (len := 6) (v := 6) (q := 36) hX rfl rfl (by decide) rfl dX5_init_35 rfl ?_
    refine G_icmp_ge (q := 39) (t := 58) hX dX5_init_36 (by decide) rfl (fun z => absurd z (by decide)) (fun _ => ?_)
    refine G_aload_n (q := 40) hX dX5_init_39 1 rfl rfl ?_
    refine G_get (c := 5) (p := 0) (nf := 4) (C := RX5) (T := TX5) (fs := [.ref (g.ad 2), .int (0), .int (0), .int (0)]) (v := .ref (g.ad 2)) (q := 43) hX rfl rfl rfl iG5 k1_70 rfl rfl dX5_init_40 rfl ?_
    refine G_iload_n (q := 44) hX dX5_init_43 0 rfl rfl ?_
    refine G_new (n0 := 2) (c := 7) (nf := 7) (C := RX7) (T := TX7) (fs := [.int 0, .int 0, .int 0, .int 0, .int 0, .int 0, .int 0]) (q := 47) hX tyX7 tyX7_ok rfl iG7 k1_33 k1_35 k1_3 (by decide) rfl dX5_init_44 rfl ?_
    refine G_dup (q := 48) hX dX5_init_47 rfl rfl ?_
    refine G_cin (n0 := 2) (host := "RingOfStraw") (As := []) (j := mi7) (q := 51) hX (ct7_3 hX.2.2.2.2.1 hX.2.2.2.2.2.1 rfl) (by decide +kernel) k1_37 k1_3 k1_38 rfl (nA := 0) (by decide) rfl rfl rfl rfl dX5_init_48 rfl ?_
    refine G_aast (c := 11) (len := 6) (t0 := 1) (ci := 7) (r := 3) (o := 2) (fs := [.int 0, .int 0, .int 0, .int 0, .int 0, .int 0, .int 0]) (C := RX7) (T := TX7) (nf := 7) (q := 52) hX rfl rfl rfl rfl (by show inb _ _; decide) rfl dX5_init_51 rfl ?_
    refine G_iinc (v := 1) (lv' := [(1, .int (1)), (0, .ref (g.ad 1))]) (q := 55) hX dX5_init_52 0 rfl (by decide) rfl rfl rfl ?_
    refine G_goto hX dX5_init_55 (q := 30) (by decide) ?_
    refine G_iload_n (q := 31) hX dX5_init_30 0 rfl rfl ?_
    refine G_aload_n (q := 32) hX dX5_init_31 1 rfl rfl ?_
    refine G_get (c := 5) (p := 0) (nf := 4) (C := RX5) (T := TX5) (fs := [.ref (g.ad 2), .int (0), .int (0), .int (0)]) (v := .ref (g.ad 2)) (q := 35) hX rfl rfl rfl iG5 k1_70 rfl rfl dX5_init_32 rfl ?_
    refine G_alen (t0 := 1) (len := 6) (v := 6) (q := 36) hX rfl rfl (by decide) rfl dX5_init_35 rfl ?_
    refine G_icmp_ge (q := 39) (t := 58) hX dX5_init_36 (by decide) rfl (fun z => absurd z (by decide)) (fun _ => ?_)
    refine G_aload_n (q := 40) hX dX5_init_39 1 rfl rfl ?_
    refine G_get (c := 5) (p := 0) (nf := 4) (C := RX5) (T := TX5) (fs := [.ref (g.ad 2), .int (0), .int (0), .int (0)]) (v := .ref (g.ad 2)) (q := 43) hX rfl rfl rfl iG5 k1_70 rfl rfl dX5_init_40 rfl ?_
    refine G_iload_n (q := 44) hX dX5_init_43 0 rfl rfl ?_
    refine G_new (n0 := 2) (c := 7) (nf := 7) (C := RX7) (T := TX7) (fs := [.int 0, .int 0, .int 0, .int 0, .int 0, .int 0, .int 0]) (q := 47) hX tyX7 tyX7_ok rfl iG7 k1_33 k1_35 k1_3 (by decide) rfl dX5_init_44 rfl ?_
    refine G_dup (q := 48) hX dX5_init_47 rfl rfl ?_
    refine G_cin (n0 := 2) (host := "RingOfStraw") (As := []) (j := mi7) (q := 51) hX (ct7_4 hX.2.2.2.2.1 hX.2.2.2.2.2.1 rfl) (by decide +kernel) k1_37 k1_3 k1_38 rfl (nA := 0) (by decide) rfl rfl rfl rfl dX5_init_48 rfl ?_
    refine G_aast (c := 11) (len := 6) (t0 := 1) (ci := 7) (r := 4) (o := 2) (fs := [.int 0, .int 0, .int 0, .int 0, .int 0, .int 0, .int 0]) (C := RX7) (T := TX7) (nf := 7) (q := 52) hX rfl rfl rfl rfl (by show inb _ _; decide) rfl dX5_init_51 rfl ?_
    refine G_iinc (v := 2) (lv' := [(1, .int (2)), (0, .ref (g.ad 1))]) (q := 55) hX dX5_init_52 0 rfl (by decide) rfl rfl rfl ?_
    refine G_goto hX dX5_init_55 (q := 30) (by decide) ?_
    refine G_iload_n (q := 31) hX dX5_init_30 0 rfl rfl ?_
    refine G_aload_n (q := 32) hX dX5_init_31 1 rfl rfl ?_
    refine G_get (c := 5) (p := 0) (nf := 4) (C := RX5) (T := TX5) (fs := [.ref (g.ad 2), .int (0), .int (0), .int (0)]) (v := .ref (g.ad 2)) (q := 35) hX rfl rfl rfl iG5 k1_70 rfl rfl dX5_init_32 rfl ?_
    refine G_alen (t0 := 1) (len := 6) (v := 6) (q := 36) hX rfl rfl (by decide) rfl dX5_init_35 rfl ?_
    refine G_icmp_ge (q := 39) (t := 58) hX dX5_init_36 (by decide) rfl (fun z => absurd z (by decide)) (fun _ => ?_)
    refine G_aload_n (q := 40) hX dX5_init_39 1 rfl rfl ?_
    refine G_get (c := 5) (p := 0) (nf := 4) (C := RX5) (T := TX5) (fs := [.ref (g.ad 2), .int (0), .int (0), .int (0)]) (v := .ref (g.ad 2)) (q := 43) hX rfl rfl rfl iG5 k1_70 rfl rfl dX5_init_40 rfl ?_
    refine G_iload_n (q := 44) hX dX5_init_43 0 rfl rfl ?_
    refine G_new (n0 := 2) (c := 7) (nf := 7) (C := RX7) (T := TX7) (fs := [.int 0, .int 0, .int 0, .int 0, .int 0, .int 0, .int 0]) (q := 47) hX tyX7 tyX7_ok rfl iG7 k1_33 k1_35 k1_3 (by decide) rfl dX5_init_44 rfl ?_
    refine G_dup (q := 48) hX dX5_init_47 rfl rfl ?_
    refine G_cin (n0 := 2) (host := "RingOfStraw") (As := []) (j := mi7) (q := 51) hX (ct7_5 hX.2.2.2.2.1 hX.2.2.2.2.2.1 rfl) (by decide +kernel) k1_37 k1_3 k1_38 rfl (nA := 0) (by decide) rfl rfl rfl rfl dX5_init_48 rfl ?_
    refine G_aast (c := 11) (len := 6) (t0 := 1) (ci := 7) (r := 5) (o := 2) (fs := [.int 0, .int 0, .int 0, .int 0, .int 0, .int 0, .int 0]) (C := RX7) (T := TX7) (nf := 7) (q := 52) hX rfl rfl rfl rfl (by show inb _ _; decide) rfl dX5_init_51 rfl ?_
    refine G_iinc (v := 3) (lv' := [(1, .int (3)), (0, .ref (g.ad 1))]) (q := 55) hX dX5_init_52 0 rfl (by decide) rfl rfl rfl ?_
    refine G_goto hX dX5_init_55 (q := 30) (by decide) ?_
    refine G_iload_n (q := 31) hX dX5_init_30 0 rfl rfl ?_
    refine G_aload_n (q := 32) hX dX5_init_31 1 rfl rfl ?_
    refine G_get (c := 5) (p := 0) (nf := 4) (C := RX5) (T := TX5) (fs := [.ref (g.ad 2), .int (0), .int (0), .int (0)]) (v := .ref (g.ad 2)) (q := 35) hX rfl rfl rfl iG5 k1_70 rfl rfl dX5_init_32 rfl ?_
    refine G_alen (t0 := 1) (len := 6) (v := 6) (q := 36) hX rfl rfl (by decide) rfl dX5_init_35 rfl ?_
    refine G_icmp_ge (q := 39) (t := 58) hX dX5_init_36 (by decide) rfl (fun z => absurd z (by decide)) (fun _ => ?_)
    refine G_aload_n (q := 40) hX dX5_init_39 1 rfl rfl ?_
    refine G_get (c := 5) (p := 0) (nf := 4) (C := RX5) (T := TX5) (fs := [.ref (g.ad 2), .int (0), .int (0), .int (0)]) (v := .ref (g.ad 2)) (q := 43) hX rfl rfl rfl iG5 k1_70 rfl rfl dX5_init_40 rfl ?_
    refine G_iload_n (q := 44) hX dX5_init_43 0 rfl rfl ?_
    refine G_new (n0 := 2) (c := 7) (nf := 7) (C := RX7) (T := TX7) (fs := [.int 0, .int 0, .int 0, .int 0, .int 0, .int 0, .int 0]) (q := 47) hX tyX7 tyX7_ok rfl iG7 k1_33 k1_35 k1_3 (by decide) rfl dX5_init_44 rfl ?_
    refine G_dup (q := 48) hX dX5_init_47 rfl rfl ?_
    refine G_cin (n0 := 2) (host := "RingOfStraw") (As := []) (j := mi7) (q := 51) hX (ct7_6 hX.2.2.2.2.1 hX.2.2.2.2.2.1 rfl) (by decide +kernel) k1_37 k1_3 k1_38 rfl (nA := 0) (by decide) rfl rfl rfl rfl dX5_init_48 rfl ?_
    refine G_aast (c := 11) (len := 6) (t0 := 1) (ci := 7) (r := 6) (o := 2) (fs := [.int 0, .int 0, .int 0, .int 0, .int 0, .int 0, .int 0]) (C := RX7) (T := TX7) (nf := 7) (q := 52) hX rfl rfl rfl rfl (by show inb _ _; decide) rfl dX5_init_51 rfl ?_
    refine G_iinc (v := 4) (lv' := [(1, .int (4)), (0, .ref (g.ad 1))]) (q := 55) hX dX5_init_52 0 rfl (by decide) rfl rfl rfl ?_
    refine G_goto hX dX5_init_55 (q := 30) (by decide) ?_
    refine G_iload_n (q := 31) hX dX5_init_30 0 rfl rfl ?_
    refine G_aload_n (q := 32) hX dX5_init_31 1 rfl rfl ?_
    refine G_get (c := 5) (p := 0) (nf := 4) (C := RX5) (T := TX5) (fs := [.ref (g.ad 2), .int (0), .int (0), .int (0)]) (v := .ref (g.ad 2)) (q := 35) hX rfl rfl rfl iG5 k1_70 rfl rfl dX5_init_32 rfl ?_
    refine G_alen (t0 := 1) (len := 6) (v := 6) (q := 36) hX rfl rfl (by decide) rfl dX5_init_35 rfl ?_
    refine G_icmp_ge (q := 39) (t := 58) hX dX5_init_36 (by decide) rfl (fun z => absurd z (by decide)) (fun _ => ?_)
    refine G_aload_n (q := 40) hX dX5_init_39 1 rfl rfl ?_
    refine G_get (c := 5) (p := 0) (nf := 4) (C := RX5) (T := TX5) (fs := [.ref (g.ad 2), .int (0), .int (0), .int (0)]) (v := .ref (g.ad 2)) (q := 43) hX rfl rfl rfl iG5 k1_70 rfl rfl dX5_init_40 rfl ?_
    refine G_iload_n (q := 44) hX dX5_init_43 0 rfl rfl ?_
    refine G_new (n0 := 2) (c := 7) (nf := 7) (C := RX7) (T := TX7) (fs := [.int 0, .int 0, .int 0, .int 0, .int 0, .int 0, .int 0]) (q := 47) hX tyX7 tyX7_ok rfl iG7 k1_33 k1_35 k1_3 (by decide) rfl dX5_init_44 rfl ?_
    refine G_dup (q := 48) hX dX5_init_47 rfl rfl ?_
    refine G_cin (n0 := 2) (host := "RingOfStraw") (As := []) (j := mi7) (q := 51) hX (ct7_7 hX.2.2.2.2.1 hX.2.2.2.2.2.1 rfl) (by decide +kernel) k1_37 k1_3 k1_38 rfl (nA := 0) (by decide) rfl rfl rfl rfl dX5_init_48 rfl ?_
    refine G_aast (c := 11) (len := 6) (t0 := 1) (ci := 7) (r := 7) (o := 2) (fs := [.int 0, .int 0, .int 0, .int 0, .int 0, .int 0, .int 0]) (C := RX7) (T := TX7) (nf := 7) (q := 52) hX rfl rfl rfl rfl (by show inb _ _; decide) rfl dX5_init_51 rfl ?_
    refine G_iinc (v := 5) (lv' := [(1, .int (5)), (0, .ref (g.ad 1))]) (q := 55) hX dX5_init_52 0 rfl (by decide) rfl rfl rfl ?_
    refine G_goto hX dX5_init_55 (q := 30) (by decide) ?_
    refine G_iload_n (q := 31) hX dX5_init_30 0 rfl rfl ?_
    refine G_aload_n (q := 32) hX dX5_init_31 1 rfl rfl ?_
    refine G_get (c := 5) (p := 0) (nf := 4) (C := RX5) (T := TX5) (fs := [.ref (g.ad 2), .int (0), .int (0), .int (0)]) (v := .ref (g.ad 2)) (q := 35) hX rfl rfl rfl iG5 k1_70 rfl rfl dX5_init_32 rfl ?_
    refine G_alen (t0 := 1) (len := 6) (v := 6) (q := 36) hX rfl rfl (by decide) rfl dX5_init_35 rfl ?_
    refine G_icmp_ge (q := 39) (t := 58) hX dX5_init_36 (by decide) rfl (fun z => absurd z (by decide)) (fun _ => ?_)
    refine G_aload_n (q := 40) hX dX5_init_39 1 rfl rfl ?_
    refine G_get (c := 5) (p := 0) (nf := 4) (C := RX5) (T := TX5) (fs := [.ref (g.ad 2), .int (0), .int (0), .int (0)]) (v := .ref (g.ad 2)) (q := 43) hX rfl rfl rfl iG5 k1_70 rfl rfl dX5_init_40 rfl ?_
    refine G_iload_n (q := 44) hX dX5_init_43 0 rfl rfl ?_
    refine G_new (n0 := 2) (c := 7) (nf := 7) (C := RX7) (T := TX7) (fs := [.int 0, .int 0, .int 0, .int 0, .int 0, .int 0, .int 0]) (q := 47) hX tyX7 tyX7_ok rfl iG7 k1_33 k1_35 k1_3 (by decide) rfl dX5_init_44 rfl ?_
    refine G_dup (q := 48) hX dX5_init_47 rfl rfl ?_
    refine G_cin (n0 := 2) (host := "RingOfStraw") (As := []) (j := mi7) (q := 51) hX (ct7_8 hX.2.2.2.2.1 hX.2.2.2.2.2.1 rfl) (by decide +kernel) k1_37 k1_3 k1_38 rfl (nA := 0) (by decide) rfl rfl rfl rfl dX5_init_48 rfl ?_
    refine G_aast (c := 11) (len := 6) (t0 := 1) (ci := 7) (r := 8) (o := 2) (fs := [.int 0, .int 0, .int 0, .int 0, .int 0, .int 0, .int 0]) (C := RX7) (T := TX7) (nf := 7) (q := 52) hX rfl rfl rfl rfl (by show inb _ _; decide) rfl dX5_init_51 rfl ?_
    refine G_iinc (v := 6) (lv' := [(1, .int (6)), (0, .ref (g.ad 1))]) (q := 55) hX dX5_init_52 0 rfl (by decide) rfl rfl rfl ?_
    refine G_goto hX dX5_init_55 (q := 30) (by decide) ?_
    refine G_iload_n (q := 31) hX dX5_init_30 0 rfl rfl ?_
    refine G_aload_n (q := 32) hX dX5_init_31 1 rfl rfl ?_
    refine G_get (c := 5) (p := 0) (nf := 4) (C := RX5) (T := TX5) (fs := [.ref (g.ad 2), .int (0), .int (0), .int (0)]) (v := .ref (g.ad 2)) (q := 35) hX rfl rfl rfl iG5 k1_70 rfl rfl dX5_init_32 rfl ?_
    refine G_alen (t0 := 1) (len := 6) (v := 6) (q := 36) hX rfl rfl (by decide) rfl dX5_init_35 rfl ?_
    refine G_icmp_ge (q := 39) (t := 58) hX dX5_init_36 (by decide) rfl (fun _ => ?_) (fun z => absurd (by decide) z)
    exact G_ret hX hQ rfl rfl dX5_init_58)
def cr7_11 (g : GT) (cf : Nat → va_E) : Nat → va_E := cf
set_option maxRecDepth 100000 in
set_option maxHeartbeats 8000000 in
theorem ct7_11 {g : GT} {l : Launch} {cf : Nat → va_E} (hg : OkG g) (hL : Lin g) (h : cf 11 = .inr (7, [.int 0, .int 0, .int 0, .int 0, .int 0, .int 0, .int 0])) : CtC g l mi7 yX7_init [.ref (g.ad 11)] 12 cf 12 (cr7_11 g cf) 0 0 :=
  CtC.of hg hL (by decide) rfl rfl rfl rfl (fun X hX hnm hl hQ => by
    refine GV.pick (lv' := [(0, .ref (g.ad 11))]) [0] rfl ?_
    refine G_aload_n (q := 1) hX dX7_init_0 0 rfl rfl ?_
    refine G_obj (q := 4) hX k1_39 rfl dX7_init_1 rfl ?_
    exact G_ret hX hQ rfl rfl dX7_init_4)
def cr7_12 (g : GT) (cf : Nat → va_E) : Nat → va_E := cf
set_option maxRecDepth 100000 in
set_option maxHeartbeats 8000000 in
theorem ct7_12 {g : GT} {l : Launch} {cf : Nat → va_E} (hg : OkG g) (hL : Lin g) (h : cf 12 = .inr (7, [.int 0, .int 0, .int 0, .int 0, .int 0, .int 0, .int 0])) : CtC g l mi7 yX7_init [.ref (g.ad 12)] 13 cf 13 (cr7_12 g cf) 0 0 :=
  CtC.of hg hL (by decide) rfl rfl rfl rfl (fun X hX hnm hl hQ => by
    refine GV.pick (lv' := [(0, .ref (g.ad 12))]) [0] rfl ?_
    refine G_aload_n (q := 1) hX dX7_init_0 0 rfl rfl ?_
    refine G_obj (q := 4) hX k1_39 rfl dX7_init_1 rfl ?_
    exact G_ret hX hQ rfl rfl dX7_init_4)
def cr7_13 (g : GT) (cf : Nat → va_E) : Nat → va_E := cf
set_option maxRecDepth 100000 in
set_option maxHeartbeats 8000000 in
theorem ct7_13 {g : GT} {l : Launch} {cf : Nat → va_E} (hg : OkG g) (hL : Lin g) (h : cf 13 = .inr (7, [.int 0, .int 0, .int 0, .int 0, .int 0, .int 0, .int 0])) : CtC g l mi7 yX7_init [.ref (g.ad 13)] 14 cf 14 (cr7_13 g cf) 0 0 :=
  CtC.of hg hL (by decide) rfl rfl rfl rfl (fun X hX hnm hl hQ => by
    refine GV.pick (lv' := [(0, .ref (g.ad 13))]) [0] rfl ?_
    refine G_aload_n (q := 1) hX dX7_init_0 0 rfl rfl ?_
    refine G_obj (q := 4) hX k1_39 rfl dX7_init_1 rfl ?_
    exact G_ret hX hQ rfl rfl dX7_init_4)
def cr7_14 (g : GT) (cf : Nat → va_E) : Nat → va_E := cf
set_option maxRecDepth 100000 in
set_option maxHeartbeats 8000000 in
theorem ct7_14 {g : GT} {l : Launch} {cf : Nat → va_E} (hg : OkG g) (hL : Lin g) (h : cf 14 = .inr (7, [.int 0, .int 0, .int 0, .int 0, .int 0, .int 0, .int 0])) : CtC g l mi7 yX7_init [.ref (g.ad 14)] 15 cf 15 (cr7_14 g cf) 0 0 :=
  CtC.of hg hL (by decide) rfl rfl rfl rfl (fun X hX hnm hl hQ => by
    refine GV.pick (lv' := [(0, .ref (g.ad 14))]) [0] rfl ?_
    refine G_aload_n (q := 1) hX dX7_init_0 0 rfl rfl ?_
    refine G_obj (q := 4) hX k1_39 rfl dX7_init_1 rfl ?_
    exact G_ret hX hQ rfl rfl dX7_init_4)
def cr7_15 (g : GT) (cf : Nat → va_E) : Nat → va_E := cf
set_option maxRecDepth 100000 in
set_option maxHeartbeats 8000000 in
theorem ct7_15 {g : GT} {l : Launch} {cf : Nat → va_E} (hg : OkG g) (hL : Lin g) (h : cf 15 = .inr (7, [.int 0, .int 0, .int 0, .int 0, .int 0, .int 0, .int 0])) : CtC g l mi7 yX7_init [.ref (g.ad 15)] 16 cf 16 (cr7_15 g cf) 0 0 :=
  CtC.of hg hL (by decide) rfl rfl rfl rfl (fun X hX hnm hl hQ => by
    refine GV.pick (lv' := [(0, .ref (g.ad 15))]) [0] rfl ?_
    refine G_aload_n (q := 1) hX dX7_init_0 0 rfl rfl ?_
    refine G_obj (q := 4) hX k1_39 rfl dX7_init_1 rfl ?_
    exact G_ret hX hQ rfl rfl dX7_init_4)
def cr7_16 (g : GT) (cf : Nat → va_E) : Nat → va_E := cf
set_option maxRecDepth 100000 in
set_option maxHeartbeats 8000000 in
theorem ct7_16 {g : GT} {l : Launch} {cf : Nat → va_E} (hg : OkG g) (hL : Lin g) (h : cf 16 = .inr (7, [.int 0, .int 0, .int 0, .int 0, .int 0, .int 0, .int 0])) : CtC g l mi7 yX7_init [.ref (g.ad 16)] 17 cf 17 (cr7_16 g cf) 0 0 :=
  CtC.of hg hL (by decide) rfl rfl rfl rfl (fun X hX hnm hl hQ => by
    refine GV.pick (lv' := [(0, .ref (g.ad 16))]) [0] rfl ?_
    refine G_aload_n (q := 1) hX dX7_init_0 0 rfl rfl ?_
    refine G_obj (q := 4) hX k1_39 rfl dX7_init_1 rfl ?_
    exact G_ret hX hQ rfl rfl dX7_init_4)
def cr5_9 (g : GT) (cf : Nat → va_E) : Nat → va_E := put (cr7_16 g (put (put (cr7_15 g (put (put (cr7_14 g (put (put (cr7_13 g (put (put (cr7_12 g (put (put (cr7_11 g (put (put (put (put (put (put (cf) 10 (.inl (g.cA 11, 6, .inr (.inr (.inr (.inr (fun _ => none))))))) 9 (.inr (5, [.ref (g.ad 10), .int 0, .int 0, .int 0]))) 9 (.inr (5, [.ref (g.ad 10), .int (0), .int 0, .int 0]))) 9 (.inr (5, [.ref (g.ad 10), .int (0), .int (0), .int 0]))) 9 (.inr (5, [.ref (g.ad 10), .int (0), .int (0), .int (0)]))) 11 (.inr (7, [.int 0, .int 0, .int 0, .int 0, .int 0, .int 0, .int 0])))) 10 (.inl (g.cA 11, 6, .inr (.inr (.inr (.inr (va_up (fun _ => none) (0 : Int32).toNatClampNeg (some (g.ad 11))))))))) 12 (.inr (7, [.int 0, .int 0, .int 0, .int 0, .int 0, .int 0, .int 0])))) 10 (.inl (g.cA 11, 6, .inr (.inr (.inr (.inr (va_up (va_up (fun _ => none) (0 : Int32).toNatClampNeg (some (g.ad 11))) (1 : Int32).toNatClampNeg (some (g.ad 12))))))))) 13 (.inr (7, [.int 0, .int 0, .int 0, .int 0, .int 0, .int 0, .int 0])))) 10 (.inl (g.cA 11, 6, .inr (.inr (.inr (.inr (va_up (va_up (va_up (fun _ => none) (0 : Int32).toNatClampNeg (some (g.ad 11))) (1 : Int32).toNatClampNeg (some (g.ad 12))) (2 : Int32).toNatClampNeg (some (g.ad 13))))))))) 14 (.inr (7, [.int 0, .int 0, .int 0, .int 0, .int 0, .int 0, .int 0])))) 10 (.inl (g.cA 11, 6, .inr (.inr (.inr (.inr (va_up (va_up (va_up (va_up (fun _ => none) (0 : Int32).toNatClampNeg (some (g.ad 11))) (1 : Int32).toNatClampNeg (some (g.ad 12))) (2 : Int32).toNatClampNeg (some (g.ad 13))) (3 : Int32).toNatClampNeg (some (g.ad 14))))))))) 15 (.inr (7, [.int 0, .int 0, .int 0, .int 0, .int 0, .int 0, .int 0])))) 10 (.inl (g.cA 11, 6, .inr (.inr (.inr (.inr (va_up (va_up (va_up (va_up (va_up (fun _ => none) (0 : Int32).toNatClampNeg (some (g.ad 11))) (1 : Int32).toNatClampNeg (some (g.ad 12))) (2 : Int32).toNatClampNeg (some (g.ad 13))) (3 : Int32).toNatClampNeg (some (g.ad 14))) (4 : Int32).toNatClampNeg (some (g.ad 15))))))))) 16 (.inr (7, [.int 0, .int 0, .int 0, .int 0, .int 0, .int 0, .int 0])))) 10 (.inl (g.cA 11, 6, .inr (.inr (.inr (.inr (va_up (va_up (va_up (va_up (va_up (va_up (fun _ => none) (0 : Int32).toNatClampNeg (some (g.ad 11))) (1 : Int32).toNatClampNeg (some (g.ad 12))) (2 : Int32).toNatClampNeg (some (g.ad 13))) (3 : Int32).toNatClampNeg (some (g.ad 14))) (4 : Int32).toNatClampNeg (some (g.ad 15))) (5 : Int32).toNatClampNeg (some (g.ad 16))))))))
set_option maxRecDepth 100000 in
set_option maxHeartbeats 8000000 in
theorem ct5_9 {g : GT} {l : Launch} {cf : Nat → va_E} (hg : OkG g) (hL : Lin g) (h : cf 9 = .inr (5, [.null, .int 0, .int 0, .int 0])) : CtC g l mi5 yX5_init [.ref (g.ad 9)] 10 cf 17 (cr5_9 g cf) 7 48 :=
  CtC.of hg hL (by decide) rfl rfl rfl rfl (fun X hX hnm hl hQ => by
    refine GV.pick (lv' := [(0, .ref (g.ad 9))]) [0] rfl ?_
    refine G_aload_n (q := 1) hX dX5_init_0 0 rfl rfl ?_
    refine G_obj (q := 4) hX k1_32 rfl dX5_init_1 rfl ?_
    refine G_aload_n (q := 5) hX dX5_init_4 0 rfl rfl ?_
    refine G_bipush (v := 6) (q := 7) hX dX5_init_5 (by decide) rfl ?_
    refine G_anew (n0 := 10) (c := 11) (len := 6) (C := RX7) (q := 10) hX hX.2.2.2.2.2.2.1.2.1 (t0 := 1) rfl k1_33 (by decide) rfl dX5_init_7 rfl ?_
    refine G_putF (c := 5) (p := 0) (nf := 4) (C := RX5) (T := TX5) (fs := [.null, .int 0, .int 0, .int 0]) (fs' := [.ref (g.ad 10), .int 0, .int 0, .int 0]) (ty := (tyX5 0)) (q := 13) hX hnm h rfl tyX5 tyX5_ok nmX5 rfl rfl iG5 k1_70 rfl rfl rfl (Nat.le_of_ble_eq_true rfl) (tyX5_ok 0 (by decide)) rfl rfl dX5_init_10 rfl ?_
    refine G_aload_n (q := 14) hX dX5_init_13 0 rfl rfl ?_
    refine G_iconst (v := 0) (q := 15) hX dX5_init_14 (by decide) rfl ?_
    refine G_put (c := 5) (p := 1) (nf := 4) (C := RX5) (T := TX5) (fs := [.ref (g.ad 10), .int 0, .int 0, .int 0]) (fs' := [.ref (g.ad 10), .int (0), .int 0, .int 0]) (ty := .int) (q := 18) hX rfl rfl tyX5 tyX5_ok nmX5 rfl rfl iG5 k1_71 rfl rfl (Nat.le_of_ble_eq_true rfl) (tyX5_ok 1 (by decide)) rfl rfl dX5_init_15 rfl ?_
    refine G_aload_n (q := 19) hX dX5_init_18 0 rfl rfl ?_
    refine G_iconst (v := 0) (q := 20) hX dX5_init_19 (by decide) rfl ?_
    refine G_put (c := 5) (p := 2) (nf := 4) (C := RX5) (T := TX5) (fs := [.ref (g.ad 10), .int (0), .int 0, .int 0]) (fs' := [.ref (g.ad 10), .int (0), .int (0), .int 0]) (ty := .int) (q := 23) hX rfl rfl tyX5 tyX5_ok nmX5 rfl rfl iG5 k1_73 rfl rfl (Nat.le_of_ble_eq_true rfl) (tyX5_ok 2 (by decide)) rfl rfl dX5_init_20 rfl ?_
    refine G_aload_n (q := 24) hX dX5_init_23 0 rfl rfl ?_
    refine G_iconst (v := 0) (q := 25) hX dX5_init_24 (by decide) rfl ?_
    refine G_put (c := 5) (p := 3) (nf := 4) (C := RX5) (T := TX5) (fs := [.ref (g.ad 10), .int (0), .int (0), .int 0]) (fs' := [.ref (g.ad 10), .int (0), .int (0), .int (0)]) (ty := .int) (q := 28) hX rfl rfl tyX5 tyX5_ok nmX5 rfl rfl iG5 k1_75 rfl rfl (Nat.le_of_ble_eq_true rfl) (tyX5_ok 3 (by decide)) rfl rfl dX5_init_25 rfl ?_
    refine G_iconst (v := 0) (q := 29) hX dX5_init_28 (by decide) rfl ?_
    refine G_istore_n (lv' := [(1, .int (0)), (0, .ref (g.ad 9))]) (q := 30) hX dX5_init_29 rfl rfl rfl ?_
    refine G_iload_n (q := 31) hX dX5_init_30 0 rfl rfl ?_
    refine G_aload_n (q := 32) hX dX5_init_31 1 rfl rfl ?_
    refine G_get (c := 5) (p := 0) (nf := 4) (C := RX5) (T := TX5) (fs := [.ref (g.ad 10), .int (0), .int (0), .int (0)]) (v := .ref (g.ad 10)) (q := 35) hX rfl rfl rfl iG5 k1_70 rfl rfl dX5_init_32 rfl ?_
    refine G_alen (t0 := 1) (len := 6) (v := 6) (q := 36) hX rfl rfl (by decide) rfl dX5_init_35 rfl ?_
    refine G_icmp_ge (q := 39) (t := 58) hX dX5_init_36 (by decide) rfl (fun z => absurd z (by decide)) (fun _ => ?_)
    refine G_aload_n (q := 40) hX dX5_init_39 1 rfl rfl ?_
    refine G_get (c := 5) (p := 0) (nf := 4) (C := RX5) (T := TX5) (fs := [.ref (g.ad 10), .int (0), .int (0), .int (0)]) (v := .ref (g.ad 10)) (q := 43) hX rfl rfl rfl iG5 k1_70 rfl rfl dX5_init_40 rfl ?_
    refine G_iload_n (q := 44) hX dX5_init_43 0 rfl rfl ?_
    refine G_new (n0 := 10) (c := 7) (nf := 7) (C := RX7) (T := TX7) (fs := [.int 0, .int 0, .int 0, .int 0, .int 0, .int 0, .int 0]) (q := 47) hX tyX7 tyX7_ok rfl iG7 k1_33 k1_35 k1_3 (by decide) rfl dX5_init_44 rfl ?_
    refine G_dup (q := 48) hX dX5_init_47 rfl rfl ?_
    refine G_cin (n0 := 10) (host := "RingOfStraw") (As := []) (j := mi7) (q := 51) hX (ct7_11 hX.2.2.2.2.1 hX.2.2.2.2.2.1 rfl) (by decide +kernel) k1_37 k1_3 k1_38 rfl (nA := 0) (by decide) rfl rfl rfl rfl dX5_init_48 rfl ?_
    refine G_aast (c := 11) (len := 6) (t0 := 1) (ci := 7) (r := 11) (o := 10) (fs := [.int 0, .int 0, .int 0, .int 0, .int 0, .int 0, .int 0]) (C := RX7) (T := TX7) (nf := 7) (q := 52) hX rfl rfl rfl rfl (by show inb _ _; decide) rfl dX5_init_51 rfl ?_
    refine G_iinc (v := 1) (lv' := [(1, .int (1)), (0, .ref (g.ad 9))]) (q := 55) hX dX5_init_52 0 rfl (by decide) rfl rfl rfl ?_
    refine G_goto hX dX5_init_55 (q := 30) (by decide) ?_
    refine G_iload_n (q := 31) hX dX5_init_30 0 rfl rfl ?_
    refine G_aload_n (q := 32) hX dX5_init_31 1 rfl rfl ?_
    refine G_get (c := 5) (p := 0) (nf := 4) (C := RX5) (T := TX5) (fs := [.ref (g.ad 10), .int (0), .int (0), .int (0)]) (v := .ref (g.ad 10)) (q := 35) hX rfl rfl rfl iG5 k1_70 rfl rfl dX5_init_32 rfl ?_
    refine G_alen (t0 := 1) (len := 6) (v := 6) (q := 36) hX rfl rfl (by decide) rfl dX5_init_35 rfl ?_
    refine G_icmp_ge (q := 39) (t := 58) hX dX5_init_36 (by decide) rfl (fun z => absurd z (by decide)) (fun _ => ?_)
    refine G_aload_n (q := 40) hX dX5_init_39 1 rfl rfl ?_
    refine G_get (c := 5) (p := 0) (nf := 4) (C := RX5) (T := TX5) (fs := [.ref (g.ad 10), .int (0), .int (0), .int (0)]) (v := .ref (g.ad 10)) (q := 43) hX rfl rfl rfl iG5 k1_70 rfl rfl dX5_init_40 rfl ?_
    refine G_iload_n (q := 44) hX dX5_init_43 0 rfl rfl ?_
    refine G_new (n0 := 10) (c := 7) (nf := 7) (C := RX7) (T := TX7) (fs := [.int 0, .int 0, .int 0, .int 0, .int 0, .int 0, .int 0]) (q := 47) hX tyX7 tyX7_ok rfl iG7 k1_33 k1_35 k1_3 (by decide) rfl dX5_init_44 rfl ?_
    refine G_dup (q := 48) hX dX5_init_47 rfl rfl ?_
    refine G_cin (n0 := 10) (host := "RingOfStraw") (As := []) (j := mi7) (q := 51) hX (ct7_12 hX.2.2.2.2.1 hX.2.2.2.2.2.1 rfl) (by decide +kernel) k1_37 k1_3 k1_38 rfl (nA := 0) (by decide) rfl rfl rfl rfl dX5_init_48 rfl ?_
    refine G_aast (c := 11) (len := 6) (t0 := 1) (ci := 7) (r := 12) (o := 10) (fs := [.int 0, .int 0, .int 0, .int 0, .int 0, .int 0, .int 0]) (C := RX7) (T := TX7) (nf := 7) (q := 52) hX rfl rfl rfl rfl (by show inb _ _; decide) rfl dX5_init_51 rfl ?_
    refine G_iinc (v := 2) (lv' := [(1, .int (2)), (0, .ref (g.ad 9))]) (q := 55) hX dX5_init_52 0 rfl (by decide) rfl rfl rfl ?_
    refine G_goto hX dX5_init_55 (q := 30) (by decide) ?_
    refine G_iload_n (q := 31) hX dX5_init_30 0 rfl rfl ?_
    refine G_aload_n (q := 32) hX dX5_init_31 1 rfl rfl ?_
    refine G_get (c := 5) (p := 0) (nf := 4) (C := RX5) (T := TX5) (fs := [.ref (g.ad 10), .int (0), .int (0), .int (0)]) (v := .ref (g.ad 10)) (q := 35) hX rfl rfl rfl iG5 k1_70 rfl rfl dX5_init_32 rfl ?_
    refine G_alen (t0 := 1) (len := 6) (v := 6) (q := 36) hX rfl rfl (by decide) rfl dX5_init_35 rfl ?_
    refine G_icmp_ge (q := 39) (t := 58) hX dX5_init_36 (by decide) rfl (fun z => absurd z (by decide)) (fun _ => ?_)
    refine G_aload_n (q := 40) hX dX5_init_39 1 rfl rfl ?_
    refine G_get (c := 5) (p := 0) (nf := 4) (C := RX5) (T := TX5) (fs := [.ref (g.ad 10), .int (0), .int (0), .int (0)]) (v := .ref (g.ad 10)) (q := 43) hX rfl rfl rfl iG5 k1_70 rfl rfl dX5_init_40 rfl ?_
    refine G_iload_n (q := 44) hX dX5_init_43 0 rfl rfl ?_
    refine G_new (n0 := 10) (c := 7) (nf := 7) (C := RX7) (T := TX7) (fs := [.int 0, .int 0, .int 0, .int 0, .int 0, .int 0, .int 0]) (q := 47) hX tyX7 tyX7_ok rfl iG7 k1_33 k1_35 k1_3 (by decide) rfl dX5_init_44 rfl ?_
    refine G_dup (q := 48) hX dX5_init_47 rfl rfl ?_
    refine G_cin (n0 := 10) (host := "RingOfStraw") (As := []) (j := mi7) (q := 51) hX (ct7_13 hX.2.2.2.2.1 hX.2.2.2.2.2.1 rfl) (by decide +kernel) k1_37 k1_3 k1_38 rfl (nA := 0) (by decide) rfl rfl rfl rfl dX5_init_48 rfl ?_
    refine G_aast (c := 11) (len := 6) (t0 := 1) (ci := 7) (r := 13) (o := 10) (fs := [.int 0, .int 0, .int 0, .int 0, .int 0, .int 0, .int 0]) (C := RX7) (T := TX7) (nf := 7) (q := 52) hX rfl rfl rfl rfl (by show inb _ _; decide) rfl dX5_init_51 rfl ?_
    refine G_iinc (v := 3) (lv' := [(1, .int (3)), (0, .ref (g.ad 9))]) (q := 55) hX dX5_init_52 0 rfl (by decide) rfl rfl rfl ?_
    refine G_goto hX dX5_init_55 (q := 30) (by decide) ?_
    refine G_iload_n (q := 31) hX dX5_init_30 0 rfl rfl ?_
    refine G_aload_n (q := 32) hX dX5_init_31 1 rfl rfl ?_
    refine G_get (c := 5) (p := 0) (nf := 4) (C := RX5) (T := TX5) (fs := [.ref (g.ad 10), .int (0), .int (0), .int (0)]) (v := .ref (g.ad 10)) (q := 35) hX rfl rfl rfl iG5 k1_70 rfl rfl dX5_init_32 rfl ?_
    refine G_alen (t0 := 1) (len := 6) (v := 6) (q := 36) hX rfl rfl (by decide) rfl dX5_init_35 rfl ?_
    refine G_icmp_ge (q := 39) (t := 58) hX dX5_init_36 (by decide) rfl (fun z => absurd z (by decide)) (fun _ => ?_)
    refine G_aload_n (q := 40) hX dX5_init_39 1 rfl rfl ?_
    refine G_get (c := 5) (p := 0) (nf := 4) (C := RX5) (T := TX5) (fs := [.ref (g.ad 10), .int (0), .int (0), .int (0)]) (v := .ref (g.ad 10)) (q := 43) hX rfl rfl rfl iG5 k1_70 rfl rfl dX5_init_40 rfl ?_
    refine G_iload_n (q := 44) hX dX5_init_43 0 rfl rfl ?_
    refine G_new (n0 := 10) (c := 7) (nf := 7) (C := RX7) (T := TX7) (fs := [.int 0, .int 0, .int 0, .int 0, .int 0, .int 0, .int 0]) (q := 47) hX tyX7 tyX7_ok rfl iG7 k1_33 k1_35 k1_3 (by decide) rfl dX5_init_44 rfl ?_
    refine G_dup (q := 48) hX dX5_init_47 rfl rfl ?_
    refine G_cin (n0 := 10) (host := "RingOfStraw") (As := []) (j := mi7) (q := 51) hX (ct7_14 hX.2.2.2.2.1 hX.2.2.2.2.2.1 rfl) (by decide +kernel) k1_37 k1_3 k1_38 rfl (nA := 0) (by decide) rfl rfl rfl rfl dX5_init_48 rfl ?_
    refine G_aast (c := 11) (len := 6) (t0 := 1) (ci := 7) (r := 14) (o := 10) (fs := [.int 0, .int 0, .int 0, .int 0, .int 0, .int 0, .int 0]) (C := RX7) (T := TX7) (nf := 7) (q := 52) hX rfl rfl rfl rfl (by show inb _ _; decide) rfl dX5_init_51 rfl ?_
    refine G_iinc (v := 4) (lv' := [(1, .int (4)), (0, .ref (g.ad 9))]) (q := 55) hX dX5_init_52 0 rfl (by decide) rfl rfl rfl ?_
    refine G_goto hX dX5_init_55 (q := 30) (by decide) ?_
    refine G_iload_n (q := 31) hX dX5_init_30 0 rfl rfl ?_
    refine G_aload_n (q := 32) hX dX5_init_31 1 rfl rfl ?_
    refine G_get (c := 5) (p := 0) (nf := 4) (C := RX5) (T := TX5) (fs := [.ref (g.ad 10), .int (0), .int (0), .int (0)]) (v := .ref (g.ad 10)) (q := 35) hX rfl rfl rfl iG5 k1_70 rfl rfl dX5_init_32 rfl ?_
    refine G_alen (t0 := 1) (len := 6) (v := 6) (q := 36) hX rfl rfl (by decide) rfl dX5_init_35 rfl ?_
    refine G_icmp_ge (q := 39) (t := 58) hX dX5_init_36 (by decide) rfl (fun z => absurd z (by decide)) (fun _ => ?_)
    refine G_aload_n (q := 40) hX dX5_init_39 1 rfl rfl ?_
    refine G_get (c := 5) (p := 0) (nf := 4) (C := RX5) (T := TX5) (fs := [.ref (g.ad 10), .int (0), .int (0), .int (0)]) (v := .ref (g.ad 10)) (q := 43) hX rfl rfl rfl iG5 k1_70 rfl rfl dX5_init_40 rfl ?_
    refine G_iload_n (q := 44) hX dX5_init_43 0 rfl rfl ?_
    refine G_new (n0 := 10) (c := 7) (nf := 7) (C := RX7) (T := TX7) (fs := [.int 0, .int 0, .int 0, .int 0, .int 0, .int 0, .int 0]) (q := 47) hX tyX7 tyX7_ok rfl iG7 k1_33 k1_35 k1_3 (by decide) rfl dX5_init_44 rfl ?_
    refine G_dup (q := 48) hX dX5_init_47 rfl rfl ?_
    refine G_cin (n0 := 10) (host := "RingOfStraw") (As := []) (j := mi7) (q := 51) hX (ct7_15 hX.2.2.2.2.1 hX.2.2.2.2.2.1 rfl) (by decide +kernel) k1_37 k1_3 k1_38 rfl (nA := 0) (by decide) rfl rfl rfl rfl dX5_init_48 rfl ?_
    refine G_aast (c := 11) (len := 6) (t0 := 1) (ci := 7) (r := 15) (o := 10) (fs := [.int 0, .int 0, .int 0, .int 0, .int 0, .int 0, .int 0]) (C := RX7) (T := TX7) (nf := 7) (q := 52) hX rfl rfl rfl rfl (by show inb _ _; decide) rfl dX5_init_51 rfl ?_
    refine G_iinc (v := 5) (lv' := [(1, .int (5)), (0, .ref (g.ad 9))]) (q := 55) hX dX5_init_52 0 rfl (by decide) rfl rfl rfl ?_
    refine G_goto hX dX5_init_55 (q := 30) (by decide) ?_
    refine G_iload_n (q := 31) hX dX5_init_30 0 rfl rfl ?_
    refine G_aload_n (q := 32) hX dX5_init_31 1 rfl rfl ?_
    refine G_get (c := 5) (p := 0) (nf := 4) (C := RX5) (T := TX5) (fs := [.ref (g.ad 10), .int (0), .int (0), .int (0)]) (v := .ref (g.ad 10)) (q := 35) hX rfl rfl rfl iG5 k1_70 rfl rfl dX5_init_32 rfl ?_
    refine G_alen (t0 := 1) (len := 6) (v := 6) (q := 36) hX rfl rfl (by decide) rfl dX5_init_35 rfl ?_
    refine G_icmp_ge (q := 39) (t := 58) hX dX5_init_36 (by decide) rfl (fun z => absurd z (by decide)) (fun _ => ?_)
    refine G_aload_n (q := 40) hX dX5_init_39 1 rfl rfl ?_
    refine G_get (c := 5) (p := 0) (nf := 4) (C := RX5) (T := TX5) (fs := [.ref (g.ad 10), .int (0), .int (0), .int (0)]) (v := .ref (g.ad 10)) (q := 43) hX rfl rfl rfl iG5 k1_70 rfl rfl dX5_init_40 rfl ?_
    refine G_iload_n (q := 44) hX dX5_init_43 0 rfl rfl ?_
    refine G_new (n0 := 10) (c := 7) (nf := 7) (C := RX7) (T := TX7) (fs := [.int 0, .int 0, .int 0, .int 0, .int 0, .int 0, .int 0]) (q := 47) hX tyX7 tyX7_ok rfl iG7 k1_33 k1_35 k1_3 (by decide) rfl dX5_init_44 rfl ?_
    refine G_dup (q := 48) hX dX5_init_47 rfl rfl ?_
    refine G_cin (n0 := 10) (host := "RingOfStraw") (As := []) (j := mi7) (q := 51) hX (ct7_16 hX.2.2.2.2.1 hX.2.2.2.2.2.1 rfl) (by decide +kernel) k1_37 k1_3 k1_38 rfl (nA := 0) (by decide) rfl rfl rfl rfl dX5_init_48 rfl ?_
    refine G_aast (c := 11) (len := 6) (t0 := 1) (ci := 7) (r := 16) (o := 10) (fs := [.int 0, .int 0, .int 0, .int 0, .int 0, .int 0, .int 0]) (C := RX7) (T := TX7) (nf := 7) (q := 52) hX rfl rfl rfl rfl (by show inb _ _; decide) rfl dX5_init_51 rfl ?_
    refine G_iinc (v := 6) (lv' := [(1, .int (6)), (0, .ref (g.ad 9))]) (q := 55) hX dX5_init_52 0 rfl (by decide) rfl rfl rfl ?_
    refine G_goto hX dX5_init_55 (q := 30) (by decide) ?_
    refine G_iload_n (q := 31) hX dX5_init_30 0 rfl rfl ?_
    refine G_aload_n (q := 32) hX dX5_init_31 1 rfl rfl ?_
    refine G_get (c := 5) (p := 0) (nf := 4) (C := RX5) (T := TX5) (fs := [.ref (g.ad 10), .int (0), .int (0), .int (0)]) (v := .ref (g.ad 10)) (q := 35) hX rfl rfl rfl iG5 k1_70 rfl rfl dX5_init_32 rfl ?_
    refine G_alen (t0 := 1) (len := 6) (v := 6) (q := 36) hX rfl rfl (by decide) rfl dX5_init_35 rfl ?_
    refine G_icmp_ge (q := 39) (t := 58) hX dX5_init_36 (by decide) rfl (fun _ => ?_) (fun z => absurd (by decide) z)
    exact G_ret hX hQ rfl rfl dX5_init_58)
def cr7_19 (g : GT) (cf : Nat → va_E) : Nat → va_E := cf
set_option maxRecDepth 100000 in
set_option maxHeartbeats 8000000 in
theorem ct7_19 {g : GT} {l : Launch} {cf : Nat → va_E} (hg : OkG g) (hL : Lin g) (h : cf 19 = .inr (7, [.int 0, .int 0, .int 0, .int 0, .int 0, .int 0, .int 0])) : CtC g l mi7 yX7_init [.ref (g.ad 19)] 20 cf 20 (cr7_19 g cf) 0 0 :=
  CtC.of hg hL (by decide) rfl rfl rfl rfl (fun X hX hnm hl hQ => by
    refine GV.pick (lv' := [(0, .ref (g.ad 19))]) [0] rfl ?_
    refine G_aload_n (q := 1) hX dX7_init_0 0 rfl rfl ?_
    refine G_obj (q := 4) hX k1_39 rfl dX7_init_1 rfl ?_
    exact G_ret hX hQ rfl rfl dX7_init_4)
def cr7_20 (g : GT) (cf : Nat → va_E) : Nat → va_E := cf
set_option maxRecDepth 100000 in
set_option maxHeartbeats 8000000 in
theorem ct7_20 {g : GT} {l : Launch} {cf : Nat → va_E} (hg : OkG g) (hL : Lin g) (h : cf 20 = .inr (7, [.int 0, .int 0, .int 0, .int 0, .int 0, .int 0, .int 0])) : CtC g l mi7 yX7_init [.ref (g.ad 20)] 21 cf 21 (cr7_20 g cf) 0 0 :=
  CtC.of hg hL (by decide) rfl rfl rfl rfl (fun X hX hnm hl hQ => by
    refine GV.pick (lv' := [(0, .ref (g.ad 20))]) [0] rfl ?_
    refine G_aload_n (q := 1) hX dX7_init_0 0 rfl rfl ?_
    refine G_obj (q := 4) hX k1_39 rfl dX7_init_1 rfl ?_
    exact G_ret hX hQ rfl rfl dX7_init_4)
def cr7_21 (g : GT) (cf : Nat → va_E) : Nat → va_E := cf
set_option maxRecDepth 100000 in
set_option maxHeartbeats 8000000 in
theorem ct7_21 {g : GT} {l : Launch} {cf : Nat → va_E} (hg : OkG g) (hL : Lin g) (h : cf 21 = .inr (7, [.int 0, .int 0, .int 0, .int 0, .int 0, .int 0, .int 0])) : CtC g l mi7 yX7_init [.ref (g.ad 21)] 22 cf 22 (cr7_21 g cf) 0 0 :=
  CtC.of hg hL (by decide) rfl rfl rfl rfl (fun X hX hnm hl hQ => by
    refine GV.pick (lv' := [(0, .ref (g.ad 21))]) [0] rfl ?_
    refine G_aload_n (q := 1) hX dX7_init_0 0 rfl rfl ?_
    refine G_obj (q := 4) hX k1_39 rfl dX7_init_1 rfl ?_
    exact G_ret hX hQ rfl rfl dX7_init_4)
def cr7_22 (g : GT) (cf : Nat → va_E) : Nat → va_E := cf
set_option maxRecDepth 100000 in
set_option maxHeartbeats 8000000 in
theorem ct7_22 {g : GT} {l : Launch} {cf : Nat → va_E} (hg : OkG g) (hL : Lin g) (h : cf 22 = .inr (7, [.int 0, .int 0, .int 0, .int 0, .int 0, .int 0, .int 0])) : CtC g l mi7 yX7_init [.ref (g.ad 22)] 23 cf 23 (cr7_22 g cf) 0 0 :=
  CtC.of hg hL (by decide) rfl rfl rfl rfl (fun X hX hnm hl hQ => by
    refine GV.pick (lv' := [(0, .ref (g.ad 22))]) [0] rfl ?_
    refine G_aload_n (q := 1) hX dX7_init_0 0 rfl rfl ?_
    refine G_obj (q := 4) hX k1_39 rfl dX7_init_1 rfl ?_
    exact G_ret hX hQ rfl rfl dX7_init_4)
def cr7_23 (g : GT) (cf : Nat → va_E) : Nat → va_E := cf
set_option maxRecDepth 100000 in
set_option maxHeartbeats 8000000 in
theorem ct7_23 {g : GT} {l : Launch} {cf : Nat → va_E} (hg : OkG g) (hL : Lin g) (h : cf 23 = .inr (7, [.int 0, .int 0, .int 0, .int 0, .int 0, .int 0, .int 0])) : CtC g l mi7 yX7_init [.ref (g.ad 23)] 24 cf 24 (cr7_23 g cf) 0 0 :=
  CtC.of hg hL (by decide) rfl rfl rfl rfl (fun X hX hnm hl hQ => by
    refine GV.pick (lv' := [(0, .ref (g.ad 23))]) [0] rfl ?_
    refine G_aload_n (q := 1) hX dX7_init_0 0 rfl rfl ?_
    refine G_obj (q := 4) hX k1_39 rfl dX7_init_1 rfl ?_
    exact G_ret hX hQ rfl rfl dX7_init_4)
def cr7_24 (g : GT) (cf : Nat → va_E) : Nat → va_E := cf
set_option maxRecDepth 100000 in
set_option maxHeartbeats 8000000 in
theorem ct7_24 {g : GT} {l : Launch} {cf : Nat → va_E} (hg : OkG g) (hL : Lin g) (h : cf 24 = .inr (7, [.int 0, .int 0, .int 0, .int 0, .int 0, .int 0, .int 0])) : CtC g l mi7 yX7_init [.ref (g.ad 24)] 25 cf 25 (cr7_24 g cf) 0 0 :=
  CtC.of hg hL (by decide) rfl rfl rfl rfl (fun X hX hnm hl hQ => by
    refine GV.pick (lv' := [(0, .ref (g.ad 24))]) [0] rfl ?_
    refine G_aload_n (q := 1) hX dX7_init_0 0 rfl rfl ?_
    refine G_obj (q := 4) hX k1_39 rfl dX7_init_1 rfl ?_
    exact G_ret hX hQ rfl rfl dX7_init_4)
def cr5_17 (g : GT) (cf : Nat → va_E) : Nat → va_E := put (cr7_24 g (put (put (cr7_23 g (put (put (cr7_22 g (put (put (cr7_21 g (put (put (cr7_20 g (put (put (cr7_19 g (put (put (put (put (put (put (cf) 18 (.inl (g.cA 11, 6, .inr (.inr (.inr (.inr (fun _ => none))))))) 17 (.inr (5, [.ref (g.ad 18), .int 0, .int 0, .int 0]))) 17 (.inr (5, [.ref (g.ad 18), .int (0), .int 0, .int 0]))) 17 (.inr (5, [.ref (g.ad 18), .int (0), .int (0), .int 0]))) 17 (.inr (5, [.ref (g.ad 18), .int (0), .int (0), .int (0)]))) 19 (.inr (7, [.int 0, .int 0, .int 0, .int 0, .int 0, .int 0, .int 0])))) 18 (.inl (g.cA 11, 6, .inr (.inr (.inr (.inr (va_up (fun _ => none) (0 : Int32).toNatClampNeg (some (g.ad 19))))))))) 20 (.inr (7, [.int 0, .int 0, .int 0, .int 0, .int 0, .int 0, .int 0])))) 18 (.inl (g.cA 11, 6, .inr (.inr (.inr (.inr (va_up (va_up (fun _ => none) (0 : Int32).toNatClampNeg (some (g.ad 19))) (1 : Int32).toNatClampNeg (some (g.ad 20))))))))) 21 (.inr (7, [.int 0, .int 0, .int 0, .int 0, .int 0, .int 0, .int 0])))) 18 (.inl (g.cA 11, 6, .inr (.inr (.inr (.inr (va_up (va_up (va_up (fun _ => none) (0 : Int32).toNatClampNeg (some (g.ad 19))) (1 : Int32).toNatClampNeg (some (g.ad 20))) (2 : Int32).toNatClampNeg (some (g.ad 21))))))))) 22 (.inr (7, [.int 0, .int 0, .int 0, .int 0, .int 0, .int 0, .int 0])))) 18 (.inl (g.cA 11, 6, .inr (.inr (.inr (.inr (va_up (va_up (va_up (va_up (fun _ => none) (0 : Int32).toNatClampNeg (some (g.ad 19))) (1 : Int32).toNatClampNeg (some (g.ad 20))) (2 : Int32).toNatClampNeg (some (g.ad 21))) (3 : Int32).toNatClampNeg (some (g.ad 22))))))))) 23 (.inr (7, [.int 0, .int 0, .int 0, .int 0, .int 0, .int 0, .int 0])))) 18 (.inl (g.cA 11, 6, .inr (.inr (.inr (.inr (va_up (va_up (va_up (va_up (va_up (fun _ => none) (0 : Int32).toNatClampNeg (some (g.ad 19))) (1 : Int32).toNatClampNeg (some (g.ad 20))) (2 : Int32).toNatClampNeg (some (g.ad 21))) (3 : Int32).toNatClampNeg (some (g.ad 22))) (4 : Int32).toNatClampNeg (some (g.ad 23))))))))) 24 (.inr (7, [.int 0, .int 0, .int 0, .int 0, .int 0, .int 0, .int 0])))) 18 (.inl (g.cA 11, 6, .inr (.inr (.inr (.inr (va_up (va_up (va_up (va_up (va_up (va_up (fun _ => none) (0 : Int32).toNatClampNeg (some (g.ad 19))) (1 : Int32).toNatClampNeg (some (g.ad 20))) (2 : Int32).toNatClampNeg (some (g.ad 21))) (3 : Int32).toNatClampNeg (some (g.ad 22))) (4 : Int32).toNatClampNeg (some (g.ad 23))) (5 : Int32).toNatClampNeg (some (g.ad 24))))))))
set_option maxRecDepth 100000 in
set_option maxHeartbeats 8000000 in
theorem ct5_17 {g : GT} {l : Launch} {cf : Nat → va_E} (hg : OkG g) (hL : Lin g) (h : cf 17 = .inr (5, [.null, .int 0, .int 0, .int 0])) : CtC g l mi5 yX5_init [.ref (g.ad 17)] 18 cf 25 (cr5_17 g cf) 7 48 :=
  CtC.of hg hL (by decide) rfl rfl rfl rfl (fun X hX hnm hl hQ => by
    refine GV.pick (lv' := [(0, .ref (g.ad 17))]) [0] rfl ?_
    refine G_aload_n (q := 1) hX dX5_init_0 0 rfl rfl ?_
    refine G_obj (q := 4) hX k1_32 rfl dX5_init_1 rfl ?_
    refine G_aload_n (q := 5) hX dX5_init_4 0 rfl rfl ?_
    refine G_bipush (v := 6) (q := 7) hX dX5_init_5 (by decide) rfl ?_
    refine G_anew (n0 := 18) (c := 11) (len := 6) (C := RX7) (q := 10) hX hX.2.2.2.2.2.2.1.2.1 (t0 := 1) rfl k1_33 (by decide) rfl dX5_init_7 rfl ?_
    refine G_putF (c := 5) (p := 0) (nf := 4) (C := RX5) (T := TX5) (fs := [.null, .int 0, .int 0, .int 0]) (fs' := [.ref (g.ad 18), .int 0, .int 0, .int 0]) (ty := (tyX5 0)) (q := 13) hX hnm h rfl tyX5 tyX5_ok nmX5 rfl rfl iG5 k1_70 rfl rfl rfl (Nat.le_of_ble_eq_true rfl) (tyX5_ok 0 (by decide)) rfl rfl dX5_init_10 rfl ?_
    refine G_aload_n (q := 14) hX dX5_init_13 0 rfl rfl ?_
    refine G_iconst (v := 0) (q := 15) hX dX5_init_14 (by decide) rfl ?_
    refine G_put (c := 5) (p := 1) (nf := 4) (C := RX5) (T := TX5) (fs := [.ref (g.ad 18), .int 0, .int 0, .int 0]) (fs' := [.ref (g.ad 18), .int (0), .int 0, .int 0]) (ty := .int) (q := 18) hX rfl rfl tyX5 tyX5_ok nmX5 rfl rfl iG5 k1_71 rfl rfl (Nat.le_of_ble_eq_true rfl) (tyX5_ok 1 (by decide)) rfl rfl dX5_init_15 rfl ?_
    refine G_aload_n (q := 19) hX dX5_init_18 0 rfl rfl ?_
    refine G_iconst (v := 0) (q := 20) hX dX5_init_19 (by decide) rfl ?_
    refine G_put (c := 5) (p := 2) (nf := 4) (C := RX5) (T := TX5) (fs := [.ref (g.ad 18), .int (0), .int 0, .int 0]) (fs' := [.ref (g.ad 18), .int (0), .int (0), .int 0]) (ty := .int) (q := 23) hX rfl rfl tyX5 tyX5_ok nmX5 rfl rfl iG5 k1_73 rfl rfl (Nat.le_of_ble_eq_true rfl) (tyX5_ok 2 (by decide)) rfl rfl dX5_init_20 rfl ?_
    refine G_aload_n (q := 24) hX dX5_init_23 0 rfl rfl ?_
    refine G_iconst (v := 0) (q := 25) hX dX5_init_24 (by decide) rfl ?_
    refine G_put (c := 5) (p := 3) (nf := 4) (C := RX5) (T := TX5) (fs := [.ref (g.ad 18), .int (0), .int (0), .int 0]) (fs' := [.ref (g.ad 18), .int (0), .int (0), .int (0)]) (ty := .int) (q := 28) hX rfl rfl tyX5 tyX5_ok nmX5 rfl rfl iG5 k1_75 rfl rfl (Nat.le_of_ble_eq_true rfl) (tyX5_ok 3 (by decide)) rfl rfl dX5_init_25 rfl ?_
    refine G_iconst (v := 0) (q := 29) hX dX5_init_28 (by decide) rfl ?_
    refine G_istore_n (lv' := [(1, .int (0)), (0, .ref (g.ad 17))]) (q := 30) hX dX5_init_29 rfl rfl rfl ?_
    refine G_iload_n (q := 31) hX dX5_init_30 0 rfl rfl ?_
    refine G_aload_n (q := 32) hX dX5_init_31 1 rfl rfl ?_
    refine G_get (c := 5) (p := 0) (nf := 4) (C := RX5) (T := TX5) (fs := [.ref (g.ad 18), .int (0), .int (0), .int (0)]) (v := .ref (g.ad 18)) (q := 35) hX rfl rfl rfl iG5 k1_70 rfl rfl dX5_init_32 rfl ?_
    refine G_alen (t0 := 1) (len := 6) (v := 6) (q := 36) hX rfl rfl (by decide) rfl dX5_init_35 rfl ?_
    refine G_icmp_ge (q := 39) (t := 58) hX dX5_init_36 (by decide) rfl (fun z => absurd z (by decide)) (fun _ => ?_)
    refine G_aload_n (q := 40) hX dX5_init_39 1 rfl rfl ?_
    refine G_get (c := 5) (p := 0) (nf := 4) (C := RX5) (T := TX5) (fs := [.ref (g.ad 18), .int (0), .int (0), .int (0)]) (v := .ref (g.ad 18)) (q := 43) hX rfl rfl rfl iG5 k1_70 rfl rfl dX5_init_40 rfl ?_
    refine G_iload_n (q := 44) hX dX5_init_43 0 rfl rfl ?_
    refine G_new (n0 := 18) (c := 7) (nf := 7) (C := RX7) (T := TX7) (fs := [.int 0, .int 0, .int 0, .int 0, .int 0, .int 0, .int 0]) (q := 47) hX tyX7 tyX7_ok rfl iG7 k1_33 k1_35 k1_3 (by decide) rfl dX5_init_44 rfl ?_
    refine G_dup (q := 48) hX dX5_init_47 rfl rfl ?_
    refine G_cin (n0 := 18) (host := "RingOfStraw") (As := []) (j := mi7) (q := 51) hX (ct7_19 hX.2.2.2.2.1 hX.2.2.2.2.2.1 rfl) (by decide +kernel) k1_37 k1_3 k1_38 rfl (nA := 0) (by decide) rfl rfl rfl rfl dX5_init_48 rfl ?_
    refine G_aast (c := 11) (len := 6) (t0 := 1) (ci := 7) (r := 19) (o := 18) (fs := [.int 0, .int 0, .int 0, .int 0, .int 0, .int 0, .int 0]) (C := RX7) (T := TX7) (nf := 7) (q := 52) hX rfl rfl rfl rfl (by show inb _ _; decide) rfl dX5_init_51 rfl ?_
    refine G_iinc (v := 1) (lv' := [(1, .int (1)), (0, .ref (g.ad 17))]) (q := 55) hX dX5_init_52 0 rfl (by decide) rfl rfl rfl ?_
    refine G_goto hX dX5_init_55 (q := 30) (by decide) ?_
    refine G_iload_n (q := 31) hX dX5_init_30 0 rfl rfl ?_
    refine G_aload_n (q := 32) hX dX5_init_31 1 rfl rfl ?_
    refine G_get (c := 5) (p := 0) (nf := 4) (C := RX5) (T := TX5) (fs := [.ref (g.ad 18), .int (0), .int (0), .int (0)]) (v := .ref (g.ad 18)) (q := 35) hX rfl rfl rfl iG5 k1_70 rfl rfl dX5_init_32 rfl ?_
    refine G_alen (t0 := 1) (len := 6) (v := 6) (q := 36) hX rfl rfl (by decide) rfl dX5_init_35 rfl ?_
    refine G_icmp_ge (q := 39) (t := 58) hX dX5_init_36 (by decide) rfl (fun z => absurd z (by decide)) (fun _ => ?_)
    refine G_aload_n (q := 40) hX dX5_init_39 1 rfl rfl ?_
    refine G_get (c := 5) (p := 0) (nf := 4) (C := RX5) (T := TX5) (fs := [.ref (g.ad 18), .int (0), .int (0), .int (0)]) (v := .ref (g.ad 18)) (q := 43) hX rfl rfl rfl iG5 k1_70 rfl rfl dX5_init_40 rfl ?_
    refine G_iload_n (q := 44) hX dX5_init_43 0 rfl rfl ?_
    refine G_new (n0 := 18) (c := 7) (nf := 7) (C := RX7) (T := TX7) (fs := [.int 0, .int 0, .int 0, .int 0, .int 0, .int 0, .int 0]) (q := 47) hX tyX7 tyX7_ok rfl iG7 k1_33 k1_35 k1_3 (by decide) rfl dX5_init_44 rfl ?_
    refine G_dup (q := 48) hX dX5_init_47 rfl rfl ?_
    refine G_cin (n0 := 18) (host := "RingOfStraw") (As := []) (j := mi7) (q := 51) hX (ct7_20 hX.2.2.2.2.1 hX.2.2.2.2.2.1 rfl) (by decide +kernel) k1_37 k1_3 k1_38 rfl (nA := 0) (by decide) rfl rfl rfl rfl dX5_init_48 rfl ?_
    refine G_aast (c := 11) (len := 6) (t0 := 1) (ci := 7) (r := 20) (o := 18) (fs := [.int 0, .int 0, .int 0, .int 0, .int 0, .int 0, .int 0]) (C := RX7) (T := TX7) (nf := 7) (q := 52) hX rfl rfl rfl rfl (by show inb _ _; decide) rfl dX5_init_51 rfl ?_
    refine G_iinc (v := 2) (lv' := [(1, .int (2)), (0, .ref (g.ad 17))]) (q := 55) hX dX5_init_52 0 rfl (by decide) rfl rfl rfl ?_
    refine G_goto hX dX5_init_55 (q := 30) (by decide) ?_
    refine G_iload_n (q := 31) hX dX5_init_30 0 rfl rfl ?_
    refine G_aload_n (q := 32) hX dX5_init_31 1 rfl rfl ?_
    refine G_get (c := 5) (p := 0) (nf := 4) (C := RX5) (T := TX5) (fs := [.ref (g.ad 18), .int (0), .int (0), .int (0)]) (v := .ref (g.ad 18)) (q := 35) hX rfl rfl rfl iG5 k1_70 rfl rfl dX5_init_32 rfl ?_
    refine G_alen (t0 := 1) (len := 6) (v := 6) (q := 36) hX rfl rfl (by decide) rfl dX5_init_35 rfl ?_
    refine G_icmp_ge (q := 39) (t := 58) hX dX5_init_36 (by decide) rfl (fun z => absurd z (by decide)) (fun _ => ?_)
    refine G_aload_n (q := 40) hX dX5_init_39 1 rfl rfl ?_
    refine G_get (c := 5) (p := 0) (nf := 4) (C := RX5) (T := TX5) (fs := [.ref (g.ad 18), .int (0), .int (0), .int (0)]) (v := .ref (g.ad 18)) (q := 43) hX rfl rfl rfl iG5 k1_70 rfl rfl dX5_init_40 rfl ?_
    refine G_iload_n (q := 44) hX dX5_init_43 0 rfl rfl ?_
    refine G_new (n0 := 18) (c := 7) (nf := 7) (C := RX7) (T := TX7) (fs := [.int 0, .int 0, .int 0, .int 0, .int 0, .int 0, .int 0]) (q := 47) hX tyX7 tyX7_ok rfl iG7 k1_33 k1_35 k1_3 (by decide) rfl dX5_init_44 rfl ?_
    refine G_dup (q := 48) hX dX5_init_47 rfl rfl ?_
    refine G_cin (n0 := 18) (host := "RingOfStraw") (As := []) (j := mi7) (q := 51) hX (ct7_21 hX.2.2.2.2.1 hX.2.2.2.2.2.1 rfl) (by decide +kernel) k1_37 k1_3 k1_38 rfl (nA := 0) (by decide) rfl rfl rfl rfl dX5_init_48 rfl ?_
    refine G_aast (c := 11) (len := 6) (t0 := 1) (ci := 7) (r := 21) (o := 18) (fs := [.int 0, .int 0, .int 0, .int 0, .int 0, .int 0, .int 0]) (C := RX7) (T := TX7) (nf := 7) (q := 52) hX rfl rfl rfl rfl (by show inb _ _; decide) rfl dX5_init_51 rfl ?_
    refine G_iinc (v := 3) (lv' := [(1, .int (3)), (0, .ref (g.ad 17))]) (q := 55) hX dX5_init_52 0 rfl (by decide) rfl rfl rfl ?_
    refine G_goto hX dX5_init_55 (q := 30) (by decide) ?_
    refine G_iload_n (q := 31) hX dX5_init_30 0 rfl rfl ?_
    refine G_aload_n (q := 32) hX dX5_init_31 1 rfl rfl ?_
    refine G_get (c := 5) (p := 0) (nf := 4) (C := RX5) (T := TX5) (fs := [.ref (g.ad 18), .int (0), .int (0), .int (0)]) (v := .ref (g.ad 18)) (q := 35) hX rfl rfl rfl iG5 k1_70 rfl rfl dX5_init_32 rfl ?_
    refine G_alen (t0 := 1) (len := 6) (v := 6) (q := 36) hX rfl rfl (by decide) rfl dX5_init_35 rfl ?_
    refine G_icmp_ge (q := 39) (t := 58) hX dX5_init_36 (by decide) rfl (fun z => absurd z (by decide)) (fun _ => ?_)
    refine G_aload_n (q := 40) hX dX5_init_39 1 rfl rfl ?_
    refine G_get (c := 5) (p := 0) (nf := 4) (C := RX5) (T := TX5) (fs := [.ref (g.ad 18), .int (0), .int (0), .int (0)]) (v := .ref (g.ad 18)) (q := 43) hX rfl rfl rfl iG5 k1_70 rfl rfl dX5_init_40 rfl ?_
    refine G_iload_n (q := 44) hX dX5_init_43 0 rfl rfl ?_
    refine G_new (n0 := 18) (c := 7) (nf := 7) (C := RX7) (T := TX7) (fs := [.int 0, .int 0, .int 0, .int 0, .int 0, .int 0, .int 0]) (q := 47) hX tyX7 tyX7_ok rfl iG7 k1_33 k1_35 k1_3 (by decide) rfl dX5_init_44 rfl ?_
    refine G_dup (q := 48) hX dX5_init_47 rfl rfl ?_
    refine G_cin (n0 := 18) (host := "RingOfStraw") (As := []) (j := mi7) (q := 51) hX (ct7_22 hX.2.2.2.2.1 hX.2.2.2.2.2.1 rfl) (by decide +kernel) k1_37 k1_3 k1_38 rfl (nA := 0) (by decide) rfl rfl rfl rfl dX5_init_48 rfl ?_
    refine G_aast (c := 11) (len := 6) (t0 := 1) (ci := 7) (r := 22) (o := 18) (fs := [.int 0, .int 0, .int 0, .int 0, .int 0, .int 0, .int 0]) (C := RX7) (T := TX7) (nf := 7) (q := 52) hX rfl rfl rfl rfl (by show inb _ _; decide) rfl dX5_init_51 rfl ?_
    refine G_iinc (v := 4) (lv' := [(1, .int (4)), (0, .ref (g.ad 17))]) (q := 55) hX dX5_init_52 0 rfl (by decide) rfl rfl rfl ?_
    refine G_goto hX dX5_init_55 (q := 30) (by decide) ?_
    refine G_iload_n (q := 31) hX dX5_init_30 0 rfl rfl ?_
    refine G_aload_n (q := 32) hX dX5_init_31 1 rfl rfl ?_
    refine G_get (c := 5) (p := 0) (nf := 4) (C := RX5) (T := TX5) (fs := [.ref (g.ad 18), .int (0), .int (0), .int (0)]) (v := .ref (g.ad 18)) (q := 35) hX rfl rfl rfl iG5 k1_70 rfl rfl dX5_init_32 rfl ?_
    refine G_alen (t0 := 1) (len := 6) (v := 6) (q := 36) hX rfl rfl (by decide) rfl dX5_init_35 rfl ?_
    refine G_icmp_ge (q := 39) (t := 58) hX dX5_init_36 (by decide) rfl (fun z => absurd z (by decide)) (fun _ => ?_)
    refine G_aload_n (q := 40) hX dX5_init_39 1 rfl rfl ?_
    refine G_get (c := 5) (p := 0) (nf := 4) (C := RX5) (T := TX5) (fs := [.ref (g.ad 18), .int (0), .int (0), .int (0)]) (v := .ref (g.ad 18)) (q := 43) hX rfl rfl rfl iG5 k1_70 rfl rfl dX5_init_40 rfl ?_
    refine G_iload_n (q := 44) hX dX5_init_43 0 rfl rfl ?_
    refine G_new (n0 := 18) (c := 7) (nf := 7) (C := RX7) (T := TX7) (fs := [.int 0, .int 0, .int 0, .int 0, .int 0, .int 0, .int 0]) (q := 47) hX tyX7 tyX7_ok rfl iG7 k1_33 k1_35 k1_3 (by decide) rfl dX5_init_44 rfl ?_
    refine G_dup (q := 48) hX dX5_init_47 rfl rfl ?_
    refine G_cin (n0 := 18) (host := "RingOfStraw") (As := []) (j := mi7) (q := 51) hX (ct7_23 hX.2.2.2.2.1 hX.2.2.2.2.2.1 rfl) (by decide +kernel) k1_37 k1_3 k1_38 rfl (nA := 0) (by decide) rfl rfl rfl rfl dX5_init_48 rfl ?_
    refine G_aast (c := 11) (len := 6) (t0 := 1) (ci := 7) (r := 23) (o := 18) (fs := [.int 0, .int 0, .int 0, .int 0, .int 0, .int 0, .int 0]) (C := RX7) (T := TX7) (nf := 7) (q := 52) hX rfl rfl rfl rfl (by show inb _ _; decide) rfl dX5_init_51 rfl ?_
    refine G_iinc (v := 5) (lv' := [(1, .int (5)), (0, .ref (g.ad 17))]) (q := 55) hX dX5_init_52 0 rfl (by decide) rfl rfl rfl ?_
    refine G_goto hX dX5_init_55 (q := 30) (by decide) ?_
    refine G_iload_n (q := 31) hX dX5_init_30 0 rfl rfl ?_
    refine G_aload_n (q := 32) hX dX5_init_31 1 rfl rfl ?_
    refine G_get (c := 5) (p := 0) (nf := 4) (C := RX5) (T := TX5) (fs := [.ref (g.ad 18), .int (0), .int (0), .int (0)]) (v := .ref (g.ad 18)) (q := 35) hX rfl rfl rfl iG5 k1_70 rfl rfl dX5_init_32 rfl ?_
    refine G_alen (t0 := 1) (len := 6) (v := 6) (q := 36) hX rfl rfl (by decide) rfl dX5_init_35 rfl ?_
    refine G_icmp_ge (q := 39) (t := 58) hX dX5_init_36 (by decide) rfl (fun z => absurd z (by decide)) (fun _ => ?_)
    refine G_aload_n (q := 40) hX dX5_init_39 1 rfl rfl ?_
    refine G_get (c := 5) (p := 0) (nf := 4) (C := RX5) (T := TX5) (fs := [.ref (g.ad 18), .int (0), .int (0), .int (0)]) (v := .ref (g.ad 18)) (q := 43) hX rfl rfl rfl iG5 k1_70 rfl rfl dX5_init_40 rfl ?_
    refine G_iload_n (q := 44) hX dX5_init_43 0 rfl rfl ?_
    refine G_new (n0 := 18) (c := 7) (nf := 7) (C := RX7) (T := TX7) (fs := [.int 0, .int 0, .int 0, .int 0, .int 0, .int 0, .int 0]) (q := 47) hX tyX7 tyX7_ok rfl iG7 k1_33 k1_35 k1_3 (by decide) rfl dX5_init_44 rfl ?_
    refine G_dup (q := 48) hX dX5_init_47 rfl rfl ?_
    refine G_cin (n0 := 18) (host := "RingOfStraw") (As := []) (j := mi7) (q := 51) hX (ct7_24 hX.2.2.2.2.1 hX.2.2.2.2.2.1 rfl) (by decide +kernel) k1_37 k1_3 k1_38 rfl (nA := 0) (by decide) rfl rfl rfl rfl dX5_init_48 rfl ?_
    refine G_aast (c := 11) (len := 6) (t0 := 1) (ci := 7) (r := 24) (o := 18) (fs := [.int 0, .int 0, .int 0, .int 0, .int 0, .int 0, .int 0]) (C := RX7) (T := TX7) (nf := 7) (q := 52) hX rfl rfl rfl rfl (by show inb _ _; decide) rfl dX5_init_51 rfl ?_
    refine G_iinc (v := 6) (lv' := [(1, .int (6)), (0, .ref (g.ad 17))]) (q := 55) hX dX5_init_52 0 rfl (by decide) rfl rfl rfl ?_
    refine G_goto hX dX5_init_55 (q := 30) (by decide) ?_
    refine G_iload_n (q := 31) hX dX5_init_30 0 rfl rfl ?_
    refine G_aload_n (q := 32) hX dX5_init_31 1 rfl rfl ?_
    refine G_get (c := 5) (p := 0) (nf := 4) (C := RX5) (T := TX5) (fs := [.ref (g.ad 18), .int (0), .int (0), .int (0)]) (v := .ref (g.ad 18)) (q := 35) hX rfl rfl rfl iG5 k1_70 rfl rfl dX5_init_32 rfl ?_
    refine G_alen (t0 := 1) (len := 6) (v := 6) (q := 36) hX rfl rfl (by decide) rfl dX5_init_35 rfl ?_
    refine G_icmp_ge (q := 39) (t := 58) hX dX5_init_36 (by decide) rfl (fun _ => ?_) (fun z => absurd (by decide) z)
    exact G_ret hX hQ rfl rfl dX5_init_58)
def cr7_25 (g : GT) (cf : Nat → va_E) : Nat → va_E := cf
set_option maxRecDepth 100000 in
set_option maxHeartbeats 8000000 in
theorem ct7_25 {g : GT} {l : Launch} {cf : Nat → va_E} (hg : OkG g) (hL : Lin g) (h : cf 25 = .inr (7, [.int 0, .int 0, .int 0, .int 0, .int 0, .int 0, .int 0])) : CtC g l mi7 yX7_init [.ref (g.ad 25)] 26 cf 26 (cr7_25 g cf) 0 0 :=
  CtC.of hg hL (by decide) rfl rfl rfl rfl (fun X hX hnm hl hQ => by
    refine GV.pick (lv' := [(0, .ref (g.ad 25))]) [0] rfl ?_
    refine G_aload_n (q := 1) hX dX7_init_0 0 rfl rfl ?_
    refine G_obj (q := 4) hX k1_39 rfl dX7_init_1 rfl ?_
    exact G_ret hX hQ rfl rfl dX7_init_4)
def cr6_28 (g : GT) (cf : Nat → va_E) : Nat → va_E := put (put (put (put (put (cf) 29 (.inl (g.cA 10, 160, .inl (fun _ => 0)))) 28 (.inr (6, [.ref (g.ad 29), .null, .int 0]))) 30 (.inl (g.cA 10, 3, .inl (fun _ => 0)))) 28 (.inr (6, [.ref (g.ad 29), .ref (g.ad 30), .int 0]))) 28 (.inr (6, [.ref (g.ad 29), .ref (g.ad 30), .int (0)]))
set_option maxRecDepth 100000 in
set_option maxHeartbeats 8000000 in
theorem ct6_28 {g : GT} {l : Launch} {cf : Nat → va_E} (hg : OkG g) (hL : Lin g) (h : cf 28 = .inr (6, [.null, .null, .int 0])) : CtC g l mi6 yX6_init [.ref (g.ad 28)] 29 cf 31 (cr6_28 g cf) 2 163 :=
  CtC.of hg hL (by decide) rfl rfl rfl rfl (fun X hX hnm hl hQ => by
    refine GV.pick (lv' := [(0, .ref (g.ad 28))]) [0] rfl ?_
    refine G_aload_n (q := 1) hX dX6_init_0 0 rfl rfl ?_
    refine G_obj (q := 4) hX k1_99 rfl dX6_init_1 rfl ?_
    refine G_aload_n (q := 5) hX dX6_init_4 0 rfl rfl ?_
    refine G_sipush (v := 160) (q := 8) hX dX6_init_5 (by decide) rfl ?_
    refine G_newa (n0 := 29) (len := 160) (q := 10) hX (by decide) rfl dX6_init_8 rfl ?_
    refine G_putF (c := 6) (p := 0) (nf := 3) (C := RX6) (T := TX6) (fs := [.null, .null, .int 0]) (fs' := [.ref (g.ad 29), .null, .int 0]) (ty := (tyX6 0)) (q := 13) hX hnm h rfl tyX6 tyX6_ok nmX6 rfl rfl iG6 k1_100 rfl rfl rfl (Nat.le_of_ble_eq_true rfl) (tyX6_ok 0 (by decide)) rfl rfl dX6_init_10 rfl ?_
    refine G_aload_n (q := 14) hX dX6_init_13 0 rfl rfl ?_
    refine G_iconst (v := 3) (q := 15) hX dX6_init_14 (by decide) rfl ?_
    refine G_newa (n0 := 29) (len := 3) (q := 17) hX (by decide) rfl dX6_init_15 rfl ?_
    refine G_putF (c := 6) (p := 1) (nf := 3) (C := RX6) (T := TX6) (fs := [.ref (g.ad 29), .null, .int 0]) (fs' := [.ref (g.ad 29), .ref (g.ad 30), .int 0]) (ty := (tyX6 1)) (q := 20) hX hnm rfl rfl tyX6 tyX6_ok nmX6 rfl rfl iG6 k1_102 rfl rfl rfl (Nat.le_of_ble_eq_true rfl) (tyX6_ok 1 (by decide)) rfl rfl dX6_init_17 rfl ?_
    refine G_aload_n (q := 21) hX dX6_init_20 0 rfl rfl ?_
    refine G_iconst (v := 0) (q := 22) hX dX6_init_21 (by decide) rfl ?_
    refine G_put (c := 6) (p := 2) (nf := 3) (C := RX6) (T := TX6) (fs := [.ref (g.ad 29), .ref (g.ad 30), .int 0]) (fs' := [.ref (g.ad 29), .ref (g.ad 30), .int (0)]) (ty := .int) (q := 25) hX rfl rfl tyX6 tyX6_ok nmX6 rfl rfl iG6 k1_103 rfl rfl (Nat.le_of_ble_eq_true rfl) (tyX6_ok 2 (by decide)) rfl rfl dX6_init_22 rfl ?_
    exact G_ret hX hQ rfl rfl dX6_init_25)
def cr1_26 (g : GT) (cf : Nat → va_E) : Nat → va_E := put (cr6_28 g (put (put (put (put (put (put (put (put (cf) 27 (.inl (g.cA 10, 160, .inl (fun _ => 0)))) 26 (.inr (1, [.ref (g.ad 27), .int 0, .int 0, .int 0, .int 0, .int 0, .null]))) 26 (.inr (1, [.ref (g.ad 27), .int (0), .int 0, .int 0, .int 0, .int 0, .null]))) 26 (.inr (1, [.ref (g.ad 27), .int (0), .int (0), .int 0, .int 0, .int 0, .null]))) 26 (.inr (1, [.ref (g.ad 27), .int (0), .int (0), .int (0), .int 0, .int 0, .null]))) 26 (.inr (1, [.ref (g.ad 27), .int (0), .int (0), .int (0), .int (-1), .int 0, .null]))) 26 (.inr (1, [.ref (g.ad 27), .int (0), .int (0), .int (0), .int (-1), .int (0), .null]))) 28 (.inr (6, [.null, .null, .int 0])))) 26 (.inr (1, [.ref (g.ad 27), .int (0), .int (0), .int (0), .int (-1), .int (0), .ref (g.ad 28)]))
set_option maxRecDepth 100000 in
set_option maxHeartbeats 8000000 in
theorem ct1_26 {g : GT} {l : Launch} {cf : Nat → va_E} (hg : OkG g) (hL : Lin g) (h : cf 26 = .inr (1, [.null, .int 0, .int 0, .int 0, .int 0, .int 0, .null])) : CtC g l mi1 yX1_init [.ref (g.ad 26)] 27 cf 31 (cr1_26 g cf) 4 326 :=
  CtC.of hg hL (by decide) rfl rfl rfl rfl (fun X hX hnm hl hQ => by
    refine GV.pick (lv' := [(0, .ref (g.ad 26))]) [0] rfl ?_
    refine G_aload_n (q := 1) hX dX1_init_0 0 rfl rfl ?_
    refine G_obj (q := 4) hX k1_93 rfl dX1_init_1 rfl ?_
    refine G_aload_n (q := 5) hX dX1_init_4 0 rfl rfl ?_
    refine G_sipush (v := 160) (q := 8) hX dX1_init_5 (by decide) rfl ?_
    refine G_newa (n0 := 27) (len := 160) (q := 10) hX (by decide) rfl dX1_init_8 rfl ?_
    refine G_putF (c := 1) (p := 0) (nf := 7) (C := RX1) (T := TX1) (fs := [.null, .int 0, .int 0, .int 0, .int 0, .int 0, .null]) (fs' := [.ref (g.ad 27), .int 0, .int 0, .int 0, .int 0, .int 0, .null]) (ty := (tyX1 0)) (q := 13) hX hnm h rfl tyX1 tyX1_ok nmX1 rfl rfl iG1 k1_113 rfl rfl rfl (Nat.le_of_ble_eq_true rfl) (tyX1_ok 0 (by decide)) rfl rfl dX1_init_10 rfl ?_
    refine G_aload_n (q := 14) hX dX1_init_13 0 rfl rfl ?_
    refine G_iconst (v := 0) (q := 15) hX dX1_init_14 (by decide) rfl ?_
    refine G_put (c := 1) (p := 1) (nf := 7) (C := RX1) (T := TX1) (fs := [.ref (g.ad 27), .int 0, .int 0, .int 0, .int 0, .int 0, .null]) (fs' := [.ref (g.ad 27), .int (0), .int 0, .int 0, .int 0, .int 0, .null]) (ty := .int) (q := 18) hX rfl rfl tyX1 tyX1_ok nmX1 rfl rfl iG1 k1_114 rfl rfl (Nat.le_of_ble_eq_true rfl) (tyX1_ok 1 (by decide)) rfl rfl dX1_init_15 rfl ?_
    refine G_aload_n (q := 19) hX dX1_init_18 0 rfl rfl ?_
    refine G_iconst (v := 0) (q := 20) hX dX1_init_19 (by decide) rfl ?_
    refine G_put (c := 1) (p := 2) (nf := 7) (C := RX1) (T := TX1) (fs := [.ref (g.ad 27), .int (0), .int 0, .int 0, .int 0, .int 0, .null]) (fs' := [.ref (g.ad 27), .int (0), .int (0), .int 0, .int 0, .int 0, .null]) (ty := .int) (q := 23) hX rfl rfl tyX1 tyX1_ok nmX1 rfl rfl iG1 k1_116 rfl rfl (Nat.le_of_ble_eq_true rfl) (tyX1_ok 2 (by decide)) rfl rfl dX1_init_20 rfl ?_
    refine G_aload_n (q := 24) hX dX1_init_23 0 rfl rfl ?_
    refine G_iconst (v := 0) (q := 25) hX dX1_init_24 (by decide) rfl ?_
    refine G_put (c := 1) (p := 3) (nf := 7) (C := RX1) (T := TX1) (fs := [.ref (g.ad 27), .int (0), .int (0), .int 0, .int 0, .int 0, .null]) (fs' := [.ref (g.ad 27), .int (0), .int (0), .int (0), .int 0, .int 0, .null]) (ty := .int) (q := 28) hX rfl rfl tyX1 tyX1_ok nmX1 rfl rfl iG1 k1_117 rfl rfl (Nat.le_of_ble_eq_true rfl) (tyX1_ok 3 (by decide)) rfl rfl dX1_init_25 rfl ?_
    refine G_aload_n (q := 29) hX dX1_init_28 0 rfl rfl ?_
    refine G_iconst (v := -1) (q := 30) hX dX1_init_29 (by decide) rfl ?_
    refine G_put (c := 1) (p := 4) (nf := 7) (C := RX1) (T := TX1) (fs := [.ref (g.ad 27), .int (0), .int (0), .int (0), .int 0, .int 0, .null]) (fs' := [.ref (g.ad 27), .int (0), .int (0), .int (0), .int (-1), .int 0, .null]) (ty := .int) (q := 33) hX rfl rfl tyX1 tyX1_ok nmX1 rfl rfl iG1 k1_118 rfl rfl (Nat.le_of_ble_eq_true rfl) (tyX1_ok 4 (by decide)) rfl rfl dX1_init_30 rfl ?_
    refine G_aload_n (q := 34) hX dX1_init_33 0 rfl rfl ?_
    refine G_iconst (v := 0) (q := 35) hX dX1_init_34 (by decide) rfl ?_
    refine G_put (c := 1) (p := 5) (nf := 7) (C := RX1) (T := TX1) (fs := [.ref (g.ad 27), .int (0), .int (0), .int (0), .int (-1), .int 0, .null]) (fs' := [.ref (g.ad 27), .int (0), .int (0), .int (0), .int (-1), .int (0), .null]) (ty := .int) (q := 38) hX rfl rfl tyX1 tyX1_ok nmX1 rfl rfl iG1 k1_119 rfl rfl (Nat.le_of_ble_eq_true rfl) (tyX1_ok 5 (by decide)) rfl rfl dX1_init_35 rfl ?_
    refine G_aload_n (q := 39) hX dX1_init_38 0 rfl rfl ?_
    refine G_new (n0 := 27) (c := 6) (nf := 3) (C := RX6) (T := TX6) (fs := [.null, .null, .int 0]) (q := 42) hX tyX6 tyX6_ok rfl iG6 k1_94 k1_95 k1_5 (by decide) rfl dX1_init_39 rfl ?_
    refine G_dup (q := 43) hX dX1_init_42 rfl rfl ?_
    refine G_cin (n0 := 27) (host := "RingOfStraw") (As := []) (j := mi6) (q := 46) hX (ct6_28 hX.2.2.2.2.1 hX.2.2.2.2.2.1 rfl) (by decide +kernel) k1_97 k1_5 k1_98 rfl (nA := 0) (by decide) rfl rfl rfl rfl dX1_init_43 rfl ?_
    refine G_put (c := 1) (p := 6) (nf := 7) (C := RX1) (T := TX1) (fs := [.ref (g.ad 27), .int (0), .int (0), .int (0), .int (-1), .int (0), .null]) (fs' := [.ref (g.ad 27), .int (0), .int (0), .int (0), .int (-1), .int (0), .ref (g.ad 28)]) (ty := (tyX1 6)) (q := 49) hX rfl rfl tyX1 tyX1_ok nmX1 rfl rfl iG1 k1_120 rfl rfl (Nat.le_of_ble_eq_true rfl) (tyX1_ok 6 (by decide)) rfl rfl dX1_init_46 rfl ?_
    exact G_ret hX hQ rfl rfl dX1_init_49)
def cr2_33 (g : GT) (cf : Nat → va_E) : Nat → va_E := put (put (cf) 34 (.inl (g.cA 10, 160, .inl (fun _ => 0)))) 33 (.inr (2, [.ref (g.ad 34)]))
set_option maxRecDepth 100000 in
set_option maxHeartbeats 8000000 in
theorem ct2_33 {g : GT} {l : Launch} {cf : Nat → va_E} (hg : OkG g) (hL : Lin g) (h : cf 33 = .inr (2, [.null])) : CtC g l mi2 yX2_init [.ref (g.ad 33)] 34 cf 35 (cr2_33 g cf) 1 160 :=
  CtC.of hg hL (by decide) rfl rfl rfl rfl (fun X hX hnm hl hQ => by
    refine GV.pick (lv' := [(0, .ref (g.ad 33))]) [0] rfl ?_
    refine G_aload_n (q := 1) hX dX2_init_0 0 rfl rfl ?_
    refine G_obj (q := 4) hX k1_145 rfl dX2_init_1 rfl ?_
    refine G_aload_n (q := 5) hX dX2_init_4 0 rfl rfl ?_
    refine G_sipush (v := 160) (q := 8) hX dX2_init_5 (by decide) rfl ?_
    refine G_newa (n0 := 34) (len := 160) (q := 10) hX (by decide) rfl dX2_init_8 rfl ?_
    refine G_putF (c := 2) (p := 0) (nf := 1) (C := RX2) (T := TX2) (fs := [.null]) (fs' := [.ref (g.ad 34)]) (ty := (tyX2 0)) (q := 13) hX hnm h rfl tyX2 tyX2_ok nmX2 rfl rfl iG2 k1_146 rfl rfl rfl (Nat.le_of_ble_eq_true rfl) (tyX2_ok 0 (by decide)) rfl rfl dX2_init_10 rfl ?_
    exact G_ret hX hQ rfl rfl dX2_init_13)
def cr7_39 (g : GT) (cf : Nat → va_E) : Nat → va_E := cf
set_option maxRecDepth 100000 in
set_option maxHeartbeats 8000000 in
theorem ct7_39 {g : GT} {l : Launch} {cf : Nat → va_E} (hg : OkG g) (hL : Lin g) (h : cf 39 = .inr (7, [.int 0, .int 0, .int 0, .int 0, .int 0, .int 0, .int 0])) : CtC g l mi7 yX7_init [.ref (g.ad 39)] 40 cf 40 (cr7_39 g cf) 0 0 :=
  CtC.of hg hL (by decide) rfl rfl rfl rfl (fun X hX hnm hl hQ => by
    refine GV.pick (lv' := [(0, .ref (g.ad 39))]) [0] rfl ?_
    refine G_aload_n (q := 1) hX dX7_init_0 0 rfl rfl ?_
    refine G_obj (q := 4) hX k1_39 rfl dX7_init_1 rfl ?_
    exact G_ret hX hQ rfl rfl dX7_init_4)
def cr6_40 (g : GT) (cf : Nat → va_E) : Nat → va_E := put (put (put (put (put (cf) 41 (.inl (g.cA 10, 160, .inl (fun _ => 0)))) 40 (.inr (6, [.ref (g.ad 41), .null, .int 0]))) 42 (.inl (g.cA 10, 3, .inl (fun _ => 0)))) 40 (.inr (6, [.ref (g.ad 41), .ref (g.ad 42), .int 0]))) 40 (.inr (6, [.ref (g.ad 41), .ref (g.ad 42), .int (0)]))
set_option maxRecDepth 100000 in
set_option maxHeartbeats 8000000 in
theorem ct6_40 {g : GT} {l : Launch} {cf : Nat → va_E} (hg : OkG g) (hL : Lin g) (h : cf 40 = .inr (6, [.null, .null, .int 0])) : CtC g l mi6 yX6_init [.ref (g.ad 40)] 41 cf 43 (cr6_40 g cf) 2 163 :=
  CtC.of hg hL (by decide) rfl rfl rfl rfl (fun X hX hnm hl hQ => by
    refine GV.pick (lv' := [(0, .ref (g.ad 40))]) [0] rfl ?_
    refine G_aload_n (q := 1) hX dX6_init_0 0 rfl rfl ?_
    refine G_obj (q := 4) hX k1_99 rfl dX6_init_1 rfl ?_
    refine G_aload_n (q := 5) hX dX6_init_4 0 rfl rfl ?_
    refine G_sipush (v := 160) (q := 8) hX dX6_init_5 (by decide) rfl ?_
    refine G_newa (n0 := 41) (len := 160) (q := 10) hX (by decide) rfl dX6_init_8 rfl ?_
    refine G_putF (c := 6) (p := 0) (nf := 3) (C := RX6) (T := TX6) (fs := [.null, .null, .int 0]) (fs' := [.ref (g.ad 41), .null, .int 0]) (ty := (tyX6 0)) (q := 13) hX hnm h rfl tyX6 tyX6_ok nmX6 rfl rfl iG6 k1_100 rfl rfl rfl (Nat.le_of_ble_eq_true rfl) (tyX6_ok 0 (by decide)) rfl rfl dX6_init_10 rfl ?_
    refine G_aload_n (q := 14) hX dX6_init_13 0 rfl rfl ?_
    refine G_iconst (v := 3) (q := 15) hX dX6_init_14 (by decide) rfl ?_
    refine G_newa (n0 := 41) (len := 3) (q := 17) hX (by decide) rfl dX6_init_15 rfl ?_
    refine G_putF (c := 6) (p := 1) (nf := 3) (C := RX6) (T := TX6) (fs := [.ref (g.ad 41), .null, .int 0]) (fs' := [.ref (g.ad 41), .ref (g.ad 42), .int 0]) (ty := (tyX6 1)) (q := 20) hX hnm rfl rfl tyX6 tyX6_ok nmX6 rfl rfl iG6 k1_102 rfl rfl rfl (Nat.le_of_ble_eq_true rfl) (tyX6_ok 1 (by decide)) rfl rfl dX6_init_17 rfl ?_
    refine G_aload_n (q := 21) hX dX6_init_20 0 rfl rfl ?_
    refine G_iconst (v := 0) (q := 22) hX dX6_init_21 (by decide) rfl ?_
    refine G_put (c := 6) (p := 2) (nf := 3) (C := RX6) (T := TX6) (fs := [.ref (g.ad 41), .ref (g.ad 42), .int 0]) (fs' := [.ref (g.ad 41), .ref (g.ad 42), .int (0)]) (ty := .int) (q := 25) hX rfl rfl tyX6 tyX6_ok nmX6 rfl rfl iG6 k1_103 rfl rfl (Nat.le_of_ble_eq_true rfl) (tyX6_ok 2 (by decide)) rfl rfl dX6_init_22 rfl ?_
    exact G_ret hX hQ rfl rfl dX6_init_25)
def cr4_37 (g : GT) (cf : Nat → va_E) : Nat → va_E := put (put (put (put (cr6_40 g (put (put (cr7_39 g (put (put (put (cf) 38 (.inl (g.cA 10, 144, .inl (fun _ => 0)))) 37 (.inr (4, [.null, .ref (g.ad 38), .null, .null, .int 0, .int 0]))) 39 (.inr (7, [.int 0, .int 0, .int 0, .int 0, .int 0, .int 0, .int 0])))) 37 (.inr (4, [.null, .ref (g.ad 38), .ref (g.ad 39), .null, .int 0, .int 0]))) 40 (.inr (6, [.null, .null, .int 0])))) 37 (.inr (4, [.null, .ref (g.ad 38), .ref (g.ad 39), .ref (g.ad 40), .int 0, .int 0]))) 37 (.inr (4, [.null, .ref (g.ad 38), .ref (g.ad 39), .ref (g.ad 40), .int (0), .int 0]))) 37 (.inr (4, [.null, .ref (g.ad 38), .ref (g.ad 39), .ref (g.ad 40), .int (0), .int (0)]))) 37 (.inr (4, [.ref (g.ad 33), .ref (g.ad 38), .ref (g.ad 39), .ref (g.ad 40), .int (0), .int (0)]))
set_option maxRecDepth 100000 in
set_option maxHeartbeats 8000000 in
theorem ct4_37 {g : GT} {l : Launch} {cf : Nat → va_E} (hg : OkG g) (hL : Lin g) (h : cf 37 = .inr (4, [.null, .null, .null, .null, .int 0, .int 0])) : CtC g l mi4 yX4_init [.ref (g.ad 37), .ref (g.ad 33)] 38 cf 43 (cr4_37 g cf) 5 317 :=
  CtC.of hg hL (by decide) rfl rfl rfl rfl (fun X hX hnm hl hQ => by
    refine GV.pick (lv' := [(0, .ref (g.ad 37)), (1, .ref (g.ad 33))]) [0, 1] rfl ?_
    refine G_aload_n (q := 1) hX dX4_init_0 0 rfl rfl ?_
    refine G_obj (q := 4) hX k1_161 rfl dX4_init_1 rfl ?_
    refine G_aload_n (q := 5) hX dX4_init_4 0 rfl rfl ?_
    refine G_sipush (v := 144) (q := 8) hX dX4_init_5 (by decide) rfl ?_
    refine G_newa (n0 := 38) (len := 144) (q := 10) hX (by decide) rfl dX4_init_8 rfl ?_
    refine G_putF (c := 4) (p := 1) (nf := 6) (C := RX4) (T := TX4) (fs := [.null, .null, .null, .null, .int 0, .int 0]) (fs' := [.null, .ref (g.ad 38), .null, .null, .int 0, .int 0]) (ty := (tyX4 1)) (q := 13) hX hnm h rfl tyX4 tyX4_ok nmX4 rfl rfl iG4 k1_167 rfl rfl rfl (Nat.le_of_ble_eq_true rfl) (tyX4_ok 1 (by decide)) rfl rfl dX4_init_10 rfl ?_
    refine G_aload_n (q := 14) hX dX4_init_13 0 rfl rfl ?_
    refine G_new (n0 := 38) (c := 7) (nf := 7) (C := RX7) (T := TX7) (fs := [.int 0, .int 0, .int 0, .int 0, .int 0, .int 0, .int 0]) (q := 17) hX tyX7 tyX7_ok rfl iG7 k1_162 k1_35 k1_3 (by decide) rfl dX4_init_14 rfl ?_
    refine G_dup (q := 18) hX dX4_init_17 rfl rfl ?_
    refine G_cin (n0 := 38) (host := "RingOfStraw") (As := []) (j := mi7) (q := 21) hX (ct7_39 hX.2.2.2.2.1 hX.2.2.2.2.2.1 rfl) (by decide +kernel) k1_37 k1_3 k1_38 rfl (nA := 0) (by decide) rfl rfl rfl rfl dX4_init_18 rfl ?_
    refine G_put (c := 4) (p := 2) (nf := 6) (C := RX4) (T := TX4) (fs := [.null, .ref (g.ad 38), .null, .null, .int 0, .int 0]) (fs' := [.null, .ref (g.ad 38), .ref (g.ad 39), .null, .int 0, .int 0]) (ty := (tyX4 2)) (q := 24) hX rfl rfl tyX4 tyX4_ok nmX4 rfl rfl iG4 k1_168 rfl rfl (Nat.le_of_ble_eq_true rfl) (tyX4_ok 2 (by decide)) rfl rfl dX4_init_21 rfl ?_
    refine G_aload_n (q := 25) hX dX4_init_24 0 rfl rfl ?_
    refine G_new (n0 := 38) (c := 6) (nf := 3) (C := RX6) (T := TX6) (fs := [.null, .null, .int 0]) (q := 28) hX tyX6 tyX6_ok rfl iG6 k1_164 k1_95 k1_5 (by decide) rfl dX4_init_25 rfl ?_
    refine G_dup (q := 29) hX dX4_init_28 rfl rfl ?_
    refine G_cin (n0 := 38) (host := "RingOfStraw") (As := []) (j := mi6) (q := 32) hX (ct6_40 hX.2.2.2.2.1 hX.2.2.2.2.2.1 rfl) (by decide +kernel) k1_97 k1_5 k1_98 rfl (nA := 0) (by decide) rfl rfl rfl rfl dX4_init_29 rfl ?_
    refine G_put (c := 4) (p := 3) (nf := 6) (C := RX4) (T := TX4) (fs := [.null, .ref (g.ad 38), .ref (g.ad 39), .null, .int 0, .int 0]) (fs' := [.null, .ref (g.ad 38), .ref (g.ad 39), .ref (g.ad 40), .int 0, .int 0]) (ty := (tyX4 3)) (q := 35) hX rfl rfl tyX4 tyX4_ok nmX4 rfl rfl iG4 k1_169 rfl rfl (Nat.le_of_ble_eq_true rfl) (tyX4_ok 3 (by decide)) rfl rfl dX4_init_32 rfl ?_
    refine G_aload_n (q := 36) hX dX4_init_35 0 rfl rfl ?_
    refine G_iconst (v := 0) (q := 37) hX dX4_init_36 (by decide) rfl ?_
    refine G_put (c := 4) (p := 4) (nf := 6) (C := RX4) (T := TX4) (fs := [.null, .ref (g.ad 38), .ref (g.ad 39), .ref (g.ad 40), .int 0, .int 0]) (fs' := [.null, .ref (g.ad 38), .ref (g.ad 39), .ref (g.ad 40), .int (0), .int 0]) (ty := .int) (q := 40) hX rfl rfl tyX4 tyX4_ok nmX4 rfl rfl iG4 k1_170 rfl rfl (Nat.le_of_ble_eq_true rfl) (tyX4_ok 4 (by decide)) rfl rfl dX4_init_37 rfl ?_
    refine G_aload_n (q := 41) hX dX4_init_40 0 rfl rfl ?_
    refine G_iconst (v := 0) (q := 42) hX dX4_init_41 (by decide) rfl ?_
    refine G_put (c := 4) (p := 5) (nf := 6) (C := RX4) (T := TX4) (fs := [.null, .ref (g.ad 38), .ref (g.ad 39), .ref (g.ad 40), .int (0), .int 0]) (fs' := [.null, .ref (g.ad 38), .ref (g.ad 39), .ref (g.ad 40), .int (0), .int (0)]) (ty := .int) (q := 45) hX rfl rfl tyX4 tyX4_ok nmX4 rfl rfl iG4 k1_171 rfl rfl (Nat.le_of_ble_eq_true rfl) (tyX4_ok 5 (by decide)) rfl rfl dX4_init_42 rfl ?_
    refine G_aload_n (q := 46) hX dX4_init_45 0 rfl rfl ?_
    refine G_aload_n (q := 47) hX dX4_init_46 1 rfl rfl ?_
    refine G_putF (c := 4) (p := 0) (nf := 6) (C := RX4) (T := TX4) (fs := [.null, .ref (g.ad 38), .ref (g.ad 39), .ref (g.ad 40), .int (0), .int (0)]) (fs' := [.ref (g.ad 33), .ref (g.ad 38), .ref (g.ad 39), .ref (g.ad 40), .int (0), .int (0)]) (ty := (tyX4 0)) (q := 50) hX hnm rfl rfl tyX4 tyX4_ok nmX4 rfl rfl iG4 k1_166 rfl rfl rfl (Nat.le_of_ble_eq_true rfl) (tyX4_ok 0 (by decide)) rfl rfl dX4_init_47 rfl ?_
    exact G_ret hX hQ rfl rfl dX4_init_50)
def cr7_45 (g : GT) (cf : Nat → va_E) : Nat → va_E := cf
set_option maxRecDepth 100000 in
set_option maxHeartbeats 8000000 in
theorem ct7_45 {g : GT} {l : Launch} {cf : Nat → va_E} (hg : OkG g) (hL : Lin g) (h : cf 45 = .inr (7, [.int 0, .int 0, .int 0, .int 0, .int 0, .int 0, .int 0])) : CtC g l mi7 yX7_init [.ref (g.ad 45)] 46 cf 46 (cr7_45 g cf) 0 0 :=
  CtC.of hg hL (by decide) rfl rfl rfl rfl (fun X hX hnm hl hQ => by
    refine GV.pick (lv' := [(0, .ref (g.ad 45))]) [0] rfl ?_
    refine G_aload_n (q := 1) hX dX7_init_0 0 rfl rfl ?_
    refine G_obj (q := 4) hX k1_39 rfl dX7_init_1 rfl ?_
    exact G_ret hX hQ rfl rfl dX7_init_4)
def cr6_46 (g : GT) (cf : Nat → va_E) : Nat → va_E := put (put (put (put (put (cf) 47 (.inl (g.cA 10, 160, .inl (fun _ => 0)))) 46 (.inr (6, [.ref (g.ad 47), .null, .int 0]))) 48 (.inl (g.cA 10, 3, .inl (fun _ => 0)))) 46 (.inr (6, [.ref (g.ad 47), .ref (g.ad 48), .int 0]))) 46 (.inr (6, [.ref (g.ad 47), .ref (g.ad 48), .int (0)]))
set_option maxRecDepth 100000 in
set_option maxHeartbeats 8000000 in
theorem ct6_46 {g : GT} {l : Launch} {cf : Nat → va_E} (hg : OkG g) (hL : Lin g) (h : cf 46 = .inr (6, [.null, .null, .int 0])) : CtC g l mi6 yX6_init [.ref (g.ad 46)] 47 cf 49 (cr6_46 g cf) 2 163 :=
  CtC.of hg hL (by decide) rfl rfl rfl rfl (fun X hX hnm hl hQ => by
    refine GV.pick (lv' := [(0, .ref (g.ad 46))]) [0] rfl ?_
    refine G_aload_n (q := 1) hX dX6_init_0 0 rfl rfl ?_
    refine G_obj (q := 4) hX k1_99 rfl dX6_init_1 rfl ?_
    refine G_aload_n (q := 5) hX dX6_init_4 0 rfl rfl ?_
    refine G_sipush (v := 160) (q := 8) hX dX6_init_5 (by decide) rfl ?_
    refine G_newa (n0 := 47) (len := 160) (q := 10) hX (by decide) rfl dX6_init_8 rfl ?_
    refine G_putF (c := 6) (p := 0) (nf := 3) (C := RX6) (T := TX6) (fs := [.null, .null, .int 0]) (fs' := [.ref (g.ad 47), .null, .int 0]) (ty := (tyX6 0)) (q := 13) hX hnm h rfl tyX6 tyX6_ok nmX6 rfl rfl iG6 k1_100 rfl rfl rfl (Nat.le_of_ble_eq_true rfl) (tyX6_ok 0 (by decide)) rfl rfl dX6_init_10 rfl ?_
    refine G_aload_n (q := 14) hX dX6_init_13 0 rfl rfl ?_
    refine G_iconst (v := 3) (q := 15) hX dX6_init_14 (by decide) rfl ?_
    refine G_newa (n0 := 47) (len := 3) (q := 17) hX (by decide) rfl dX6_init_15 rfl ?_
    refine G_putF (c := 6) (p := 1) (nf := 3) (C := RX6) (T := TX6) (fs := [.ref (g.ad 47), .null, .int 0]) (fs' := [.ref (g.ad 47), .ref (g.ad 48), .int 0]) (ty := (tyX6 1)) (q := 20) hX hnm rfl rfl tyX6 tyX6_ok nmX6 rfl rfl iG6 k1_102 rfl rfl rfl (Nat.le_of_ble_eq_true rfl) (tyX6_ok 1 (by decide)) rfl rfl dX6_init_17 rfl ?_
    refine G_aload_n (q := 21) hX dX6_init_20 0 rfl rfl ?_
    refine G_iconst (v := 0) (q := 22) hX dX6_init_21 (by decide) rfl ?_
    refine G_put (c := 6) (p := 2) (nf := 3) (C := RX6) (T := TX6) (fs := [.ref (g.ad 47), .ref (g.ad 48), .int 0]) (fs' := [.ref (g.ad 47), .ref (g.ad 48), .int (0)]) (ty := .int) (q := 25) hX rfl rfl tyX6 tyX6_ok nmX6 rfl rfl iG6 k1_103 rfl rfl (Nat.le_of_ble_eq_true rfl) (tyX6_ok 2 (by decide)) rfl rfl dX6_init_22 rfl ?_
    exact G_ret hX hQ rfl rfl dX6_init_25)
def cr4_43 (g : GT) (cf : Nat → va_E) : Nat → va_E := put (put (put (put (cr6_46 g (put (put (cr7_45 g (put (put (put (cf) 44 (.inl (g.cA 10, 144, .inl (fun _ => 0)))) 43 (.inr (4, [.null, .ref (g.ad 44), .null, .null, .int 0, .int 0]))) 45 (.inr (7, [.int 0, .int 0, .int 0, .int 0, .int 0, .int 0, .int 0])))) 43 (.inr (4, [.null, .ref (g.ad 44), .ref (g.ad 45), .null, .int 0, .int 0]))) 46 (.inr (6, [.null, .null, .int 0])))) 43 (.inr (4, [.null, .ref (g.ad 44), .ref (g.ad 45), .ref (g.ad 46), .int 0, .int 0]))) 43 (.inr (4, [.null, .ref (g.ad 44), .ref (g.ad 45), .ref (g.ad 46), .int (0), .int 0]))) 43 (.inr (4, [.null, .ref (g.ad 44), .ref (g.ad 45), .ref (g.ad 46), .int (0), .int (0)]))) 43 (.inr (4, [.ref (g.ad 33), .ref (g.ad 44), .ref (g.ad 45), .ref (g.ad 46), .int (0), .int (0)]))
set_option maxRecDepth 100000 in
set_option maxHeartbeats 8000000 in
theorem ct4_43 {g : GT} {l : Launch} {cf : Nat → va_E} (hg : OkG g) (hL : Lin g) (h : cf 43 = .inr (4, [.null, .null, .null, .null, .int 0, .int 0])) : CtC g l mi4 yX4_init [.ref (g.ad 43), .ref (g.ad 33)] 44 cf 49 (cr4_43 g cf) 5 317 :=
  CtC.of hg hL (by decide) rfl rfl rfl rfl (fun X hX hnm hl hQ => by
    refine GV.pick (lv' := [(0, .ref (g.ad 43)), (1, .ref (g.ad 33))]) [0, 1] rfl ?_
    refine G_aload_n (q := 1) hX dX4_init_0 0 rfl rfl ?_
    refine G_obj (q := 4) hX k1_161 rfl dX4_init_1 rfl ?_
    refine G_aload_n (q := 5) hX dX4_init_4 0 rfl rfl ?_
    refine G_sipush (v := 144) (q := 8) hX dX4_init_5 (by decide) rfl ?_
    refine G_newa (n0 := 44) (len := 144) (q := 10) hX (by decide) rfl dX4_init_8 rfl ?_
    refine G_putF (c := 4) (p := 1) (nf := 6) (C := RX4) (T := TX4) (fs := [.null, .null, .null, .null, .int 0, .int 0]) (fs' := [.null, .ref (g.ad 44), .null, .null, .int 0, .int 0]) (ty := (tyX4 1)) (q := 13) hX hnm h rfl tyX4 tyX4_ok nmX4 rfl rfl iG4 k1_167 rfl rfl rfl (Nat.le_of_ble_eq_true rfl) (tyX4_ok 1 (by decide)) rfl rfl dX4_init_10 rfl ?_
    refine G_aload_n (q := 14) hX dX4_init_13 0 rfl rfl ?_
    refine G_new (n0 := 44) (c := 7) (nf := 7) (C := RX7) (T := TX7) (fs := [.int 0, .int 0, .int 0, .int 0, .int 0, .int 0, .int 0]) (q := 17) hX tyX7 tyX7_ok rfl iG7 k1_162 k1_35 k1_3 (by decide) rfl dX4_init_14 rfl ?_
    refine G_dup (q := 18) hX dX4_init_17 rfl rfl ?_
    refine G_cin (n0 := 44) (host := "RingOfStraw") (As := []) (j := mi7) (q := 21) hX (ct7_45 hX.2.2.2.2.1 hX.2.2.2.2.2.1 rfl) (by decide +kernel) k1_37 k1_3 k1_38 rfl (nA := 0) (by decide) rfl rfl rfl rfl dX4_init_18 rfl ?_
    refine G_put (c := 4) (p := 2) (nf := 6) (C := RX4) (T := TX4) (fs := [.null, .ref (g.ad 44), .null, .null, .int 0, .int 0]) (fs' := [.null, .ref (g.ad 44), .ref (g.ad 45), .null, .int 0, .int 0]) (ty := (tyX4 2)) (q := 24) hX rfl rfl tyX4 tyX4_ok nmX4 rfl rfl iG4 k1_168 rfl rfl (Nat.le_of_ble_eq_true rfl) (tyX4_ok 2 (by decide)) rfl rfl dX4_init_21 rfl ?_
    refine G_aload_n (q := 25) hX dX4_init_24 0 rfl rfl ?_
    refine G_new (n0 := 44) (c := 6) (nf := 3) (C := RX6) (T := TX6) (fs := [.null, .null, .int 0]) (q := 28) hX tyX6 tyX6_ok rfl iG6 k1_164 k1_95 k1_5 (by decide) rfl dX4_init_25 rfl ?_
    refine G_dup (q := 29) hX dX4_init_28 rfl rfl ?_
    refine G_cin (n0 := 44) (host := "RingOfStraw") (As := []) (j := mi6) (q := 32) hX (ct6_46 hX.2.2.2.2.1 hX.2.2.2.2.2.1 rfl) (by decide +kernel) k1_97 k1_5 k1_98 rfl (nA := 0) (by decide) rfl rfl rfl rfl dX4_init_29 rfl ?_
    refine G_put (c := 4) (p := 3) (nf := 6) (C := RX4) (T := TX4) (fs := [.null, .ref (g.ad 44), .ref (g.ad 45), .null, .int 0, .int 0]) (fs' := [.null, .ref (g.ad 44), .ref (g.ad 45), .ref (g.ad 46), .int 0, .int 0]) (ty := (tyX4 3)) (q := 35) hX rfl rfl tyX4 tyX4_ok nmX4 rfl rfl iG4 k1_169 rfl rfl (Nat.le_of_ble_eq_true rfl) (tyX4_ok 3 (by decide)) rfl rfl dX4_init_32 rfl ?_
    refine G_aload_n (q := 36) hX dX4_init_35 0 rfl rfl ?_
    refine G_iconst (v := 0) (q := 37) hX dX4_init_36 (by decide) rfl ?_
    refine G_put (c := 4) (p := 4) (nf := 6) (C := RX4) (T := TX4) (fs := [.null, .ref (g.ad 44), .ref (g.ad 45), .ref (g.ad 46), .int 0, .int 0]) (fs' := [.null, .ref (g.ad 44), .ref (g.ad 45), .ref (g.ad 46), .int (0), .int 0]) (ty := .int) (q := 40) hX rfl rfl tyX4 tyX4_ok nmX4 rfl rfl iG4 k1_170 rfl rfl (Nat.le_of_ble_eq_true rfl) (tyX4_ok 4 (by decide)) rfl rfl dX4_init_37 rfl ?_
    refine G_aload_n (q := 41) hX dX4_init_40 0 rfl rfl ?_
    refine G_iconst (v := 0) (q := 42) hX dX4_init_41 (by decide) rfl ?_
    refine G_put (c := 4) (p := 5) (nf := 6) (C := RX4) (T := TX4) (fs := [.null, .ref (g.ad 44), .ref (g.ad 45), .ref (g.ad 46), .int (0), .int 0]) (fs' := [.null, .ref (g.ad 44), .ref (g.ad 45), .ref (g.ad 46), .int (0), .int (0)]) (ty := .int) (q := 45) hX rfl rfl tyX4 tyX4_ok nmX4 rfl rfl iG4 k1_171 rfl rfl (Nat.le_of_ble_eq_true rfl) (tyX4_ok 5 (by decide)) rfl rfl dX4_init_42 rfl ?_
    refine G_aload_n (q := 46) hX dX4_init_45 0 rfl rfl ?_
    refine G_aload_n (q := 47) hX dX4_init_46 1 rfl rfl ?_
    refine G_putF (c := 4) (p := 0) (nf := 6) (C := RX4) (T := TX4) (fs := [.null, .ref (g.ad 44), .ref (g.ad 45), .ref (g.ad 46), .int (0), .int (0)]) (fs' := [.ref (g.ad 33), .ref (g.ad 44), .ref (g.ad 45), .ref (g.ad 46), .int (0), .int (0)]) (ty := (tyX4 0)) (q := 50) hX hnm rfl rfl tyX4 tyX4_ok nmX4 rfl rfl iG4 k1_166 rfl rfl rfl (Nat.le_of_ble_eq_true rfl) (tyX4_ok 0 (by decide)) rfl rfl dX4_init_47 rfl ?_
    exact G_ret hX hQ rfl rfl dX4_init_50)
def cr0_35 (g : GT) (cf : Nat → va_E) : Nat → va_E := put (cr4_43 g (put (put (cr4_37 g (put (put (put (put (put (put (cf) 36 (.inl (g.cA 10, 10, .inl (fun _ => 0)))) 35 (.inr (0, [.null, .null, .ref (g.ad 36), .int 0, .int 0, .int 0]))) 35 (.inr (0, [.null, .null, .ref (g.ad 36), .int (4), .int 0, .int 0]))) 35 (.inr (0, [.null, .null, .ref (g.ad 36), .int (4), .int (0), .int 0]))) 35 (.inr (0, [.null, .null, .ref (g.ad 36), .int (4), .int (0), .int (0)]))) 37 (.inr (4, [.null, .null, .null, .null, .int 0, .int 0])))) 35 (.inr (0, [.ref (g.ad 37), .null, .ref (g.ad 36), .int (4), .int (0), .int (0)]))) 43 (.inr (4, [.null, .null, .null, .null, .int 0, .int 0])))) 35 (.inr (0, [.ref (g.ad 37), .ref (g.ad 43), .ref (g.ad 36), .int (4), .int (0), .int (0)]))
set_option maxRecDepth 100000 in
set_option maxHeartbeats 8000000 in
theorem ct0_35 {g : GT} {l : Launch} {cf : Nat → va_E} (hg : OkG g) (hL : Lin g) (h : cf 35 = .inr (0, [.null, .null, .null, .int 0, .int 0, .int 0])) : CtC g l mi0 yX0_init [.ref (g.ad 35), .ref (g.ad 33)] 36 cf 49 (cr0_35 g cf) 13 656 :=
  CtC.of hg hL (by decide) rfl rfl rfl rfl (fun X hX hnm hl hQ => by
    refine GV.pick (lv' := [(0, .ref (g.ad 35)), (1, .ref (g.ad 33))]) [0, 1] rfl ?_
    refine G_aload_n (q := 1) hX dX0_init_0 0 rfl rfl ?_
    refine G_obj (q := 4) hX k1_155 rfl dX0_init_1 rfl ?_
    refine G_aload_n (q := 5) hX dX0_init_4 0 rfl rfl ?_
    refine G_bipush (v := 10) (q := 7) hX dX0_init_5 (by decide) rfl ?_
    refine G_newa (n0 := 36) (len := 10) (q := 9) hX (by decide) rfl dX0_init_7 rfl ?_
    refine G_putF (c := 0) (p := 2) (nf := 6) (C := RX0) (T := TX0) (fs := [.null, .null, .null, .int 0, .int 0, .int 0]) (fs' := [.null, .null, .ref (g.ad 36), .int 0, .int 0, .int 0]) (ty := (tyX0 2)) (q := 12) hX hnm h rfl tyX0 tyX0_ok nmX0 rfl rfl iG0 k1_187 rfl rfl rfl (Nat.le_of_ble_eq_true rfl) (tyX0_ok 2 (by decide)) rfl rfl dX0_init_9 rfl ?_
    refine G_aload_n (q := 13) hX dX0_init_12 0 rfl rfl ?_
    refine G_iconst (v := 4) (q := 14) hX dX0_init_13 (by decide) rfl ?_
    refine G_put (c := 0) (p := 3) (nf := 6) (C := RX0) (T := TX0) (fs := [.null, .null, .ref (g.ad 36), .int 0, .int 0, .int 0]) (fs' := [.null, .null, .ref (g.ad 36), .int (4), .int 0, .int 0]) (ty := .int) (q := 17) hX rfl rfl tyX0 tyX0_ok nmX0 rfl rfl iG0 k1_188 rfl rfl (Nat.le_of_ble_eq_true rfl) (tyX0_ok 3 (by decide)) rfl rfl dX0_init_14 rfl ?_
    refine G_aload_n (q := 18) hX dX0_init_17 0 rfl rfl ?_
    refine G_iconst (v := 0) (q := 19) hX dX0_init_18 (by decide) rfl ?_
    refine G_put (c := 0) (p := 4) (nf := 6) (C := RX0) (T := TX0) (fs := [.null, .null, .ref (g.ad 36), .int (4), .int 0, .int 0]) (fs' := [.null, .null, .ref (g.ad 36), .int (4), .int (0), .int 0]) (ty := .int) (q := 22) hX rfl rfl tyX0 tyX0_ok nmX0 rfl rfl iG0 k1_189 rfl rfl (Nat.le_of_ble_eq_true rfl) (tyX0_ok 4 (by decide)) rfl rfl dX0_init_19 rfl ?_
    refine G_aload_n (q := 23) hX dX0_init_22 0 rfl rfl ?_
    refine G_iconst (v := 0) (q := 24) hX dX0_init_23 (by decide) rfl ?_
    refine G_put (c := 0) (p := 5) (nf := 6) (C := RX0) (T := TX0) (fs := [.null, .null, .ref (g.ad 36), .int (4), .int (0), .int 0]) (fs' := [.null, .null, .ref (g.ad 36), .int (4), .int (0), .int (0)]) (ty := .int) (q := 27) hX rfl rfl tyX0 tyX0_ok nmX0 rfl rfl iG0 k1_191 rfl rfl (Nat.le_of_ble_eq_true rfl) (tyX0_ok 5 (by decide)) rfl rfl dX0_init_24 rfl ?_
    refine G_aload_n (q := 28) hX dX0_init_27 0 rfl rfl ?_
    refine G_new (n0 := 36) (c := 4) (nf := 6) (C := RX4) (T := TX4) (fs := [.null, .null, .null, .null, .int 0, .int 0]) (q := 31) hX tyX4 tyX4_ok rfl iG4 k1_156 k1_157 k1_8 (by decide) rfl dX0_init_28 rfl ?_
    refine G_dup (q := 32) hX dX0_init_31 rfl rfl ?_
    refine G_aload_n (q := 33) hX dX0_init_32 1 rfl rfl ?_
    refine G_ci (n0 := 36) (As := [.ref (g.ad 33)]) (j := mi4) (q := 36) hX (ct4_37 hX.2.2.2.2.1 hX.2.2.2.2.2.1 rfl) k1_158 k1_159 k1_8 k1_160 rfl (nA := 1) (by decide) rfl rfl rfl rfl dX0_init_33 rfl ?_
    refine G_putF (c := 0) (p := 0) (nf := 6) (C := RX0) (T := TX0) (fs := [.null, .null, .ref (g.ad 36), .int (4), .int (0), .int (0)]) (fs' := [.ref (g.ad 37), .null, .ref (g.ad 36), .int (4), .int (0), .int (0)]) (ty := (tyX0 0)) (q := 39) hX hnm rfl rfl tyX0 tyX0_ok nmX0 rfl rfl iG0 k1_185 rfl rfl rfl (Nat.le_of_ble_eq_true rfl) (tyX0_ok 0 (by decide)) rfl rfl dX0_init_36 rfl ?_
    refine G_aload_n (q := 40) hX dX0_init_39 0 rfl rfl ?_
    refine G_new (n0 := 36) (c := 4) (nf := 6) (C := RX4) (T := TX4) (fs := [.null, .null, .null, .null, .int 0, .int 0]) (q := 43) hX tyX4 tyX4_ok rfl iG4 k1_156 k1_157 k1_8 (by decide) rfl dX0_init_40 rfl ?_
    refine G_dup (q := 44) hX dX0_init_43 rfl rfl ?_
    refine G_aload_n (q := 45) hX dX0_init_44 1 rfl rfl ?_
    refine G_ci (n0 := 36) (As := [.ref (g.ad 33)]) (j := mi4) (q := 48) hX (ct4_43 hX.2.2.2.2.1 hX.2.2.2.2.2.1 rfl) k1_158 k1_159 k1_8 k1_160 rfl (nA := 1) (by decide) rfl rfl rfl rfl dX0_init_45 rfl ?_
    refine G_putF (c := 0) (p := 1) (nf := 6) (C := RX0) (T := TX0) (fs := [.ref (g.ad 37), .null, .ref (g.ad 36), .int (4), .int (0), .int (0)]) (fs' := [.ref (g.ad 37), .ref (g.ad 43), .ref (g.ad 36), .int (4), .int (0), .int (0)]) (ty := (tyX0 1)) (q := 51) hX hnm rfl rfl tyX0 tyX0_ok nmX0 rfl rfl iG0 k1_186 rfl rfl rfl (Nat.le_of_ble_eq_true rfl) (tyX0_ok 1 (by decide)) rfl rfl dX0_init_48 rfl ?_
    exact G_ret hX hQ rfl rfl dX0_init_51)
def cr6_49 (g : GT) (cf : Nat → va_E) : Nat → va_E := put (put (put (put (put (cf) 50 (.inl (g.cA 10, 160, .inl (fun _ => 0)))) 49 (.inr (6, [.ref (g.ad 50), .null, .int 0]))) 51 (.inl (g.cA 10, 3, .inl (fun _ => 0)))) 49 (.inr (6, [.ref (g.ad 50), .ref (g.ad 51), .int 0]))) 49 (.inr (6, [.ref (g.ad 50), .ref (g.ad 51), .int (0)]))
set_option maxRecDepth 100000 in
set_option maxHeartbeats 8000000 in
theorem ct6_49 {g : GT} {l : Launch} {cf : Nat → va_E} (hg : OkG g) (hL : Lin g) (h : cf 49 = .inr (6, [.null, .null, .int 0])) : CtC g l mi6 yX6_init [.ref (g.ad 49)] 50 cf 52 (cr6_49 g cf) 2 163 :=
  CtC.of hg hL (by decide) rfl rfl rfl rfl (fun X hX hnm hl hQ => by
    refine GV.pick (lv' := [(0, .ref (g.ad 49))]) [0] rfl ?_
    refine G_aload_n (q := 1) hX dX6_init_0 0 rfl rfl ?_
    refine G_obj (q := 4) hX k1_99 rfl dX6_init_1 rfl ?_
    refine G_aload_n (q := 5) hX dX6_init_4 0 rfl rfl ?_
    refine G_sipush (v := 160) (q := 8) hX dX6_init_5 (by decide) rfl ?_
    refine G_newa (n0 := 50) (len := 160) (q := 10) hX (by decide) rfl dX6_init_8 rfl ?_
    refine G_putF (c := 6) (p := 0) (nf := 3) (C := RX6) (T := TX6) (fs := [.null, .null, .int 0]) (fs' := [.ref (g.ad 50), .null, .int 0]) (ty := (tyX6 0)) (q := 13) hX hnm h rfl tyX6 tyX6_ok nmX6 rfl rfl iG6 k1_100 rfl rfl rfl (Nat.le_of_ble_eq_true rfl) (tyX6_ok 0 (by decide)) rfl rfl dX6_init_10 rfl ?_
    refine G_aload_n (q := 14) hX dX6_init_13 0 rfl rfl ?_
    refine G_iconst (v := 3) (q := 15) hX dX6_init_14 (by decide) rfl ?_
    refine G_newa (n0 := 50) (len := 3) (q := 17) hX (by decide) rfl dX6_init_15 rfl ?_
    refine G_putF (c := 6) (p := 1) (nf := 3) (C := RX6) (T := TX6) (fs := [.ref (g.ad 50), .null, .int 0]) (fs' := [.ref (g.ad 50), .ref (g.ad 51), .int 0]) (ty := (tyX6 1)) (q := 20) hX hnm rfl rfl tyX6 tyX6_ok nmX6 rfl rfl iG6 k1_102 rfl rfl rfl (Nat.le_of_ble_eq_true rfl) (tyX6_ok 1 (by decide)) rfl rfl dX6_init_17 rfl ?_
    refine G_aload_n (q := 21) hX dX6_init_20 0 rfl rfl ?_
    refine G_iconst (v := 0) (q := 22) hX dX6_init_21 (by decide) rfl ?_
    refine G_put (c := 6) (p := 2) (nf := 3) (C := RX6) (T := TX6) (fs := [.ref (g.ad 50), .ref (g.ad 51), .int 0]) (fs' := [.ref (g.ad 50), .ref (g.ad 51), .int (0)]) (ty := .int) (q := 25) hX rfl rfl tyX6 tyX6_ok nmX6 rfl rfl iG6 k1_103 rfl rfl (Nat.le_of_ble_eq_true rfl) (tyX6_ok 2 (by decide)) rfl rfl dX6_init_22 rfl ?_
    exact G_ret hX hQ rfl rfl dX6_init_25)
def cr6_52 (g : GT) (cf : Nat → va_E) : Nat → va_E := put (put (put (put (put (cf) 53 (.inl (g.cA 10, 160, .inl (fun _ => 0)))) 52 (.inr (6, [.ref (g.ad 53), .null, .int 0]))) 54 (.inl (g.cA 10, 3, .inl (fun _ => 0)))) 52 (.inr (6, [.ref (g.ad 53), .ref (g.ad 54), .int 0]))) 52 (.inr (6, [.ref (g.ad 53), .ref (g.ad 54), .int (0)]))
set_option maxRecDepth 100000 in
set_option maxHeartbeats 8000000 in
theorem ct6_52 {g : GT} {l : Launch} {cf : Nat → va_E} (hg : OkG g) (hL : Lin g) (h : cf 52 = .inr (6, [.null, .null, .int 0])) : CtC g l mi6 yX6_init [.ref (g.ad 52)] 53 cf 55 (cr6_52 g cf) 2 163 :=
  CtC.of hg hL (by decide) rfl rfl rfl rfl (fun X hX hnm hl hQ => by
    refine GV.pick (lv' := [(0, .ref (g.ad 52))]) [0] rfl ?_
    refine G_aload_n (q := 1) hX dX6_init_0 0 rfl rfl ?_
    refine G_obj (q := 4) hX k1_99 rfl dX6_init_1 rfl ?_
    refine G_aload_n (q := 5) hX dX6_init_4 0 rfl rfl ?_
    refine G_sipush (v := 160) (q := 8) hX dX6_init_5 (by decide) rfl ?_
    refine G_newa (n0 := 53) (len := 160) (q := 10) hX (by decide) rfl dX6_init_8 rfl ?_
    refine G_putF (c := 6) (p := 0) (nf := 3) (C := RX6) (T := TX6) (fs := [.null, .null, .int 0]) (fs' := [.ref (g.ad 53), .null, .int 0]) (ty := (tyX6 0)) (q := 13) hX hnm h rfl tyX6 tyX6_ok nmX6 rfl rfl iG6 k1_100 rfl rfl rfl (Nat.le_of_ble_eq_true rfl) (tyX6_ok 0 (by decide)) rfl rfl dX6_init_10 rfl ?_
    refine G_aload_n (q := 14) hX dX6_init_13 0 rfl rfl ?_
    refine G_iconst (v := 3) (q := 15) hX dX6_init_14 (by decide) rfl ?_
    refine G_newa (n0 := 53) (len := 3) (q := 17) hX (by decide) rfl dX6_init_15 rfl ?_
    refine G_putF (c := 6) (p := 1) (nf := 3) (C := RX6) (T := TX6) (fs := [.ref (g.ad 53), .null, .int 0]) (fs' := [.ref (g.ad 53), .ref (g.ad 54), .int 0]) (ty := (tyX6 1)) (q := 20) hX hnm rfl rfl tyX6 tyX6_ok nmX6 rfl rfl iG6 k1_102 rfl rfl rfl (Nat.le_of_ble_eq_true rfl) (tyX6_ok 1 (by decide)) rfl rfl dX6_init_17 rfl ?_
    refine G_aload_n (q := 21) hX dX6_init_20 0 rfl rfl ?_
    refine G_iconst (v := 0) (q := 22) hX dX6_init_21 (by decide) rfl ?_
    refine G_put (c := 6) (p := 2) (nf := 3) (C := RX6) (T := TX6) (fs := [.ref (g.ad 53), .ref (g.ad 54), .int 0]) (fs' := [.ref (g.ad 53), .ref (g.ad 54), .int (0)]) (ty := .int) (q := 25) hX rfl rfl tyX6 tyX6_ok nmX6 rfl rfl iG6 k1_103 rfl rfl (Nat.le_of_ble_eq_true rfl) (tyX6_ok 2 (by decide)) rfl rfl dX6_init_22 rfl ?_
    exact G_ret hX hQ rfl rfl dX6_init_25)
def cr6_55 (g : GT) (cf : Nat → va_E) : Nat → va_E := put (put (put (put (put (cf) 56 (.inl (g.cA 10, 160, .inl (fun _ => 0)))) 55 (.inr (6, [.ref (g.ad 56), .null, .int 0]))) 57 (.inl (g.cA 10, 3, .inl (fun _ => 0)))) 55 (.inr (6, [.ref (g.ad 56), .ref (g.ad 57), .int 0]))) 55 (.inr (6, [.ref (g.ad 56), .ref (g.ad 57), .int (0)]))
set_option maxRecDepth 100000 in
set_option maxHeartbeats 8000000 in
theorem ct6_55 {g : GT} {l : Launch} {cf : Nat → va_E} (hg : OkG g) (hL : Lin g) (h : cf 55 = .inr (6, [.null, .null, .int 0])) : CtC g l mi6 yX6_init [.ref (g.ad 55)] 56 cf 58 (cr6_55 g cf) 2 163 :=
  CtC.of hg hL (by decide) rfl rfl rfl rfl (fun X hX hnm hl hQ => by
    refine GV.pick (lv' := [(0, .ref (g.ad 55))]) [0] rfl ?_
    refine G_aload_n (q := 1) hX dX6_init_0 0 rfl rfl ?_
    refine G_obj (q := 4) hX k1_99 rfl dX6_init_1 rfl ?_
    refine G_aload_n (q := 5) hX dX6_init_4 0 rfl rfl ?_
    refine G_sipush (v := 160) (q := 8) hX dX6_init_5 (by decide) rfl ?_
    refine G_newa (n0 := 56) (len := 160) (q := 10) hX (by decide) rfl dX6_init_8 rfl ?_
    refine G_putF (c := 6) (p := 0) (nf := 3) (C := RX6) (T := TX6) (fs := [.null, .null, .int 0]) (fs' := [.ref (g.ad 56), .null, .int 0]) (ty := (tyX6 0)) (q := 13) hX hnm h rfl tyX6 tyX6_ok nmX6 rfl rfl iG6 k1_100 rfl rfl rfl (Nat.le_of_ble_eq_true rfl) (tyX6_ok 0 (by decide)) rfl rfl dX6_init_10 rfl ?_
    refine G_aload_n (q := 14) hX dX6_init_13 0 rfl rfl ?_
    refine G_iconst (v := 3) (q := 15) hX dX6_init_14 (by decide) rfl ?_
    refine G_newa (n0 := 56) (len := 3) (q := 17) hX (by decide) rfl dX6_init_15 rfl ?_
    refine G_putF (c := 6) (p := 1) (nf := 3) (C := RX6) (T := TX6) (fs := [.ref (g.ad 56), .null, .int 0]) (fs' := [.ref (g.ad 56), .ref (g.ad 57), .int 0]) (ty := (tyX6 1)) (q := 20) hX hnm rfl rfl tyX6 tyX6_ok nmX6 rfl rfl iG6 k1_102 rfl rfl rfl (Nat.le_of_ble_eq_true rfl) (tyX6_ok 1 (by decide)) rfl rfl dX6_init_17 rfl ?_
    refine G_aload_n (q := 21) hX dX6_init_20 0 rfl rfl ?_
    refine G_iconst (v := 0) (q := 22) hX dX6_init_21 (by decide) rfl ?_
    refine G_put (c := 6) (p := 2) (nf := 3) (C := RX6) (T := TX6) (fs := [.ref (g.ad 56), .ref (g.ad 57), .int 0]) (fs' := [.ref (g.ad 56), .ref (g.ad 57), .int (0)]) (ty := .int) (q := 25) hX rfl rfl tyX6 tyX6_ok nmX6 rfl rfl iG6 k1_103 rfl rfl (Nat.le_of_ble_eq_true rfl) (tyX6_ok 2 (by decide)) rfl rfl dX6_init_22 rfl ?_
    exact G_ret hX hQ rfl rfl dX6_init_25)
def cr6_58 (g : GT) (cf : Nat → va_E) : Nat → va_E := put (put (put (put (put (cf) 59 (.inl (g.cA 10, 160, .inl (fun _ => 0)))) 58 (.inr (6, [.ref (g.ad 59), .null, .int 0]))) 60 (.inl (g.cA 10, 3, .inl (fun _ => 0)))) 58 (.inr (6, [.ref (g.ad 59), .ref (g.ad 60), .int 0]))) 58 (.inr (6, [.ref (g.ad 59), .ref (g.ad 60), .int (0)]))
set_option maxRecDepth 100000 in
set_option maxHeartbeats 8000000 in
theorem ct6_58 {g : GT} {l : Launch} {cf : Nat → va_E} (hg : OkG g) (hL : Lin g) (h : cf 58 = .inr (6, [.null, .null, .int 0])) : CtC g l mi6 yX6_init [.ref (g.ad 58)] 59 cf 61 (cr6_58 g cf) 2 163 :=
  CtC.of hg hL (by decide) rfl rfl rfl rfl (fun X hX hnm hl hQ => by
    refine GV.pick (lv' := [(0, .ref (g.ad 58))]) [0] rfl ?_
    refine G_aload_n (q := 1) hX dX6_init_0 0 rfl rfl ?_
    refine G_obj (q := 4) hX k1_99 rfl dX6_init_1 rfl ?_
    refine G_aload_n (q := 5) hX dX6_init_4 0 rfl rfl ?_
    refine G_sipush (v := 160) (q := 8) hX dX6_init_5 (by decide) rfl ?_
    refine G_newa (n0 := 59) (len := 160) (q := 10) hX (by decide) rfl dX6_init_8 rfl ?_
    refine G_putF (c := 6) (p := 0) (nf := 3) (C := RX6) (T := TX6) (fs := [.null, .null, .int 0]) (fs' := [.ref (g.ad 59), .null, .int 0]) (ty := (tyX6 0)) (q := 13) hX hnm h rfl tyX6 tyX6_ok nmX6 rfl rfl iG6 k1_100 rfl rfl rfl (Nat.le_of_ble_eq_true rfl) (tyX6_ok 0 (by decide)) rfl rfl dX6_init_10 rfl ?_
    refine G_aload_n (q := 14) hX dX6_init_13 0 rfl rfl ?_
    refine G_iconst (v := 3) (q := 15) hX dX6_init_14 (by decide) rfl ?_
    refine G_newa (n0 := 59) (len := 3) (q := 17) hX (by decide) rfl dX6_init_15 rfl ?_
    refine G_putF (c := 6) (p := 1) (nf := 3) (C := RX6) (T := TX6) (fs := [.ref (g.ad 59), .null, .int 0]) (fs' := [.ref (g.ad 59), .ref (g.ad 60), .int 0]) (ty := (tyX6 1)) (q := 20) hX hnm rfl rfl tyX6 tyX6_ok nmX6 rfl rfl iG6 k1_102 rfl rfl rfl (Nat.le_of_ble_eq_true rfl) (tyX6_ok 1 (by decide)) rfl rfl dX6_init_17 rfl ?_
    refine G_aload_n (q := 21) hX dX6_init_20 0 rfl rfl ?_
    refine G_iconst (v := 0) (q := 22) hX dX6_init_21 (by decide) rfl ?_
    refine G_put (c := 6) (p := 2) (nf := 3) (C := RX6) (T := TX6) (fs := [.ref (g.ad 59), .ref (g.ad 60), .int 0]) (fs' := [.ref (g.ad 59), .ref (g.ad 60), .int (0)]) (ty := .int) (q := 25) hX rfl rfl tyX6 tyX6_ok nmX6 rfl rfl iG6 k1_103 rfl rfl (Nat.le_of_ble_eq_true rfl) (tyX6_ok 2 (by decide)) rfl rfl dX6_init_22 rfl ?_
    exact G_ret hX hQ rfl rfl dX6_init_25)
def cr6_61 (g : GT) (cf : Nat → va_E) : Nat → va_E := put (put (put (put (put (cf) 62 (.inl (g.cA 10, 160, .inl (fun _ => 0)))) 61 (.inr (6, [.ref (g.ad 62), .null, .int 0]))) 63 (.inl (g.cA 10, 3, .inl (fun _ => 0)))) 61 (.inr (6, [.ref (g.ad 62), .ref (g.ad 63), .int 0]))) 61 (.inr (6, [.ref (g.ad 62), .ref (g.ad 63), .int (0)]))
set_option maxRecDepth 100000 in
set_option maxHeartbeats 8000000 in
theorem ct6_61 {g : GT} {l : Launch} {cf : Nat → va_E} (hg : OkG g) (hL : Lin g) (h : cf 61 = .inr (6, [.null, .null, .int 0])) : CtC g l mi6 yX6_init [.ref (g.ad 61)] 62 cf 64 (cr6_61 g cf) 2 163 :=
  CtC.of hg hL (by decide) rfl rfl rfl rfl (fun X hX hnm hl hQ => by
    refine GV.pick (lv' := [(0, .ref (g.ad 61))]) [0] rfl ?_
    refine G_aload_n (q := 1) hX dX6_init_0 0 rfl rfl ?_
    refine G_obj (q := 4) hX k1_99 rfl dX6_init_1 rfl ?_
    refine G_aload_n (q := 5) hX dX6_init_4 0 rfl rfl ?_
    refine G_sipush (v := 160) (q := 8) hX dX6_init_5 (by decide) rfl ?_
    refine G_newa (n0 := 62) (len := 160) (q := 10) hX (by decide) rfl dX6_init_8 rfl ?_
    refine G_putF (c := 6) (p := 0) (nf := 3) (C := RX6) (T := TX6) (fs := [.null, .null, .int 0]) (fs' := [.ref (g.ad 62), .null, .int 0]) (ty := (tyX6 0)) (q := 13) hX hnm h rfl tyX6 tyX6_ok nmX6 rfl rfl iG6 k1_100 rfl rfl rfl (Nat.le_of_ble_eq_true rfl) (tyX6_ok 0 (by decide)) rfl rfl dX6_init_10 rfl ?_
    refine G_aload_n (q := 14) hX dX6_init_13 0 rfl rfl ?_
    refine G_iconst (v := 3) (q := 15) hX dX6_init_14 (by decide) rfl ?_
    refine G_newa (n0 := 62) (len := 3) (q := 17) hX (by decide) rfl dX6_init_15 rfl ?_
    refine G_putF (c := 6) (p := 1) (nf := 3) (C := RX6) (T := TX6) (fs := [.ref (g.ad 62), .null, .int 0]) (fs' := [.ref (g.ad 62), .ref (g.ad 63), .int 0]) (ty := (tyX6 1)) (q := 20) hX hnm rfl rfl tyX6 tyX6_ok nmX6 rfl rfl iG6 k1_102 rfl rfl rfl (Nat.le_of_ble_eq_true rfl) (tyX6_ok 1 (by decide)) rfl rfl dX6_init_17 rfl ?_
    refine G_aload_n (q := 21) hX dX6_init_20 0 rfl rfl ?_
    refine G_iconst (v := 0) (q := 22) hX dX6_init_21 (by decide) rfl ?_
    refine G_put (c := 6) (p := 2) (nf := 3) (C := RX6) (T := TX6) (fs := [.ref (g.ad 62), .ref (g.ad 63), .int 0]) (fs' := [.ref (g.ad 62), .ref (g.ad 63), .int (0)]) (ty := .int) (q := 25) hX rfl rfl tyX6 tyX6_ok nmX6 rfl rfl iG6 k1_103 rfl rfl (Nat.le_of_ble_eq_true rfl) (tyX6_ok 2 (by decide)) rfl rfl dX6_init_22 rfl ?_
    exact G_ret hX hQ rfl rfl dX6_init_25)
def cr6_64 (g : GT) (cf : Nat → va_E) : Nat → va_E := put (put (put (put (put (cf) 65 (.inl (g.cA 10, 160, .inl (fun _ => 0)))) 64 (.inr (6, [.ref (g.ad 65), .null, .int 0]))) 66 (.inl (g.cA 10, 3, .inl (fun _ => 0)))) 64 (.inr (6, [.ref (g.ad 65), .ref (g.ad 66), .int 0]))) 64 (.inr (6, [.ref (g.ad 65), .ref (g.ad 66), .int (0)]))
set_option maxRecDepth 100000 in
set_option maxHeartbeats 8000000 in
theorem ct6_64 {g : GT} {l : Launch} {cf : Nat → va_E} (hg : OkG g) (hL : Lin g) (h : cf 64 = .inr (6, [.null, .null, .int 0])) : CtC g l mi6 yX6_init [.ref (g.ad 64)] 65 cf 67 (cr6_64 g cf) 2 163 :=
  CtC.of hg hL (by decide) rfl rfl rfl rfl (fun X hX hnm hl hQ => by
    refine GV.pick (lv' := [(0, .ref (g.ad 64))]) [0] rfl ?_
    refine G_aload_n (q := 1) hX dX6_init_0 0 rfl rfl ?_
    refine G_obj (q := 4) hX k1_99 rfl dX6_init_1 rfl ?_
    refine G_aload_n (q := 5) hX dX6_init_4 0 rfl rfl ?_
    refine G_sipush (v := 160) (q := 8) hX dX6_init_5 (by decide) rfl ?_
    refine G_newa (n0 := 65) (len := 160) (q := 10) hX (by decide) rfl dX6_init_8 rfl ?_
    refine G_putF (c := 6) (p := 0) (nf := 3) (C := RX6) (T := TX6) (fs := [.null, .null, .int 0]) (fs' := [.ref (g.ad 65), .null, .int 0]) (ty := (tyX6 0)) (q := 13) hX hnm h rfl tyX6 tyX6_ok nmX6 rfl rfl iG6 k1_100 rfl rfl rfl (Nat.le_of_ble_eq_true rfl) (tyX6_ok 0 (by decide)) rfl rfl dX6_init_10 rfl ?_
    refine G_aload_n (q := 14) hX dX6_init_13 0 rfl rfl ?_
    refine G_iconst (v := 3) (q := 15) hX dX6_init_14 (by decide) rfl ?_
    refine G_newa (n0 := 65) (len := 3) (q := 17) hX (by decide) rfl dX6_init_15 rfl ?_
    refine G_putF (c := 6) (p := 1) (nf := 3) (C := RX6) (T := TX6) (fs := [.ref (g.ad 65), .null, .int 0]) (fs' := [.ref (g.ad 65), .ref (g.ad 66), .int 0]) (ty := (tyX6 1)) (q := 20) hX hnm rfl rfl tyX6 tyX6_ok nmX6 rfl rfl iG6 k1_102 rfl rfl rfl (Nat.le_of_ble_eq_true rfl) (tyX6_ok 1 (by decide)) rfl rfl dX6_init_17 rfl ?_
    refine G_aload_n (q := 21) hX dX6_init_20 0 rfl rfl ?_
    refine G_iconst (v := 0) (q := 22) hX dX6_init_21 (by decide) rfl ?_
    refine G_put (c := 6) (p := 2) (nf := 3) (C := RX6) (T := TX6) (fs := [.ref (g.ad 65), .ref (g.ad 66), .int 0]) (fs' := [.ref (g.ad 65), .ref (g.ad 66), .int (0)]) (ty := .int) (q := 25) hX rfl rfl tyX6 tyX6_ok nmX6 rfl rfl iG6 k1_103 rfl rfl (Nat.le_of_ble_eq_true rfl) (tyX6_ok 2 (by decide)) rfl rfl dX6_init_22 rfl ?_
    exact G_ret hX hQ rfl rfl dX6_init_25)
def cr3_67 (g : GT) (cf : Nat → va_E) : Nat → va_E := put (put (put (put (cf) 68 (.inl (g.cA 10, 40, .inl (fun _ => 0)))) 67 (.inr (3, [.ref (g.ad 68), .int 0, .int 0]))) 67 (.inr (3, [.ref (g.ad 68), .int (-1), .int 0]))) 67 (.inr (3, [.ref (g.ad 68), .int (-1), .int (0)]))
set_option maxRecDepth 100000 in
set_option maxHeartbeats 8000000 in
theorem ct3_67 {g : GT} {l : Launch} {cf : Nat → va_E} (hg : OkG g) (hL : Lin g) (h : cf 67 = .inr (3, [.null, .int 0, .int 0])) : CtC g l mi3 yX3_init [.ref (g.ad 67)] 68 cf 69 (cr3_67 g cf) 1 40 :=
  CtC.of hg hL (by decide) rfl rfl rfl rfl (fun X hX hnm hl hQ => by
    refine GV.pick (lv' := [(0, .ref (g.ad 67))]) [0] rfl ?_
    refine G_aload_n (q := 1) hX dX3_init_0 0 rfl rfl ?_
    refine G_obj (q := 4) hX k1_211 rfl dX3_init_1 rfl ?_
    refine G_aload_n (q := 5) hX dX3_init_4 0 rfl rfl ?_
    refine G_bipush (v := 40) (q := 7) hX dX3_init_5 (by decide) rfl ?_
    refine G_newa (n0 := 68) (len := 40) (q := 9) hX (by decide) rfl dX3_init_7 rfl ?_
    refine G_putF (c := 3) (p := 0) (nf := 3) (C := RX3) (T := TX3) (fs := [.null, .int 0, .int 0]) (fs' := [.ref (g.ad 68), .int 0, .int 0]) (ty := (tyX3 0)) (q := 12) hX hnm h rfl tyX3 tyX3_ok nmX3 rfl rfl iG3 k1_212 rfl rfl rfl (Nat.le_of_ble_eq_true rfl) (tyX3_ok 0 (by decide)) rfl rfl dX3_init_9 rfl ?_
    refine G_aload_n (q := 13) hX dX3_init_12 0 rfl rfl ?_
    refine G_iconst (v := -1) (q := 14) hX dX3_init_13 (by decide) rfl ?_
    refine G_put (c := 3) (p := 1) (nf := 3) (C := RX3) (T := TX3) (fs := [.ref (g.ad 68), .int 0, .int 0]) (fs' := [.ref (g.ad 68), .int (-1), .int 0]) (ty := .int) (q := 17) hX rfl rfl tyX3 tyX3_ok nmX3 rfl rfl iG3 k1_214 rfl rfl (Nat.le_of_ble_eq_true rfl) (tyX3_ok 1 (by decide)) rfl rfl dX3_init_14 rfl ?_
    refine G_aload_n (q := 18) hX dX3_init_17 0 rfl rfl ?_
    refine G_iconst (v := 0) (q := 19) hX dX3_init_18 (by decide) rfl ?_
    refine G_put (c := 3) (p := 2) (nf := 3) (C := RX3) (T := TX3) (fs := [.ref (g.ad 68), .int (-1), .int 0]) (fs' := [.ref (g.ad 68), .int (-1), .int (0)]) (ty := .int) (q := 22) hX rfl rfl tyX3 tyX3_ok nmX3 rfl rfl iG3 k1_216 rfl rfl (Nat.le_of_ble_eq_true rfl) (tyX3_ok 2 (by decide)) rfl rfl dX3_init_19 rfl ?_
    exact G_ret hX hQ rfl rfl dX3_init_22)
def cr3_69 (g : GT) (cf : Nat → va_E) : Nat → va_E := put (put (put (put (cf) 70 (.inl (g.cA 10, 40, .inl (fun _ => 0)))) 69 (.inr (3, [.ref (g.ad 70), .int 0, .int 0]))) 69 (.inr (3, [.ref (g.ad 70), .int (-1), .int 0]))) 69 (.inr (3, [.ref (g.ad 70), .int (-1), .int (0)]))
set_option maxRecDepth 100000 in
set_option maxHeartbeats 8000000 in
theorem ct3_69 {g : GT} {l : Launch} {cf : Nat → va_E} (hg : OkG g) (hL : Lin g) (h : cf 69 = .inr (3, [.null, .int 0, .int 0])) : CtC g l mi3 yX3_init [.ref (g.ad 69)] 70 cf 71 (cr3_69 g cf) 1 40 :=
  CtC.of hg hL (by decide) rfl rfl rfl rfl (fun X hX hnm hl hQ => by
    refine GV.pick (lv' := [(0, .ref (g.ad 69))]) [0] rfl ?_
    refine G_aload_n (q := 1) hX dX3_init_0 0 rfl rfl ?_
    refine G_obj (q := 4) hX k1_211 rfl dX3_init_1 rfl ?_
    refine G_aload_n (q := 5) hX dX3_init_4 0 rfl rfl ?_
    refine G_bipush (v := 40) (q := 7) hX dX3_init_5 (by decide) rfl ?_
    refine G_newa (n0 := 70) (len := 40) (q := 9) hX (by decide) rfl dX3_init_7 rfl ?_
    refine G_putF (c := 3) (p := 0) (nf := 3) (C := RX3) (T := TX3) (fs := [.null, .int 0, .int 0]) (fs' := [.ref (g.ad 70), .int 0, .int 0]) (ty := (tyX3 0)) (q := 12) hX hnm h rfl tyX3 tyX3_ok nmX3 rfl rfl iG3 k1_212 rfl rfl rfl (Nat.le_of_ble_eq_true rfl) (tyX3_ok 0 (by decide)) rfl rfl dX3_init_9 rfl ?_
    refine G_aload_n (q := 13) hX dX3_init_12 0 rfl rfl ?_
    refine G_iconst (v := -1) (q := 14) hX dX3_init_13 (by decide) rfl ?_
    refine G_put (c := 3) (p := 1) (nf := 3) (C := RX3) (T := TX3) (fs := [.ref (g.ad 70), .int 0, .int 0]) (fs' := [.ref (g.ad 70), .int (-1), .int 0]) (ty := .int) (q := 17) hX rfl rfl tyX3 tyX3_ok nmX3 rfl rfl iG3 k1_214 rfl rfl (Nat.le_of_ble_eq_true rfl) (tyX3_ok 1 (by decide)) rfl rfl dX3_init_14 rfl ?_
    refine G_aload_n (q := 18) hX dX3_init_17 0 rfl rfl ?_
    refine G_iconst (v := 0) (q := 19) hX dX3_init_18 (by decide) rfl ?_
    refine G_put (c := 3) (p := 2) (nf := 3) (C := RX3) (T := TX3) (fs := [.ref (g.ad 70), .int (-1), .int 0]) (fs' := [.ref (g.ad 70), .int (-1), .int (0)]) (ty := .int) (q := 22) hX rfl rfl tyX3 tyX3_ok nmX3 rfl rfl iG3 k1_216 rfl rfl (Nat.le_of_ble_eq_true rfl) (tyX3_ok 2 (by decide)) rfl rfl dX3_init_19 rfl ?_
    exact G_ret hX hQ rfl rfl dX3_init_22)
def cr3_71 (g : GT) (cf : Nat → va_E) : Nat → va_E := put (put (put (put (cf) 72 (.inl (g.cA 10, 40, .inl (fun _ => 0)))) 71 (.inr (3, [.ref (g.ad 72), .int 0, .int 0]))) 71 (.inr (3, [.ref (g.ad 72), .int (-1), .int 0]))) 71 (.inr (3, [.ref (g.ad 72), .int (-1), .int (0)]))
set_option maxRecDepth 100000 in
set_option maxHeartbeats 8000000 in
theorem ct3_71 {g : GT} {l : Launch} {cf : Nat → va_E} (hg : OkG g) (hL : Lin g) (h : cf 71 = .inr (3, [.null, .int 0, .int 0])) : CtC g l mi3 yX3_init [.ref (g.ad 71)] 72 cf 73 (cr3_71 g cf) 1 40 :=
  CtC.of hg hL (by decide) rfl rfl rfl rfl (fun X hX hnm hl hQ => by
    refine GV.pick (lv' := [(0, .ref (g.ad 71))]) [0] rfl ?_
    refine G_aload_n (q := 1) hX dX3_init_0 0 rfl rfl ?_
    refine G_obj (q := 4) hX k1_211 rfl dX3_init_1 rfl ?_
    refine G_aload_n (q := 5) hX dX3_init_4 0 rfl rfl ?_
    refine G_bipush (v := 40) (q := 7) hX dX3_init_5 (by decide) rfl ?_
    refine G_newa (n0 := 72) (len := 40) (q := 9) hX (by decide) rfl dX3_init_7 rfl ?_
    refine G_putF (c := 3) (p := 0) (nf := 3) (C := RX3) (T := TX3) (fs := [.null, .int 0, .int 0]) (fs' := [.ref (g.ad 72), .int 0, .int 0]) (ty := (tyX3 0)) (q := 12) hX hnm h rfl tyX3 tyX3_ok nmX3 rfl rfl iG3 k1_212 rfl rfl rfl (Nat.le_of_ble_eq_true rfl) (tyX3_ok 0 (by decide)) rfl rfl dX3_init_9 rfl ?_
    refine G_aload_n (q := 13) hX dX3_init_12 0 rfl rfl ?_
    refine G_iconst (v := -1) (q := 14) hX dX3_init_13 (by decide) rfl ?_
    refine G_put (c := 3) (p := 1) (nf := 3) (C := RX3) (T := TX3) (fs := [.ref (g.ad 72), .int 0, .int 0]) (fs' := [.ref (g.ad 72), .int (-1), .int 0]) (ty := .int) (q := 17) hX rfl rfl tyX3 tyX3_ok nmX3 rfl rfl iG3 k1_214 rfl rfl (Nat.le_of_ble_eq_true rfl) (tyX3_ok 1 (by decide)) rfl rfl dX3_init_14 rfl ?_
    refine G_aload_n (q := 18) hX dX3_init_17 0 rfl rfl ?_
    refine G_iconst (v := 0) (q := 19) hX dX3_init_18 (by decide) rfl ?_
    refine G_put (c := 3) (p := 2) (nf := 3) (C := RX3) (T := TX3) (fs := [.ref (g.ad 72), .int (-1), .int 0]) (fs' := [.ref (g.ad 72), .int (-1), .int (0)]) (ty := .int) (q := 22) hX rfl rfl tyX3 tyX3_ok nmX3 rfl rfl iG3 k1_216 rfl rfl (Nat.le_of_ble_eq_true rfl) (tyX3_ok 2 (by decide)) rfl rfl dX3_init_19 rfl ?_
    exact G_ret hX hQ rfl rfl dX3_init_22)
def cr3_73 (g : GT) (cf : Nat → va_E) : Nat → va_E := put (put (put (put (cf) 74 (.inl (g.cA 10, 40, .inl (fun _ => 0)))) 73 (.inr (3, [.ref (g.ad 74), .int 0, .int 0]))) 73 (.inr (3, [.ref (g.ad 74), .int (-1), .int 0]))) 73 (.inr (3, [.ref (g.ad 74), .int (-1), .int (0)]))
set_option maxRecDepth 100000 in
set_option maxHeartbeats 8000000 in
theorem ct3_73 {g : GT} {l : Launch} {cf : Nat → va_E} (hg : OkG g) (hL : Lin g) (h : cf 73 = .inr (3, [.null, .int 0, .int 0])) : CtC g l mi3 yX3_init [.ref (g.ad 73)] 74 cf 75 (cr3_73 g cf) 1 40 :=
  CtC.of hg hL (by decide) rfl rfl rfl rfl (fun X hX hnm hl hQ => by
    refine GV.pick (lv' := [(0, .ref (g.ad 73))]) [0] rfl ?_
    refine G_aload_n (q := 1) hX dX3_init_0 0 rfl rfl ?_
    refine G_obj (q := 4) hX k1_211 rfl dX3_init_1 rfl ?_
    refine G_aload_n (q := 5) hX dX3_init_4 0 rfl rfl ?_
    refine G_bipush (v := 40) (q := 7) hX dX3_init_5 (by decide) rfl ?_
    refine G_newa (n0 := 74) (len := 40) (q := 9) hX (by decide) rfl dX3_init_7 rfl ?_
    refine G_putF (c := 3) (p := 0) (nf := 3) (C := RX3) (T := TX3) (fs := [.null, .int 0, .int 0]) (fs' := [.ref (g.ad 74), .int 0, .int 0]) (ty := (tyX3 0)) (q := 12) hX hnm h rfl tyX3 tyX3_ok nmX3 rfl rfl iG3 k1_212 rfl rfl rfl (Nat.le_of_ble_eq_true rfl) (tyX3_ok 0 (by decide)) rfl rfl dX3_init_9 rfl ?_
    refine G_aload_n (q := 13) hX dX3_init_12 0 rfl rfl ?_
    refine G_iconst (v := -1) (q := 14) hX dX3_init_13 (by decide) rfl ?_
    refine G_put (c := 3) (p := 1) (nf := 3) (C := RX3) (T := TX3) (fs := [.ref (g.ad 74), .int 0, .int 0]) (fs' := [.ref (g.ad 74), .int (-1), .int 0]) (ty := .int) (q := 17) hX rfl rfl tyX3 tyX3_ok nmX3 rfl rfl iG3 k1_214 rfl rfl (Nat.le_of_ble_eq_true rfl) (tyX3_ok 1 (by decide)) rfl rfl dX3_init_14 rfl ?_
    refine G_aload_n (q := 18) hX dX3_init_17 0 rfl rfl ?_
    refine G_iconst (v := 0) (q := 19) hX dX3_init_18 (by decide) rfl ?_
    refine G_put (c := 3) (p := 2) (nf := 3) (C := RX3) (T := TX3) (fs := [.ref (g.ad 74), .int (-1), .int 0]) (fs' := [.ref (g.ad 74), .int (-1), .int (0)]) (ty := .int) (q := 22) hX rfl rfl tyX3 tyX3_ok nmX3 rfl rfl iG3 k1_216 rfl rfl (Nat.le_of_ble_eq_true rfl) (tyX3_ok 2 (by decide)) rfl rfl dX3_init_19 rfl ?_
    exact G_ret hX hQ rfl rfl dX3_init_22)
def cr8_0 (g : GT) (cf : Nat → va_E) : Nat → va_E := put (cr3_73 g (put (put (cr3_71 g (put (put (cr3_69 g (put (put (cr3_67 g (put (put (cr6_64 g (put (put (cr6_61 g (put (put (cr6_58 g (put (put (cr6_55 g (put (put (cr6_52 g (put (put (cr6_49 g (put (put (put (put (cr0_35 g (put (put (cr2_33 g (put (put (put (put (put (put (cr1_26 g (put (put (cr7_25 g (put (put (cr5_17 g (put (put (cr5_9 g (put (put (cr5_1 g (put (cf) 1 (.inr (5, [.null, .int 0, .int 0, .int 0])))) 0 (.inr (8, [.ref (g.ad 1), .null, .null, .null, .null, .null, .null, .null, .null, .int 0, .int 0]))) 9 (.inr (5, [.null, .int 0, .int 0, .int 0])))) 0 (.inr (8, [.ref (g.ad 1), .ref (g.ad 9), .null, .null, .null, .null, .null, .null, .null, .int 0, .int 0]))) 17 (.inr (5, [.null, .int 0, .int 0, .int 0])))) 0 (.inr (8, [.ref (g.ad 1), .ref (g.ad 9), .ref (g.ad 17), .null, .null, .null, .null, .null, .null, .int 0, .int 0]))) 25 (.inr (7, [.int 0, .int 0, .int 0, .int 0, .int 0, .int 0, .int 0])))) 0 (.inr (8, [.ref (g.ad 1), .ref (g.ad 9), .ref (g.ad 17), .ref (g.ad 25), .null, .null, .null, .null, .null, .int 0, .int 0]))) 26 (.inr (1, [.null, .int 0, .int 0, .int 0, .int 0, .int 0, .null])))) 0 (.inr (8, [.ref (g.ad 1), .ref (g.ad 9), .ref (g.ad 17), .ref (g.ad 25), .ref (g.ad 26), .null, .null, .null, .null, .int 0, .int 0]))) 31 (.inl (g.cA 12, 6, .inr (.inr (.inr (.inr (fun _ => none))))))) 0 (.inr (8, [.ref (g.ad 1), .ref (g.ad 9), .ref (g.ad 17), .ref (g.ad 25), .ref (g.ad 26), .ref (g.ad 31), .null, .null, .null, .int 0, .int 0]))) 32 (.inl (g.cA 13, 4, .inr (.inr (.inr (.inr (fun _ => none))))))) 0 (.inr (8, [.ref (g.ad 1), .ref (g.ad 9), .ref (g.ad 17), .ref (g.ad 25), .ref (g.ad 26), .ref (g.ad 31), .ref (g.ad 32), .null, .null, .int 0, .int 0]))) 33 (.inr (2, [.null])))) 0 (.inr (8, [.ref (g.ad 1), .ref (g.ad 9), .ref (g.ad 17), .ref (g.ad 25), .ref (g.ad 26), .ref (g.ad 31), .ref (g.ad 32), .ref (g.ad 33), .null, .int 0, .int 0]))) 35 (.inr (0, [.null, .null, .null, .int 0, .int 0, .int 0])))) 0 (.inr (8, [.ref (g.ad 1), .ref (g.ad 9), .ref (g.ad 17), .ref (g.ad 25), .ref (g.ad 26), .ref (g.ad 31), .ref (g.ad 32), .ref (g.ad 33), .ref (g.ad 35), .int 0, .int 0]))) 0 (.inr (8, [.ref (g.ad 1), .ref (g.ad 9), .ref (g.ad 17), .ref (g.ad 25), .ref (g.ad 26), .ref (g.ad 31), .ref (g.ad 32), .ref (g.ad 33), .ref (g.ad 35), .int (1), .int 0]))) 0 (.inr (8, [.ref (g.ad 1), .ref (g.ad 9), .ref (g.ad 17), .ref (g.ad 25), .ref (g.ad 26), .ref (g.ad 31), .ref (g.ad 32), .ref (g.ad 33), .ref (g.ad 35), .int (1), .int (0)]))) 49 (.inr (6, [.null, .null, .int 0])))) 31 (.inl (g.cA 12, 6, .inr (.inr (.inr (.inr (va_up (fun _ => none) (0 : Int32).toNatClampNeg (some (g.ad 49))))))))) 52 (.inr (6, [.null, .null, .int 0])))) 31 (.inl (g.cA 12, 6, .inr (.inr (.inr (.inr (va_up (va_up (fun _ => none) (0 : Int32).toNatClampNeg (some (g.ad 49))) (1 : Int32).toNatClampNeg (some (g.ad 52))))))))) 55 (.inr (6, [.null, .null, .int 0])))) 31 (.inl (g.cA 12, 6, .inr (.inr (.inr (.inr (va_up (va_up (va_up (fun _ => none) (0 : Int32).toNatClampNeg (some (g.ad 49))) (1 : Int32).toNatClampNeg (some (g.ad 52))) (2 : Int32).toNatClampNeg (some (g.ad 55))))))))) 58 (.inr (6, [.null, .null, .int 0])))) 31 (.inl (g.cA 12, 6, .inr (.inr (.inr (.inr (va_up (va_up (va_up (va_up (fun _ => none) (0 : Int32).toNatClampNeg (some (g.ad 49))) (1 : Int32).toNatClampNeg (some (g.ad 52))) (2 : Int32).toNatClampNeg (some (g.ad 55))) (3 : Int32).toNatClampNeg (some (g.ad 58))))))))) 61 (.inr (6, [.null, .null, .int 0])))) 31 (.inl (g.cA 12, 6, .inr (.inr (.inr (.inr (va_up (va_up (va_up (va_up (va_up (fun _ => none) (0 : Int32).toNatClampNeg (some (g.ad 49))) (1 : Int32).toNatClampNeg (some (g.ad 52))) (2 : Int32).toNatClampNeg (some (g.ad 55))) (3 : Int32).toNatClampNeg (some (g.ad 58))) (4 : Int32).toNatClampNeg (some (g.ad 61))))))))) 64 (.inr (6, [.null, .null, .int 0])))) 31 (.inl (g.cA 12, 6, .inr (.inr (.inr (.inr (va_up (va_up (va_up (va_up (va_up (va_up (fun _ => none) (0 : Int32).toNatClampNeg (some (g.ad 49))) (1 : Int32).toNatClampNeg (some (g.ad 52))) (2 : Int32).toNatClampNeg (some (g.ad 55))) (3 : Int32).toNatClampNeg (some (g.ad 58))) (4 : Int32).toNatClampNeg (some (g.ad 61))) (5 : Int32).toNatClampNeg (some (g.ad 64))))))))) 67 (.inr (3, [.null, .int 0, .int 0])))) 32 (.inl (g.cA 13, 4, .inr (.inr (.inr (.inr (va_up (fun _ => none) (0 : Int32).toNatClampNeg (some (g.ad 67))))))))) 69 (.inr (3, [.null, .int 0, .int 0])))) 32 (.inl (g.cA 13, 4, .inr (.inr (.inr (.inr (va_up (va_up (fun _ => none) (0 : Int32).toNatClampNeg (some (g.ad 67))) (1 : Int32).toNatClampNeg (some (g.ad 69))))))))) 71 (.inr (3, [.null, .int 0, .int 0])))) 32 (.inl (g.cA 13, 4, .inr (.inr (.inr (.inr (va_up (va_up (va_up (fun _ => none) (0 : Int32).toNatClampNeg (some (g.ad 67))) (1 : Int32).toNatClampNeg (some (g.ad 69))) (2 : Int32).toNatClampNeg (some (g.ad 71))))))))) 73 (.inr (3, [.null, .int 0, .int 0])))) 32 (.inl (g.cA 13, 4, .inr (.inr (.inr (.inr (va_up (va_up (va_up (va_up (fun _ => none) (0 : Int32).toNatClampNeg (some (g.ad 67))) (1 : Int32).toNatClampNeg (some (g.ad 69))) (2 : Int32).toNatClampNeg (some (g.ad 71))) (3 : Int32).toNatClampNeg (some (g.ad 73))))))))
set_option maxRecDepth 100000 in
set_option maxHeartbeats 8000000 in
theorem gt8_0 {g : GT} {X : XT} {cf : Nat → va_E} (hX : OkC g X mi8 1 74 2497) (hnm : X.meth.name = "<init>") (h : cf 0 = .inr (8, [.null, .null, .null, .null, .null, .null, .null, .null, .null, .int 0, .int 0])) (kk : GV g X mi8 172 [(0, .ref (g.ad 0))] [] 75 (cr8_0 g cf) 74 2497) : GV g X mi8 0 [(0, .ref (g.ad 0))] [] 1 cf 0 0 := by
  refine G_aload_n (q := 1) hX dX8_init_0 0 rfl rfl ?_
  refine G_obj (q := 4) hX k1_24 rfl dX8_init_1 rfl ?_
  refine G_aload_n (q := 5) hX dX8_init_4 0 rfl rfl ?_
  refine G_new (n0 := 1) (c := 5) (nf := 4) (C := RX5) (T := TX5) (fs := [.null, .int 0, .int 0, .int 0]) (q := 8) hX tyX5 tyX5_ok rfl iG5 k1_27 k1_28 k1_2 (by decide) rfl dX8_init_5 rfl ?_
  refine G_dup (q := 9) hX dX8_init_8 rfl rfl ?_
  refine G_ci (n0 := 1) (As := []) (j := mi5) (q := 12) hX (ct5_1 hX.2.2.2.2.1 hX.2.2.2.2.2.1 rfl) k1_29 k1_30 k1_2 k1_31 rfl (nA := 0) (by decide) rfl rfl rfl rfl dX8_init_9 rfl ?_
  refine G_putF (c := 8) (p := 0) (nf := 11) (C := RX8) (T := TX8) (fs := [.null, .null, .null, .null, .null, .null, .null, .null, .null, .int 0, .int 0]) (fs' := [.ref (g.ad 1), .null, .null, .null, .null, .null, .null, .null, .null, .int 0, .int 0]) (ty := (tyX8 0)) (q := 15) hX hnm h rfl tyX8 tyX8_ok nmX8 rfl rfl iG8 k2_175 rfl rfl rfl (Nat.le_of_ble_eq_true rfl) (tyX8_ok 0 (by decide)) rfl rfl dX8_init_12 rfl ?_
  refine G_aload_n (q := 16) hX dX8_init_15 0 rfl rfl ?_
  refine G_new (n0 := 1) (c := 5) (nf := 4) (C := RX5) (T := TX5) (fs := [.null, .int 0, .int 0, .int 0]) (q := 19) hX tyX5 tyX5_ok rfl iG5 k1_27 k1_28 k1_2 (by decide) rfl dX8_init_16 rfl ?_
  refine G_dup (q := 20) hX dX8_init_19 rfl rfl ?_
  refine G_ci (n0 := 1) (As := []) (j := mi5) (q := 23) hX (ct5_9 hX.2.2.2.2.1 hX.2.2.2.2.2.1 rfl) k1_29 k1_30 k1_2 k1_31 rfl (nA := 0) (by decide) rfl rfl rfl rfl dX8_init_20 rfl ?_
  refine G_putF (c := 8) (p := 1) (nf := 11) (C := RX8) (T := TX8) (fs := [.ref (g.ad 1), .null, .null, .null, .null, .null, .null, .null, .null, .int 0, .int 0]) (fs' := [.ref (g.ad 1), .ref (g.ad 9), .null, .null, .null, .null, .null, .null, .null, .int 0, .int 0]) (ty := (tyX8 1)) (q := 26) hX hnm rfl rfl tyX8 tyX8_ok nmX8 rfl rfl iG8 k2_176 rfl rfl rfl (Nat.le_of_ble_eq_true rfl) (tyX8_ok 1 (by decide)) rfl rfl dX8_init_23 rfl ?_
  refine G_aload_n (q := 27) hX dX8_init_26 0 rfl rfl ?_
  refine G_new (n0 := 1) (c := 5) (nf := 4) (C := RX5) (T := TX5) (fs := [.null, .int 0, .int 0, .int 0]) (q := 30) hX tyX5 tyX5_ok rfl iG5 k1_27 k1_28 k1_2 (by decide) rfl dX8_init_27 rfl ?_
  refine G_dup (q := 31) hX dX8_init_30 rfl rfl ?_
  refine G_ci (n0 := 1) (As := []) (j := mi5) (q := 34) hX (ct5_17 hX.2.2.2.2.1 hX.2.2.2.2.2.1 rfl) k1_29 k1_30 k1_2 k1_31 rfl (nA := 0) (by decide) rfl rfl rfl rfl dX8_init_31 rfl ?_
  refine G_putF (c := 8) (p := 2) (nf := 11) (C := RX8) (T := TX8) (fs := [.ref (g.ad 1), .ref (g.ad 9), .null, .null, .null, .null, .null, .null, .null, .int 0, .int 0]) (fs' := [.ref (g.ad 1), .ref (g.ad 9), .ref (g.ad 17), .null, .null, .null, .null, .null, .null, .int 0, .int 0]) (ty := (tyX8 2)) (q := 37) hX hnm rfl rfl tyX8 tyX8_ok nmX8 rfl rfl iG8 k2_177 rfl rfl rfl (Nat.le_of_ble_eq_true rfl) (tyX8_ok 2 (by decide)) rfl rfl dX8_init_34 rfl ?_
  refine G_aload_n (q := 38) hX dX8_init_37 0 rfl rfl ?_
  refine G_new (n0 := 1) (c := 7) (nf := 7) (C := RX7) (T := TX7) (fs := [.int 0, .int 0, .int 0, .int 0, .int 0, .int 0, .int 0]) (q := 41) hX tyX7 tyX7_ok rfl iG7 k1_86 k1_35 k1_3 (by decide) rfl dX8_init_38 rfl ?_
  refine G_dup (q := 42) hX dX8_init_41 rfl rfl ?_
  refine G_cin (n0 := 1) (host := "RingOfStraw") (As := []) (j := mi7) (q := 45) hX (ct7_25 hX.2.2.2.2.1 hX.2.2.2.2.2.1 rfl) (by decide +kernel) k1_37 k1_3 k1_38 rfl (nA := 0) (by decide) rfl rfl rfl rfl dX8_init_42 rfl ?_
  refine G_putF (c := 8) (p := 3) (nf := 11) (C := RX8) (T := TX8) (fs := [.ref (g.ad 1), .ref (g.ad 9), .ref (g.ad 17), .null, .null, .null, .null, .null, .null, .int 0, .int 0]) (fs' := [.ref (g.ad 1), .ref (g.ad 9), .ref (g.ad 17), .ref (g.ad 25), .null, .null, .null, .null, .null, .int 0, .int 0]) (ty := (tyX8 3)) (q := 48) hX hnm rfl rfl tyX8 tyX8_ok nmX8 rfl rfl iG8 k2_178 rfl rfl rfl (Nat.le_of_ble_eq_true rfl) (tyX8_ok 3 (by decide)) rfl rfl dX8_init_45 rfl ?_
  refine G_aload_n (q := 49) hX dX8_init_48 0 rfl rfl ?_
  refine G_new (n0 := 1) (c := 1) (nf := 7) (C := RX1) (T := TX1) (fs := [.null, .int 0, .int 0, .int 0, .int 0, .int 0, .null]) (q := 52) hX tyX1 tyX1_ok rfl iG1 k1_88 k1_89 k1_4 (by decide) rfl dX8_init_49 rfl ?_
  refine G_dup (q := 53) hX dX8_init_52 rfl rfl ?_
  refine G_cin (n0 := 1) (host := "RingOfStraw") (As := []) (j := mi1) (q := 56) hX (ct1_26 hX.2.2.2.2.1 hX.2.2.2.2.2.1 rfl) (by decide +kernel) k1_91 k1_4 k1_92 rfl (nA := 0) (by decide) rfl rfl rfl rfl dX8_init_53 rfl ?_
  refine G_putF (c := 8) (p := 4) (nf := 11) (C := RX8) (T := TX8) (fs := [.ref (g.ad 1), .ref (g.ad 9), .ref (g.ad 17), .ref (g.ad 25), .null, .null, .null, .null, .null, .int 0, .int 0]) (fs' := [.ref (g.ad 1), .ref (g.ad 9), .ref (g.ad 17), .ref (g.ad 25), .ref (g.ad 26), .null, .null, .null, .null, .int 0, .int 0]) (ty := (tyX8 4)) (q := 59) hX hnm rfl rfl tyX8 tyX8_ok nmX8 rfl rfl iG8 k2_179 rfl rfl rfl (Nat.le_of_ble_eq_true rfl) (tyX8_ok 4 (by decide)) rfl rfl dX8_init_56 rfl ?_
  refine G_aload_n (q := 60) hX dX8_init_59 0 rfl rfl ?_
  refine G_bipush (v := 6) (q := 62) hX dX8_init_60 (by decide) rfl ?_
  refine G_anew (n0 := 1) (c := 12) (len := 6) (C := RX6) (q := 65) hX hX.2.2.2.2.2.2.1.2.2.1 (t0 := 2) rfl k1_136 (by decide) rfl dX8_init_62 rfl ?_
  refine G_putF (c := 8) (p := 5) (nf := 11) (C := RX8) (T := TX8) (fs := [.ref (g.ad 1), .ref (g.ad 9), .ref (g.ad 17), .ref (g.ad 25), .ref (g.ad 26), .null, .null, .null, .null, .int 0, .int 0]) (fs' := [.ref (g.ad 1), .ref (g.ad 9), .ref (g.ad 17), .ref (g.ad 25), .ref (g.ad 26), .ref (g.ad 31), .null, .null, .null, .int 0, .int 0]) (ty := (tyX8 5)) (q := 68) hX hnm rfl rfl tyX8 tyX8_ok nmX8 rfl rfl iG8 k2_180 rfl rfl rfl (Nat.le_of_ble_eq_true rfl) (tyX8_ok 5 (by decide)) rfl rfl dX8_init_65 rfl ?_
  refine G_aload_n (q := 69) hX dX8_init_68 0 rfl rfl ?_
  refine G_iconst (v := 4) (q := 70) hX dX8_init_69 (by decide) rfl ?_
  refine G_anew (n0 := 1) (c := 13) (len := 4) (C := RX3) (q := 73) hX hX.2.2.2.2.2.2.1.2.2.2 (t0 := 3) rfl k1_138 (by decide) rfl dX8_init_70 rfl ?_
  refine G_putF (c := 8) (p := 6) (nf := 11) (C := RX8) (T := TX8) (fs := [.ref (g.ad 1), .ref (g.ad 9), .ref (g.ad 17), .ref (g.ad 25), .ref (g.ad 26), .ref (g.ad 31), .null, .null, .null, .int 0, .int 0]) (fs' := [.ref (g.ad 1), .ref (g.ad 9), .ref (g.ad 17), .ref (g.ad 25), .ref (g.ad 26), .ref (g.ad 31), .ref (g.ad 32), .null, .null, .int 0, .int 0]) (ty := (tyX8 6)) (q := 76) hX hnm rfl rfl tyX8 tyX8_ok nmX8 rfl rfl iG8 k2_181 rfl rfl rfl (Nat.le_of_ble_eq_true rfl) (tyX8_ok 6 (by decide)) rfl rfl dX8_init_73 rfl ?_
  refine G_aload_n (q := 77) hX dX8_init_76 0 rfl rfl ?_
  refine G_new (n0 := 1) (c := 2) (nf := 1) (C := RX2) (T := TX2) (fs := [.null]) (q := 80) hX tyX2 tyX2_ok rfl iG2 k1_140 k1_141 k1_6 (by decide) rfl dX8_init_77 rfl ?_
  refine G_dup (q := 81) hX dX8_init_80 rfl rfl ?_
  refine G_cin (n0 := 1) (host := "RingOfStraw") (As := []) (j := mi2) (q := 84) hX (ct2_33 hX.2.2.2.2.1 hX.2.2.2.2.2.1 rfl) (by decide +kernel) k1_143 k1_6 k1_144 rfl (nA := 0) (by decide) rfl rfl rfl rfl dX8_init_81 rfl ?_
  refine G_putF (c := 8) (p := 7) (nf := 11) (C := RX8) (T := TX8) (fs := [.ref (g.ad 1), .ref (g.ad 9), .ref (g.ad 17), .ref (g.ad 25), .ref (g.ad 26), .ref (g.ad 31), .ref (g.ad 32), .null, .null, .int 0, .int 0]) (fs' := [.ref (g.ad 1), .ref (g.ad 9), .ref (g.ad 17), .ref (g.ad 25), .ref (g.ad 26), .ref (g.ad 31), .ref (g.ad 32), .ref (g.ad 33), .null, .int 0, .int 0]) (ty := (tyX8 7)) (q := 87) hX hnm rfl rfl tyX8 tyX8_ok nmX8 rfl rfl iG8 k2_182 rfl rfl rfl (Nat.le_of_ble_eq_true rfl) (tyX8_ok 7 (by decide)) rfl rfl dX8_init_84 rfl ?_
  refine G_aload_n (q := 88) hX dX8_init_87 0 rfl rfl ?_
  refine G_new (n0 := 1) (c := 0) (nf := 6) (C := RX0) (T := TX0) (fs := [.null, .null, .null, .int 0, .int 0, .int 0]) (q := 91) hX tyX0 tyX0_ok rfl iG0 k1_150 k1_151 k1_7 (by decide) rfl dX8_init_88 rfl ?_
  refine G_dup (q := 92) hX dX8_init_91 rfl rfl ?_
  refine G_aload_n (q := 93) hX dX8_init_92 0 rfl rfl ?_
  refine G_get (c := 8) (p := 7) (nf := 11) (C := RX8) (T := TX8) (fs := [.ref (g.ad 1), .ref (g.ad 9), .ref (g.ad 17), .ref (g.ad 25), .ref (g.ad 26), .ref (g.ad 31), .ref (g.ad 32), .ref (g.ad 33), .null, .int 0, .int 0]) (v := .ref (g.ad 33)) (q := 96) hX rfl rfl rfl iG8 k2_182 rfl rfl dX8_init_93 rfl ?_
  refine G_ci (n0 := 1) (As := [.ref (g.ad 33)]) (j := mi0) (q := 99) hX (ct0_35 hX.2.2.2.2.1 hX.2.2.2.2.2.1 rfl) k1_152 k1_153 k1_7 k1_154 rfl (nA := 1) (by decide) rfl rfl rfl rfl dX8_init_96 rfl ?_
  refine G_putF (c := 8) (p := 8) (nf := 11) (C := RX8) (T := TX8) (fs := [.ref (g.ad 1), .ref (g.ad 9), .ref (g.ad 17), .ref (g.ad 25), .ref (g.ad 26), .ref (g.ad 31), .ref (g.ad 32), .ref (g.ad 33), .null, .int 0, .int 0]) (fs' := [.ref (g.ad 1), .ref (g.ad 9), .ref (g.ad 17), .ref (g.ad 25), .ref (g.ad 26), .ref (g.ad 31), .ref (g.ad 32), .ref (g.ad 33), .ref (g.ad 35), .int 0, .int 0]) (ty := (tyX8 8)) (q := 102) hX hnm rfl rfl tyX8 tyX8_ok nmX8 rfl rfl iG8 k2_183 rfl rfl rfl (Nat.le_of_ble_eq_true rfl) (tyX8_ok 8 (by decide)) rfl rfl dX8_init_99 rfl ?_
  refine G_aload_n (q := 103) hX dX8_init_102 0 rfl rfl ?_
  refine G_iconst (v := 1) (q := 104) hX dX8_init_103 (by decide) rfl ?_
  refine G_put (c := 8) (p := 9) (nf := 11) (C := RX8) (T := TX8) (fs := [.ref (g.ad 1), .ref (g.ad 9), .ref (g.ad 17), .ref (g.ad 25), .ref (g.ad 26), .ref (g.ad 31), .ref (g.ad 32), .ref (g.ad 33), .ref (g.ad 35), .int 0, .int 0]) (fs' := [.ref (g.ad 1), .ref (g.ad 9), .ref (g.ad 17), .ref (g.ad 25), .ref (g.ad 26), .ref (g.ad 31), .ref (g.ad 32), .ref (g.ad 33), .ref (g.ad 35), .int (1), .int 0]) (ty := .int) (q := 107) hX rfl rfl tyX8 tyX8_ok nmX8 rfl rfl iG8 k2_184 rfl rfl (Nat.le_of_ble_eq_true rfl) (tyX8_ok 9 (by decide)) rfl rfl dX8_init_104 rfl ?_
  refine G_aload_n (q := 108) hX dX8_init_107 0 rfl rfl ?_
  refine G_iconst (v := 0) (q := 109) hX dX8_init_108 (by decide) rfl ?_
  refine G_put (c := 8) (p := 10) (nf := 11) (C := RX8) (T := TX8) (fs := [.ref (g.ad 1), .ref (g.ad 9), .ref (g.ad 17), .ref (g.ad 25), .ref (g.ad 26), .ref (g.ad 31), .ref (g.ad 32), .ref (g.ad 33), .ref (g.ad 35), .int (1), .int 0]) (fs' := [.ref (g.ad 1), .ref (g.ad 9), .ref (g.ad 17), .ref (g.ad 25), .ref (g.ad 26), .ref (g.ad 31), .ref (g.ad 32), .ref (g.ad 33), .ref (g.ad 35), .int (1), .int (0)]) (ty := .boolean) (q := 112) hX rfl rfl tyX8 tyX8_ok nmX8 rfl rfl iG8 k2_185 rfl rfl (Nat.le_of_ble_eq_true rfl) (tyX8_ok 10 (by decide)) rfl rfl dX8_init_109 rfl ?_
  refine G_iconst (v := 0) (q := 113) hX dX8_init_112 (by decide) rfl ?_
  refine G_istore_n (lv' := [(1, .int (0)), (0, .ref (g.ad 0))]) (q := 114) hX dX8_init_113 rfl rfl rfl ?_
  refine G_iload_n (q := 115) hX dX8_init_114 0 rfl rfl ?_
  refine G_aload_n (q := 116) hX dX8_init_115 1 rfl rfl ?_
  refine G_get (c := 8) (p := 5) (nf := 11) (C := RX8) (T := TX8) (fs := [.ref (g.ad 1), .ref (g.ad 9), .ref (g.ad 17), .ref (g.ad 25), .ref (g.ad 26), .ref (g.ad 31), .ref (g.ad 32), .ref (g.ad 33), .ref (g.ad 35), .int (1), .int (0)]) (v := .ref (g.ad 31)) (q := 119) hX rfl rfl rfl iG8 k2_180 rfl rfl dX8_init_116 rfl ?_
  refine G_alen (t0 := 2) (len := 6) (v := 6) (q := 120) hX rfl rfl (by decide) rfl dX8_init_119 rfl ?_
  refine G_icmp_ge (q := 123) (t := 142) hX dX8_init_120 (by decide) rfl (fun z => absurd z (by decide)) (fun _ => ?_)
  refine G_aload_n (q := 124) hX dX8_init_123 1 rfl rfl ?_
  refine G_get (c := 8) (p := 5) (nf := 11) (C := RX8) (T := TX8) (fs := [.ref (g.ad 1), .ref (g.ad 9), .ref (g.ad 17), .ref (g.ad 25), .ref (g.ad 26), .ref (g.ad 31), .ref (g.ad 32), .ref (g.ad 33), .ref (g.ad 35), .int (1), .int (0)]) (v := .ref (g.ad 31)) (q := 127) hX rfl rfl rfl iG8 k2_180 rfl rfl dX8_init_124 rfl ?_
  refine G_iload_n (q := 128) hX dX8_init_127 0 rfl rfl ?_
  refine G_new (n0 := 1) (c := 6) (nf := 3) (C := RX6) (T := TX6) (fs := [.null, .null, .int 0]) (q := 131) hX tyX6 tyX6_ok rfl iG6 k1_136 k1_95 k1_5 (by decide) rfl dX8_init_128 rfl ?_
  refine G_dup (q := 132) hX dX8_init_131 rfl rfl ?_
  refine G_cin (n0 := 1) (host := "RingOfStraw") (As := []) (j := mi6) (q := 135) hX (ct6_49 hX.2.2.2.2.1 hX.2.2.2.2.2.1 rfl) (by decide +kernel) k1_97 k1_5 k1_98 rfl (nA := 0) (by decide) rfl rfl rfl rfl dX8_init_132 rfl ?_
  refine G_aast (c := 12) (len := 6) (t0 := 2) (ci := 6) (r := 49) (o := 31) (fs := [.ref (g.ad 50), .ref (g.ad 51), .int (0)]) (C := RX6) (T := TX6) (nf := 3) (q := 136) hX rfl rfl rfl rfl (by show inb _ _; decide) rfl dX8_init_135 rfl ?_
  refine G_iinc (v := 1) (lv' := [(1, .int (1)), (0, .ref (g.ad 0))]) (q := 139) hX dX8_init_136 0 rfl (by decide) rfl rfl rfl ?_
  refine G_goto hX dX8_init_139 (q := 114) (by decide) ?_
  refine G_iload_n (q := 115) hX dX8_init_114 0 rfl rfl ?_
  refine G_aload_n (q := 116) hX dX8_init_115 1 rfl rfl ?_
  refine G_get (c := 8) (p := 5) (nf := 11) (C := RX8) (T := TX8) (fs := [.ref (g.ad 1), .ref (g.ad 9), .ref (g.ad 17), .ref (g.ad 25), .ref (g.ad 26), .ref (g.ad 31), .ref (g.ad 32), .ref (g.ad 33), .ref (g.ad 35), .int (1), .int (0)]) (v := .ref (g.ad 31)) (q := 119) hX rfl rfl rfl iG8 k2_180 rfl rfl dX8_init_116 rfl ?_
  refine G_alen (t0 := 2) (len := 6) (v := 6) (q := 120) hX rfl rfl (by decide) rfl dX8_init_119 rfl ?_
  refine G_icmp_ge (q := 123) (t := 142) hX dX8_init_120 (by decide) rfl (fun z => absurd z (by decide)) (fun _ => ?_)
  refine G_aload_n (q := 124) hX dX8_init_123 1 rfl rfl ?_
  refine G_get (c := 8) (p := 5) (nf := 11) (C := RX8) (T := TX8) (fs := [.ref (g.ad 1), .ref (g.ad 9), .ref (g.ad 17), .ref (g.ad 25), .ref (g.ad 26), .ref (g.ad 31), .ref (g.ad 32), .ref (g.ad 33), .ref (g.ad 35), .int (1), .int (0)]) (v := .ref (g.ad 31)) (q := 127) hX rfl rfl rfl iG8 k2_180 rfl rfl dX8_init_124 rfl ?_
  refine G_iload_n (q := 128) hX dX8_init_127 0 rfl rfl ?_
  refine G_new (n0 := 1) (c := 6) (nf := 3) (C := RX6) (T := TX6) (fs := [.null, .null, .int 0]) (q := 131) hX tyX6 tyX6_ok rfl iG6 k1_136 k1_95 k1_5 (by decide) rfl dX8_init_128 rfl ?_
  refine G_dup (q := 132) hX dX8_init_131 rfl rfl ?_
  refine G_cin (n0 := 1) (host := "RingOfStraw") (As := []) (j := mi6) (q := 135) hX (ct6_52 hX.2.2.2.2.1 hX.2.2.2.2.2.1 rfl) (by decide +kernel) k1_97 k1_5 k1_98 rfl (nA := 0) (by decide) rfl rfl rfl rfl dX8_init_132 rfl ?_
  refine G_aast (c := 12) (len := 6) (t0 := 2) (ci := 6) (r := 52) (o := 31) (fs := [.ref (g.ad 53), .ref (g.ad 54), .int (0)]) (C := RX6) (T := TX6) (nf := 3) (q := 136) hX rfl rfl rfl rfl (by show inb _ _; decide) rfl dX8_init_135 rfl ?_
  refine G_iinc (v := 2) (lv' := [(1, .int (2)), (0, .ref (g.ad 0))]) (q := 139) hX dX8_init_136 0 rfl (by decide) rfl rfl rfl ?_
  refine G_goto hX dX8_init_139 (q := 114) (by decide) ?_
  refine G_iload_n (q := 115) hX dX8_init_114 0 rfl rfl ?_
  refine G_aload_n (q := 116) hX dX8_init_115 1 rfl rfl ?_
  refine G_get (c := 8) (p := 5) (nf := 11) (C := RX8) (T := TX8) (fs := [.ref (g.ad 1), .ref (g.ad 9), .ref (g.ad 17), .ref (g.ad 25), .ref (g.ad 26), .ref (g.ad 31), .ref (g.ad 32), .ref (g.ad 33), .ref (g.ad 35), .int (1), .int (0)]) (v := .ref (g.ad 31)) (q := 119) hX rfl rfl rfl iG8 k2_180 rfl rfl dX8_init_116 rfl ?_
  refine G_alen (t0 := 2) (len := 6) (v := 6) (q := 120) hX rfl rfl (by decide) rfl dX8_init_119 rfl ?_
  refine G_icmp_ge (q := 123) (t := 142) hX dX8_init_120 (by decide) rfl (fun z => absurd z (by decide)) (fun _ => ?_)
  refine G_aload_n (q := 124) hX dX8_init_123 1 rfl rfl ?_
  refine G_get (c := 8) (p := 5) (nf := 11) (C := RX8) (T := TX8) (fs := [.ref (g.ad 1), .ref (g.ad 9), .ref (g.ad 17), .ref (g.ad 25), .ref (g.ad 26), .ref (g.ad 31), .ref (g.ad 32), .ref (g.ad 33), .ref (g.ad 35), .int (1), .int (0)]) (v := .ref (g.ad 31)) (q := 127) hX rfl rfl rfl iG8 k2_180 rfl rfl dX8_init_124 rfl ?_
  refine G_iload_n (q := 128) hX dX8_init_127 0 rfl rfl ?_
  refine G_new (n0 := 1) (c := 6) (nf := 3) (C := RX6) (T := TX6) (fs := [.null, .null, .int 0]) (q := 131) hX tyX6 tyX6_ok rfl iG6 k1_136 k1_95 k1_5 (by decide) rfl dX8_init_128 rfl ?_
  refine G_dup (q := 132) hX dX8_init_131 rfl rfl ?_
  refine G_cin (n0 := 1) (host := "RingOfStraw") (As := []) (j := mi6) (q := 135) hX (ct6_55 hX.2.2.2.2.1 hX.2.2.2.2.2.1 rfl) (by decide +kernel) k1_97 k1_5 k1_98 rfl (nA := 0) (by decide) rfl rfl rfl rfl dX8_init_132 rfl ?_
  refine G_aast (c := 12) (len := 6) (t0 := 2) (ci := 6) (r := 55) (o := 31) (fs := [.ref (g.ad 56), .ref (g.ad 57), .int (0)]) (C := RX6) (T := TX6) (nf := 3) (q := 136) hX rfl rfl rfl rfl (by show inb _ _; decide) rfl dX8_init_135 rfl ?_
  refine G_iinc (v := 3) (lv' := [(1, .int (3)), (0, .ref (g.ad 0))]) (q := 139) hX dX8_init_136 0 rfl (by decide) rfl rfl rfl ?_
  refine G_goto hX dX8_init_139 (q := 114) (by decide) ?_
  refine G_iload_n (q := 115) hX dX8_init_114 0 rfl rfl ?_
  refine G_aload_n (q := 116) hX dX8_init_115 1 rfl rfl ?_
  refine G_get (c := 8) (p := 5) (nf := 11) (C := RX8) (T := TX8) (fs := [.ref (g.ad 1), .ref (g.ad 9), .ref (g.ad 17), .ref (g.ad 25), .ref (g.ad 26), .ref (g.ad 31), .ref (g.ad 32), .ref (g.ad 33), .ref (g.ad 35), .int (1), .int (0)]) (v := .ref (g.ad 31)) (q := 119) hX rfl rfl rfl iG8 k2_180 rfl rfl dX8_init_116 rfl ?_
  refine G_alen (t0 := 2) (len := 6) (v := 6) (q := 120) hX rfl rfl (by decide) rfl dX8_init_119 rfl ?_
  refine G_icmp_ge (q := 123) (t := 142) hX dX8_init_120 (by decide) rfl (fun z => absurd z (by decide)) (fun _ => ?_)
  refine G_aload_n (q := 124) hX dX8_init_123 1 rfl rfl ?_
  refine G_get (c := 8) (p := 5) (nf := 11) (C := RX8) (T := TX8) (fs := [.ref (g.ad 1), .ref (g.ad 9), .ref (g.ad 17), .ref (g.ad 25), .ref (g.ad 26), .ref (g.ad 31), .ref (g.ad 32), .ref (g.ad 33), .ref (g.ad 35), .int (1), .int (0)]) (v := .ref (g.ad 31)) (q := 127) hX rfl rfl rfl iG8 k2_180 rfl rfl dX8_init_124 rfl ?_
  refine G_iload_n (q := 128) hX dX8_init_127 0 rfl rfl ?_
  refine G_new (n0 := 1) (c := 6) (nf := 3) (C := RX6) (T := TX6) (fs := [.null, .null, .int 0]) (q := 131) hX tyX6 tyX6_ok rfl iG6 k1_136 k1_95 k1_5 (by decide) rfl dX8_init_128 rfl ?_
  refine G_dup (q := 132) hX dX8_init_131 rfl rfl ?_
  refine G_cin (n0 := 1) (host := "RingOfStraw") (As := []) (j := mi6) (q := 135) hX (ct6_58 hX.2.2.2.2.1 hX.2.2.2.2.2.1 rfl) (by decide +kernel) k1_97 k1_5 k1_98 rfl (nA := 0) (by decide) rfl rfl rfl rfl dX8_init_132 rfl ?_
  refine G_aast (c := 12) (len := 6) (t0 := 2) (ci := 6) (r := 58) (o := 31) (fs := [.ref (g.ad 59), .ref (g.ad 60), .int (0)]) (C := RX6) (T := TX6) (nf := 3) (q := 136) hX rfl rfl rfl rfl (by show inb _ _; decide) rfl dX8_init_135 rfl ?_
  refine G_iinc (v := 4) (lv' := [(1, .int (4)), (0, .ref (g.ad 0))]) (q := 139) hX dX8_init_136 0 rfl (by decide) rfl rfl rfl ?_
  refine G_goto hX dX8_init_139 (q := 114) (by decide) ?_
  refine G_iload_n (q := 115) hX dX8_init_114 0 rfl rfl ?_
  refine G_aload_n (q := 116) hX dX8_init_115 1 rfl rfl ?_
  refine G_get (c := 8) (p := 5) (nf := 11) (C := RX8) (T := TX8) (fs := [.ref (g.ad 1), .ref (g.ad 9), .ref (g.ad 17), .ref (g.ad 25), .ref (g.ad 26), .ref (g.ad 31), .ref (g.ad 32), .ref (g.ad 33), .ref (g.ad 35), .int (1), .int (0)]) (v := .ref (g.ad 31)) (q := 119) hX rfl rfl rfl iG8 k2_180 rfl rfl dX8_init_116 rfl ?_
  refine G_alen (t0 := 2) (len := 6) (v := 6) (q := 120) hX rfl rfl (by decide) rfl dX8_init_119 rfl ?_
  refine G_icmp_ge (q := 123) (t := 142) hX dX8_init_120 (by decide) rfl (fun z => absurd z (by decide)) (fun _ => ?_)
  refine G_aload_n (q := 124) hX dX8_init_123 1 rfl rfl ?_
  refine G_get (c := 8) (p := 5) (nf := 11) (C := RX8) (T := TX8) (fs := [.ref (g.ad 1), .ref (g.ad 9), .ref (g.ad 17), .ref (g.ad 25), .ref (g.ad 26), .ref (g.ad 31), .ref (g.ad 32), .ref (g.ad 33), .ref (g.ad 35), .int (1), .int (0)]) (v := .ref (g.ad 31)) (q := 127) hX rfl rfl rfl iG8 k2_180 rfl rfl dX8_init_124 rfl ?_
  refine G_iload_n (q := 128) hX dX8_init_127 0 rfl rfl ?_
  refine G_new (n0 := 1) (c := 6) (nf := 3) (C := RX6) (T := TX6) (fs := [.null, .null, .int 0]) (q := 131) hX tyX6 tyX6_ok rfl iG6 k1_136 k1_95 k1_5 (by decide) rfl dX8_init_128 rfl ?_
  refine G_dup (q := 132) hX dX8_init_131 rfl rfl ?_
  refine G_cin (n0 := 1) (host := "RingOfStraw") (As := []) (j := mi6) (q := 135) hX (ct6_61 hX.2.2.2.2.1 hX.2.2.2.2.2.1 rfl) (by decide +kernel) k1_97 k1_5 k1_98 rfl (nA := 0) (by decide) rfl rfl rfl rfl dX8_init_132 rfl ?_
  refine G_aast (c := 12) (len := 6) (t0 := 2) (ci := 6) (r := 61) (o := 31) (fs := [.ref (g.ad 62), .ref (g.ad 63), .int (0)]) (C := RX6) (T := TX6) (nf := 3) (q := 136) hX rfl rfl rfl rfl (by show inb _ _; decide) rfl dX8_init_135 rfl ?_
  refine G_iinc (v := 5) (lv' := [(1, .int (5)), (0, .ref (g.ad 0))]) (q := 139) hX dX8_init_136 0 rfl (by decide) rfl rfl rfl ?_
  refine G_goto hX dX8_init_139 (q := 114) (by decide) ?_
  refine G_iload_n (q := 115) hX dX8_init_114 0 rfl rfl ?_
  refine G_aload_n (q := 116) hX dX8_init_115 1 rfl rfl ?_
  refine G_get (c := 8) (p := 5) (nf := 11) (C := RX8) (T := TX8) (fs := [.ref (g.ad 1), .ref (g.ad 9), .ref (g.ad 17), .ref (g.ad 25), .ref (g.ad 26), .ref (g.ad 31), .ref (g.ad 32), .ref (g.ad 33), .ref (g.ad 35), .int (1), .int (0)]) (v := .ref (g.ad 31)) (q := 119) hX rfl rfl rfl iG8 k2_180 rfl rfl dX8_init_116 rfl ?_
  refine G_alen (t0 := 2) (len := 6) (v := 6) (q := 120) hX rfl rfl (by decide) rfl dX8_init_119 rfl ?_
  refine G_icmp_ge (q := 123) (t := 142) hX dX8_init_120 (by decide) rfl (fun z => absurd z (by decide)) (fun _ => ?_)
  refine G_aload_n (q := 124) hX dX8_init_123 1 rfl rfl ?_
  refine G_get (c := 8) (p := 5) (nf := 11) (C := RX8) (T := TX8) (fs := [.ref (g.ad 1), .ref (g.ad 9), .ref (g.ad 17), .ref (g.ad 25), .ref (g.ad 26), .ref (g.ad 31), .ref (g.ad 32), .ref (g.ad 33), .ref (g.ad 35), .int (1), .int (0)]) (v := .ref (g.ad 31)) (q := 127) hX rfl rfl rfl iG8 k2_180 rfl rfl dX8_init_124 rfl ?_
  refine G_iload_n (q := 128) hX dX8_init_127 0 rfl rfl ?_
  refine G_new (n0 := 1) (c := 6) (nf := 3) (C := RX6) (T := TX6) (fs := [.null, .null, .int 0]) (q := 131) hX tyX6 tyX6_ok rfl iG6 k1_136 k1_95 k1_5 (by decide) rfl dX8_init_128 rfl ?_
  refine G_dup (q := 132) hX dX8_init_131 rfl rfl ?_
  refine G_cin (n0 := 1) (host := "RingOfStraw") (As := []) (j := mi6) (q := 135) hX (ct6_64 hX.2.2.2.2.1 hX.2.2.2.2.2.1 rfl) (by decide +kernel) k1_97 k1_5 k1_98 rfl (nA := 0) (by decide) rfl rfl rfl rfl dX8_init_132 rfl ?_
  refine G_aast (c := 12) (len := 6) (t0 := 2) (ci := 6) (r := 64) (o := 31) (fs := [.ref (g.ad 65), .ref (g.ad 66), .int (0)]) (C := RX6) (T := TX6) (nf := 3) (q := 136) hX rfl rfl rfl rfl (by show inb _ _; decide) rfl dX8_init_135 rfl ?_
  refine G_iinc (v := 6) (lv' := [(1, .int (6)), (0, .ref (g.ad 0))]) (q := 139) hX dX8_init_136 0 rfl (by decide) rfl rfl rfl ?_
  refine G_goto hX dX8_init_139 (q := 114) (by decide) ?_
  refine G_iload_n (q := 115) hX dX8_init_114 0 rfl rfl ?_
  refine G_aload_n (q := 116) hX dX8_init_115 1 rfl rfl ?_
  refine G_get (c := 8) (p := 5) (nf := 11) (C := RX8) (T := TX8) (fs := [.ref (g.ad 1), .ref (g.ad 9), .ref (g.ad 17), .ref (g.ad 25), .ref (g.ad 26), .ref (g.ad 31), .ref (g.ad 32), .ref (g.ad 33), .ref (g.ad 35), .int (1), .int (0)]) (v := .ref (g.ad 31)) (q := 119) hX rfl rfl rfl iG8 k2_180 rfl rfl dX8_init_116 rfl ?_
  refine G_alen (t0 := 2) (len := 6) (v := 6) (q := 120) hX rfl rfl (by decide) rfl dX8_init_119 rfl ?_
  refine G_icmp_ge (q := 123) (t := 142) hX dX8_init_120 (by decide) rfl (fun _ => ?_) (fun z => absurd (by decide) z)
  refine G_iconst (v := 0) (q := 143) hX dX8_init_142 (by decide) rfl ?_
  refine G_istore_n (lv' := [(1, .int (0)), (0, .ref (g.ad 0))]) (q := 144) hX dX8_init_143 rfl rfl rfl ?_
  refine G_iload_n (q := 145) hX dX8_init_144 0 rfl rfl ?_
  refine G_aload_n (q := 146) hX dX8_init_145 1 rfl rfl ?_
  refine G_get (c := 8) (p := 6) (nf := 11) (C := RX8) (T := TX8) (fs := [.ref (g.ad 1), .ref (g.ad 9), .ref (g.ad 17), .ref (g.ad 25), .ref (g.ad 26), .ref (g.ad 31), .ref (g.ad 32), .ref (g.ad 33), .ref (g.ad 35), .int (1), .int (0)]) (v := .ref (g.ad 32)) (q := 149) hX rfl rfl rfl iG8 k2_181 rfl rfl dX8_init_146 rfl ?_
  refine G_alen (t0 := 3) (len := 4) (v := 4) (q := 150) hX rfl rfl (by decide) rfl dX8_init_149 rfl ?_
  refine G_icmp_ge (q := 153) (t := 172) hX dX8_init_150 (by decide) rfl (fun z => absurd z (by decide)) (fun _ => ?_)
  refine G_aload_n (q := 154) hX dX8_init_153 1 rfl rfl ?_
  refine G_get (c := 8) (p := 6) (nf := 11) (C := RX8) (T := TX8) (fs := [.ref (g.ad 1), .ref (g.ad 9), .ref (g.ad 17), .ref (g.ad 25), .ref (g.ad 26), .ref (g.ad 31), .ref (g.ad 32), .ref (g.ad 33), .ref (g.ad 35), .int (1), .int (0)]) (v := .ref (g.ad 32)) (q := 157) hX rfl rfl rfl iG8 k2_181 rfl rfl dX8_init_154 rfl ?_
  refine G_iload_n (q := 158) hX dX8_init_157 0 rfl rfl ?_
  refine G_new (n0 := 1) (c := 3) (nf := 3) (C := RX3) (T := TX3) (fs := [.null, .int 0, .int 0]) (q := 161) hX tyX3 tyX3_ok rfl iG3 k1_138 k1_207 k1_9 (by decide) rfl dX8_init_158 rfl ?_
  refine G_dup (q := 162) hX dX8_init_161 rfl rfl ?_
  refine G_cin (n0 := 1) (host := "RingOfStraw") (As := []) (j := mi3) (q := 165) hX (ct3_67 hX.2.2.2.2.1 hX.2.2.2.2.2.1 rfl) (by decide +kernel) k1_209 k1_9 k1_210 rfl (nA := 0) (by decide) rfl rfl rfl rfl dX8_init_162 rfl ?_
  refine G_aast (c := 13) (len := 4) (t0 := 3) (ci := 3) (r := 67) (o := 32) (fs := [.ref (g.ad 68), .int (-1), .int (0)]) (C := RX3) (T := TX3) (nf := 3) (q := 166) hX rfl rfl rfl rfl (by show inb _ _; decide) rfl dX8_init_165 rfl ?_
  refine G_iinc (v := 1) (lv' := [(1, .int (1)), (0, .ref (g.ad 0))]) (q := 169) hX dX8_init_166 0 rfl (by decide) rfl rfl rfl ?_
  refine G_goto hX dX8_init_169 (q := 144) (by decide) ?_
  refine G_iload_n (q := 145) hX dX8_init_144 0 rfl rfl ?_
  refine G_aload_n (q := 146) hX dX8_init_145 1 rfl rfl ?_
  refine G_get (c := 8) (p := 6) (nf := 11) (C := RX8) (T := TX8) (fs := [.ref (g.ad 1), .ref (g.ad 9), .ref (g.ad 17), .ref (g.ad 25), .ref (g.ad 26), .ref (g.ad 31), .ref (g.ad 32), .ref (g.ad 33), .ref (g.ad 35), .int (1), .int (0)]) (v := .ref (g.ad 32)) (q := 149) hX rfl rfl rfl iG8 k2_181 rfl rfl dX8_init_146 rfl ?_
  refine G_alen (t0 := 3) (len := 4) (v := 4) (q := 150) hX rfl rfl (by decide) rfl dX8_init_149 rfl ?_
  refine G_icmp_ge (q := 153) (t := 172) hX dX8_init_150 (by decide) rfl (fun z => absurd z (by decide)) (fun _ => ?_)
  refine G_aload_n (q := 154) hX dX8_init_153 1 rfl rfl ?_
  refine G_get (c := 8) (p := 6) (nf := 11) (C := RX8) (T := TX8) (fs := [.ref (g.ad 1), .ref (g.ad 9), .ref (g.ad 17), .ref (g.ad 25), .ref (g.ad 26), .ref (g.ad 31), .ref (g.ad 32), .ref (g.ad 33), .ref (g.ad 35), .int (1), .int (0)]) (v := .ref (g.ad 32)) (q := 157) hX rfl rfl rfl iG8 k2_181 rfl rfl dX8_init_154 rfl ?_
  refine G_iload_n (q := 158) hX dX8_init_157 0 rfl rfl ?_
  refine G_new (n0 := 1) (c := 3) (nf := 3) (C := RX3) (T := TX3) (fs := [.null, .int 0, .int 0]) (q := 161) hX tyX3 tyX3_ok rfl iG3 k1_138 k1_207 k1_9 (by decide) rfl dX8_init_158 rfl ?_
  refine G_dup (q := 162) hX dX8_init_161 rfl rfl ?_
  refine G_cin (n0 := 1) (host := "RingOfStraw") (As := []) (j := mi3) (q := 165) hX (ct3_69 hX.2.2.2.2.1 hX.2.2.2.2.2.1 rfl) (by decide +kernel) k1_209 k1_9 k1_210 rfl (nA := 0) (by decide) rfl rfl rfl rfl dX8_init_162 rfl ?_
  refine G_aast (c := 13) (len := 4) (t0 := 3) (ci := 3) (r := 69) (o := 32) (fs := [.ref (g.ad 70), .int (-1), .int (0)]) (C := RX3) (T := TX3) (nf := 3) (q := 166) hX rfl rfl rfl rfl (by show inb _ _; decide) rfl dX8_init_165 rfl ?_
  refine G_iinc (v := 2) (lv' := [(1, .int (2)), (0, .ref (g.ad 0))]) (q := 169) hX dX8_init_166 0 rfl (by decide) rfl rfl rfl ?_
  refine G_goto hX dX8_init_169 (q := 144) (by decide) ?_
  refine G_iload_n (q := 145) hX dX8_init_144 0 rfl rfl ?_
  refine G_aload_n (q := 146) hX dX8_init_145 1 rfl rfl ?_
  refine G_get (c := 8) (p := 6) (nf := 11) (C := RX8) (T := TX8) (fs := [.ref (g.ad 1), .ref (g.ad 9), .ref (g.ad 17), .ref (g.ad 25), .ref (g.ad 26), .ref (g.ad 31), .ref (g.ad 32), .ref (g.ad 33), .ref (g.ad 35), .int (1), .int (0)]) (v := .ref (g.ad 32)) (q := 149) hX rfl rfl rfl iG8 k2_181 rfl rfl dX8_init_146 rfl ?_
  refine G_alen (t0 := 3) (len := 4) (v := 4) (q := 150) hX rfl rfl (by decide) rfl dX8_init_149 rfl ?_
  refine G_icmp_ge (q := 153) (t := 172) hX dX8_init_150 (by decide) rfl (fun z => absurd z (by decide)) (fun _ => ?_)
  refine G_aload_n (q := 154) hX dX8_init_153 1 rfl rfl ?_
  refine G_get (c := 8) (p := 6) (nf := 11) (C := RX8) (T := TX8) (fs := [.ref (g.ad 1), .ref (g.ad 9), .ref (g.ad 17), .ref (g.ad 25), .ref (g.ad 26), .ref (g.ad 31), .ref (g.ad 32), .ref (g.ad 33), .ref (g.ad 35), .int (1), .int (0)]) (v := .ref (g.ad 32)) (q := 157) hX rfl rfl rfl iG8 k2_181 rfl rfl dX8_init_154 rfl ?_
  refine G_iload_n (q := 158) hX dX8_init_157 0 rfl rfl ?_
  refine G_new (n0 := 1) (c := 3) (nf := 3) (C := RX3) (T := TX3) (fs := [.null, .int 0, .int 0]) (q := 161) hX tyX3 tyX3_ok rfl iG3 k1_138 k1_207 k1_9 (by decide) rfl dX8_init_158 rfl ?_
  refine G_dup (q := 162) hX dX8_init_161 rfl rfl ?_
  refine G_cin (n0 := 1) (host := "RingOfStraw") (As := []) (j := mi3) (q := 165) hX (ct3_71 hX.2.2.2.2.1 hX.2.2.2.2.2.1 rfl) (by decide +kernel) k1_209 k1_9 k1_210 rfl (nA := 0) (by decide) rfl rfl rfl rfl dX8_init_162 rfl ?_
  refine G_aast (c := 13) (len := 4) (t0 := 3) (ci := 3) (r := 71) (o := 32) (fs := [.ref (g.ad 72), .int (-1), .int (0)]) (C := RX3) (T := TX3) (nf := 3) (q := 166) hX rfl rfl rfl rfl (by show inb _ _; decide) rfl dX8_init_165 rfl ?_
  refine G_iinc (v := 3) (lv' := [(1, .int (3)), (0, .ref (g.ad 0))]) (q := 169) hX dX8_init_166 0 rfl (by decide) rfl rfl rfl ?_
  refine G_goto hX dX8_init_169 (q := 144) (by decide) ?_
  refine G_iload_n (q := 145) hX dX8_init_144 0 rfl rfl ?_
  refine G_aload_n (q := 146) hX dX8_init_145 1 rfl rfl ?_
  refine G_get (c := 8) (p := 6) (nf := 11) (C := RX8) (T := TX8) (fs := [.ref (g.ad 1), .ref (g.ad 9), .ref (g.ad 17), .ref (g.ad 25), .ref (g.ad 26), .ref (g.ad 31), .ref (g.ad 32), .ref (g.ad 33), .ref (g.ad 35), .int (1), .int (0)]) (v := .ref (g.ad 32)) (q := 149) hX rfl rfl rfl iG8 k2_181 rfl rfl dX8_init_146 rfl ?_
  refine G_alen (t0 := 3) (len := 4) (v := 4) (q := 150) hX rfl rfl (by decide) rfl dX8_init_149 rfl ?_
  refine G_icmp_ge (q := 153) (t := 172) hX dX8_init_150 (by decide) rfl (fun z => absurd z (by decide)) (fun _ => ?_)
  refine G_aload_n (q := 154) hX dX8_init_153 1 rfl rfl ?_
  refine G_get (c := 8) (p := 6) (nf := 11) (C := RX8) (T := TX8) (fs := [.ref (g.ad 1), .ref (g.ad 9), .ref (g.ad 17), .ref (g.ad 25), .ref (g.ad 26), .ref (g.ad 31), .ref (g.ad 32), .ref (g.ad 33), .ref (g.ad 35), .int (1), .int (0)]) (v := .ref (g.ad 32)) (q := 157) hX rfl rfl rfl iG8 k2_181 rfl rfl dX8_init_154 rfl ?_
  refine G_iload_n (q := 158) hX dX8_init_157 0 rfl rfl ?_
  refine G_new (n0 := 1) (c := 3) (nf := 3) (C := RX3) (T := TX3) (fs := [.null, .int 0, .int 0]) (q := 161) hX tyX3 tyX3_ok rfl iG3 k1_138 k1_207 k1_9 (by decide) rfl dX8_init_158 rfl ?_
  refine G_dup (q := 162) hX dX8_init_161 rfl rfl ?_
  refine G_cin (n0 := 1) (host := "RingOfStraw") (As := []) (j := mi3) (q := 165) hX (ct3_73 hX.2.2.2.2.1 hX.2.2.2.2.2.1 rfl) (by decide +kernel) k1_209 k1_9 k1_210 rfl (nA := 0) (by decide) rfl rfl rfl rfl dX8_init_162 rfl ?_
  refine G_aast (c := 13) (len := 4) (t0 := 3) (ci := 3) (r := 73) (o := 32) (fs := [.ref (g.ad 74), .int (-1), .int (0)]) (C := RX3) (T := TX3) (nf := 3) (q := 166) hX rfl rfl rfl rfl (by show inb _ _; decide) rfl dX8_init_165 rfl ?_
  refine G_iinc (v := 4) (lv' := [(1, .int (4)), (0, .ref (g.ad 0))]) (q := 169) hX dX8_init_166 0 rfl (by decide) rfl rfl rfl ?_
  refine G_goto hX dX8_init_169 (q := 144) (by decide) ?_
  refine G_iload_n (q := 145) hX dX8_init_144 0 rfl rfl ?_
  refine G_aload_n (q := 146) hX dX8_init_145 1 rfl rfl ?_
  refine G_get (c := 8) (p := 6) (nf := 11) (C := RX8) (T := TX8) (fs := [.ref (g.ad 1), .ref (g.ad 9), .ref (g.ad 17), .ref (g.ad 25), .ref (g.ad 26), .ref (g.ad 31), .ref (g.ad 32), .ref (g.ad 33), .ref (g.ad 35), .int (1), .int (0)]) (v := .ref (g.ad 32)) (q := 149) hX rfl rfl rfl iG8 k2_181 rfl rfl dX8_init_146 rfl ?_
  refine G_alen (t0 := 3) (len := 4) (v := 4) (q := 150) hX rfl rfl (by decide) rfl dX8_init_149 rfl ?_
  refine G_icmp_ge (q := 153) (t := 172) hX dX8_init_150 (by decide) rfl (fun _ => ?_) (fun z => absurd (by decide) z)
  refine GV.pick [1] rfl ?_
  exact kk
