def dl9 : List Value := [.int 0, .null, .null, .null, .int 0, .null, .int 0, .null, .null, .int 0, .int 0, .int 0, .null, .null, .null, .null, .null, .null, .int 0, .int 0, .int 0, .int 0, .null, .null, .int 0, .int 0, .int 0, .null, .null, .int 0, .int 0, .null, .int 0, .int 0, .int 0, .int 0, .int 0, .null, .null]
def arr84 : Nat → Int32 := (upd (upd (upd (upd (fun _ => 0) (0 : Int32).toNatClampNeg (-1)) (1 : Int32).toNatClampNeg (-1)) (2 : Int32).toNatClampNeg (-1)) (3 : Int32).toNatClampNeg (-1))
def arr87 : Nat → Int32 := (upd (upd (upd (upd (upd (upd (upd (upd (upd (upd (upd (upd (upd (upd (upd (upd (upd (upd (upd (upd (upd (upd (upd (upd (upd (upd (upd (upd (upd (upd (upd (upd (upd (upd (upd (upd (upd (upd (upd (upd (upd (upd (upd (upd (upd (upd (upd (upd (fun _ => 0) (0 : Int32).toNatClampNeg (102)) (1 : Int32).toNatClampNeg (111)) (2 : Int32).toNatClampNeg (114)) (3 : Int32).toNatClampNeg (99)) (4 : Int32).toNatClampNeg (101)) (5 : Int32).toNatClampNeg (32)) (6 : Int32).toNatClampNeg (119)) (7 : Int32).toNatClampNeg (101)) (8 : Int32).toNatClampNeg (105)) (9 : Int32).toNatClampNeg (103)) (10 : Int32).toNatClampNeg (104)) (11 : Int32).toNatClampNeg (116)) (12 : Int32).toNatClampNeg (32)) (13 : Int32).toNatClampNeg (43)) (14 : Int32).toNatClampNeg (32)) (15 : Int32).toNatClampNeg (112)) (16 : Int32).toNatClampNeg (97)) (17 : Int32).toNatClampNeg (99)) (18 : Int32).toNatClampNeg (101)) (19 : Int32).toNatClampNeg (32)) (20 : Int32).toNatClampNeg (42)) (21 : Int32).toNatClampNeg (32)) (22 : Int32).toNatClampNeg (97)) (23 : Int32).toNatClampNeg (99)) (24 : Int32).toNatClampNeg (116)) (25 : Int32).toNatClampNeg (32)) (26 : Int32).toNatClampNeg (59)) (27 : Int32).toNatClampNeg (32)) (28 : Int32).toNatClampNeg (115)) (29 : Int32).toNatClampNeg (116)) (30 : Int32).toNatClampNeg (97)) (31 : Int32).toNatClampNeg (110)) (32 : Int32).toNatClampNeg (100)) (33 : Int32).toNatClampNeg (115)) (34 : Int32).toNatClampNeg (32)) (35 : Int32).toNatClampNeg (50)) (36 : Int32).toNatClampNeg (32)) (37 : Int32).toNatClampNeg (59)) (38 : Int32).toNatClampNeg (32)) (39 : Int32).toNatClampNeg (97)) (40 : Int32).toNatClampNeg (104)) (41 : Int32).toNatClampNeg (101)) (42 : Int32).toNatClampNeg (97)) (43 : Int32).toNatClampNeg (100)) (44 : Int32).toNatClampNeg (32)) (45 : Int32).toNatClampNeg (48)) (46 : Int32).toNatClampNeg (32)) (47 : Int32).toNatClampNeg (59))
def arr88 : Nat → Int32 := (upd (upd (upd (upd (upd (upd (upd (upd (upd (upd (upd (upd (upd (upd (upd (upd (upd (upd (upd (upd (upd (upd (upd (upd (upd (upd (upd (upd (upd (upd (upd (upd (upd (upd (upd (upd (upd (upd (upd (upd (upd (upd (upd (upd (upd (upd (upd (upd (upd (upd (upd (upd (upd (upd (upd (upd (upd (upd (upd (upd (upd (upd (upd (upd (upd (upd (upd (upd (upd (upd (upd (upd (upd (upd (upd (upd (upd (upd (upd (upd (upd (upd (upd (upd (upd (upd (upd (upd (upd (upd (upd (upd (upd (upd (upd (upd (fun _ => 0) (0 : Int32).toNatClampNeg (102)) (1 : Int32).toNatClampNeg (111)) (2 : Int32).toNatClampNeg (114)) (3 : Int32).toNatClampNeg (99)) (4 : Int32).toNatClampNeg (101)) (5 : Int32).toNatClampNeg (32)) (6 : Int32).toNatClampNeg (32)) (7 : Int32).toNatClampNeg (32)) (8 : Int32).toNatClampNeg (115)) (9 : Int32).toNatClampNeg (116)) (10 : Int32).toNatClampNeg (97)) (11 : Int32).toNatClampNeg (110)) (12 : Int32).toNatClampNeg (100)) (13 : Int32).toNatClampNeg (115)) (14 : Int32).toNatClampNeg (32)) (15 : Int32).toNatClampNeg (32)) (16 : Int32).toNatClampNeg (97)) (17 : Int32).toNatClampNeg (104)) (18 : Int32).toNatClampNeg (101)) (19 : Int32).toNatClampNeg (97)) (20 : Int32).toNatClampNeg (100)) (21 : Int32).toNatClampNeg (32)) (22 : Int32).toNatClampNeg (32)) (23 : Int32).toNatClampNeg (32)) (24 : Int32).toNatClampNeg (119)) (25 : Int32).toNatClampNeg (101)) (26 : Int32).toNatClampNeg (105)) (27 : Int32).toNatClampNeg (103)) (28 : Int32).toNatClampNeg (104)) (29 : Int32).toNatClampNeg (116)) (30 : Int32).toNatClampNeg (32)) (31 : Int32).toNatClampNeg (32)) (32 : Int32).toNatClampNeg (112)) (33 : Int32).toNatClampNeg (97)) (34 : Int32).toNatClampNeg (99)) (35 : Int32).toNatClampNeg (101)) (36 : Int32).toNatClampNeg (32)) (37 : Int32).toNatClampNeg (32)) (38 : Int32).toNatClampNeg (32)) (39 : Int32).toNatClampNeg (32)) (40 : Int32).toNatClampNeg (97)) (41 : Int32).toNatClampNeg (99)) (42 : Int32).toNatClampNeg (116)) (43 : Int32).toNatClampNeg (32)) (44 : Int32).toNatClampNeg (32)) (45 : Int32).toNatClampNeg (32)) (46 : Int32).toNatClampNeg (32)) (47 : Int32).toNatClampNeg (32)) (48 : Int32).toNatClampNeg (104)) (49 : Int32).toNatClampNeg (105)) (50 : Int32).toNatClampNeg (115)) (51 : Int32).toNatClampNeg (32)) (52 : Int32).toNatClampNeg (32)) (53 : Int32).toNatClampNeg (32)) (54 : Int32).toNatClampNeg (32)) (55 : Int32).toNatClampNeg (32)) (56 : Int32).toNatClampNeg (99)) (57 : Int32).toNatClampNeg (101)) (58 : Int32).toNatClampNeg (108)) (59 : Int32).toNatClampNeg (108)) (60 : Int32).toNatClampNeg (32)) (61 : Int32).toNatClampNeg (32)) (62 : Int32).toNatClampNeg (32)) (63 : Int32).toNatClampNeg (32)) (64 : Int32).toNatClampNeg (107)) (65 : Int32).toNatClampNeg (110)) (66 : Int32).toNatClampNeg (101)) (67 : Int32).toNatClampNeg (101)) (68 : Int32).toNatClampNeg (32)) (69 : Int32).toNatClampNeg (32)) (70 : Int32).toNatClampNeg (32)) (71 : Int32).toNatClampNeg (32)) (72 : Int32).toNatClampNeg (111)) (73 : Int32).toNatClampNeg (114)) (74 : Int32).toNatClampNeg (32)) (75 : Int32).toNatClampNeg (32)) (76 : Int32).toNatClampNeg (32)) (77 : Int32).toNatClampNeg (32)) (78 : Int32).toNatClampNeg (32)) (79 : Int32).toNatClampNeg (32)) (80 : Int32).toNatClampNeg (97)) (81 : Int32).toNatClampNeg (110)) (82 : Int32).toNatClampNeg (100)) (83 : Int32).toNatClampNeg (32)) (84 : Int32).toNatClampNeg (32)) (85 : Int32).toNatClampNeg (32)) (86 : Int32).toNatClampNeg (32)) (87 : Int32).toNatClampNeg (32)) (88 : Int32).toNatClampNeg (110)) (89 : Int32).toNatClampNeg (111)) (90 : Int32).toNatClampNeg (116)) (91 : Int32).toNatClampNeg (32)) (92 : Int32).toNatClampNeg (32)) (93 : Int32).toNatClampNeg (32)) (94 : Int32).toNatClampNeg (32)) (95 : Int32).toNatClampNeg (32))
set_option maxRecDepth 100000 in
set_option maxHeartbeats 8000000 in
theorem gt9_0 {g : GT} {X : XT} {cf : Nat → va_E} (hX : OkC g X mi9 76 19 2505) (hnm : X.meth.name = "<init>") (h : cf 75 = .inr (9, dl9)) (kk : ∀ cf2 : Nat → va_E, (∀ o, o < 75 → cf2 o = cf o) → cf2 75 = .inr (9, (((((((((((((((((((dl9.set 1 (.ref (g.ad 76))).set 2 (.ref (g.ad 77))).set 3 (.ref (g.ad 78))).set 5 (.ref (g.ad 79))).set 7 (.ref (g.ad 80))).set 8 (.ref (g.ad 81))).set 12 (.ref (g.ad 82))).set 13 (.ref (g.ad 83))).set 14 (.ref (g.ad 84))).set 15 (.ref (g.ad 85))).set 16 (.ref (g.ad 86))).set 17 (.ref (g.ad 87))).set 22 (.ref (g.ad 88))).set 23 (.ref (g.ad 89))).set 27 (.ref (g.ad 90))).set 28 (.ref (g.ad 91))).set 31 (.ref (g.ad 92))).set 37 (.ref (g.ad 93))).set 38 (.ref (g.ad 94)))) → cf2 76 = .inl (g.cA 10, 6, .inl (fun _ => 0)) → cf2 77 = .inl (g.cA 10, 6, .inl (fun _ => 0)) → cf2 78 = .inl (g.cA 10, 30, .inl (fun _ => 0)) → cf2 79 = .inl (g.cA 10, 160, .inl (fun _ => 0)) → cf2 80 = .inl (g.cA 10, 1200, .inl (fun _ => 0)) → cf2 81 = .inl (g.cA 10, 24, .inl (fun _ => 0)) → cf2 82 = .inl (g.cA 10, 30, .inl (fun _ => 0)) → cf2 83 = .inl (g.cA 10, 3, .inl (fun _ => 0)) → cf2 84 = .inl (g.cA 10, 4, .inl arr84) → cf2 85 = .inl (g.cA 10, 4, .inl (fun _ => 0)) → cf2 86 = .inl (g.cA 10, 160, .inl (fun _ => 0)) → cf2 87 = .inl (g.cA 10, 48, .inl arr87) → cf2 88 = .inl (g.cA 10, 96, .inl arr88) → cf2 89 = .inl (g.cA 10, 200, .inl (fun _ => 0)) → cf2 90 = .inl (g.cA 10, 200, .inl (fun _ => 0)) → cf2 91 = .inl (g.cA 10, 6, .inl (fun _ => 0)) → cf2 92 = .inl (g.cA 10, 288, .inl (fun _ => 0)) → cf2 93 = .inl (g.cA 10, 10, .inl (fun _ => 0)) → cf2 94 = .inl (g.cA 10, 30, .inl (fun _ => 0)) → GV g X mi9 1027 [(0, .ref (g.ad 75))] [] 95 cf2 19 2505) : GV g X mi9 0 [(0, .ref (g.ad 75))] [] 76 cf 0 0 := by
  refine G_aload_n (q := 1) hX dX9_init_0 0 rfl rfl ?_
  refine G_obj (q := 4) hX k4_134 rfl dX9_init_1 rfl ?_
  refine G_aload_n (q := 5) hX dX9_init_4 0 rfl rfl ?_
  refine G_bipush (v := 6) (q := 7) hX dX9_init_5 (by decide) rfl ?_
  refine G_newa (n0 := 76) (len := 6) (q := 9) hX (by decide) rfl dX9_init_7 rfl ?_
  refine G_putF (c := 9) (p := 1) (nf := 39) (C := RX9) (T := TX9) (fs := dl9) (fs' := (dl9.set 1 (.ref (g.ad 76)))) (ty := (tyX9 1)) (q := 12) hX hnm h rfl tyX9 tyX9_ok nmX9 rfl rfl iG9 k4_183 rfl rfl rfl (Nat.le_of_ble_eq_true rfl) (tyX9_ok 1 (by decide)) rfl rfl dX9_init_9 rfl ?_
  refine G_aload_n (q := 13) hX dX9_init_12 0 rfl rfl ?_
  refine G_bipush (v := 6) (q := 15) hX dX9_init_13 (by decide) rfl ?_
  refine G_newa (n0 := 76) (len := 6) (q := 17) hX (by decide) rfl dX9_init_15 rfl ?_
  refine G_putF (c := 9) (p := 2) (nf := 39) (C := RX9) (T := TX9) (fs := (dl9.set 1 (.ref (g.ad 76)))) (fs' := ((dl9.set 1 (.ref (g.ad 76))).set 2 (.ref (g.ad 77)))) (ty := (tyX9 2)) (q := 20) hX hnm rfl rfl tyX9 tyX9_ok nmX9 rfl rfl iG9 k4_184 rfl rfl rfl (Nat.le_of_ble_eq_true rfl) (tyX9_ok 2 (by decide)) rfl rfl dX9_init_17 rfl ?_
  refine G_aload_n (q := 21) hX dX9_init_20 0 rfl rfl ?_
  refine G_bipush (v := 30) (q := 23) hX dX9_init_21 (by decide) rfl ?_
  refine G_newa (n0 := 76) (len := 30) (q := 25) hX (by decide) rfl dX9_init_23 rfl ?_
  refine G_putF (c := 9) (p := 3) (nf := 39) (C := RX9) (T := TX9) (fs := ((dl9.set 1 (.ref (g.ad 76))).set 2 (.ref (g.ad 77)))) (fs' := (((dl9.set 1 (.ref (g.ad 76))).set 2 (.ref (g.ad 77))).set 3 (.ref (g.ad 78)))) (ty := (tyX9 3)) (q := 28) hX hnm rfl rfl tyX9 tyX9_ok nmX9 rfl rfl iG9 k4_185 rfl rfl rfl (Nat.le_of_ble_eq_true rfl) (tyX9_ok 3 (by decide)) rfl rfl dX9_init_25 rfl ?_
  refine G_aload_n (q := 29) hX dX9_init_28 0 rfl rfl ?_
  refine G_sipush (v := 160) (q := 32) hX dX9_init_29 (by decide) rfl ?_
  refine G_newa (n0 := 76) (len := 160) (q := 34) hX (by decide) rfl dX9_init_32 rfl ?_
  refine G_putF (c := 9) (p := 5) (nf := 39) (C := RX9) (T := TX9) (fs := (((dl9.set 1 (.ref (g.ad 76))).set 2 (.ref (g.ad 77))).set 3 (.ref (g.ad 78)))) (fs' := ((((dl9.set 1 (.ref (g.ad 76))).set 2 (.ref (g.ad 77))).set 3 (.ref (g.ad 78))).set 5 (.ref (g.ad 79)))) (ty := (tyX9 5)) (q := 37) hX hnm rfl rfl tyX9 tyX9_ok nmX9 rfl rfl iG9 k4_187 rfl rfl rfl (Nat.le_of_ble_eq_true rfl) (tyX9_ok 5 (by decide)) rfl rfl dX9_init_34 rfl ?_
  refine G_aload_n (q := 38) hX dX9_init_37 0 rfl rfl ?_
  refine G_sipush (v := 1200) (q := 41) hX dX9_init_38 (by decide) rfl ?_
  refine G_newa (n0 := 76) (len := 1200) (q := 43) hX (by decide) rfl dX9_init_41 rfl ?_
  refine G_putF (c := 9) (p := 7) (nf := 39) (C := RX9) (T := TX9) (fs := ((((dl9.set 1 (.ref (g.ad 76))).set 2 (.ref (g.ad 77))).set 3 (.ref (g.ad 78))).set 5 (.ref (g.ad 79)))) (fs' := (((((dl9.set 1 (.ref (g.ad 76))).set 2 (.ref (g.ad 77))).set 3 (.ref (g.ad 78))).set 5 (.ref (g.ad 79))).set 7 (.ref (g.ad 80)))) (ty := (tyX9 7)) (q := 46) hX hnm rfl rfl tyX9 tyX9_ok nmX9 rfl rfl iG9 k4_189 rfl rfl rfl (Nat.le_of_ble_eq_true rfl) (tyX9_ok 7 (by decide)) rfl rfl dX9_init_43 rfl ?_
  refine G_aload_n (q := 47) hX dX9_init_46 0 rfl rfl ?_
  refine G_bipush (v := 24) (q := 49) hX dX9_init_47 (by decide) rfl ?_
  refine G_newa (n0 := 76) (len := 24) (q := 51) hX (by decide) rfl dX9_init_49 rfl ?_
  refine G_putF (c := 9) (p := 8) (nf := 39) (C := RX9) (T := TX9) (fs := (((((dl9.set 1 (.ref (g.ad 76))).set 2 (.ref (g.ad 77))).set 3 (.ref (g.ad 78))).set 5 (.ref (g.ad 79))).set 7 (.ref (g.ad 80)))) (fs' := ((((((dl9.set 1 (.ref (g.ad 76))).set 2 (.ref (g.ad 77))).set 3 (.ref (g.ad 78))).set 5 (.ref (g.ad 79))).set 7 (.ref (g.ad 80))).set 8 (.ref (g.ad 81)))) (ty := (tyX9 8)) (q := 54) hX hnm rfl rfl tyX9 tyX9_ok nmX9 rfl rfl iG9 k4_190 rfl rfl rfl (Nat.le_of_ble_eq_true rfl) (tyX9_ok 8 (by decide)) rfl rfl dX9_init_51 rfl ?_
  refine G_aload_n (q := 55) hX dX9_init_54 0 rfl rfl ?_
  refine G_bipush (v := 30) (q := 57) hX dX9_init_55 (by decide) rfl ?_
  refine G_newa (n0 := 76) (len := 30) (q := 59) hX (by decide) rfl dX9_init_57 rfl ?_
  refine G_putF (c := 9) (p := 12) (nf := 39) (C := RX9) (T := TX9) (fs := ((((((dl9.set 1 (.ref (g.ad 76))).set 2 (.ref (g.ad 77))).set 3 (.ref (g.ad 78))).set 5 (.ref (g.ad 79))).set 7 (.ref (g.ad 80))).set 8 (.ref (g.ad 81)))) (fs' := (((((((dl9.set 1 (.ref (g.ad 76))).set 2 (.ref (g.ad 77))).set 3 (.ref (g.ad 78))).set 5 (.ref (g.ad 79))).set 7 (.ref (g.ad 80))).set 8 (.ref (g.ad 81))).set 12 (.ref (g.ad 82)))) (ty := (tyX9 12)) (q := 62) hX hnm rfl rfl tyX9 tyX9_ok nmX9 rfl rfl iG9 k4_194 rfl rfl rfl (Nat.le_of_ble_eq_true rfl) (tyX9_ok 12 (by decide)) rfl rfl dX9_init_59 rfl ?_
  refine G_aload_n (q := 63) hX dX9_init_62 0 rfl rfl ?_
  refine G_iconst (v := 3) (q := 64) hX dX9_init_63 (by decide) rfl ?_
  refine G_newa (n0 := 76) (len := 3) (q := 66) hX (by decide) rfl dX9_init_64 rfl ?_
  refine G_putF (c := 9) (p := 13) (nf := 39) (C := RX9) (T := TX9) (fs := (((((((dl9.set 1 (.ref (g.ad 76))).set 2 (.ref (g.ad 77))).set 3 (.ref (g.ad 78))).set 5 (.ref (g.ad 79))).set 7 (.ref (g.ad 80))).set 8 (.ref (g.ad 81))).set 12 (.ref (g.ad 82)))) (fs' := ((((((((dl9.set 1 (.ref (g.ad 76))).set 2 (.ref (g.ad 77))).set 3 (.ref (g.ad 78))).set 5 (.ref (g.ad 79))).set 7 (.ref (g.ad 80))).set 8 (.ref (g.ad 81))).set 12 (.ref (g.ad 82))).set 13 (.ref (g.ad 83)))) (ty := (tyX9 13)) (q := 69) hX hnm rfl rfl tyX9 tyX9_ok nmX9 rfl rfl iG9 k4_195 rfl rfl rfl (Nat.le_of_ble_eq_true rfl) (tyX9_ok 13 (by decide)) rfl rfl dX9_init_66 rfl ?_
  refine G_aload_n (q := 70) hX dX9_init_69 0 rfl rfl ?_
  refine G_iconst (v := 4) (q := 71) hX dX9_init_70 (by decide) rfl ?_
  refine G_newa (n0 := 76) (len := 4) (q := 73) hX (by decide) rfl dX9_init_71 rfl ?_
  refine G_dup (q := 74) hX dX9_init_73 rfl rfl ?_
  refine G_iconst (v := 0) (q := 75) hX dX9_init_74 (by decide) rfl ?_
  refine G_iconst (v := -1) (q := 76) hX dX9_init_75 (by decide) rfl ?_
  refine G_iastP (len := 4) (o := 84) (q := 77) hX rfl (by show inb _ _; decide) rfl dX9_init_76 rfl ?_
  refine G_dup (q := 78) hX dX9_init_77 rfl rfl ?_
  refine G_iconst (v := 1) (q := 79) hX dX9_init_78 (by decide) rfl ?_
  refine G_iconst (v := -1) (q := 80) hX dX9_init_79 (by decide) rfl ?_
  refine G_iastP (len := 4) (o := 84) (q := 81) hX rfl (by show inb _ _; decide) rfl dX9_init_80 rfl ?_
  refine G_dup (q := 82) hX dX9_init_81 rfl rfl ?_
  refine G_iconst (v := 2) (q := 83) hX dX9_init_82 (by decide) rfl ?_
  refine G_iconst (v := -1) (q := 84) hX dX9_init_83 (by decide) rfl ?_
  refine G_iastP (len := 4) (o := 84) (q := 85) hX rfl (by show inb _ _; decide) rfl dX9_init_84 rfl ?_
  refine G_dup (q := 86) hX dX9_init_85 rfl rfl ?_
  refine G_iconst (v := 3) (q := 87) hX dX9_init_86 (by decide) rfl ?_
  refine G_iconst (v := -1) (q := 88) hX dX9_init_87 (by decide) rfl ?_
  refine G_iastP (len := 4) (o := 84) (q := 89) hX rfl (by show inb _ _; decide) rfl dX9_init_88 rfl ?_
  refine G_putF (c := 9) (p := 14) (nf := 39) (C := RX9) (T := TX9) (fs := ((((((((dl9.set 1 (.ref (g.ad 76))).set 2 (.ref (g.ad 77))).set 3 (.ref (g.ad 78))).set 5 (.ref (g.ad 79))).set 7 (.ref (g.ad 80))).set 8 (.ref (g.ad 81))).set 12 (.ref (g.ad 82))).set 13 (.ref (g.ad 83)))) (fs' := (((((((((dl9.set 1 (.ref (g.ad 76))).set 2 (.ref (g.ad 77))).set 3 (.ref (g.ad 78))).set 5 (.ref (g.ad 79))).set 7 (.ref (g.ad 80))).set 8 (.ref (g.ad 81))).set 12 (.ref (g.ad 82))).set 13 (.ref (g.ad 83))).set 14 (.ref (g.ad 84)))) (ty := (tyX9 14)) (q := 92) hX hnm rfl rfl tyX9 tyX9_ok nmX9 rfl rfl iG9 k4_196 rfl rfl rfl (Nat.le_of_ble_eq_true rfl) (tyX9_ok 14 (by decide)) rfl rfl dX9_init_89 rfl ?_
  refine G_aload_n (q := 93) hX dX9_init_92 0 rfl rfl ?_
  refine G_iconst (v := 4) (q := 94) hX dX9_init_93 (by decide) rfl ?_
  refine G_newa (n0 := 76) (len := 4) (q := 96) hX (by decide) rfl dX9_init_94 rfl ?_
  refine G_putF (c := 9) (p := 15) (nf := 39) (C := RX9) (T := TX9) (fs := (((((((((dl9.set 1 (.ref (g.ad 76))).set 2 (.ref (g.ad 77))).set 3 (.ref (g.ad 78))).set 5 (.ref (g.ad 79))).set 7 (.ref (g.ad 80))).set 8 (.ref (g.ad 81))).set 12 (.ref (g.ad 82))).set 13 (.ref (g.ad 83))).set 14 (.ref (g.ad 84)))) (fs' := ((((((((((dl9.set 1 (.ref (g.ad 76))).set 2 (.ref (g.ad 77))).set 3 (.ref (g.ad 78))).set 5 (.ref (g.ad 79))).set 7 (.ref (g.ad 80))).set 8 (.ref (g.ad 81))).set 12 (.ref (g.ad 82))).set 13 (.ref (g.ad 83))).set 14 (.ref (g.ad 84))).set 15 (.ref (g.ad 85)))) (ty := (tyX9 15)) (q := 99) hX hnm rfl rfl tyX9 tyX9_ok nmX9 rfl rfl iG9 k4_197 rfl rfl rfl (Nat.le_of_ble_eq_true rfl) (tyX9_ok 15 (by decide)) rfl rfl dX9_init_96 rfl ?_
  refine G_aload_n (q := 100) hX dX9_init_99 0 rfl rfl ?_
  refine G_sipush (v := 160) (q := 103) hX dX9_init_100 (by decide) rfl ?_
  refine G_newa (n0 := 76) (len := 160) (q := 105) hX (by decide) rfl dX9_init_103 rfl ?_
  refine G_putF (c := 9) (p := 16) (nf := 39) (C := RX9) (T := TX9) (fs := ((((((((((dl9.set 1 (.ref (g.ad 76))).set 2 (.ref (g.ad 77))).set 3 (.ref (g.ad 78))).set 5 (.ref (g.ad 79))).set 7 (.ref (g.ad 80))).set 8 (.ref (g.ad 81))).set 12 (.ref (g.ad 82))).set 13 (.ref (g.ad 83))).set 14 (.ref (g.ad 84))).set 15 (.ref (g.ad 85)))) (fs' := (((((((((((dl9.set 1 (.ref (g.ad 76))).set 2 (.ref (g.ad 77))).set 3 (.ref (g.ad 78))).set 5 (.ref (g.ad 79))).set 7 (.ref (g.ad 80))).set 8 (.ref (g.ad 81))).set 12 (.ref (g.ad 82))).set 13 (.ref (g.ad 83))).set 14 (.ref (g.ad 84))).set 15 (.ref (g.ad 85))).set 16 (.ref (g.ad 86)))) (ty := (tyX9 16)) (q := 108) hX hnm rfl rfl tyX9 tyX9_ok nmX9 rfl rfl iG9 k4_198 rfl rfl rfl (Nat.le_of_ble_eq_true rfl) (tyX9_ok 16 (by decide)) rfl rfl dX9_init_105 rfl ?_
  refine G_aload_n (q := 109) hX dX9_init_108 0 rfl rfl ?_
  refine G_bipush (v := 48) (q := 111) hX dX9_init_109 (by decide) rfl ?_
  refine G_newa (n0 := 76) (len := 48) (q := 113) hX (by decide) rfl dX9_init_111 rfl ?_
  refine G_dup (q := 114) hX dX9_init_113 rfl rfl ?_
  refine G_iconst (v := 0) (q := 115) hX dX9_init_114 (by decide) rfl ?_
  refine G_bipush (v := 102) (q := 117) hX dX9_init_115 (by decide) rfl ?_
  refine G_iastP (len := 48) (o := 87) (q := 118) hX rfl (by show inb _ _; decide) rfl dX9_init_117 rfl ?_
  refine G_dup (q := 119) hX dX9_init_118 rfl rfl ?_
  refine G_iconst (v := 1) (q := 120) hX dX9_init_119 (by decide) rfl ?_
  refine G_bipush (v := 111) (q := 122) hX dX9_init_120 (by decide) rfl ?_
  refine G_iastP (len := 48) (o := 87) (q := 123) hX rfl (by show inb _ _; decide) rfl dX9_init_122 rfl ?_
  refine G_dup (q := 124) hX dX9_init_123 rfl rfl ?_
  refine G_iconst (v := 2) (q := 125) hX dX9_init_124 (by decide) rfl ?_
  refine G_bipush (v := 114) (q := 127) hX dX9_init_125 (by decide) rfl ?_
  refine G_iastP (len := 48) (o := 87) (q := 128) hX rfl (by show inb _ _; decide) rfl dX9_init_127 rfl ?_
  refine G_dup (q := 129) hX dX9_init_128 rfl rfl ?_
  refine G_iconst (v := 3) (q := 130) hX dX9_init_129 (by decide) rfl ?_
  refine G_bipush (v := 99) (q := 132) hX dX9_init_130 (by decide) rfl ?_
  refine G_iastP (len := 48) (o := 87) (q := 133) hX rfl (by show inb _ _; decide) rfl dX9_init_132 rfl ?_
  refine G_dup (q := 134) hX dX9_init_133 rfl rfl ?_
  refine G_iconst (v := 4) (q := 135) hX dX9_init_134 (by decide) rfl ?_
  refine G_bipush (v := 101) (q := 137) hX dX9_init_135 (by decide) rfl ?_
  refine G_iastP (len := 48) (o := 87) (q := 138) hX rfl (by show inb _ _; decide) rfl dX9_init_137 rfl ?_
  refine G_dup (q := 139) hX dX9_init_138 rfl rfl ?_
  refine G_iconst (v := 5) (q := 140) hX dX9_init_139 (by decide) rfl ?_
  refine G_bipush (v := 32) (q := 142) hX dX9_init_140 (by decide) rfl ?_
  refine G_iastP (len := 48) (o := 87) (q := 143) hX rfl (by show inb _ _; decide) rfl dX9_init_142 rfl ?_
  refine G_dup (q := 144) hX dX9_init_143 rfl rfl ?_
  refine G_bipush (v := 6) (q := 146) hX dX9_init_144 (by decide) rfl ?_
  refine G_bipush (v := 119) (q := 148) hX dX9_init_146 (by decide) rfl ?_
  refine G_iastP (len := 48) (o := 87) (q := 149) hX rfl (by show inb _ _; decide) rfl dX9_init_148 rfl ?_
  refine G_dup (q := 150) hX dX9_init_149 rfl rfl ?_
  refine G_bipush (v := 7) (q := 152) hX dX9_init_150 (by decide) rfl ?_
  refine G_bipush (v := 101) (q := 154) hX dX9_init_152 (by decide) rfl ?_
  refine G_iastP (len := 48) (o := 87) (q := 155) hX rfl (by show inb _ _; decide) rfl dX9_init_154 rfl ?_
  refine G_dup (q := 156) hX dX9_init_155 rfl rfl ?_
  refine G_bipush (v := 8) (q := 158) hX dX9_init_156 (by decide) rfl ?_
  refine G_bipush (v := 105) (q := 160) hX dX9_init_158 (by decide) rfl ?_
  refine G_iastP (len := 48) (o := 87) (q := 161) hX rfl (by show inb _ _; decide) rfl dX9_init_160 rfl ?_
  refine G_dup (q := 162) hX dX9_init_161 rfl rfl ?_
  refine G_bipush (v := 9) (q := 164) hX dX9_init_162 (by decide) rfl ?_
  refine G_bipush (v := 103) (q := 166) hX dX9_init_164 (by decide) rfl ?_
  refine G_iastP (len := 48) (o := 87) (q := 167) hX rfl (by show inb _ _; decide) rfl dX9_init_166 rfl ?_
  refine G_dup (q := 168) hX dX9_init_167 rfl rfl ?_
  refine G_bipush (v := 10) (q := 170) hX dX9_init_168 (by decide) rfl ?_
  refine G_bipush (v := 104) (q := 172) hX dX9_init_170 (by decide) rfl ?_
  refine G_iastP (len := 48) (o := 87) (q := 173) hX rfl (by show inb _ _; decide) rfl dX9_init_172 rfl ?_
  refine G_dup (q := 174) hX dX9_init_173 rfl rfl ?_
  refine G_bipush (v := 11) (q := 176) hX dX9_init_174 (by decide) rfl ?_
  refine G_bipush (v := 116) (q := 178) hX dX9_init_176 (by decide) rfl ?_
  refine G_iastP (len := 48) (o := 87) (q := 179) hX rfl (by show inb _ _; decide) rfl dX9_init_178 rfl ?_
  refine G_dup (q := 180) hX dX9_init_179 rfl rfl ?_
  refine G_bipush (v := 12) (q := 182) hX dX9_init_180 (by decide) rfl ?_
  refine G_bipush (v := 32) (q := 184) hX dX9_init_182 (by decide) rfl ?_
  refine G_iastP (len := 48) (o := 87) (q := 185) hX rfl (by show inb _ _; decide) rfl dX9_init_184 rfl ?_
  refine G_dup (q := 186) hX dX9_init_185 rfl rfl ?_
  refine G_bipush (v := 13) (q := 188) hX dX9_init_186 (by decide) rfl ?_
  refine G_bipush (v := 43) (q := 190) hX dX9_init_188 (by decide) rfl ?_
  refine G_iastP (len := 48) (o := 87) (q := 191) hX rfl (by show inb _ _; decide) rfl dX9_init_190 rfl ?_
  refine G_dup (q := 192) hX dX9_init_191 rfl rfl ?_
  refine G_bipush (v := 14) (q := 194) hX dX9_init_192 (by decide) rfl ?_
  refine G_bipush (v := 32) (q := 196) hX dX9_init_194 (by decide) rfl ?_
  refine G_iastP (len := 48) (o := 87) (q := 197) hX rfl (by show inb _ _; decide) rfl dX9_init_196 rfl ?_
  refine G_dup (q := 198) hX dX9_init_197 rfl rfl ?_
  refine G_bipush (v := 15) (q := 200) hX dX9_init_198 (by decide) rfl ?_
  refine G_bipush (v := 112) (q := 202) hX dX9_init_200 (by decide) rfl ?_
  refine G_iastP (len := 48) (o := 87) (q := 203) hX rfl (by show inb _ _; decide) rfl dX9_init_202 rfl ?_
  refine G_dup (q := 204) hX dX9_init_203 rfl rfl ?_
  refine G_bipush (v := 16) (q := 206) hX dX9_init_204 (by decide) rfl ?_
  refine G_bipush (v := 97) (q := 208) hX dX9_init_206 (by decide) rfl ?_
  refine G_iastP (len := 48) (o := 87) (q := 209) hX rfl (by show inb _ _; decide) rfl dX9_init_208 rfl ?_
  refine G_dup (q := 210) hX dX9_init_209 rfl rfl ?_
  refine G_bipush (v := 17) (q := 212) hX dX9_init_210 (by decide) rfl ?_
  refine G_bipush (v := 99) (q := 214) hX dX9_init_212 (by decide) rfl ?_
  refine G_iastP (len := 48) (o := 87) (q := 215) hX rfl (by show inb _ _; decide) rfl dX9_init_214 rfl ?_
  refine G_dup (q := 216) hX dX9_init_215 rfl rfl ?_
  refine G_bipush (v := 18) (q := 218) hX dX9_init_216 (by decide) rfl ?_
  refine G_bipush (v := 101) (q := 220) hX dX9_init_218 (by decide) rfl ?_
  refine G_iastP (len := 48) (o := 87) (q := 221) hX rfl (by show inb _ _; decide) rfl dX9_init_220 rfl ?_
  refine G_dup (q := 222) hX dX9_init_221 rfl rfl ?_
  refine G_bipush (v := 19) (q := 224) hX dX9_init_222 (by decide) rfl ?_
  refine G_bipush (v := 32) (q := 226) hX dX9_init_224 (by decide) rfl ?_
  refine G_iastP (len := 48) (o := 87) (q := 227) hX rfl (by show inb _ _; decide) rfl dX9_init_226 rfl ?_
  refine G_dup (q := 228) hX dX9_init_227 rfl rfl ?_
  refine G_bipush (v := 20) (q := 230) hX dX9_init_228 (by decide) rfl ?_
  refine G_bipush (v := 42) (q := 232) hX dX9_init_230 (by decide) rfl ?_
  refine G_iastP (len := 48) (o := 87) (q := 233) hX rfl (by show inb _ _; decide) rfl dX9_init_232 rfl ?_
  refine G_dup (q := 234) hX dX9_init_233 rfl rfl ?_
  refine G_bipush (v := 21) (q := 236) hX dX9_init_234 (by decide) rfl ?_
  refine G_bipush (v := 32) (q := 238) hX dX9_init_236 (by decide) rfl ?_
  refine G_iastP (len := 48) (o := 87) (q := 239) hX rfl (by show inb _ _; decide) rfl dX9_init_238 rfl ?_
  refine G_dup (q := 240) hX dX9_init_239 rfl rfl ?_
  refine G_bipush (v := 22) (q := 242) hX dX9_init_240 (by decide) rfl ?_
  refine G_bipush (v := 97) (q := 244) hX dX9_init_242 (by decide) rfl ?_
  refine G_iastP (len := 48) (o := 87) (q := 245) hX rfl (by show inb _ _; decide) rfl dX9_init_244 rfl ?_
  refine G_dup (q := 246) hX dX9_init_245 rfl rfl ?_
  refine G_bipush (v := 23) (q := 248) hX dX9_init_246 (by decide) rfl ?_
  refine G_bipush (v := 99) (q := 250) hX dX9_init_248 (by decide) rfl ?_
  refine G_iastP (len := 48) (o := 87) (q := 251) hX rfl (by show inb _ _; decide) rfl dX9_init_250 rfl ?_
  refine G_dup (q := 252) hX dX9_init_251 rfl rfl ?_
  refine G_bipush (v := 24) (q := 254) hX dX9_init_252 (by decide) rfl ?_
  refine G_bipush (v := 116) (q := 256) hX dX9_init_254 (by decide) rfl ?_
  refine G_iastP (len := 48) (o := 87) (q := 257) hX rfl (by show inb _ _; decide) rfl dX9_init_256 rfl ?_
  refine G_dup (q := 258) hX dX9_init_257 rfl rfl ?_
  refine G_bipush (v := 25) (q := 260) hX dX9_init_258 (by decide) rfl ?_
  refine G_bipush (v := 32) (q := 262) hX dX9_init_260 (by decide) rfl ?_
  refine G_iastP (len := 48) (o := 87) (q := 263) hX rfl (by show inb _ _; decide) rfl dX9_init_262 rfl ?_
  refine G_dup (q := 264) hX dX9_init_263 rfl rfl ?_
  refine G_bipush (v := 26) (q := 266) hX dX9_init_264 (by decide) rfl ?_
  refine G_bipush (v := 59) (q := 268) hX dX9_init_266 (by decide) rfl ?_
  refine G_iastP (len := 48) (o := 87) (q := 269) hX rfl (by show inb _ _; decide) rfl dX9_init_268 rfl ?_
  refine G_dup (q := 270) hX dX9_init_269 rfl rfl ?_
  refine G_bipush (v := 27) (q := 272) hX dX9_init_270 (by decide) rfl ?_
  refine G_bipush (v := 32) (q := 274) hX dX9_init_272 (by decide) rfl ?_
  refine G_iastP (len := 48) (o := 87) (q := 275) hX rfl (by show inb _ _; decide) rfl dX9_init_274 rfl ?_
  refine G_dup (q := 276) hX dX9_init_275 rfl rfl ?_
  refine G_bipush (v := 28) (q := 278) hX dX9_init_276 (by decide) rfl ?_
  refine G_bipush (v := 115) (q := 280) hX dX9_init_278 (by decide) rfl ?_
  refine G_iastP (len := 48) (o := 87) (q := 281) hX rfl (by show inb _ _; decide) rfl dX9_init_280 rfl ?_
  refine G_dup (q := 282) hX dX9_init_281 rfl rfl ?_
  refine G_bipush (v := 29) (q := 284) hX dX9_init_282 (by decide) rfl ?_
  refine G_bipush (v := 116) (q := 286) hX dX9_init_284 (by decide) rfl ?_
  refine G_iastP (len := 48) (o := 87) (q := 287) hX rfl (by show inb _ _; decide) rfl dX9_init_286 rfl ?_
  refine G_dup (q := 288) hX dX9_init_287 rfl rfl ?_
  refine G_bipush (v := 30) (q := 290) hX dX9_init_288 (by decide) rfl ?_
  refine G_bipush (v := 97) (q := 292) hX dX9_init_290 (by decide) rfl ?_
  refine G_iastP (len := 48) (o := 87) (q := 293) hX rfl (by show inb _ _; decide) rfl dX9_init_292 rfl ?_
  refine G_dup (q := 294) hX dX9_init_293 rfl rfl ?_
  refine G_bipush (v := 31) (q := 296) hX dX9_init_294 (by decide) rfl ?_
  refine G_bipush (v := 110) (q := 298) hX dX9_init_296 (by decide) rfl ?_
  refine G_iastP (len := 48) (o := 87) (q := 299) hX rfl (by show inb _ _; decide) rfl dX9_init_298 rfl ?_
  refine G_dup (q := 300) hX dX9_init_299 rfl rfl ?_
  refine G_bipush (v := 32) (q := 302) hX dX9_init_300 (by decide) rfl ?_
  refine G_bipush (v := 100) (q := 304) hX dX9_init_302 (by decide) rfl ?_
  refine G_iastP (len := 48) (o := 87) (q := 305) hX rfl (by show inb _ _; decide) rfl dX9_init_304 rfl ?_
  refine G_dup (q := 306) hX dX9_init_305 rfl rfl ?_
  refine G_bipush (v := 33) (q := 308) hX dX9_init_306 (by decide) rfl ?_
  refine G_bipush (v := 115) (q := 310) hX dX9_init_308 (by decide) rfl ?_
  refine G_iastP (len := 48) (o := 87) (q := 311) hX rfl (by show inb _ _; decide) rfl dX9_init_310 rfl ?_
  refine G_dup (q := 312) hX dX9_init_311 rfl rfl ?_
  refine G_bipush (v := 34) (q := 314) hX dX9_init_312 (by decide) rfl ?_
  refine G_bipush (v := 32) (q := 316) hX dX9_init_314 (by decide) rfl ?_
  refine G_iastP (len := 48) (o := 87) (q := 317) hX rfl (by show inb _ _; decide) rfl dX9_init_316 rfl ?_
  refine G_dup (q := 318) hX dX9_init_317 rfl rfl ?_
  refine G_bipush (v := 35) (q := 320) hX dX9_init_318 (by decide) rfl ?_
  refine G_bipush (v := 50) (q := 322) hX dX9_init_320 (by decide) rfl ?_
  refine G_iastP (len := 48) (o := 87) (q := 323) hX rfl (by show inb _ _; decide) rfl dX9_init_322 rfl ?_
  refine G_dup (q := 324) hX dX9_init_323 rfl rfl ?_
  refine G_bipush (v := 36) (q := 326) hX dX9_init_324 (by decide) rfl ?_
  refine G_bipush (v := 32) (q := 328) hX dX9_init_326 (by decide) rfl ?_
  refine G_iastP (len := 48) (o := 87) (q := 329) hX rfl (by show inb _ _; decide) rfl dX9_init_328 rfl ?_
  refine G_dup (q := 330) hX dX9_init_329 rfl rfl ?_
  refine G_bipush (v := 37) (q := 332) hX dX9_init_330 (by decide) rfl ?_
  refine G_bipush (v := 59) (q := 334) hX dX9_init_332 (by decide) rfl ?_
  refine G_iastP (len := 48) (o := 87) (q := 335) hX rfl (by show inb _ _; decide) rfl dX9_init_334 rfl ?_
  refine G_dup (q := 336) hX dX9_init_335 rfl rfl ?_
  refine G_bipush (v := 38) (q := 338) hX dX9_init_336 (by decide) rfl ?_
  refine G_bipush (v := 32) (q := 340) hX dX9_init_338 (by decide) rfl ?_
  refine G_iastP (len := 48) (o := 87) (q := 341) hX rfl (by show inb _ _; decide) rfl dX9_init_340 rfl ?_
  refine G_dup (q := 342) hX dX9_init_341 rfl rfl ?_
  refine G_bipush (v := 39) (q := 344) hX dX9_init_342 (by decide) rfl ?_
  refine G_bipush (v := 97) (q := 346) hX dX9_init_344 (by decide) rfl ?_
  refine G_iastP (len := 48) (o := 87) (q := 347) hX rfl (by show inb _ _; decide) rfl dX9_init_346 rfl ?_
  refine G_dup (q := 348) hX dX9_init_347 rfl rfl ?_
  refine G_bipush (v := 40) (q := 350) hX dX9_init_348 (by decide) rfl ?_
  refine G_bipush (v := 104) (q := 352) hX dX9_init_350 (by decide) rfl ?_
  refine G_iastP (len := 48) (o := 87) (q := 353) hX rfl (by show inb _ _; decide) rfl dX9_init_352 rfl ?_
  refine G_dup (q := 354) hX dX9_init_353 rfl rfl ?_
  refine G_bipush (v := 41) (q := 356) hX dX9_init_354 (by decide) rfl ?_
  refine G_bipush (v := 101) (q := 358) hX dX9_init_356 (by decide) rfl ?_
  refine G_iastP (len := 48) (o := 87) (q := 359) hX rfl (by show inb _ _; decide) rfl dX9_init_358 rfl ?_
  refine G_dup (q := 360) hX dX9_init_359 rfl rfl ?_
  refine G_bipush (v := 42) (q := 362) hX dX9_init_360 (by decide) rfl ?_
  refine G_bipush (v := 97) (q := 364) hX dX9_init_362 (by decide) rfl ?_
  refine G_iastP (len := 48) (o := 87) (q := 365) hX rfl (by show inb _ _; decide) rfl dX9_init_364 rfl ?_
  refine G_dup (q := 366) hX dX9_init_365 rfl rfl ?_
  refine G_bipush (v := 43) (q := 368) hX dX9_init_366 (by decide) rfl ?_
  refine G_bipush (v := 100) (q := 370) hX dX9_init_368 (by decide) rfl ?_
  refine G_iastP (len := 48) (o := 87) (q := 371) hX rfl (by show inb _ _; decide) rfl dX9_init_370 rfl ?_
  refine G_dup (q := 372) hX dX9_init_371 rfl rfl ?_
  refine G_bipush (v := 44) (q := 374) hX dX9_init_372 (by decide) rfl ?_
  refine G_bipush (v := 32) (q := 376) hX dX9_init_374 (by decide) rfl ?_
  refine G_iastP (len := 48) (o := 87) (q := 377) hX rfl (by show inb _ _; decide) rfl dX9_init_376 rfl ?_
  refine G_dup (q := 378) hX dX9_init_377 rfl rfl ?_
  refine G_bipush (v := 45) (q := 380) hX dX9_init_378 (by decide) rfl ?_
  refine G_bipush (v := 48) (q := 382) hX dX9_init_380 (by decide) rfl ?_
  refine G_iastP (len := 48) (o := 87) (q := 383) hX rfl (by show inb _ _; decide) rfl dX9_init_382 rfl ?_
  refine G_dup (q := 384) hX dX9_init_383 rfl rfl ?_
  refine G_bipush (v := 46) (q := 386) hX dX9_init_384 (by decide) rfl ?_
  refine G_bipush (v := 32) (q := 388) hX dX9_init_386 (by decide) rfl ?_
  refine G_iastP (len := 48) (o := 87) (q := 389) hX rfl (by show inb _ _; decide) rfl dX9_init_388 rfl ?_
  refine G_dup (q := 390) hX dX9_init_389 rfl rfl ?_
  refine G_bipush (v := 47) (q := 392) hX dX9_init_390 (by decide) rfl ?_
  refine G_bipush (v := 59) (q := 394) hX dX9_init_392 (by decide) rfl ?_
  refine G_iastP (len := 48) (o := 87) (q := 395) hX rfl (by show inb _ _; decide) rfl dX9_init_394 rfl ?_
  refine G_putF (c := 9) (p := 17) (nf := 39) (C := RX9) (T := TX9) (fs := (((((((((((dl9.set 1 (.ref (g.ad 76))).set 2 (.ref (g.ad 77))).set 3 (.ref (g.ad 78))).set 5 (.ref (g.ad 79))).set 7 (.ref (g.ad 80))).set 8 (.ref (g.ad 81))).set 12 (.ref (g.ad 82))).set 13 (.ref (g.ad 83))).set 14 (.ref (g.ad 84))).set 15 (.ref (g.ad 85))).set 16 (.ref (g.ad 86)))) (fs' := ((((((((((((dl9.set 1 (.ref (g.ad 76))).set 2 (.ref (g.ad 77))).set 3 (.ref (g.ad 78))).set 5 (.ref (g.ad 79))).set 7 (.ref (g.ad 80))).set 8 (.ref (g.ad 81))).set 12 (.ref (g.ad 82))).set 13 (.ref (g.ad 83))).set 14 (.ref (g.ad 84))).set 15 (.ref (g.ad 85))).set 16 (.ref (g.ad 86))).set 17 (.ref (g.ad 87)))) (ty := (tyX9 17)) (q := 398) hX hnm rfl rfl tyX9 tyX9_ok nmX9 rfl rfl iG9 k4_199 rfl rfl rfl (Nat.le_of_ble_eq_true rfl) (tyX9_ok 17 (by decide)) rfl rfl dX9_init_395 rfl ?_
  refine G_aload_n (q := 399) hX dX9_init_398 0 rfl rfl ?_
  refine G_bipush (v := 96) (q := 401) hX dX9_init_399 (by decide) rfl ?_
  refine G_newa (n0 := 76) (len := 96) (q := 403) hX (by decide) rfl dX9_init_401 rfl ?_
  refine G_dup (q := 404) hX dX9_init_403 rfl rfl ?_
  refine G_iconst (v := 0) (q := 405) hX dX9_init_404 (by decide) rfl ?_
  refine G_bipush (v := 102) (q := 407) hX dX9_init_405 (by decide) rfl ?_
  refine G_iastP (len := 96) (o := 88) (q := 408) hX rfl (by show inb _ _; decide) rfl dX9_init_407 rfl ?_
  refine G_dup (q := 409) hX dX9_init_408 rfl rfl ?_
  refine G_iconst (v := 1) (q := 410) hX dX9_init_409 (by decide) rfl ?_
  refine G_bipush (v := 111) (q := 412) hX dX9_init_410 (by decide) rfl ?_
  refine G_iastP (len := 96) (o := 88) (q := 413) hX rfl (by show inb _ _; decide) rfl dX9_init_412 rfl ?_
  refine G_dup (q := 414) hX dX9_init_413 rfl rfl ?_
  refine G_iconst (v := 2) (q := 415) hX dX9_init_414 (by decide) rfl ?_
  refine G_bipush (v := 114) (q := 417) hX dX9_init_415 (by decide) rfl ?_
  refine G_iastP (len := 96) (o := 88) (q := 418) hX rfl (by show inb _ _; decide) rfl dX9_init_417 rfl ?_
  refine G_dup (q := 419) hX dX9_init_418 rfl rfl ?_
  refine G_iconst (v := 3) (q := 420) hX dX9_init_419 (by decide) rfl ?_
  refine G_bipush (v := 99) (q := 422) hX dX9_init_420 (by decide) rfl ?_
  refine G_iastP (len := 96) (o := 88) (q := 423) hX rfl (by show inb _ _; decide) rfl dX9_init_422 rfl ?_
  refine G_dup (q := 424) hX dX9_init_423 rfl rfl ?_
  refine G_iconst (v := 4) (q := 425) hX dX9_init_424 (by decide) rfl ?_
  refine G_bipush (v := 101) (q := 427) hX dX9_init_425 (by decide) rfl ?_
  refine G_iastP (len := 96) (o := 88) (q := 428) hX rfl (by show inb _ _; decide) rfl dX9_init_427 rfl ?_
  refine G_dup (q := 429) hX dX9_init_428 rfl rfl ?_
  refine G_iconst (v := 5) (q := 430) hX dX9_init_429 (by decide) rfl ?_
  refine G_bipush (v := 32) (q := 432) hX dX9_init_430 (by decide) rfl ?_
  refine G_iastP (len := 96) (o := 88) (q := 433) hX rfl (by show inb _ _; decide) rfl dX9_init_432 rfl ?_
  refine G_dup (q := 434) hX dX9_init_433 rfl rfl ?_
  refine G_bipush (v := 6) (q := 436) hX dX9_init_434 (by decide) rfl ?_
  refine G_bipush (v := 32) (q := 438) hX dX9_init_436 (by decide) rfl ?_
  refine G_iastP (len := 96) (o := 88) (q := 439) hX rfl (by show inb _ _; decide) rfl dX9_init_438 rfl ?_
  refine G_dup (q := 440) hX dX9_init_439 rfl rfl ?_
  refine G_bipush (v := 7) (q := 442) hX dX9_init_440 (by decide) rfl ?_
  refine G_bipush (v := 32) (q := 444) hX dX9_init_442 (by decide) rfl ?_
  refine G_iastP (len := 96) (o := 88) (q := 445) hX rfl (by show inb _ _; decide) rfl dX9_init_444 rfl ?_
  refine G_dup (q := 446) hX dX9_init_445 rfl rfl ?_
  refine G_bipush (v := 8) (q := 448) hX dX9_init_446 (by decide) rfl ?_
  refine G_bipush (v := 115) (q := 450) hX dX9_init_448 (by decide) rfl ?_
  refine G_iastP (len := 96) (o := 88) (q := 451) hX rfl (by show inb _ _; decide) rfl dX9_init_450 rfl ?_
  refine G_dup (q := 452) hX dX9_init_451 rfl rfl ?_
  refine G_bipush (v := 9) (q := 454) hX dX9_init_452 (by decide) rfl ?_
  refine G_bipush (v := 116) (q := 456) hX dX9_init_454 (by decide) rfl ?_
  refine G_iastP (len := 96) (o := 88) (q := 457) hX rfl (by show inb _ _; decide) rfl dX9_init_456 rfl ?_
  refine G_dup (q := 458) hX dX9_init_457 rfl rfl ?_
  refine G_bipush (v := 10) (q := 460) hX dX9_init_458 (by decide) rfl ?_
  refine G_bipush (v := 97) (q := 462) hX dX9_init_460 (by decide) rfl ?_
  refine G_iastP (len := 96) (o := 88) (q := 463) hX rfl (by show inb _ _; decide) rfl dX9_init_462 rfl ?_
  refine G_dup (q := 464) hX dX9_init_463 rfl rfl ?_
  refine G_bipush (v := 11) (q := 466) hX dX9_init_464 (by decide) rfl ?_
  refine G_bipush (v := 110) (q := 468) hX dX9_init_466 (by decide) rfl ?_
  refine G_iastP (len := 96) (o := 88) (q := 469) hX rfl (by show inb _ _; decide) rfl dX9_init_468 rfl ?_
  refine G_dup (q := 470) hX dX9_init_469 rfl rfl ?_
  refine G_bipush (v := 12) (q := 472) hX dX9_init_470 (by decide) rfl ?_
  refine G_bipush (v := 100) (q := 474) hX dX9_init_472 (by decide) rfl ?_
  refine G_iastP (len := 96) (o := 88) (q := 475) hX rfl (by show inb _ _; decide) rfl dX9_init_474 rfl ?_
  refine G_dup (q := 476) hX dX9_init_475 rfl rfl ?_
  refine G_bipush (v := 13) (q := 478) hX dX9_init_476 (by decide) rfl ?_
  refine G_bipush (v := 115) (q := 480) hX dX9_init_478 (by decide) rfl ?_
  refine G_iastP (len := 96) (o := 88) (q := 481) hX rfl (by show inb _ _; decide) rfl dX9_init_480 rfl ?_
  refine G_dup (q := 482) hX dX9_init_481 rfl rfl ?_
  refine G_bipush (v := 14) (q := 484) hX dX9_init_482 (by decide) rfl ?_
  refine G_bipush (v := 32) (q := 486) hX dX9_init_484 (by decide) rfl ?_
  refine G_iastP (len := 96) (o := 88) (q := 487) hX rfl (by show inb _ _; decide) rfl dX9_init_486 rfl ?_
  refine G_dup (q := 488) hX dX9_init_487 rfl rfl ?_
  refine G_bipush (v := 15) (q := 490) hX dX9_init_488 (by decide) rfl ?_
  refine G_bipush (v := 32) (q := 492) hX dX9_init_490 (by decide) rfl ?_
  refine G_iastP (len := 96) (o := 88) (q := 493) hX rfl (by show inb _ _; decide) rfl dX9_init_492 rfl ?_
  refine G_dup (q := 494) hX dX9_init_493 rfl rfl ?_
  refine G_bipush (v := 16) (q := 496) hX dX9_init_494 (by decide) rfl ?_
  refine G_bipush (v := 97) (q := 498) hX dX9_init_496 (by decide) rfl ?_
  refine G_iastP (len := 96) (o := 88) (q := 499) hX rfl (by show inb _ _; decide) rfl dX9_init_498 rfl ?_
  refine G_dup (q := 500) hX dX9_init_499 rfl rfl ?_
  refine G_bipush (v := 17) (q := 502) hX dX9_init_500 (by decide) rfl ?_
  refine G_bipush (v := 104) (q := 504) hX dX9_init_502 (by decide) rfl ?_
  refine G_iastP (len := 96) (o := 88) (q := 505) hX rfl (by show inb _ _; decide) rfl dX9_init_504 rfl ?_
  refine G_dup (q := 506) hX dX9_init_505 rfl rfl ?_
  refine G_bipush (v := 18) (q := 508) hX dX9_init_506 (by decide) rfl ?_
  refine G_bipush (v := 101) (q := 510) hX dX9_init_508 (by decide) rfl ?_
  refine G_iastP (len := 96) (o := 88) (q := 511) hX rfl (by show inb _ _; decide) rfl dX9_init_510 rfl ?_
  refine G_dup (q := 512) hX dX9_init_511 rfl rfl ?_
  refine G_bipush (v := 19) (q := 514) hX dX9_init_512 (by decide) rfl ?_
  refine G_bipush (v := 97) (q := 516) hX dX9_init_514 (by decide) rfl ?_
  refine G_iastP (len := 96) (o := 88) (q := 517) hX rfl (by show inb _ _; decide) rfl dX9_init_516 rfl ?_
  refine G_dup (q := 518) hX dX9_init_517 rfl rfl ?_
  refine G_bipush (v := 20) (q := 520) hX dX9_init_518 (by decide) rfl ?_
  refine G_bipush (v := 100) (q := 522) hX dX9_init_520 (by decide) rfl ?_
  refine G_iastP (len := 96) (o := 88) (q := 523) hX rfl (by show inb _ _; decide) rfl dX9_init_522 rfl ?_
  refine G_dup (q := 524) hX dX9_init_523 rfl rfl ?_
  refine G_bipush (v := 21) (q := 526) hX dX9_init_524 (by decide) rfl ?_
  refine G_bipush (v := 32) (q := 528) hX dX9_init_526 (by decide) rfl ?_
  refine G_iastP (len := 96) (o := 88) (q := 529) hX rfl (by show inb _ _; decide) rfl dX9_init_528 rfl ?_
  refine G_dup (q := 530) hX dX9_init_529 rfl rfl ?_
  refine G_bipush (v := 22) (q := 532) hX dX9_init_530 (by decide) rfl ?_
  refine G_bipush (v := 32) (q := 534) hX dX9_init_532 (by decide) rfl ?_
  refine G_iastP (len := 96) (o := 88) (q := 535) hX rfl (by show inb _ _; decide) rfl dX9_init_534 rfl ?_
  refine G_dup (q := 536) hX dX9_init_535 rfl rfl ?_
  refine G_bipush (v := 23) (q := 538) hX dX9_init_536 (by decide) rfl ?_
  refine G_bipush (v := 32) (q := 540) hX dX9_init_538 (by decide) rfl ?_
  refine G_iastP (len := 96) (o := 88) (q := 541) hX rfl (by show inb _ _; decide) rfl dX9_init_540 rfl ?_
  refine G_dup (q := 542) hX dX9_init_541 rfl rfl ?_
  refine G_bipush (v := 24) (q := 544) hX dX9_init_542 (by decide) rfl ?_
  refine G_bipush (v := 119) (q := 546) hX dX9_init_544 (by decide) rfl ?_
  refine G_iastP (len := 96) (o := 88) (q := 547) hX rfl (by show inb _ _; decide) rfl dX9_init_546 rfl ?_
  refine G_dup (q := 548) hX dX9_init_547 rfl rfl ?_
  refine G_bipush (v := 25) (q := 550) hX dX9_init_548 (by decide) rfl ?_
  refine G_bipush (v := 101) (q := 552) hX dX9_init_550 (by decide) rfl ?_
  refine G_iastP (len := 96) (o := 88) (q := 553) hX rfl (by show inb _ _; decide) rfl dX9_init_552 rfl ?_
  refine G_dup (q := 554) hX dX9_init_553 rfl rfl ?_
  refine G_bipush (v := 26) (q := 556) hX dX9_init_554 (by decide) rfl ?_
  refine G_bipush (v := 105) (q := 558) hX dX9_init_556 (by decide) rfl ?_
  refine G_iastP (len := 96) (o := 88) (q := 559) hX rfl (by show inb _ _; decide) rfl dX9_init_558 rfl ?_
  refine G_dup (q := 560) hX dX9_init_559 rfl rfl ?_
  refine G_bipush (v := 27) (q := 562) hX dX9_init_560 (by decide) rfl ?_
  refine G_bipush (v := 103) (q := 564) hX dX9_init_562 (by decide) rfl ?_
  refine G_iastP (len := 96) (o := 88) (q := 565) hX rfl (by show inb _ _; decide) rfl dX9_init_564 rfl ?_
  refine G_dup (q := 566) hX dX9_init_565 rfl rfl ?_
  refine G_bipush (v := 28) (q := 568) hX dX9_init_566 (by decide) rfl ?_
  refine G_bipush (v := 104) (q := 570) hX dX9_init_568 (by decide) rfl ?_
  refine G_iastP (len := 96) (o := 88) (q := 571) hX rfl (by show inb _ _; decide) rfl dX9_init_570 rfl ?_
  refine G_dup (q := 572) hX dX9_init_571 rfl rfl ?_
  refine G_bipush (v := 29) (q := 574) hX dX9_init_572 (by decide) rfl ?_
  refine G_bipush (v := 116) (q := 576) hX dX9_init_574 (by decide) rfl ?_
  refine G_iastP (len := 96) (o := 88) (q := 577) hX rfl (by show inb _ _; decide) rfl dX9_init_576 rfl ?_
  refine G_dup (q := 578) hX dX9_init_577 rfl rfl ?_
  refine G_bipush (v := 30) (q := 580) hX dX9_init_578 (by decide) rfl ?_
  refine G_bipush (v := 32) (q := 582) hX dX9_init_580 (by decide) rfl ?_
  refine G_iastP (len := 96) (o := 88) (q := 583) hX rfl (by show inb _ _; decide) rfl dX9_init_582 rfl ?_
  refine G_dup (q := 584) hX dX9_init_583 rfl rfl ?_
  refine G_bipush (v := 31) (q := 586) hX dX9_init_584 (by decide) rfl ?_
  refine G_bipush (v := 32) (q := 588) hX dX9_init_586 (by decide) rfl ?_
  refine G_iastP (len := 96) (o := 88) (q := 589) hX rfl (by show inb _ _; decide) rfl dX9_init_588 rfl ?_
  refine G_dup (q := 590) hX dX9_init_589 rfl rfl ?_
  refine G_bipush (v := 32) (q := 592) hX dX9_init_590 (by decide) rfl ?_
  refine G_bipush (v := 112) (q := 594) hX dX9_init_592 (by decide) rfl ?_
  refine G_iastP (len := 96) (o := 88) (q := 595) hX rfl (by show inb _ _; decide) rfl dX9_init_594 rfl ?_
  refine G_dup (q := 596) hX dX9_init_595 rfl rfl ?_
  refine G_bipush (v := 33) (q := 598) hX dX9_init_596 (by decide) rfl ?_
  refine G_bipush (v := 97) (q := 600) hX dX9_init_598 (by decide) rfl ?_
  refine G_iastP (len := 96) (o := 88) (q := 601) hX rfl (by show inb _ _; decide) rfl dX9_init_600 rfl ?_
  refine G_dup (q := 602) hX dX9_init_601 rfl rfl ?_
  refine G_bipush (v := 34) (q := 604) hX dX9_init_602 (by decide) rfl ?_
  refine G_bipush (v := 99) (q := 606) hX dX9_init_604 (by decide) rfl ?_
  refine G_iastP (len := 96) (o := 88) (q := 607) hX rfl (by show inb _ _; decide) rfl dX9_init_606 rfl ?_
  refine G_dup (q := 608) hX dX9_init_607 rfl rfl ?_
  refine G_bipush (v := 35) (q := 610) hX dX9_init_608 (by decide) rfl ?_
  refine G_bipush (v := 101) (q := 612) hX dX9_init_610 (by decide) rfl ?_
  refine G_iastP (len := 96) (o := 88) (q := 613) hX rfl (by show inb _ _; decide) rfl dX9_init_612 rfl ?_
  refine G_dup (q := 614) hX dX9_init_613 rfl rfl ?_
  refine G_bipush (v := 36) (q := 616) hX dX9_init_614 (by decide) rfl ?_
  refine G_bipush (v := 32) (q := 618) hX dX9_init_616 (by decide) rfl ?_
  refine G_iastP (len := 96) (o := 88) (q := 619) hX rfl (by show inb _ _; decide) rfl dX9_init_618 rfl ?_
  refine G_dup (q := 620) hX dX9_init_619 rfl rfl ?_
  refine G_bipush (v := 37) (q := 622) hX dX9_init_620 (by decide) rfl ?_
  refine G_bipush (v := 32) (q := 624) hX dX9_init_622 (by decide) rfl ?_
  refine G_iastP (len := 96) (o := 88) (q := 625) hX rfl (by show inb _ _; decide) rfl dX9_init_624 rfl ?_
  refine G_dup (q := 626) hX dX9_init_625 rfl rfl ?_
  refine G_bipush (v := 38) (q := 628) hX dX9_init_626 (by decide) rfl ?_
  refine G_bipush (v := 32) (q := 630) hX dX9_init_628 (by decide) rfl ?_
  refine G_iastP (len := 96) (o := 88) (q := 631) hX rfl (by show inb _ _; decide) rfl dX9_init_630 rfl ?_
  refine G_dup (q := 632) hX dX9_init_631 rfl rfl ?_
  refine G_bipush (v := 39) (q := 634) hX dX9_init_632 (by decide) rfl ?_
  refine G_bipush (v := 32) (q := 636) hX dX9_init_634 (by decide) rfl ?_
  refine G_iastP (len := 96) (o := 88) (q := 637) hX rfl (by show inb _ _; decide) rfl dX9_init_636 rfl ?_
  refine G_dup (q := 638) hX dX9_init_637 rfl rfl ?_
  refine G_bipush (v := 40) (q := 640) hX dX9_init_638 (by decide) rfl ?_
  refine G_bipush (v := 97) (q := 642) hX dX9_init_640 (by decide) rfl ?_
  refine G_iastP (len := 96) (o := 88) (q := 643) hX rfl (by show inb _ _; decide) rfl dX9_init_642 rfl ?_
  refine G_dup (q := 644) hX dX9_init_643 rfl rfl ?_
  refine G_bipush (v := 41) (q := 646) hX dX9_init_644 (by decide) rfl ?_
  refine G_bipush (v := 99) (q := 648) hX dX9_init_646 (by decide) rfl ?_
  refine G_iastP (len := 96) (o := 88) (q := 649) hX rfl (by show inb _ _; decide) rfl dX9_init_648 rfl ?_
  refine G_dup (q := 650) hX dX9_init_649 rfl rfl ?_
  refine G_bipush (v := 42) (q := 652) hX dX9_init_650 (by decide) rfl ?_
  refine G_bipush (v := 116) (q := 654) hX dX9_init_652 (by decide) rfl ?_
  refine G_iastP (len := 96) (o := 88) (q := 655) hX rfl (by show inb _ _; decide) rfl dX9_init_654 rfl ?_
  refine G_dup (q := 656) hX dX9_init_655 rfl rfl ?_
  refine G_bipush (v := 43) (q := 658) hX dX9_init_656 (by decide) rfl ?_
  refine G_bipush (v := 32) (q := 660) hX dX9_init_658 (by decide) rfl ?_
  refine G_iastP (len := 96) (o := 88) (q := 661) hX rfl (by show inb _ _; decide) rfl dX9_init_660 rfl ?_
  refine G_dup (q := 662) hX dX9_init_661 rfl rfl ?_
  refine G_bipush (v := 44) (q := 664) hX dX9_init_662 (by decide) rfl ?_
  refine G_bipush (v := 32) (q := 666) hX dX9_init_664 (by decide) rfl ?_
  refine G_iastP (len := 96) (o := 88) (q := 667) hX rfl (by show inb _ _; decide) rfl dX9_init_666 rfl ?_
  refine G_dup (q := 668) hX dX9_init_667 rfl rfl ?_
  refine G_bipush (v := 45) (q := 670) hX dX9_init_668 (by decide) rfl ?_
  refine G_bipush (v := 32) (q := 672) hX dX9_init_670 (by decide) rfl ?_
  refine G_iastP (len := 96) (o := 88) (q := 673) hX rfl (by show inb _ _; decide) rfl dX9_init_672 rfl ?_
  refine G_dup (q := 674) hX dX9_init_673 rfl rfl ?_
  refine G_bipush (v := 46) (q := 676) hX dX9_init_674 (by decide) rfl ?_
  refine G_bipush (v := 32) (q := 678) hX dX9_init_676 (by decide) rfl ?_
  refine G_iastP (len := 96) (o := 88) (q := 679) hX rfl (by show inb _ _; decide) rfl dX9_init_678 rfl ?_
  refine G_dup (q := 680) hX dX9_init_679 rfl rfl ?_
  refine G_bipush (v := 47) (q := 682) hX dX9_init_680 (by decide) rfl ?_
  refine G_bipush (v := 32) (q := 684) hX dX9_init_682 (by decide) rfl ?_
  refine G_iastP (len := 96) (o := 88) (q := 685) hX rfl (by show inb _ _; decide) rfl dX9_init_684 rfl ?_
  refine G_dup (q := 686) hX dX9_init_685 rfl rfl ?_
  refine G_bipush (v := 48) (q := 688) hX dX9_init_686 (by decide) rfl ?_
  refine G_bipush (v := 104) (q := 690) hX dX9_init_688 (by decide) rfl ?_
  refine G_iastP (len := 96) (o := 88) (q := 691) hX rfl (by show inb _ _; decide) rfl dX9_init_690 rfl ?_
  refine G_dup (q := 692) hX dX9_init_691 rfl rfl ?_
  refine G_bipush (v := 49) (q := 694) hX dX9_init_692 (by decide) rfl ?_
  refine G_bipush (v := 105) (q := 696) hX dX9_init_694 (by decide) rfl ?_
  refine G_iastP (len := 96) (o := 88) (q := 697) hX rfl (by show inb _ _; decide) rfl dX9_init_696 rfl ?_
  refine G_dup (q := 698) hX dX9_init_697 rfl rfl ?_
  refine G_bipush (v := 50) (q := 700) hX dX9_init_698 (by decide) rfl ?_
  refine G_bipush (v := 115) (q := 702) hX dX9_init_700 (by decide) rfl ?_
  refine G_iastP (len := 96) (o := 88) (q := 703) hX rfl (by show inb _ _; decide) rfl dX9_init_702 rfl ?_
  refine G_dup (q := 704) hX dX9_init_703 rfl rfl ?_
  refine G_bipush (v := 51) (q := 706) hX dX9_init_704 (by decide) rfl ?_
  refine G_bipush (v := 32) (q := 708) hX dX9_init_706 (by decide) rfl ?_
  refine G_iastP (len := 96) (o := 88) (q := 709) hX rfl (by show inb _ _; decide) rfl dX9_init_708 rfl ?_
  refine G_dup (q := 710) hX dX9_init_709 rfl rfl ?_
  refine G_bipush (v := 52) (q := 712) hX dX9_init_710 (by decide) rfl ?_
  refine G_bipush (v := 32) (q := 714) hX dX9_init_712 (by decide) rfl ?_
  refine G_iastP (len := 96) (o := 88) (q := 715) hX rfl (by show inb _ _; decide) rfl dX9_init_714 rfl ?_
  refine G_dup (q := 716) hX dX9_init_715 rfl rfl ?_
  refine G_bipush (v := 53) (q := 718) hX dX9_init_716 (by decide) rfl ?_
  refine G_bipush (v := 32) (q := 720) hX dX9_init_718 (by decide) rfl ?_
  refine G_iastP (len := 96) (o := 88) (q := 721) hX rfl (by show inb _ _; decide) rfl dX9_init_720 rfl ?_
  refine G_dup (q := 722) hX dX9_init_721 rfl rfl ?_
  refine G_bipush (v := 54) (q := 724) hX dX9_init_722 (by decide) rfl ?_
  refine G_bipush (v := 32) (q := 726) hX dX9_init_724 (by decide) rfl ?_
  refine G_iastP (len := 96) (o := 88) (q := 727) hX rfl (by show inb _ _; decide) rfl dX9_init_726 rfl ?_
  refine G_dup (q := 728) hX dX9_init_727 rfl rfl ?_
  refine G_bipush (v := 55) (q := 730) hX dX9_init_728 (by decide) rfl ?_
  refine G_bipush (v := 32) (q := 732) hX dX9_init_730 (by decide) rfl ?_
  refine G_iastP (len := 96) (o := 88) (q := 733) hX rfl (by show inb _ _; decide) rfl dX9_init_732 rfl ?_
  refine G_dup (q := 734) hX dX9_init_733 rfl rfl ?_
  refine G_bipush (v := 56) (q := 736) hX dX9_init_734 (by decide) rfl ?_
  refine G_bipush (v := 99) (q := 738) hX dX9_init_736 (by decide) rfl ?_
  refine G_iastP (len := 96) (o := 88) (q := 739) hX rfl (by show inb _ _; decide) rfl dX9_init_738 rfl ?_
  refine G_dup (q := 740) hX dX9_init_739 rfl rfl ?_
  refine G_bipush (v := 57) (q := 742) hX dX9_init_740 (by decide) rfl ?_
  refine G_bipush (v := 101) (q := 744) hX dX9_init_742 (by decide) rfl ?_
  refine G_iastP (len := 96) (o := 88) (q := 745) hX rfl (by show inb _ _; decide) rfl dX9_init_744 rfl ?_
  refine G_dup (q := 746) hX dX9_init_745 rfl rfl ?_
  refine G_bipush (v := 58) (q := 748) hX dX9_init_746 (by decide) rfl ?_
  refine G_bipush (v := 108) (q := 750) hX dX9_init_748 (by decide) rfl ?_
  refine G_iastP (len := 96) (o := 88) (q := 751) hX rfl (by show inb _ _; decide) rfl dX9_init_750 rfl ?_
  refine G_dup (q := 752) hX dX9_init_751 rfl rfl ?_
  refine G_bipush (v := 59) (q := 754) hX dX9_init_752 (by decide) rfl ?_
  refine G_bipush (v := 108) (q := 756) hX dX9_init_754 (by decide) rfl ?_
  refine G_iastP (len := 96) (o := 88) (q := 757) hX rfl (by show inb _ _; decide) rfl dX9_init_756 rfl ?_
  refine G_dup (q := 758) hX dX9_init_757 rfl rfl ?_
  refine G_bipush (v := 60) (q := 760) hX dX9_init_758 (by decide) rfl ?_
  refine G_bipush (v := 32) (q := 762) hX dX9_init_760 (by decide) rfl ?_
  refine G_iastP (len := 96) (o := 88) (q := 763) hX rfl (by show inb _ _; decide) rfl dX9_init_762 rfl ?_
  refine G_dup (q := 764) hX dX9_init_763 rfl rfl ?_
  refine G_bipush (v := 61) (q := 766) hX dX9_init_764 (by decide) rfl ?_
  refine G_bipush (v := 32) (q := 768) hX dX9_init_766 (by decide) rfl ?_
  refine G_iastP (len := 96) (o := 88) (q := 769) hX rfl (by show inb _ _; decide) rfl dX9_init_768 rfl ?_
  refine G_dup (q := 770) hX dX9_init_769 rfl rfl ?_
  refine G_bipush (v := 62) (q := 772) hX dX9_init_770 (by decide) rfl ?_
  refine G_bipush (v := 32) (q := 774) hX dX9_init_772 (by decide) rfl ?_
  refine G_iastP (len := 96) (o := 88) (q := 775) hX rfl (by show inb _ _; decide) rfl dX9_init_774 rfl ?_
  refine G_dup (q := 776) hX dX9_init_775 rfl rfl ?_
  refine G_bipush (v := 63) (q := 778) hX dX9_init_776 (by decide) rfl ?_
  refine G_bipush (v := 32) (q := 780) hX dX9_init_778 (by decide) rfl ?_
  refine G_iastP (len := 96) (o := 88) (q := 781) hX rfl (by show inb _ _; decide) rfl dX9_init_780 rfl ?_
  refine G_dup (q := 782) hX dX9_init_781 rfl rfl ?_
  refine G_bipush (v := 64) (q := 784) hX dX9_init_782 (by decide) rfl ?_
  refine G_bipush (v := 107) (q := 786) hX dX9_init_784 (by decide) rfl ?_
  refine G_iastP (len := 96) (o := 88) (q := 787) hX rfl (by show inb _ _; decide) rfl dX9_init_786 rfl ?_
  refine G_dup (q := 788) hX dX9_init_787 rfl rfl ?_
  refine G_bipush (v := 65) (q := 790) hX dX9_init_788 (by decide) rfl ?_
  refine G_bipush (v := 110) (q := 792) hX dX9_init_790 (by decide) rfl ?_
  refine G_iastP (len := 96) (o := 88) (q := 793) hX rfl (by show inb _ _; decide) rfl dX9_init_792 rfl ?_
  refine G_dup (q := 794) hX dX9_init_793 rfl rfl ?_
  refine G_bipush (v := 66) (q := 796) hX dX9_init_794 (by decide) rfl ?_
  refine G_bipush (v := 101) (q := 798) hX dX9_init_796 (by decide) rfl ?_
  refine G_iastP (len := 96) (o := 88) (q := 799) hX rfl (by show inb _ _; decide) rfl dX9_init_798 rfl ?_
  refine G_dup (q := 800) hX dX9_init_799 rfl rfl ?_
  refine G_bipush (v := 67) (q := 802) hX dX9_init_800 (by decide) rfl ?_
  refine G_bipush (v := 101) (q := 804) hX dX9_init_802 (by decide) rfl ?_
  refine G_iastP (len := 96) (o := 88) (q := 805) hX rfl (by show inb _ _; decide) rfl dX9_init_804 rfl ?_
  refine G_dup (q := 806) hX dX9_init_805 rfl rfl ?_
  refine G_bipush (v := 68) (q := 808) hX dX9_init_806 (by decide) rfl ?_
  refine G_bipush (v := 32) (q := 810) hX dX9_init_808 (by decide) rfl ?_
  refine G_iastP (len := 96) (o := 88) (q := 811) hX rfl (by show inb _ _; decide) rfl dX9_init_810 rfl ?_
  refine G_dup (q := 812) hX dX9_init_811 rfl rfl ?_
  refine G_bipush (v := 69) (q := 814) hX dX9_init_812 (by decide) rfl ?_
  refine G_bipush (v := 32) (q := 816) hX dX9_init_814 (by decide) rfl ?_
  refine G_iastP (len := 96) (o := 88) (q := 817) hX rfl (by show inb _ _; decide) rfl dX9_init_816 rfl ?_
  refine G_dup (q := 818) hX dX9_init_817 rfl rfl ?_
  refine G_bipush (v := 70) (q := 820) hX dX9_init_818 (by decide) rfl ?_
  refine G_bipush (v := 32) (q := 822) hX dX9_init_820 (by decide) rfl ?_
  refine G_iastP (len := 96) (o := 88) (q := 823) hX rfl (by show inb _ _; decide) rfl dX9_init_822 rfl ?_
  refine G_dup (q := 824) hX dX9_init_823 rfl rfl ?_
  refine G_bipush (v := 71) (q := 826) hX dX9_init_824 (by decide) rfl ?_
  refine G_bipush (v := 32) (q := 828) hX dX9_init_826 (by decide) rfl ?_
  refine G_iastP (len := 96) (o := 88) (q := 829) hX rfl (by show inb _ _; decide) rfl dX9_init_828 rfl ?_
  refine G_dup (q := 830) hX dX9_init_829 rfl rfl ?_
  refine G_bipush (v := 72) (q := 832) hX dX9_init_830 (by decide) rfl ?_
  refine G_bipush (v := 111) (q := 834) hX dX9_init_832 (by decide) rfl ?_
  refine G_iastP (len := 96) (o := 88) (q := 835) hX rfl (by show inb _ _; decide) rfl dX9_init_834 rfl ?_
  refine G_dup (q := 836) hX dX9_init_835 rfl rfl ?_
  refine G_bipush (v := 73) (q := 838) hX dX9_init_836 (by decide) rfl ?_
  refine G_bipush (v := 114) (q := 840) hX dX9_init_838 (by decide) rfl ?_
  refine G_iastP (len := 96) (o := 88) (q := 841) hX rfl (by show inb _ _; decide) rfl dX9_init_840 rfl ?_
  refine G_dup (q := 842) hX dX9_init_841 rfl rfl ?_
  refine G_bipush (v := 74) (q := 844) hX dX9_init_842 (by decide) rfl ?_
  refine G_bipush (v := 32) (q := 846) hX dX9_init_844 (by decide) rfl ?_
  refine G_iastP (len := 96) (o := 88) (q := 847) hX rfl (by show inb _ _; decide) rfl dX9_init_846 rfl ?_
  refine G_dup (q := 848) hX dX9_init_847 rfl rfl ?_
  refine G_bipush (v := 75) (q := 850) hX dX9_init_848 (by decide) rfl ?_
  refine G_bipush (v := 32) (q := 852) hX dX9_init_850 (by decide) rfl ?_
  refine G_iastP (len := 96) (o := 88) (q := 853) hX rfl (by show inb _ _; decide) rfl dX9_init_852 rfl ?_
  refine G_dup (q := 854) hX dX9_init_853 rfl rfl ?_
  refine G_bipush (v := 76) (q := 856) hX dX9_init_854 (by decide) rfl ?_
  refine G_bipush (v := 32) (q := 858) hX dX9_init_856 (by decide) rfl ?_
  refine G_iastP (len := 96) (o := 88) (q := 859) hX rfl (by show inb _ _; decide) rfl dX9_init_858 rfl ?_
  refine G_dup (q := 860) hX dX9_init_859 rfl rfl ?_
  refine G_bipush (v := 77) (q := 862) hX dX9_init_860 (by decide) rfl ?_
  refine G_bipush (v := 32) (q := 864) hX dX9_init_862 (by decide) rfl ?_
  refine G_iastP (len := 96) (o := 88) (q := 865) hX rfl (by show inb _ _; decide) rfl dX9_init_864 rfl ?_
  refine G_dup (q := 866) hX dX9_init_865 rfl rfl ?_
  refine G_bipush (v := 78) (q := 868) hX dX9_init_866 (by decide) rfl ?_
  refine G_bipush (v := 32) (q := 870) hX dX9_init_868 (by decide) rfl ?_
  refine G_iastP (len := 96) (o := 88) (q := 871) hX rfl (by show inb _ _; decide) rfl dX9_init_870 rfl ?_
  refine G_dup (q := 872) hX dX9_init_871 rfl rfl ?_
  refine G_bipush (v := 79) (q := 874) hX dX9_init_872 (by decide) rfl ?_
  refine G_bipush (v := 32) (q := 876) hX dX9_init_874 (by decide) rfl ?_
  refine G_iastP (len := 96) (o := 88) (q := 877) hX rfl (by show inb _ _; decide) rfl dX9_init_876 rfl ?_
  refine G_dup (q := 878) hX dX9_init_877 rfl rfl ?_
  refine G_bipush (v := 80) (q := 880) hX dX9_init_878 (by decide) rfl ?_
  refine G_bipush (v := 97) (q := 882) hX dX9_init_880 (by decide) rfl ?_
  refine G_iastP (len := 96) (o := 88) (q := 883) hX rfl (by show inb _ _; decide) rfl dX9_init_882 rfl ?_
  refine G_dup (q := 884) hX dX9_init_883 rfl rfl ?_
  refine G_bipush (v := 81) (q := 886) hX dX9_init_884 (by decide) rfl ?_
  refine G_bipush (v := 110) (q := 888) hX dX9_init_886 (by decide) rfl ?_
  refine G_iastP (len := 96) (o := 88) (q := 889) hX rfl (by show inb _ _; decide) rfl dX9_init_888 rfl ?_
  refine G_dup (q := 890) hX dX9_init_889 rfl rfl ?_
  refine G_bipush (v := 82) (q := 892) hX dX9_init_890 (by decide) rfl ?_
  refine G_bipush (v := 100) (q := 894) hX dX9_init_892 (by decide) rfl ?_
  refine G_iastP (len := 96) (o := 88) (q := 895) hX rfl (by show inb _ _; decide) rfl dX9_init_894 rfl ?_
  refine G_dup (q := 896) hX dX9_init_895 rfl rfl ?_
  refine G_bipush (v := 83) (q := 898) hX dX9_init_896 (by decide) rfl ?_
  refine G_bipush (v := 32) (q := 900) hX dX9_init_898 (by decide) rfl ?_
  refine G_iastP (len := 96) (o := 88) (q := 901) hX rfl (by show inb _ _; decide) rfl dX9_init_900 rfl ?_
  refine G_dup (q := 902) hX dX9_init_901 rfl rfl ?_
  refine G_bipush (v := 84) (q := 904) hX dX9_init_902 (by decide) rfl ?_
  refine G_bipush (v := 32) (q := 906) hX dX9_init_904 (by decide) rfl ?_
  refine G_iastP (len := 96) (o := 88) (q := 907) hX rfl (by show inb _ _; decide) rfl dX9_init_906 rfl ?_
  refine G_dup (q := 908) hX dX9_init_907 rfl rfl ?_
  refine G_bipush (v := 85) (q := 910) hX dX9_init_908 (by decide) rfl ?_
  refine G_bipush (v := 32) (q := 912) hX dX9_init_910 (by decide) rfl ?_
  refine G_iastP (len := 96) (o := 88) (q := 913) hX rfl (by show inb _ _; decide) rfl dX9_init_912 rfl ?_
  refine G_dup (q := 914) hX dX9_init_913 rfl rfl ?_
  refine G_bipush (v := 86) (q := 916) hX dX9_init_914 (by decide) rfl ?_
  refine G_bipush (v := 32) (q := 918) hX dX9_init_916 (by decide) rfl ?_
  refine G_iastP (len := 96) (o := 88) (q := 919) hX rfl (by show inb _ _; decide) rfl dX9_init_918 rfl ?_
  refine G_dup (q := 920) hX dX9_init_919 rfl rfl ?_
  refine G_bipush (v := 87) (q := 922) hX dX9_init_920 (by decide) rfl ?_
  refine G_bipush (v := 32) (q := 924) hX dX9_init_922 (by decide) rfl ?_
  refine G_iastP (len := 96) (o := 88) (q := 925) hX rfl (by show inb _ _; decide) rfl dX9_init_924 rfl ?_
  refine G_dup (q := 926) hX dX9_init_925 rfl rfl ?_
  refine G_bipush (v := 88) (q := 928) hX dX9_init_926 (by decide) rfl ?_
  refine G_bipush (v := 110) (q := 930) hX dX9_init_928 (by decide) rfl ?_
  refine G_iastP (len := 96) (o := 88) (q := 931) hX rfl (by show inb _ _; decide) rfl dX9_init_930 rfl ?_
  refine G_dup (q := 932) hX dX9_init_931 rfl rfl ?_
  refine G_bipush (v := 89) (q := 934) hX dX9_init_932 (by decide) rfl ?_
  refine G_bipush (v := 111) (q := 936) hX dX9_init_934 (by decide) rfl ?_
  refine G_iastP (len := 96) (o := 88) (q := 937) hX rfl (by show inb _ _; decide) rfl dX9_init_936 rfl ?_
  refine G_dup (q := 938) hX dX9_init_937 rfl rfl ?_
  refine G_bipush (v := 90) (q := 940) hX dX9_init_938 (by decide) rfl ?_
  refine G_bipush (v := 116) (q := 942) hX dX9_init_940 (by decide) rfl ?_
  refine G_iastP (len := 96) (o := 88) (q := 943) hX rfl (by show inb _ _; decide) rfl dX9_init_942 rfl ?_
  refine G_dup (q := 944) hX dX9_init_943 rfl rfl ?_
  refine G_bipush (v := 91) (q := 946) hX dX9_init_944 (by decide) rfl ?_
  refine G_bipush (v := 32) (q := 948) hX dX9_init_946 (by decide) rfl ?_
  refine G_iastP (len := 96) (o := 88) (q := 949) hX rfl (by show inb _ _; decide) rfl dX9_init_948 rfl ?_
  refine G_dup (q := 950) hX dX9_init_949 rfl rfl ?_
  refine G_bipush (v := 92) (q := 952) hX dX9_init_950 (by decide) rfl ?_
  refine G_bipush (v := 32) (q := 954) hX dX9_init_952 (by decide) rfl ?_
  refine G_iastP (len := 96) (o := 88) (q := 955) hX rfl (by show inb _ _; decide) rfl dX9_init_954 rfl ?_
  refine G_dup (q := 956) hX dX9_init_955 rfl rfl ?_
  refine G_bipush (v := 93) (q := 958) hX dX9_init_956 (by decide) rfl ?_
  refine G_bipush (v := 32) (q := 960) hX dX9_init_958 (by decide) rfl ?_
  refine G_iastP (len := 96) (o := 88) (q := 961) hX rfl (by show inb _ _; decide) rfl dX9_init_960 rfl ?_
  refine G_dup (q := 962) hX dX9_init_961 rfl rfl ?_
  refine G_bipush (v := 94) (q := 964) hX dX9_init_962 (by decide) rfl ?_
  refine G_bipush (v := 32) (q := 966) hX dX9_init_964 (by decide) rfl ?_
  refine G_iastP (len := 96) (o := 88) (q := 967) hX rfl (by show inb _ _; decide) rfl dX9_init_966 rfl ?_
  refine G_dup (q := 968) hX dX9_init_967 rfl rfl ?_
  refine G_bipush (v := 95) (q := 970) hX dX9_init_968 (by decide) rfl ?_
  refine G_bipush (v := 32) (q := 972) hX dX9_init_970 (by decide) rfl ?_
  refine G_iastP (len := 96) (o := 88) (q := 973) hX rfl (by show inb _ _; decide) rfl dX9_init_972 rfl ?_
  refine G_putF (c := 9) (p := 22) (nf := 39) (C := RX9) (T := TX9) (fs := ((((((((((((dl9.set 1 (.ref (g.ad 76))).set 2 (.ref (g.ad 77))).set 3 (.ref (g.ad 78))).set 5 (.ref (g.ad 79))).set 7 (.ref (g.ad 80))).set 8 (.ref (g.ad 81))).set 12 (.ref (g.ad 82))).set 13 (.ref (g.ad 83))).set 14 (.ref (g.ad 84))).set 15 (.ref (g.ad 85))).set 16 (.ref (g.ad 86))).set 17 (.ref (g.ad 87)))) (fs' := (((((((((((((dl9.set 1 (.ref (g.ad 76))).set 2 (.ref (g.ad 77))).set 3 (.ref (g.ad 78))).set 5 (.ref (g.ad 79))).set 7 (.ref (g.ad 80))).set 8 (.ref (g.ad 81))).set 12 (.ref (g.ad 82))).set 13 (.ref (g.ad 83))).set 14 (.ref (g.ad 84))).set 15 (.ref (g.ad 85))).set 16 (.ref (g.ad 86))).set 17 (.ref (g.ad 87))).set 22 (.ref (g.ad 88)))) (ty := (tyX9 22)) (q := 976) hX hnm rfl rfl tyX9 tyX9_ok nmX9 rfl rfl iG9 k4_204 rfl rfl rfl (Nat.le_of_ble_eq_true rfl) (tyX9_ok 22 (by decide)) rfl rfl dX9_init_973 rfl ?_
  refine G_aload_n (q := 977) hX dX9_init_976 0 rfl rfl ?_
  refine G_sipush (v := 200) (q := 980) hX dX9_init_977 (by decide) rfl ?_
  refine G_newa (n0 := 76) (len := 200) (q := 982) hX (by decide) rfl dX9_init_980 rfl ?_
  refine G_putF (c := 9) (p := 23) (nf := 39) (C := RX9) (T := TX9) (fs := (((((((((((((dl9.set 1 (.ref (g.ad 76))).set 2 (.ref (g.ad 77))).set 3 (.ref (g.ad 78))).set 5 (.ref (g.ad 79))).set 7 (.ref (g.ad 80))).set 8 (.ref (g.ad 81))).set 12 (.ref (g.ad 82))).set 13 (.ref (g.ad 83))).set 14 (.ref (g.ad 84))).set 15 (.ref (g.ad 85))).set 16 (.ref (g.ad 86))).set 17 (.ref (g.ad 87))).set 22 (.ref (g.ad 88)))) (fs' := ((((((((((((((dl9.set 1 (.ref (g.ad 76))).set 2 (.ref (g.ad 77))).set 3 (.ref (g.ad 78))).set 5 (.ref (g.ad 79))).set 7 (.ref (g.ad 80))).set 8 (.ref (g.ad 81))).set 12 (.ref (g.ad 82))).set 13 (.ref (g.ad 83))).set 14 (.ref (g.ad 84))).set 15 (.ref (g.ad 85))).set 16 (.ref (g.ad 86))).set 17 (.ref (g.ad 87))).set 22 (.ref (g.ad 88))).set 23 (.ref (g.ad 89)))) (ty := (tyX9 23)) (q := 985) hX hnm rfl rfl tyX9 tyX9_ok nmX9 rfl rfl iG9 k4_205 rfl rfl rfl (Nat.le_of_ble_eq_true rfl) (tyX9_ok 23 (by decide)) rfl rfl dX9_init_982 rfl ?_
  refine G_aload_n (q := 986) hX dX9_init_985 0 rfl rfl ?_
  refine G_sipush (v := 200) (q := 989) hX dX9_init_986 (by decide) rfl ?_
  refine G_newa (n0 := 76) (len := 200) (q := 991) hX (by decide) rfl dX9_init_989 rfl ?_
  refine G_putF (c := 9) (p := 27) (nf := 39) (C := RX9) (T := TX9) (fs := ((((((((((((((dl9.set 1 (.ref (g.ad 76))).set 2 (.ref (g.ad 77))).set 3 (.ref (g.ad 78))).set 5 (.ref (g.ad 79))).set 7 (.ref (g.ad 80))).set 8 (.ref (g.ad 81))).set 12 (.ref (g.ad 82))).set 13 (.ref (g.ad 83))).set 14 (.ref (g.ad 84))).set 15 (.ref (g.ad 85))).set 16 (.ref (g.ad 86))).set 17 (.ref (g.ad 87))).set 22 (.ref (g.ad 88))).set 23 (.ref (g.ad 89)))) (fs' := (((((((((((((((dl9.set 1 (.ref (g.ad 76))).set 2 (.ref (g.ad 77))).set 3 (.ref (g.ad 78))).set 5 (.ref (g.ad 79))).set 7 (.ref (g.ad 80))).set 8 (.ref (g.ad 81))).set 12 (.ref (g.ad 82))).set 13 (.ref (g.ad 83))).set 14 (.ref (g.ad 84))).set 15 (.ref (g.ad 85))).set 16 (.ref (g.ad 86))).set 17 (.ref (g.ad 87))).set 22 (.ref (g.ad 88))).set 23 (.ref (g.ad 89))).set 27 (.ref (g.ad 90)))) (ty := (tyX9 27)) (q := 994) hX hnm rfl rfl tyX9 tyX9_ok nmX9 rfl rfl iG9 k4_209 rfl rfl rfl (Nat.le_of_ble_eq_true rfl) (tyX9_ok 27 (by decide)) rfl rfl dX9_init_991 rfl ?_
  refine G_aload_n (q := 995) hX dX9_init_994 0 rfl rfl ?_
  refine G_bipush (v := 6) (q := 997) hX dX9_init_995 (by decide) rfl ?_
  refine G_newa (n0 := 76) (len := 6) (q := 999) hX (by decide) rfl dX9_init_997 rfl ?_
  refine G_putF (c := 9) (p := 28) (nf := 39) (C := RX9) (T := TX9) (fs := (((((((((((((((dl9.set 1 (.ref (g.ad 76))).set 2 (.ref (g.ad 77))).set 3 (.ref (g.ad 78))).set 5 (.ref (g.ad 79))).set 7 (.ref (g.ad 80))).set 8 (.ref (g.ad 81))).set 12 (.ref (g.ad 82))).set 13 (.ref (g.ad 83))).set 14 (.ref (g.ad 84))).set 15 (.ref (g.ad 85))).set 16 (.ref (g.ad 86))).set 17 (.ref (g.ad 87))).set 22 (.ref (g.ad 88))).set 23 (.ref (g.ad 89))).set 27 (.ref (g.ad 90)))) (fs' := ((((((((((((((((dl9.set 1 (.ref (g.ad 76))).set 2 (.ref (g.ad 77))).set 3 (.ref (g.ad 78))).set 5 (.ref (g.ad 79))).set 7 (.ref (g.ad 80))).set 8 (.ref (g.ad 81))).set 12 (.ref (g.ad 82))).set 13 (.ref (g.ad 83))).set 14 (.ref (g.ad 84))).set 15 (.ref (g.ad 85))).set 16 (.ref (g.ad 86))).set 17 (.ref (g.ad 87))).set 22 (.ref (g.ad 88))).set 23 (.ref (g.ad 89))).set 27 (.ref (g.ad 90))).set 28 (.ref (g.ad 91)))) (ty := (tyX9 28)) (q := 1002) hX hnm rfl rfl tyX9 tyX9_ok nmX9 rfl rfl iG9 k4_210 rfl rfl rfl (Nat.le_of_ble_eq_true rfl) (tyX9_ok 28 (by decide)) rfl rfl dX9_init_999 rfl ?_
  refine G_aload_n (q := 1003) hX dX9_init_1002 0 rfl rfl ?_
  refine G_sipush (v := 288) (q := 1006) hX dX9_init_1003 (by decide) rfl ?_
  refine G_newa (n0 := 76) (len := 288) (q := 1008) hX (by decide) rfl dX9_init_1006 rfl ?_
  refine G_putF (c := 9) (p := 31) (nf := 39) (C := RX9) (T := TX9) (fs := ((((((((((((((((dl9.set 1 (.ref (g.ad 76))).set 2 (.ref (g.ad 77))).set 3 (.ref (g.ad 78))).set 5 (.ref (g.ad 79))).set 7 (.ref (g.ad 80))).set 8 (.ref (g.ad 81))).set 12 (.ref (g.ad 82))).set 13 (.ref (g.ad 83))).set 14 (.ref (g.ad 84))).set 15 (.ref (g.ad 85))).set 16 (.ref (g.ad 86))).set 17 (.ref (g.ad 87))).set 22 (.ref (g.ad 88))).set 23 (.ref (g.ad 89))).set 27 (.ref (g.ad 90))).set 28 (.ref (g.ad 91)))) (fs' := (((((((((((((((((dl9.set 1 (.ref (g.ad 76))).set 2 (.ref (g.ad 77))).set 3 (.ref (g.ad 78))).set 5 (.ref (g.ad 79))).set 7 (.ref (g.ad 80))).set 8 (.ref (g.ad 81))).set 12 (.ref (g.ad 82))).set 13 (.ref (g.ad 83))).set 14 (.ref (g.ad 84))).set 15 (.ref (g.ad 85))).set 16 (.ref (g.ad 86))).set 17 (.ref (g.ad 87))).set 22 (.ref (g.ad 88))).set 23 (.ref (g.ad 89))).set 27 (.ref (g.ad 90))).set 28 (.ref (g.ad 91))).set 31 (.ref (g.ad 92)))) (ty := (tyX9 31)) (q := 1011) hX hnm rfl rfl tyX9 tyX9_ok nmX9 rfl rfl iG9 k4_213 rfl rfl rfl (Nat.le_of_ble_eq_true rfl) (tyX9_ok 31 (by decide)) rfl rfl dX9_init_1008 rfl ?_
  refine G_aload_n (q := 1012) hX dX9_init_1011 0 rfl rfl ?_
  refine G_bipush (v := 10) (q := 1014) hX dX9_init_1012 (by decide) rfl ?_
  refine G_newa (n0 := 76) (len := 10) (q := 1016) hX (by decide) rfl dX9_init_1014 rfl ?_
  refine G_putF (c := 9) (p := 37) (nf := 39) (C := RX9) (T := TX9) (fs := (((((((((((((((((dl9.set 1 (.ref (g.ad 76))).set 2 (.ref (g.ad 77))).set 3 (.ref (g.ad 78))).set 5 (.ref (g.ad 79))).set 7 (.ref (g.ad 80))).set 8 (.ref (g.ad 81))).set 12 (.ref (g.ad 82))).set 13 (.ref (g.ad 83))).set 14 (.ref (g.ad 84))).set 15 (.ref (g.ad 85))).set 16 (.ref (g.ad 86))).set 17 (.ref (g.ad 87))).set 22 (.ref (g.ad 88))).set 23 (.ref (g.ad 89))).set 27 (.ref (g.ad 90))).set 28 (.ref (g.ad 91))).set 31 (.ref (g.ad 92)))) (fs' := ((((((((((((((((((dl9.set 1 (.ref (g.ad 76))).set 2 (.ref (g.ad 77))).set 3 (.ref (g.ad 78))).set 5 (.ref (g.ad 79))).set 7 (.ref (g.ad 80))).set 8 (.ref (g.ad 81))).set 12 (.ref (g.ad 82))).set 13 (.ref (g.ad 83))).set 14 (.ref (g.ad 84))).set 15 (.ref (g.ad 85))).set 16 (.ref (g.ad 86))).set 17 (.ref (g.ad 87))).set 22 (.ref (g.ad 88))).set 23 (.ref (g.ad 89))).set 27 (.ref (g.ad 90))).set 28 (.ref (g.ad 91))).set 31 (.ref (g.ad 92))).set 37 (.ref (g.ad 93)))) (ty := (tyX9 37)) (q := 1019) hX hnm rfl rfl tyX9 tyX9_ok nmX9 rfl rfl iG9 k4_219 rfl rfl rfl (Nat.le_of_ble_eq_true rfl) (tyX9_ok 37 (by decide)) rfl rfl dX9_init_1016 rfl ?_
  refine G_aload_n (q := 1020) hX dX9_init_1019 0 rfl rfl ?_
  refine G_bipush (v := 30) (q := 1022) hX dX9_init_1020 (by decide) rfl ?_
  refine G_newa (n0 := 76) (len := 30) (q := 1024) hX (by decide) rfl dX9_init_1022 rfl ?_
  refine G_putF (c := 9) (p := 38) (nf := 39) (C := RX9) (T := TX9) (fs := ((((((((((((((((((dl9.set 1 (.ref (g.ad 76))).set 2 (.ref (g.ad 77))).set 3 (.ref (g.ad 78))).set 5 (.ref (g.ad 79))).set 7 (.ref (g.ad 80))).set 8 (.ref (g.ad 81))).set 12 (.ref (g.ad 82))).set 13 (.ref (g.ad 83))).set 14 (.ref (g.ad 84))).set 15 (.ref (g.ad 85))).set 16 (.ref (g.ad 86))).set 17 (.ref (g.ad 87))).set 22 (.ref (g.ad 88))).set 23 (.ref (g.ad 89))).set 27 (.ref (g.ad 90))).set 28 (.ref (g.ad 91))).set 31 (.ref (g.ad 92))).set 37 (.ref (g.ad 93)))) (fs' := (((((((((((((((((((dl9.set 1 (.ref (g.ad 76))).set 2 (.ref (g.ad 77))).set 3 (.ref (g.ad 78))).set 5 (.ref (g.ad 79))).set 7 (.ref (g.ad 80))).set 8 (.ref (g.ad 81))).set 12 (.ref (g.ad 82))).set 13 (.ref (g.ad 83))).set 14 (.ref (g.ad 84))).set 15 (.ref (g.ad 85))).set 16 (.ref (g.ad 86))).set 17 (.ref (g.ad 87))).set 22 (.ref (g.ad 88))).set 23 (.ref (g.ad 89))).set 27 (.ref (g.ad 90))).set 28 (.ref (g.ad 91))).set 31 (.ref (g.ad 92))).set 37 (.ref (g.ad 93))).set 38 (.ref (g.ad 94)))) (ty := (tyX9 38)) (q := 1027) hX hnm rfl rfl tyX9 tyX9_ok nmX9 rfl rfl iG9 k4_220 rfl rfl rfl (Nat.le_of_ble_eq_true rfl) (tyX9_ok 38 (by decide)) rfl rfl dX9_init_1024 rfl ?_
  refine GV.pick [0] rfl ?_
  exact kk _ (fun o ho => by simp only [put]; repeat rw [if_neg (by omega)]) rfl rfl rfl rfl rfl rfl rfl rfl rfl rfl rfl rfl rfl rfl rfl rfl rfl rfl rfl rfl
