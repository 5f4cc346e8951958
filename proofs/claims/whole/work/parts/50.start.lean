/-! The start: what the Statement gives of the machine, the two constructors, the law's loop. -/
def GT.setN (g : GT) (n : Nat) : GT := (g.1, g.2.1, g.2.2.1, n, g.2.2.2.2)
/-- the class's memory when its own constructor has made all its objects -/
def sig0 : St := (fun o k => if o = 0 ∧ k = 9 then 1 else if o = 26 ∧ k = 4 then -1 else if o = 35 ∧ k = 3 then 4 else if (o = 67 ∨ o = 69 ∨ o = 71 ∨ o = 73) ∧ k = 1 then -1 else 0,
  fun o k => if o = 37 ∧ k = 2 then 39 else if o = 37 ∧ k = 3 then 40 else if o = 43 ∧ k = 2 then 45 else if o = 43 ∧ k = 3 then 46 else if o = 26 ∧ k = 6 then 28 else 0)
/-- and with the reference's objects -/
def initM (σ : St) : St := (fun o k => if o < 75 then σ.1 o k else match o with
  | 84 => arr84 k
  | 87 => arr87 k
  | 88 => arr88 k
  | _ => 0, σ.2)
/-- all that is left to be shown of the pure functions -/
def PureAll : Prop := ∃ σ1 σ2 : St, S8_tail sig0 = some ((), σ1) ∧ S9_tail (initM σ1) = some ((), σ2) ∧ ∀ (xs : Nat → Int32) (L : Nat), L ≤ 3584 → ∃ σ3, SL_law xs L σ2 = some (1, σ3)
set_option maxRecDepth 100000 in
set_option maxHeartbeats 8000000 in
theorem al8_0 (g : GT) (cf : Nat → va_E) : alikeC (cr8_0 g cf 0) (cellOf g sig0 0) := Or.inl rfl
set_option maxRecDepth 100000 in
set_option maxHeartbeats 8000000 in
theorem al8_1 (g : GT) (cf : Nat → va_E) : alikeC (cr8_0 g cf 1) (cellOf g sig0 1) := Or.inl rfl
set_option maxRecDepth 100000 in
set_option maxHeartbeats 8000000 in
theorem al8_2 (g : GT) (cf : Nat → va_E) : alikeC (cr8_0 g cf 2) (cellOf g sig0 2) := Or.inr ⟨_, 6, _, _, rfl, rfl, fun i hi => match i, hi with
  | 0, _ => rfl
  | 1, _ => rfl
  | 2, _ => rfl
  | 3, _ => rfl
  | 4, _ => rfl
  | 5, _ => rfl
  | n + 6, h => absurd h (by omega)⟩
set_option maxRecDepth 100000 in
set_option maxHeartbeats 8000000 in
theorem al8_3 (g : GT) (cf : Nat → va_E) : alikeC (cr8_0 g cf 3) (cellOf g sig0 3) := Or.inl rfl
set_option maxRecDepth 100000 in
set_option maxHeartbeats 8000000 in
theorem al8_4 (g : GT) (cf : Nat → va_E) : alikeC (cr8_0 g cf 4) (cellOf g sig0 4) := Or.inl rfl
set_option maxRecDepth 100000 in
set_option maxHeartbeats 8000000 in
theorem al8_5 (g : GT) (cf : Nat → va_E) : alikeC (cr8_0 g cf 5) (cellOf g sig0 5) := Or.inl rfl
set_option maxRecDepth 100000 in
set_option maxHeartbeats 8000000 in
theorem al8_6 (g : GT) (cf : Nat → va_E) : alikeC (cr8_0 g cf 6) (cellOf g sig0 6) := Or.inl rfl
set_option maxRecDepth 100000 in
set_option maxHeartbeats 8000000 in
theorem al8_7 (g : GT) (cf : Nat → va_E) : alikeC (cr8_0 g cf 7) (cellOf g sig0 7) := Or.inl rfl
set_option maxRecDepth 100000 in
set_option maxHeartbeats 8000000 in
theorem al8_8 (g : GT) (cf : Nat → va_E) : alikeC (cr8_0 g cf 8) (cellOf g sig0 8) := Or.inl rfl
set_option maxRecDepth 100000 in
set_option maxHeartbeats 8000000 in
theorem al8_9 (g : GT) (cf : Nat → va_E) : alikeC (cr8_0 g cf 9) (cellOf g sig0 9) := Or.inl rfl
set_option maxRecDepth 100000 in
set_option maxHeartbeats 8000000 in
theorem al8_10 (g : GT) (cf : Nat → va_E) : alikeC (cr8_0 g cf 10) (cellOf g sig0 10) := Or.inr ⟨_, 6, _, _, rfl, rfl, fun i hi => match i, hi with
  | 0, _ => rfl
  | 1, _ => rfl
  | 2, _ => rfl
  | 3, _ => rfl
  | 4, _ => rfl
  | 5, _ => rfl
  | n + 6, h => absurd h (by omega)⟩
set_option maxRecDepth 100000 in
set_option maxHeartbeats 8000000 in
theorem al8_11 (g : GT) (cf : Nat → va_E) : alikeC (cr8_0 g cf 11) (cellOf g sig0 11) := Or.inl rfl
set_option maxRecDepth 100000 in
set_option maxHeartbeats 8000000 in
theorem al8_12 (g : GT) (cf : Nat → va_E) : alikeC (cr8_0 g cf 12) (cellOf g sig0 12) := Or.inl rfl
set_option maxRecDepth 100000 in
set_option maxHeartbeats 8000000 in
theorem al8_13 (g : GT) (cf : Nat → va_E) : alikeC (cr8_0 g cf 13) (cellOf g sig0 13) := Or.inl rfl
set_option maxRecDepth 100000 in
set_option maxHeartbeats 8000000 in
theorem al8_14 (g : GT) (cf : Nat → va_E) : alikeC (cr8_0 g cf 14) (cellOf g sig0 14) := Or.inl rfl
set_option maxRecDepth 100000 in
set_option maxHeartbeats 8000000 in
theorem al8_15 (g : GT) (cf : Nat → va_E) : alikeC (cr8_0 g cf 15) (cellOf g sig0 15) := Or.inl rfl
set_option maxRecDepth 100000 in
set_option maxHeartbeats 8000000 in
theorem al8_16 (g : GT) (cf : Nat → va_E) : alikeC (cr8_0 g cf 16) (cellOf g sig0 16) := Or.inl rfl
set_option maxRecDepth 100000 in
set_option maxHeartbeats 8000000 in
theorem al8_17 (g : GT) (cf : Nat → va_E) : alikeC (cr8_0 g cf 17) (cellOf g sig0 17) := Or.inl rfl
set_option maxRecDepth 100000 in
set_option maxHeartbeats 8000000 in
theorem al8_18 (g : GT) (cf : Nat → va_E) : alikeC (cr8_0 g cf 18) (cellOf g sig0 18) := Or.inr ⟨_, 6, _, _, rfl, rfl, fun i hi => match i, hi with
  | 0, _ => rfl
  | 1, _ => rfl
  | 2, _ => rfl
  | 3, _ => rfl
  | 4, _ => rfl
  | 5, _ => rfl
  | n + 6, h => absurd h (by omega)⟩
set_option maxRecDepth 100000 in
set_option maxHeartbeats 8000000 in
theorem al8_19 (g : GT) (cf : Nat → va_E) : alikeC (cr8_0 g cf 19) (cellOf g sig0 19) := Or.inl rfl
set_option maxRecDepth 100000 in
set_option maxHeartbeats 8000000 in
theorem al8_20 (g : GT) (cf : Nat → va_E) : alikeC (cr8_0 g cf 20) (cellOf g sig0 20) := Or.inl rfl
set_option maxRecDepth 100000 in
set_option maxHeartbeats 8000000 in
theorem al8_21 (g : GT) (cf : Nat → va_E) : alikeC (cr8_0 g cf 21) (cellOf g sig0 21) := Or.inl rfl
set_option maxRecDepth 100000 in
set_option maxHeartbeats 8000000 in
theorem al8_22 (g : GT) (cf : Nat → va_E) : alikeC (cr8_0 g cf 22) (cellOf g sig0 22) := Or.inl rfl
set_option maxRecDepth 100000 in
set_option maxHeartbeats 8000000 in
theorem al8_23 (g : GT) (cf : Nat → va_E) : alikeC (cr8_0 g cf 23) (cellOf g sig0 23) := Or.inl rfl
set_option maxRecDepth 100000 in
set_option maxHeartbeats 8000000 in
theorem al8_24 (g : GT) (cf : Nat → va_E) : alikeC (cr8_0 g cf 24) (cellOf g sig0 24) := Or.inl rfl
set_option maxRecDepth 100000 in
set_option maxHeartbeats 8000000 in
theorem al8_25 (g : GT) (cf : Nat → va_E) : alikeC (cr8_0 g cf 25) (cellOf g sig0 25) := Or.inl rfl
set_option maxRecDepth 100000 in
set_option maxHeartbeats 8000000 in
theorem al8_26 (g : GT) (cf : Nat → va_E) : alikeC (cr8_0 g cf 26) (cellOf g sig0 26) := Or.inl rfl
set_option maxRecDepth 100000 in
set_option maxHeartbeats 8000000 in
theorem al8_27 (g : GT) (cf : Nat → va_E) : alikeC (cr8_0 g cf 27) (cellOf g sig0 27) := Or.inl rfl
set_option maxRecDepth 100000 in
set_option maxHeartbeats 8000000 in
theorem al8_28 (g : GT) (cf : Nat → va_E) : alikeC (cr8_0 g cf 28) (cellOf g sig0 28) := Or.inl rfl
set_option maxRecDepth 100000 in
set_option maxHeartbeats 8000000 in
theorem al8_29 (g : GT) (cf : Nat → va_E) : alikeC (cr8_0 g cf 29) (cellOf g sig0 29) := Or.inl rfl
set_option maxRecDepth 100000 in
set_option maxHeartbeats 8000000 in
theorem al8_30 (g : GT) (cf : Nat → va_E) : alikeC (cr8_0 g cf 30) (cellOf g sig0 30) := Or.inl rfl
set_option maxRecDepth 100000 in
set_option maxHeartbeats 8000000 in
theorem al8_31 (g : GT) (cf : Nat → va_E) : alikeC (cr8_0 g cf 31) (cellOf g sig0 31) := Or.inr ⟨_, 6, _, _, rfl, rfl, fun i hi => match i, hi with
  | 0, _ => rfl
  | 1, _ => rfl
  | 2, _ => rfl
  | 3, _ => rfl
  | 4, _ => rfl
  | 5, _ => rfl
  | n + 6, h => absurd h (by omega)⟩
set_option maxRecDepth 100000 in
set_option maxHeartbeats 8000000 in
theorem al8_32 (g : GT) (cf : Nat → va_E) : alikeC (cr8_0 g cf 32) (cellOf g sig0 32) := Or.inr ⟨_, 4, _, _, rfl, rfl, fun i hi => match i, hi with
  | 0, _ => rfl
  | 1, _ => rfl
  | 2, _ => rfl
  | 3, _ => rfl
  | n + 4, h => absurd h (by omega)⟩
set_option maxRecDepth 100000 in
set_option maxHeartbeats 8000000 in
theorem al8_33 (g : GT) (cf : Nat → va_E) : alikeC (cr8_0 g cf 33) (cellOf g sig0 33) := Or.inl rfl
set_option maxRecDepth 100000 in
set_option maxHeartbeats 8000000 in
theorem al8_34 (g : GT) (cf : Nat → va_E) : alikeC (cr8_0 g cf 34) (cellOf g sig0 34) := Or.inl rfl
set_option maxRecDepth 100000 in
set_option maxHeartbeats 8000000 in
theorem al8_35 (g : GT) (cf : Nat → va_E) : alikeC (cr8_0 g cf 35) (cellOf g sig0 35) := Or.inl rfl
set_option maxRecDepth 100000 in
set_option maxHeartbeats 8000000 in
theorem al8_36 (g : GT) (cf : Nat → va_E) : alikeC (cr8_0 g cf 36) (cellOf g sig0 36) := Or.inl rfl
set_option maxRecDepth 100000 in
set_option maxHeartbeats 8000000 in
theorem al8_37 (g : GT) (cf : Nat → va_E) : alikeC (cr8_0 g cf 37) (cellOf g sig0 37) := Or.inl rfl
set_option maxRecDepth 100000 in
set_option maxHeartbeats 8000000 in
theorem al8_38 (g : GT) (cf : Nat → va_E) : alikeC (cr8_0 g cf 38) (cellOf g sig0 38) := Or.inl rfl
set_option maxRecDepth 100000 in
set_option maxHeartbeats 8000000 in
theorem al8_39 (g : GT) (cf : Nat → va_E) : alikeC (cr8_0 g cf 39) (cellOf g sig0 39) := Or.inl rfl
set_option maxRecDepth 100000 in
set_option maxHeartbeats 8000000 in
theorem al8_40 (g : GT) (cf : Nat → va_E) : alikeC (cr8_0 g cf 40) (cellOf g sig0 40) := Or.inl rfl
set_option maxRecDepth 100000 in
set_option maxHeartbeats 8000000 in
theorem al8_41 (g : GT) (cf : Nat → va_E) : alikeC (cr8_0 g cf 41) (cellOf g sig0 41) := Or.inl rfl
set_option maxRecDepth 100000 in
set_option maxHeartbeats 8000000 in
theorem al8_42 (g : GT) (cf : Nat → va_E) : alikeC (cr8_0 g cf 42) (cellOf g sig0 42) := Or.inl rfl
set_option maxRecDepth 100000 in
set_option maxHeartbeats 8000000 in
theorem al8_43 (g : GT) (cf : Nat → va_E) : alikeC (cr8_0 g cf 43) (cellOf g sig0 43) := Or.inl rfl
set_option maxRecDepth 100000 in
set_option maxHeartbeats 8000000 in
theorem al8_44 (g : GT) (cf : Nat → va_E) : alikeC (cr8_0 g cf 44) (cellOf g sig0 44) := Or.inl rfl
set_option maxRecDepth 100000 in
set_option maxHeartbeats 8000000 in
theorem al8_45 (g : GT) (cf : Nat → va_E) : alikeC (cr8_0 g cf 45) (cellOf g sig0 45) := Or.inl rfl
set_option maxRecDepth 100000 in
set_option maxHeartbeats 8000000 in
theorem al8_46 (g : GT) (cf : Nat → va_E) : alikeC (cr8_0 g cf 46) (cellOf g sig0 46) := Or.inl rfl
set_option maxRecDepth 100000 in
set_option maxHeartbeats 8000000 in
theorem al8_47 (g : GT) (cf : Nat → va_E) : alikeC (cr8_0 g cf 47) (cellOf g sig0 47) := Or.inl rfl
set_option maxRecDepth 100000 in
set_option maxHeartbeats 8000000 in
theorem al8_48 (g : GT) (cf : Nat → va_E) : alikeC (cr8_0 g cf 48) (cellOf g sig0 48) := Or.inl rfl
set_option maxRecDepth 100000 in
set_option maxHeartbeats 8000000 in
theorem al8_49 (g : GT) (cf : Nat → va_E) : alikeC (cr8_0 g cf 49) (cellOf g sig0 49) := Or.inl rfl
set_option maxRecDepth 100000 in
set_option maxHeartbeats 8000000 in
theorem al8_50 (g : GT) (cf : Nat → va_E) : alikeC (cr8_0 g cf 50) (cellOf g sig0 50) := Or.inl rfl
set_option maxRecDepth 100000 in
set_option maxHeartbeats 8000000 in
theorem al8_51 (g : GT) (cf : Nat → va_E) : alikeC (cr8_0 g cf 51) (cellOf g sig0 51) := Or.inl rfl
set_option maxRecDepth 100000 in
set_option maxHeartbeats 8000000 in
theorem al8_52 (g : GT) (cf : Nat → va_E) : alikeC (cr8_0 g cf 52) (cellOf g sig0 52) := Or.inl rfl
set_option maxRecDepth 100000 in
set_option maxHeartbeats 8000000 in
theorem al8_53 (g : GT) (cf : Nat → va_E) : alikeC (cr8_0 g cf 53) (cellOf g sig0 53) := Or.inl rfl
set_option maxRecDepth 100000 in
set_option maxHeartbeats 8000000 in
theorem al8_54 (g : GT) (cf : Nat → va_E) : alikeC (cr8_0 g cf 54) (cellOf g sig0 54) := Or.inl rfl
set_option maxRecDepth 100000 in
set_option maxHeartbeats 8000000 in
theorem al8_55 (g : GT) (cf : Nat → va_E) : alikeC (cr8_0 g cf 55) (cellOf g sig0 55) := Or.inl rfl
set_option maxRecDepth 100000 in
set_option maxHeartbeats 8000000 in
theorem al8_56 (g : GT) (cf : Nat → va_E) : alikeC (cr8_0 g cf 56) (cellOf g sig0 56) := Or.inl rfl
set_option maxRecDepth 100000 in
set_option maxHeartbeats 8000000 in
theorem al8_57 (g : GT) (cf : Nat → va_E) : alikeC (cr8_0 g cf 57) (cellOf g sig0 57) := Or.inl rfl
set_option maxRecDepth 100000 in
set_option maxHeartbeats 8000000 in
theorem al8_58 (g : GT) (cf : Nat → va_E) : alikeC (cr8_0 g cf 58) (cellOf g sig0 58) := Or.inl rfl
set_option maxRecDepth 100000 in
set_option maxHeartbeats 8000000 in
theorem al8_59 (g : GT) (cf : Nat → va_E) : alikeC (cr8_0 g cf 59) (cellOf g sig0 59) := Or.inl rfl
set_option maxRecDepth 100000 in
set_option maxHeartbeats 8000000 in
theorem al8_60 (g : GT) (cf : Nat → va_E) : alikeC (cr8_0 g cf 60) (cellOf g sig0 60) := Or.inl rfl
set_option maxRecDepth 100000 in
set_option maxHeartbeats 8000000 in
theorem al8_61 (g : GT) (cf : Nat → va_E) : alikeC (cr8_0 g cf 61) (cellOf g sig0 61) := Or.inl rfl
set_option maxRecDepth 100000 in
set_option maxHeartbeats 8000000 in
theorem al8_62 (g : GT) (cf : Nat → va_E) : alikeC (cr8_0 g cf 62) (cellOf g sig0 62) := Or.inl rfl
set_option maxRecDepth 100000 in
set_option maxHeartbeats 8000000 in
theorem al8_63 (g : GT) (cf : Nat → va_E) : alikeC (cr8_0 g cf 63) (cellOf g sig0 63) := Or.inl rfl
set_option maxRecDepth 100000 in
set_option maxHeartbeats 8000000 in
theorem al8_64 (g : GT) (cf : Nat → va_E) : alikeC (cr8_0 g cf 64) (cellOf g sig0 64) := Or.inl rfl
set_option maxRecDepth 100000 in
set_option maxHeartbeats 8000000 in
theorem al8_65 (g : GT) (cf : Nat → va_E) : alikeC (cr8_0 g cf 65) (cellOf g sig0 65) := Or.inl rfl
set_option maxRecDepth 100000 in
set_option maxHeartbeats 8000000 in
theorem al8_66 (g : GT) (cf : Nat → va_E) : alikeC (cr8_0 g cf 66) (cellOf g sig0 66) := Or.inl rfl
set_option maxRecDepth 100000 in
set_option maxHeartbeats 8000000 in
theorem al8_67 (g : GT) (cf : Nat → va_E) : alikeC (cr8_0 g cf 67) (cellOf g sig0 67) := Or.inl rfl
set_option maxRecDepth 100000 in
set_option maxHeartbeats 8000000 in
theorem al8_68 (g : GT) (cf : Nat → va_E) : alikeC (cr8_0 g cf 68) (cellOf g sig0 68) := Or.inl rfl
set_option maxRecDepth 100000 in
set_option maxHeartbeats 8000000 in
theorem al8_69 (g : GT) (cf : Nat → va_E) : alikeC (cr8_0 g cf 69) (cellOf g sig0 69) := Or.inl rfl
set_option maxRecDepth 100000 in
set_option maxHeartbeats 8000000 in
theorem al8_70 (g : GT) (cf : Nat → va_E) : alikeC (cr8_0 g cf 70) (cellOf g sig0 70) := Or.inl rfl
set_option maxRecDepth 100000 in
set_option maxHeartbeats 8000000 in
theorem al8_71 (g : GT) (cf : Nat → va_E) : alikeC (cr8_0 g cf 71) (cellOf g sig0 71) := Or.inl rfl
set_option maxRecDepth 100000 in
set_option maxHeartbeats 8000000 in
theorem al8_72 (g : GT) (cf : Nat → va_E) : alikeC (cr8_0 g cf 72) (cellOf g sig0 72) := Or.inl rfl
set_option maxRecDepth 100000 in
set_option maxHeartbeats 8000000 in
theorem al8_73 (g : GT) (cf : Nat → va_E) : alikeC (cr8_0 g cf 73) (cellOf g sig0 73) := Or.inl rfl
set_option maxRecDepth 100000 in
set_option maxHeartbeats 8000000 in
theorem al8_74 (g : GT) (cf : Nat → va_E) : alikeC (cr8_0 g cf 74) (cellOf g sig0 74) := Or.inl rfl
theorem al8 (g : GT) (cf : Nat → va_E) (o : Nat) (h : o < 75) : alikeC (cr8_0 g cf o) (cellOf g sig0 o) := match o, h with
  | 0, _ => al8_0 g cf
  | 1, _ => al8_1 g cf
  | 2, _ => al8_2 g cf
  | 3, _ => al8_3 g cf
  | 4, _ => al8_4 g cf
  | 5, _ => al8_5 g cf
  | 6, _ => al8_6 g cf
  | 7, _ => al8_7 g cf
  | 8, _ => al8_8 g cf
  | 9, _ => al8_9 g cf
  | 10, _ => al8_10 g cf
  | 11, _ => al8_11 g cf
  | 12, _ => al8_12 g cf
  | 13, _ => al8_13 g cf
  | 14, _ => al8_14 g cf
  | 15, _ => al8_15 g cf
  | 16, _ => al8_16 g cf
  | 17, _ => al8_17 g cf
  | 18, _ => al8_18 g cf
  | 19, _ => al8_19 g cf
  | 20, _ => al8_20 g cf
  | 21, _ => al8_21 g cf
  | 22, _ => al8_22 g cf
  | 23, _ => al8_23 g cf
  | 24, _ => al8_24 g cf
  | 25, _ => al8_25 g cf
  | 26, _ => al8_26 g cf
  | 27, _ => al8_27 g cf
  | 28, _ => al8_28 g cf
  | 29, _ => al8_29 g cf
  | 30, _ => al8_30 g cf
  | 31, _ => al8_31 g cf
  | 32, _ => al8_32 g cf
  | 33, _ => al8_33 g cf
  | 34, _ => al8_34 g cf
  | 35, _ => al8_35 g cf
  | 36, _ => al8_36 g cf
  | 37, _ => al8_37 g cf
  | 38, _ => al8_38 g cf
  | 39, _ => al8_39 g cf
  | 40, _ => al8_40 g cf
  | 41, _ => al8_41 g cf
  | 42, _ => al8_42 g cf
  | 43, _ => al8_43 g cf
  | 44, _ => al8_44 g cf
  | 45, _ => al8_45 g cf
  | 46, _ => al8_46 g cf
  | 47, _ => al8_47 g cf
  | 48, _ => al8_48 g cf
  | 49, _ => al8_49 g cf
  | 50, _ => al8_50 g cf
  | 51, _ => al8_51 g cf
  | 52, _ => al8_52 g cf
  | 53, _ => al8_53 g cf
  | 54, _ => al8_54 g cf
  | 55, _ => al8_55 g cf
  | 56, _ => al8_56 g cf
  | 57, _ => al8_57 g cf
  | 58, _ => al8_58 g cf
  | 59, _ => al8_59 g cf
  | 60, _ => al8_60 g cf
  | 61, _ => al8_61 g cf
  | 62, _ => al8_62 g cf
  | 63, _ => al8_63 g cf
  | 64, _ => al8_64 g cf
  | 65, _ => al8_65 g cf
  | 66, _ => al8_66 g cf
  | 67, _ => al8_67 g cf
  | 68, _ => al8_68 g cf
  | 69, _ => al8_69 g cf
  | 70, _ => al8_70 g cf
  | 71, _ => al8_71 g cf
  | 72, _ => al8_72 g cf
  | 73, _ => al8_73 g cf
  | 74, _ => al8_74 g cf
  | n + 75, h => absurd h (by omega)
set_option maxRecDepth 100000 in
set_option maxHeartbeats 8000000 in
theorem c8i {g : GT} {l : Launch} (hg : OkG (g.setN 75)) (hL : Lin g) {cf : Nat → va_E} (h : cf 0 = .inr (8, [.null, .null, .null, .null, .null, .null, .null, .null, .null, .int 0, .int 0])) {σ1 : St} (hT : S8_tail sig0 = some ((), σ1)) : CtC g l mi8 yX8_init [.ref (g.ad 0)] 1 cf 75 (cellOf g σ1) 74 2497 :=
  CtC.of (g := g.setN 75) hg hL (by decide) rfl rfl rfl rfl (fun X hX hnm hl hQ => by
    refine gt8_0 hX hnm h (G_toV (g := g.setN 75) sig0 rfl (al8 g cf) ?_)
    refine v8_tail (g := g.setN 75) (okX_of hX (Nat.le_refl _) (Nat.le_refl _)) (Nat.le_refl _) (res := ((), σ1)) ⟨hQ, hX.2.2.2.2.2.2.1.2, ?_, hX.2.2.2.2.2.2.2.2⟩ hT
    have h1 : X.s.heap.size ≤ g.lo + 1 := hX.2.2.2.2.2.2.2.1
    show X.s.heap.size + 74 ≤ g.lo + 75
    omega)
set_option maxRecDepth 100000 in
set_option maxHeartbeats 8000000 in
theorem c9i {g : GT} {l : Launch} (hg : OkG (g.setN 95)) (hL : Lin g) {cf : Nat → va_E} {σ1 : St} (h : cf 75 = .inr (9, dl9)) (h0 : ∀ o, o < 75 → cf o = cellOf g σ1 o) {σ2 : St} (hT : S9_tail (initM σ1) = some ((), σ2)) : CtC g l mi9 yX9_init [.ref (g.ad 75)] 76 cf 95 (cellOf g σ2) 19 2505 :=
  CtC.of (g := g.setN 95) hg hL (by decide) rfl rfl rfl rfl (fun X hX hnm hl hQ => by
    refine gt9_0 hX hnm h (fun cf2 e0 h75 h76 h77 h78 h79 h80 h81 h82 h83 h84 h85 h86 h87 h88 h89 h90 h91 h92 h93 h94 => G_toV (g := g.setN 95) (initM σ1) rfl (fun o ho => ?_) ?_)
    · by_cases hc : o < 75
      · refine Or.inl ?_
        rw [e0 o hc, h0 o hc]
        exact (cell_congr (g := g) (σ := σ1) (σ' := initM σ1) (i := o) (fun k => by simp [initM, hc]) (fun k => rfl)).symm
      · match o, ho, hc with
        | 75, _, _ => exact Or.inl (h75.trans rfl)
        | 76, _, _ => exact Or.inl (h76.trans rfl)
        | 77, _, _ => exact Or.inl (h77.trans rfl)
        | 78, _, _ => exact Or.inl (h78.trans rfl)
        | 79, _, _ => exact Or.inl (h79.trans rfl)
        | 80, _, _ => exact Or.inl (h80.trans rfl)
        | 81, _, _ => exact Or.inl (h81.trans rfl)
        | 82, _, _ => exact Or.inl (h82.trans rfl)
        | 83, _, _ => exact Or.inl (h83.trans rfl)
        | 84, _, _ => exact Or.inl (h84.trans rfl)
        | 85, _, _ => exact Or.inl (h85.trans rfl)
        | 86, _, _ => exact Or.inl (h86.trans rfl)
        | 87, _, _ => exact Or.inl (h87.trans rfl)
        | 88, _, _ => exact Or.inl (h88.trans rfl)
        | 89, _, _ => exact Or.inl (h89.trans rfl)
        | 90, _, _ => exact Or.inl (h90.trans rfl)
        | 91, _, _ => exact Or.inl (h91.trans rfl)
        | 92, _, _ => exact Or.inl (h92.trans rfl)
        | 93, _, _ => exact Or.inl (h93.trans rfl)
        | 94, _, _ => exact Or.inl (h94.trans rfl)
        | n + 95, h, _ => exact absurd h (by omega)
        | 0, _, hc => exact absurd (by decide) hc
        | 1, _, hc => exact absurd (by decide) hc
        | 2, _, hc => exact absurd (by decide) hc
        | 3, _, hc => exact absurd (by decide) hc
        | 4, _, hc => exact absurd (by decide) hc
        | 5, _, hc => exact absurd (by decide) hc
        | 6, _, hc => exact absurd (by decide) hc
        | 7, _, hc => exact absurd (by decide) hc
        | 8, _, hc => exact absurd (by decide) hc
        | 9, _, hc => exact absurd (by decide) hc
        | 10, _, hc => exact absurd (by decide) hc
        | 11, _, hc => exact absurd (by decide) hc
        | 12, _, hc => exact absurd (by decide) hc
        | 13, _, hc => exact absurd (by decide) hc
        | 14, _, hc => exact absurd (by decide) hc
        | 15, _, hc => exact absurd (by decide) hc
        | 16, _, hc => exact absurd (by decide) hc
        | 17, _, hc => exact absurd (by decide) hc
        | 18, _, hc => exact absurd (by decide) hc
        | 19, _, hc => exact absurd (by decide) hc
        | 20, _, hc => exact absurd (by decide) hc
        | 21, _, hc => exact absurd (by decide) hc
        | 22, _, hc => exact absurd (by decide) hc
        | 23, _, hc => exact absurd (by decide) hc
        | 24, _, hc => exact absurd (by decide) hc
        | 25, _, hc => exact absurd (by decide) hc
        | 26, _, hc => exact absurd (by decide) hc
        | 27, _, hc => exact absurd (by decide) hc
        | 28, _, hc => exact absurd (by decide) hc
        | 29, _, hc => exact absurd (by decide) hc
        | 30, _, hc => exact absurd (by decide) hc
        | 31, _, hc => exact absurd (by decide) hc
        | 32, _, hc => exact absurd (by decide) hc
        | 33, _, hc => exact absurd (by decide) hc
        | 34, _, hc => exact absurd (by decide) hc
        | 35, _, hc => exact absurd (by decide) hc
        | 36, _, hc => exact absurd (by decide) hc
        | 37, _, hc => exact absurd (by decide) hc
        | 38, _, hc => exact absurd (by decide) hc
        | 39, _, hc => exact absurd (by decide) hc
        | 40, _, hc => exact absurd (by decide) hc
        | 41, _, hc => exact absurd (by decide) hc
        | 42, _, hc => exact absurd (by decide) hc
        | 43, _, hc => exact absurd (by decide) hc
        | 44, _, hc => exact absurd (by decide) hc
        | 45, _, hc => exact absurd (by decide) hc
        | 46, _, hc => exact absurd (by decide) hc
        | 47, _, hc => exact absurd (by decide) hc
        | 48, _, hc => exact absurd (by decide) hc
        | 49, _, hc => exact absurd (by decide) hc
        | 50, _, hc => exact absurd (by decide) hc
        | 51, _, hc => exact absurd (by decide) hc
        | 52, _, hc => exact absurd (by decide) hc
        | 53, _, hc => exact absurd (by decide) hc
        | 54, _, hc => exact absurd (by decide) hc
        | 55, _, hc => exact absurd (by decide) hc
        | 56, _, hc => exact absurd (by decide) hc
        | 57, _, hc => exact absurd (by decide) hc
        | 58, _, hc => exact absurd (by decide) hc
        | 59, _, hc => exact absurd (by decide) hc
        | 60, _, hc => exact absurd (by decide) hc
        | 61, _, hc => exact absurd (by decide) hc
        | 62, _, hc => exact absurd (by decide) hc
        | 63, _, hc => exact absurd (by decide) hc
        | 64, _, hc => exact absurd (by decide) hc
        | 65, _, hc => exact absurd (by decide) hc
        | 66, _, hc => exact absurd (by decide) hc
        | 67, _, hc => exact absurd (by decide) hc
        | 68, _, hc => exact absurd (by decide) hc
        | 69, _, hc => exact absurd (by decide) hc
        | 70, _, hc => exact absurd (by decide) hc
        | 71, _, hc => exact absurd (by decide) hc
        | 72, _, hc => exact absurd (by decide) hc
        | 73, _, hc => exact absurd (by decide) hc
        | 74, _, hc => exact absurd (by decide) hc
    · refine v9_tail (g := g.setN 95) (okX_of hX (Nat.le_refl _) (Nat.le_refl _)) (Nat.le_refl _) (res := ((), σ2)) ⟨hQ, hX.2.2.2.2.2.2.1.2, ?_, hX.2.2.2.2.2.2.2.2⟩ hT
      have h1 : X.s.heap.size ≤ g.lo + 76 := hX.2.2.2.2.2.2.2.1
      show X.s.heap.size + 19 ≤ g.lo + 95
      omega)
theorem scr_apart {b n : Nat} (h : b < n) : ¬ (n ≤ b) := Nat.not_le.mpr h
set_option maxRecDepth 100000 in
set_option maxHeartbeats 8000000 in
theorem start_of {p : Program} {e : Env} {s : State} {m : MethodId} {below : List Frame} {meth : Method} {c : Code} (l : Launch) (hp : PureAll) {b L : Nat} {xs : Nat → Int32} (hL : L ≤ 3584) (C0 : lw_At p s m meth c b L xs) (g : GT) (hlo : g.lo = s.heap.size) (hg1 : OkG (g.setN 75)) (hg2 : OkG (g.setN 95)) (hLin : Lin g) (hFx : FxC g s s.heap) : W p l e room_1 s m #[Value.ref b] below meth c s.heap [] 0 0 (lw_Z below #[Value.ref b] s) (entryFrame m ([Value.ref b] : List Value).toArray 4) := by
  obtain ⟨hx, hb, hr, hml, hown, hts, hXs, hbl, hlocks, hgv⟩ := id C0
  obtain ⟨σ1, σ2, t1, t2, t3⟩ := hp
  obtain ⟨σ3, t3⟩ := t3 xs L hL
  have hX : OkC (g.setN 95) (p, l, e, room_1, s, m, #[Value.ref b], below, meth, c, 0, 0, lw_Z below #[Value.ref b] s) mL 0 600000 7302250 :=
    ⟨⟨hx, hb, hml, hown, fun w h => hts w (List.mem_filter.mp h).1⟩, hlocks, hr, ⟨Nat.le_of_ble_eq_true rfl, Nat.le_of_ble_eq_true rfl, rfl, rfl⟩, hg2, hLin, hFx, Nat.le_of_eq (by show s.heap.size = g.lo + 0; omega), Nat.le_of_eq hlo⟩
  have hl := lv_entry ([.ref b]) (n := 4) (Nat.le_of_ble_eq_true rfl)
  rw [lg_entry_eq]
  refine (?_ : GV (g.setN 95) (p, l, e, room_1, s, m, #[Value.ref b], below, meth, c, 0, 0, lw_Z below #[Value.ref b] s) mL 0 [(0, .ref b)] [] 0 (fun _ => .inr (8, [])) 0 0) s.heap [] _ (fun k q h => by simp [wsN] at h) va_S.rf hl
  refine G_new (n0 := 0) (c := 8) (nf := 11) (C := RX8) (T := TX8) (fs := [.null, .null, .null, .null, .null, .null, .null, .null, .null, .int 0, .int 0]) (q := 3) hX tyX8 tyX8_ok rfl iG8 k1_19 k1_20 k1_1 (by decide) rfl dL_law_0 rfl ?_
  refine G_dup (q := 4) hX dL_law_3 rfl rfl ?_
  refine G_ci (n0 := 0) (As := []) (j := mi8) (q := 7) hX (c8i hg1 hLin rfl t1) k1_21 k1_22 k1_1 k1_23 rfl (nA := 0) (by decide) rfl rfl rfl rfl dL_law_4 rfl ?_
  refine G_astore_n (lv' := [(1, .ref (g.ad 0)), (0, .ref b)]) (q := 8) hX dL_law_7 rfl rfl rfl ?_
  refine G_new (n0 := 0) (c := 9) (nf := 39) (C := RX9) (T := TX9) (fs := dl9) (q := 11) hX tyX9 tyX9_ok rfl iG9 k4_129 k4_130 k1_16 (by decide) rfl dL_law_8 rfl ?_
  refine G_dup (q := 12) hX dL_law_11 rfl rfl ?_
  refine G_ci (n0 := 0) (As := []) (j := mi9) (q := 15) hX (c9i (σ1 := σ1) hg2 hLin rfl (fun o ho => by simp only [put]; rw [if_neg (by omega)]) t2) k4_131 k4_132 k1_16 k4_133 rfl (nA := 0) (by decide) rfl rfl rfl rfl dL_law_12 rfl ?_
  refine G_astore_n (lv' := [(2, .ref (g.ad 75)), (1, .ref (g.ad 0)), (0, .ref b)]) (q := 16) hX dL_law_15 rfl rfl rfl ?_
  refine GV.pick [2, 1, 0] rfl ?_
  refine G_toV (g := g.setN 95) σ2 rfl (fun o _ => Or.inl rfl) ?_
  refine vL_law (b := b) (xs := xs) (L := L) (res := (1, σ3)) (okX_of hX (Nat.le_of_ble_eq_true rfl) (Nat.le_of_ble_eq_true rfl)) (Nat.le_refl _) ⟨hXs, hbl, ?_⟩ ⟨rfl, ?_⟩ t3
  · show ¬ g.lo ≤ b
    rw [hlo]
    exact Nat.not_le.mpr hbl
  · intro i pc H locs ls hd hc hloc
    have hc : c.code = i.cc := hc
    rw [← hc, hb] at hd
    show W p l e room_1 s m #[Value.ref b] below meth c H locs _ _ (lw_Z below #[Value.ref b] s) _
    refine va_forget (fun q h => by rw [← hlo]; exact hloc q h) ?_
    refine W.widen (k := 600000) (n := 7302250) (Nat.le_of_ble_eq_true rfl) (Nat.le_of_ble_eq_true rfl) ?_
    exact lw_ret hx hb hr hlocks hd
