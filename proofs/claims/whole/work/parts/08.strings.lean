/-! The constant texts: length, charAt, indexOf. -/
def chS (i k : Nat) : Int32 := Int32.ofNat ((txtN i).getD k 0)
def ixF (c : Int32) : List Nat → Nat → Int32
  | [], _ => -1
  | b :: l, k => if Int32.ofNat b = c then Int32.ofNat k else ixF c l (k + 1)
def ixS (i : Nat) (c : Int32) : Int32 := ixF c (txtN i) 0
def lenS (i : Nat) : Nat := [48, 60, 8].getD i 0
theorem nar_z {r : Int32} (h : r = 0 ∨ r = 1) : narrow .boolean (.int r) = .int r := by
  rcases h with rfl | rfl <;> rfl
def RStr : String := "java/lang/String"
def RLat : String := "java/lang/StringLatin1"
theorem stat_S {g : GT} {X : XT} {i : MI} (hX : OkX g X i) : vk_S 3 [48, 60, 8] [txt0.map (fun k => Int32.ofNat k), txt1.map (fun k => Int32.ofNat k), txt2.map (fun k => Int32.ofNat k)] g.kS g.vS g.A X.s X.s.heap := hX.2.2.2.2.2.2.2.2.2.2.2.2.1
theorem len_S : ∀ z, z < 3 → [48, 60, 8].getD z 0 = lenS z := fun _ _ => rfl
theorem byt_all : ∀ z, z < 3 → ∀ k, k < lenS z → (([txt0.map (fun k => Int32.ofNat k), txt1.map (fun k => Int32.ofNat k), txt2.map (fun k => Int32.ofNat k)] : List (List Int32)).getD z []).getD k 0 = chS z k := by decide +kernel
theorem ch_all : ∀ z, z < 3 → ∀ k, k < lenS z → (((chS z k &&& 255).toUInt32 % 65536).toInt32) = chS z k ∧ vp_nar .char (chS z k) = chS z k := by decide +kernel
theorem len_sh : ∀ z, z < 3 → (Int32.ofNat (lenS z)) >>> ((0 : Int32) &&& 31) = Int32.ofNat (lenS z) := by decide +kernel
theorem nar_ch {z k : Nat} (hz : z < 3) (hk : k < lenS z) : narrow .char (.int (chS z k)) = .int (chS z k) := by
  have h := (ch_all z hz k hk).2
  revert h
  generalize chS z k = x
  intro h
  show Value.int (vp_nar .char x) = _
  rw [h]
section STR
variable {g : GT} {X : XT} {i j : MI} {pc q idx nA : Nat} {lv lv' : List (Nat × Value)} {st st0 : List Value} {σ σ' : St} {y : MethodName} {As : List Value}
theorem V_sval (z : Nat) (hz : z < 3) (hX : OkX g X i) (hi : i.own = "java/lang/String") (hdg : decode i.cc pc = .ok (.getfield 9, 3)) (hq : pc + 3 = q) (kk : V g X i q lv (.ref (g.vS z) :: st) σ) : V g X i pc lv (.ref (g.kS z) :: st) σ := by
  subst hq
  intro H locs ls hP hS hl
  exact vk_getf hX.1.1 hX.1.2.1 ((stat_S hX).1 z hz).2.2.1 hS hX.1.2.2.2.1 (hX.1.2.2.2.2 _ (by rw [hi]; exact j6_65)) (fun x h => h) hdg (kk H locs ls hP hS hl)
theorem V_scod (z : Nat) (hz : z < 3) (hX : OkX g X i) (hi : i.own = "java/lang/String") (hdg : decode i.cc pc = .ok (.getfield 15, 3)) (hq : pc + 3 = q) (kk : V g X i q lv (.int 0 :: st) σ) : V g X i pc lv (.ref (g.kS z) :: st) σ := by
  subst hq
  intro H locs ls hP hS hl
  exact vk_getf hX.1.1 hX.1.2.1 ((stat_S hX).1 z hz).2.1 hS hX.1.2.2.2.1 (hX.1.2.2.2.2 _ (by rw [hi]; exact j6_66)) (fun x h => h) hdg (kk H locs ls hP hS hl)
theorem V_getsC (hX : OkX g X i) (hi : i.own = "java/lang/String") (hdg : decode i.cc pc = .ok (.getstatic 38, 3)) (hq : pc + 3 = q) (kk : V g X i q lv (.int 1 :: st) σ) : V g X i pc lv st σ := by
  subst hq
  intro H locs ls hP hS hl
  exact va_gets hX.1.1 hX.1.2.1 hX.2.2.2.2.2.2.2.2.2.2.2.2.2.1 hS hX.1.2.2.2.1 (hX.1.2.2.2.2 _ (by rw [hi]; exact j1_235)) (fun x h => h) hdg (kk H locs ls hP hS hl)
theorem V_getsF (hX : OkX g X i) (hi : i.own = "java/lang/String") (hdg : decode i.cc pc = .ok (.getstatic 1053, 3)) (hq : pc + 3 = q) (k0 : V g X i q lv (.null :: st) σ) (k1 : ∀ t, V g X i q lv (.ref t :: st) σ) : V g X i pc lv st σ := by
  subst hq
  intro H locs ls hP hS hl
  rcases hX.2.2.2.2.2.2.2.2.2.2.2.2.2.2 with h | ⟨t, h⟩
  · exact va_gets hX.1.1 hX.1.2.1 h hS hX.1.2.2.2.1 (hX.1.2.2.2.2 _ (by rw [hi]; exact j2_11)) (fun x h => h) hdg (k0 H locs ls hP hS hl)
  · exact va_gets hX.1.1 hX.1.2.1 h hS hX.1.2.2.2.1 (hX.1.2.2.2.2 _ (by rw [hi]; exact j2_11)) (fun x h => h) hdg (k1 t H locs ls hP hS hl)
theorem V_blen (z : Nat) (hz : z < 3) (hX : OkX g X i) (hdg : decode i.cc pc = .ok (.arraylength, 1)) (hq : pc + 1 = q) (kk : V g X i q lv (.int (Int32.ofNat (lenS z)) :: st) σ) : V g X i pc lv (.ref (g.vS z) :: st) σ := by
  subst hq
  intro H locs ls hP hS hl
  exact va_tlen hX.1.1 hX.1.2.1 ((stat_S hX).1 z hz).2.2.2 hS rfl hdg (kk H locs ls hP hS hl)
theorem V_bald (z : Nat) (hz : z < 3) (hX : OkX g X i) {x : Int32} (hin : inb x (lenS z)) (hdg : decode i.cc pc = .ok (.baload, 1)) (hq : pc + 1 = q) (kk : V g X i q lv (.int (chS z x.toNatClampNeg) :: st) σ) : V g X i pc lv (.int x :: .ref (g.vS z) :: st) σ := by
  subst hq
  intro H locs ls hP hS hl
  exact va_tb hX.1.1 hX.1.2.1 ((stat_S hX).1 z hz).2.2.2 hS hin (v := .int (chS z x.toNatClampNeg)) (by rw [byt_all z hz _ (inb_lt hin)]) hdg (kk H locs ls hP hS hl)
theorem V_cvs (z : Nat) (hz : z < 3) (hX : OkX g X i) {r : Int32} (hM : CtI g X.l j y (.ref (g.kS z) :: As) σ r σ') (hG : GoodIn gtbl (wsV i.own idx "java/lang/String" y (.code y j.cc j.nL j.ret :: gtbl)))
    (hd : y.cls = "java/lang/String" ∧ y.cls ≠ "java/lang/invoke/MethodHandle" ∧ y.cls ≠ "java/lang/invoke/VarHandle" ∧ (parseMethodDescriptor y.desc).map (fun d => d.parameters.length) = some nA) (hA : As.length = nA) (hlv : decide (j.lv < i.lv) = true) (hml : decide (j.nL ≤ 21) = true)
    (hst : st0 = As.reverse ++ .ref (g.kS z) :: st) (hr : Nat.ble (st.map fun v => v.category).sum 8 = true)
    (hdg : decode i.cc pc = .ok (.invokevirtual idx, 3)) (hq : pc + 3 = q) (kk : V g X i q lv (.int r :: st) σ') : V g X i pc lv st0 σ := by
  subst hq; subst hst
  intro H locs ls hP hS hl
  refine va_calli (va_runV (n := nA) hX.1 hM (cwV nA hX.1.2.2.2.2 hG rfl rfl rfl hd (room_call hX hlv hml)) ⟨world_blind, vk_recv (stat_S hX) hz hS, fun U hU hW => ⟨rfl, world_at hX hP hS hU hW⟩⟩ rfl hA hl.1 rfl (lv_room (Nat.le_of_ble_eq_true hr)) hdg ⟨hX.2.2.2.1.2.2.1, hX.2.2.2.1.2.2.2⟩) hS (fun q _ h => h) (fun q h => h) (fun r2 u t H1 locs1 ht hvm hw hB hz1 hk1 hS1 => ?_)
  have e2 := hw.2
  subst e2
  have e1 := hw.1
  subst e1
  have hP1 := (hB).1
  rw [ht] at hP1
  exact kk H1 locs1 ls hP1 hS1 hl
theorem V_cxI (hX : OkX g X i) {r : Int32} (hM : CtI g X.l j y As σ r σ') (hG : GoodIn gtbl (va_wsS i.own idx y (.code y j.cc j.nL j.ret :: gtbl)))
    (hd : y.cls ≠ "java/lang/invoke/MethodHandle" ∧ y.cls ≠ "java/lang/invoke/VarHandle" ∧ (parseMethodDescriptor y.desc).map (fun d => d.parameters.length) = some nA) (hA : As.length = nA) (hlv : decide (j.lv < i.lv) = true) (hml : decide (j.nL ≤ 21) = true)
    (hst : st0 = As.reverse ++ st) (hr : Nat.ble (st.map fun v => v.category).sum 8 = true)
    (hdg : decode i.cc pc = .ok (.invokestatic idx, 3)) (hq : pc + 3 = q) (kk : V g X i q lv (.int r :: st) σ') : V g X i pc lv st0 σ := by
  subst hq; subst hst
  intro H locs ls hP hS hl
  refine va_calli (va_runS (n := nA) hX.1 hM (va_cwS nA hX.1.2.2.2.2 hG rfl rfl rfl hd (room_call hX hlv hml)) ⟨world_blind, fun U hU hW => ⟨rfl, world_at hX hP hS hU hW⟩⟩ rfl hA hl.1 rfl (lv_room (Nat.le_of_ble_eq_true hr)) hdg ⟨hX.2.2.2.1.2.2.1, hX.2.2.2.1.2.2.2⟩) hS (fun q _ h => h) (fun q h => h) (fun r2 u t H1 locs1 ht hvm hw hB hz1 hk1 hS1 => ?_)
  have e2 := hw.2
  subst e2
  have e1 := hw.1
  subst e1
  have hP1 := (hB).1
  rw [ht] at hP1
  exact kk H1 locs1 ls hP1 hS1 hl
end STR
abbrev msCod : MI := (cJ0_coder_7d493, "java/lang/String", 1, some .byte, 0)
abbrev msLat : MI := (cJ0_isLatin1_aae02, "java/lang/String", 1, some .boolean, 0)
abbrev msLen : MI := (cJ0_length_8abf5, "java/lang/String", 1, some .int, 1)
abbrev msChk : MI := (cJ3_checkIndex_8e157, "jdk/internal/util/Preconditions", 3, some .int, 0)
abbrev msCki : MI := (cJ0_checkIndex_df160, "java/lang/String", 2, none, 1)
abbrev msLch : MI := (cJ1_charAt_3b067, "java/lang/StringLatin1", 2, some .char, 2)
abbrev msCha : MI := (cJ0_charAt_5068e, "java/lang/String", 2, some .char, 3)
abbrev msEnc : MI := (cJ1_canEncode_9a6ad, "java/lang/StringLatin1", 1, some .boolean, 0)
abbrev msIxc : MI := (cJ1_indexOfChar_4cfef, "java/lang/StringLatin1", 6, some .int, 0)
abbrev msLix : MI := (cJ1_indexOf_4cfef, "java/lang/StringLatin1", 4, some .int, 1)
abbrev msIx2 : MI := (cJ0_indexOf_7cf53, "java/lang/String", 3, some .int, 2)
abbrev msIx1 : MI := (cJ0_indexOf_0f7a4, "java/lang/String", 2, some .int, 3)
section SMET
variable {g : GT} {l : Launch} {σ : St}
set_option maxRecDepth 100000 in
set_option maxHeartbeats 4000000 in
theorem cs_cod (hg : OkG g) (z : Nat) (hz : z < 3) : CtI g l msCod yJ0_coder_7d493 [.ref (g.kS z)] σ 0 σ :=
  CtI.of hg (by decide) rfl rfl (fun X hX h2 hQ => by
    refine V_getsC (q := 3) hX rfl dJ0_coder_7d493_0 rfl ?_
    refine V_if_eq (q := 6) (t := 13) hX dJ0_coder_7d493_3 (by decide) rfl (fun h => absurd h (by decide)) (fun _ => ?_)
    refine V_aload_n (q := 7) hX dJ0_coder_7d493_6 0 rfl rfl ?_
    refine V_scod z hz (q := 10) hX rfl dJ0_coder_7d493_7 rfl ?_
    refine V_goto hX dJ0_coder_7d493_10 (q := 14) (by decide) ?_
    exact V_zret (ty := .byte) hX hQ rfl rfl dJ0_coder_7d493_14)
set_option maxRecDepth 100000 in
set_option maxHeartbeats 4000000 in
theorem cs_lat (hg : OkG g) (z : Nat) (hz : z < 3) : CtI g l msLat yJ0_isLatin1_aae02 [.ref (g.kS z)] σ 1 σ :=
  CtI.of hg (by decide) rfl rfl (fun X hX h2 hQ => by
    refine V_getsC (q := 3) hX rfl dJ0_isLatin1_aae02_0 rfl ?_
    refine V_if_eq (q := 6) (t := 17) hX dJ0_isLatin1_aae02_3 (by decide) rfl (fun h => absurd h (by decide)) (fun _ => ?_)
    refine V_aload_n (q := 7) hX dJ0_isLatin1_aae02_6 0 rfl rfl ?_
    refine V_scod z hz (q := 10) hX rfl dJ0_isLatin1_aae02_7 rfl ?_
    refine V_if_ne (q := 13) (t := 17) hX dJ0_isLatin1_aae02_10 (by decide) rfl (fun h => absurd rfl h) (fun _ => ?_)
    refine V_iconst (v := 1) (q := 14) hX dJ0_isLatin1_aae02_13 (by decide) rfl ?_
    refine V_goto hX dJ0_isLatin1_aae02_14 (q := 18) (by decide) ?_
    exact V_zret (ty := .boolean) hX hQ rfl rfl dJ0_isLatin1_aae02_18)
set_option maxRecDepth 100000 in
set_option maxHeartbeats 4000000 in
theorem cs_len (hg : OkG g) (z : Nat) (hz : z < 3) : CtI g l msLen yJ0_length_8abf5 [.ref (g.kS z)] σ (Int32.ofNat (lenS z)) σ :=
  CtI.of hg (by decide) rfl rfl (fun X hX h2 hQ => by
    refine V_aload_n (q := 1) hX dJ0_length_8abf5_0 0 rfl rfl ?_
    refine V_sval z hz (q := 4) hX rfl dJ0_length_8abf5_1 rfl ?_
    refine V_blen z hz (q := 5) hX dJ0_length_8abf5_4 rfl ?_
    refine V_aload_n (q := 6) hX dJ0_length_8abf5_5 0 rfl rfl ?_
    refine V_cvs z hz (As := []) (q := 9) hX (cs_cod hX.2.2.2.2.1 z hz) (goodV_of j1_231 k1_232 k1_233 k1_10 (cons_g k1_234)) (nA := 0) (by decide) rfl rfl rfl rfl rfl dJ0_length_8abf5_6 rfl ?_
    refine V_ishr (q := 10) hX dJ0_length_8abf5_9 rfl ?_
    rw [len_sh z hz]
    exact V_iret hX hQ rfl dJ0_length_8abf5_10)
set_option maxRecDepth 100000 in
set_option maxHeartbeats 4000000 in
theorem cs_chk (hg : OkG g) {a b : Int32} {v : Value} (hv : v = .null ∨ ∃ t, v = .ref t) (h1 : ¬ a < 0) (h2 : a < b) : CtI g l msChk yJ3_checkIndex_8e157 [.int a, .int b, v] σ a σ := by
  have key : ∀ X : XT, OkX g X msChk → X.l = l → (X.Q = QI g X a σ ∧ X.cells = 0 ∧ X.slots = 0) → V g X msChk 0 [(0, .int a), (1, .int b)] [] σ := by
    intro X hX _ hQ
    refine V_iload_n (q := 1) hX dJ3_checkIndex_8e157_0 0 rfl rfl ?_
    refine V_if_lt (q := 4) (t := 9) hX dJ3_checkIndex_8e157_1 (by decide) rfl (fun h => absurd h h1) (fun _ => ?_)
    refine V_iload_n (q := 5) hX dJ3_checkIndex_8e157_4 0 rfl rfl ?_
    refine V_iload_n (q := 6) hX dJ3_checkIndex_8e157_5 1 rfl rfl ?_
    refine V_icmp_lt (q := 9) (t := 16) hX dJ3_checkIndex_8e157_6 (by decide) rfl (fun _ => ?_) (fun h => absurd h2 h)
    refine V_iload_n (q := 17) hX dJ3_checkIndex_8e157_16 0 rfl rfl ?_
    exact V_iret hX hQ rfl dJ3_checkIndex_8e157_17
  rcases hv with rfl | ⟨t, rfl⟩
  · exact CtI.of hg (by decide) rfl rfl (fun X hX h2 hQ => V.pick [0, 1] rfl (key X hX h2 hQ))
  · exact CtI.of hg (by decide) rfl rfl (fun X hX h2 hQ => V.pick [0, 1] rfl (key X hX h2 hQ))
set_option maxRecDepth 100000 in
set_option maxHeartbeats 4000000 in
theorem cs_cki (hg : OkG g) {a b : Int32} (h1 : ¬ a < 0) (h2 : a < b) : CtV g l msCki yJ0_checkIndex_df160 [.int a, .int b] σ σ :=
  CtV.of hg (by decide) rfl rfl (fun X hX _ hQ => by
    refine V_iload_n (q := 1) hX dJ0_checkIndex_df160_0 0 rfl rfl ?_
    refine V_iload_n (q := 2) hX dJ0_checkIndex_df160_1 1 rfl rfl ?_
    refine V_getsF (q := 5) hX rfl dJ0_checkIndex_df160_2 rfl ?_ (fun t => ?_)
    · refine V_cxI (As := [.int a, .int b, .null]) (q := 8) hX (cs_chk hX.2.2.2.2.1 (Or.inl rfl) h1 h2) (goodSx_of j2_13 k2_14 k1_12 (cons_g k2_15)) (nA := 3) (by decide) rfl rfl rfl rfl rfl dJ0_checkIndex_df160_5 rfl ?_
      refine V_pop (q := 9) hX dJ0_checkIndex_df160_8 rfl rfl ?_
      exact V_vret hX hQ rfl dJ0_checkIndex_df160_9
    · refine V_cxI (As := [.int a, .int b, .ref t]) (q := 8) hX (cs_chk hX.2.2.2.2.1 (Or.inr ⟨t, rfl⟩) h1 h2) (goodSx_of j2_13 k2_14 k1_12 (cons_g k2_15)) (nA := 3) (by decide) rfl rfl rfl rfl rfl dJ0_checkIndex_df160_5 rfl ?_
      refine V_pop (q := 9) hX dJ0_checkIndex_df160_8 rfl rfl ?_
      exact V_vret hX hQ rfl dJ0_checkIndex_df160_9)
theorem inb_ofNat {a : Int32} {n : Nat} (hn : n < 2 ^ 31) (h : inb a n) : ¬ a < 0 ∧ a < Int32.ofNat n := by
  have h1 : ¬ a < 0 := fun q => h (Or.inl q)
  have h2 := inb_lt h
  refine ⟨h1, ?_⟩
  have h3 : a = Int32.ofNat a.toNatClampNeg := by
    apply Int32.toInt_inj.mp
    have e1 : (0 : Int) ≤ a.toInt := by
      have := Int32.le_iff_toInt_le.mp (Int32.not_lt.mp h1)
      simpa using this
    rw [Int32.toInt_ofNat_of_lt (by omega)]
    simp only [Int32.toNatClampNeg]
    omega
  rw [h3]
  exact Int32.lt_iff_toInt_lt.mpr (by rw [Int32.toInt_ofNat_of_lt (by omega), Int32.toInt_ofNat_of_lt hn]; omega)
theorem lenS_lt : ∀ z, z < 3 → lenS z < 2 ^ 31 := by decide +kernel
set_option maxRecDepth 100000 in
set_option maxHeartbeats 4000000 in
theorem cs_lch (hg : OkG g) (z : Nat) (hz : z < 3) {a : Int32} (ha : inb a (lenS z)) : CtI g l msLch yJ1_charAt_3b067 [.ref (g.vS z), .int a] σ (chS z a.toNatClampNeg) σ :=
  CtI.of hg (by decide) rfl rfl (fun X hX _ hQ => by
    refine V_iload_n (q := 1) hX dJ1_charAt_3b067_0 1 rfl rfl ?_
    refine V_aload_n (q := 2) hX dJ1_charAt_3b067_1 0 rfl rfl ?_
    refine V_blen z hz (q := 3) hX dJ1_charAt_3b067_2 rfl ?_
    have hin := inb_ofNat (lenS_lt z hz) ha
    refine V_cxV (As := [.int a, .int (Int32.ofNat (lenS z))]) (q := 6) hX (cs_cki hX.2.2.2.2.1 hin.1 hin.2) (goodSx_of j2_8 k2_9 k1_10 (cons_g k2_10)) (nA := 2) (by decide) rfl rfl rfl rfl rfl dJ1_charAt_3b067_3 rfl ?_
    refine V_aload_n (q := 7) hX dJ1_charAt_3b067_6 0 rfl rfl ?_
    refine V_iload_n (q := 8) hX dJ1_charAt_3b067_7 1 rfl rfl ?_
    refine V_bald z hz (q := 9) hX ha dJ1_charAt_3b067_8 rfl ?_
    refine V_sipush (v := 255) (q := 12) hX dJ1_charAt_3b067_9 (by decide) rfl ?_
    refine V_iand (q := 13) hX dJ1_charAt_3b067_12 rfl ?_
    refine V_i2c (q := 14) hX dJ1_charAt_3b067_13 rfl ?_
    rw [(ch_all z hz _ (inb_lt ha)).1]
    exact V_zret (ty := .char) hX hQ rfl (nar_ch hz (inb_lt ha)) dJ1_charAt_3b067_14)
set_option maxRecDepth 100000 in
set_option maxHeartbeats 4000000 in
theorem cs_cha (hg : OkG g) (z : Nat) (hz : z < 3) {a : Int32} (ha : inb a (lenS z)) : CtI g l msCha yJ0_charAt_5068e [.ref (g.kS z), .int a] σ (chS z a.toNatClampNeg) σ :=
  CtI.of hg (by decide) rfl rfl (fun X hX _ hQ => by
    refine V_aload_n (q := 1) hX dJ0_charAt_5068e_0 0 rfl rfl ?_
    refine V_cvs z hz (As := []) (q := 4) hX (cs_lat hX.2.2.2.2.1 z hz) (goodV_of j2_1 k2_2 k2_3 k1_10 (cons_g k2_4)) (nA := 0) (by decide) rfl rfl rfl rfl rfl dJ0_charAt_5068e_1 rfl ?_
    refine V_if_eq (q := 7) (t := 16) hX dJ0_charAt_5068e_4 (by decide) rfl (fun h => absurd h (by decide)) (fun _ => ?_)
    refine V_aload_n (q := 8) hX dJ0_charAt_5068e_7 0 rfl rfl ?_
    refine V_sval z hz (q := 11) hX rfl dJ0_charAt_5068e_8 rfl ?_
    refine V_iload_n (q := 12) hX dJ0_charAt_5068e_11 1 rfl rfl ?_
    refine V_cxI (As := [.ref (g.vS z), .int a]) (q := 15) hX (cs_lch hX.2.2.2.2.1 z hz ha) (goodSx_of j2_5 k2_6 k1_11 (cons_g k2_7)) (nA := 2) (by decide) rfl rfl rfl rfl rfl dJ0_charAt_5068e_12 rfl ?_
    exact V_zret (ty := .char) hX hQ rfl (nar_ch hz (inb_lt ha)) dJ0_charAt_5068e_15)
set_option maxRecDepth 100000 in
set_option maxHeartbeats 4000000 in
theorem cs_enc (hg : OkG g) {a : Int32} : CtI g l msEnc yJ1_canEncode_9a6ad [.int a] σ (if a < 0 then 0 else if 255 < a then 0 else 1) σ :=
  CtI.of hg (by decide) rfl rfl (fun X hX _ hQ => by
    refine V_iload_n (q := 1) hX dJ1_canEncode_9a6ad_0 0 rfl rfl ?_
    refine V_if_lt (q := 4) (t := 15) hX dJ1_canEncode_9a6ad_1 (by decide) rfl (fun h => ?_) (fun h => ?_)
    · rw [if_pos h] at hQ
      refine V_iconst (v := 0) (q := 16) hX dJ1_canEncode_9a6ad_15 (by decide) rfl ?_
      exact V_zret (ty := .boolean) hX hQ rfl rfl dJ1_canEncode_9a6ad_16
    · rw [if_neg h] at hQ
      refine V_iload_n (q := 5) hX dJ1_canEncode_9a6ad_4 0 rfl rfl ?_
      refine V_sipush (v := 255) (q := 8) hX dJ1_canEncode_9a6ad_5 (by decide) rfl ?_
      refine V_icmp_gt (q := 11) (t := 15) hX dJ1_canEncode_9a6ad_8 (by decide) rfl (fun h2 => ?_) (fun h2 => ?_)
      · rw [if_pos h2] at hQ
        refine V_iconst (v := 0) (q := 16) hX dJ1_canEncode_9a6ad_15 (by decide) rfl ?_
        exact V_zret (ty := .boolean) hX hQ rfl rfl dJ1_canEncode_9a6ad_16
      · rw [if_neg h2] at hQ
        refine V_iconst (v := 1) (q := 12) hX dJ1_canEncode_9a6ad_11 (by decide) rfl ?_
        refine V_goto hX dJ1_canEncode_9a6ad_12 (q := 16) (by decide) ?_
        exact V_zret (ty := .boolean) hX hQ rfl rfl dJ1_canEncode_9a6ad_16)
end SMET
section SMET2
variable {g : GT} {l : Launch} {σ : St}
theorem byte_eq : ∀ b, b < 128 → ∀ c, c < 256 → (Int32.ofNat b = (Int32.ofNat c).toInt8.toInt32 ↔ Int32.ofNat b = Int32.ofNat c) := by decide +kernel
theorem txt_all : ∀ z, z < 3 → (txtN z).length = lenS z ∧ ∀ b ∈ txtN z, b < 128 := by decide +kernel
theorem ixF_none {c : Int32} : ∀ (l : List Nat) (k : Nat), (∀ b ∈ l, ¬ Int32.ofNat b = c) → ixF c l k = -1
  | [], _, _ => rfl
  | b :: l, k, h => by
    rw [ixF, if_neg (h b List.mem_cons_self)]
    exact ixF_none l (k + 1) (fun b hb => h b (List.mem_cons_of_mem _ hb))
set_option maxRecDepth 100000 in
set_option maxHeartbeats 4000000 in
theorem v_ixc {X : XT} (hX : OkX g X msIxc) (z : Nat) (hz : z < 3) {c : Nat} (hc : c < 256) (hQ : X.Q = QI g X (ixS z (Int32.ofNat c)) σ ∧ X.cells = 0 ∧ X.slots = 0) :
    ∀ (d k : Nat), k + d = lenS z → ixF (Int32.ofNat c) ((txtN z).drop k) k = ixS z (Int32.ofNat c) → V g X msIxc 7 [(5, .int (nI k)), (4, .int (Int32.ofNat c).toInt8.toInt32), (0, .ref (g.vS z)), (3, .int (nI (lenS z)))] [] σ := by
  have hl := lenS_lt z hz
  have ht := txt_all z hz
  intro d
  induction d with
  | zero =>
    intro k hk hi
    have hk : k = lenS z := hk
    refine V_iload (q := 9) hX dJ1_indexOfChar_4cfef_7 0 rfl rfl ?_
    refine V_iload_n (q := 10) hX dJ1_indexOfChar_4cfef_9 3 rfl rfl ?_
    refine V_icmp_ge (q := 13) (t := 31) hX dJ1_indexOfChar_4cfef_10 (by decide) rfl (fun _ => ?_) (fun h => absurd (nI_le (by omega) (by omega)) h)
    refine V_iconst (v := -1) (q := 32) hX dJ1_indexOfChar_4cfef_31 (by decide) rfl ?_
    rw [List.drop_of_length_le (by omega)] at hi
    rw [← hi] at hQ
    exact V_iret hX hQ rfl dJ1_indexOfChar_4cfef_32
  | succ d ih =>
    intro k hk hi
    have hd : (txtN z).drop k = (txtN z)[k]'(by omega) :: (txtN z).drop (k + 1) := List.drop_eq_getElem_cons (by omega)
    have hg : (txtN z)[k]'(by omega) = (txtN z).getD k 0 := by
      rw [List.getD_eq_getElem?_getD, List.getElem?_eq_getElem (by omega)]; rfl
    have hb : (txtN z).getD k 0 < 128 := by rw [← hg]; exact ht.2 _ (List.getElem_mem _)
    have hin : inb (nI k) (lenS z) := nI_in (by omega) (by omega)
    refine V_iload (q := 9) hX dJ1_indexOfChar_4cfef_7 0 rfl rfl ?_
    refine V_iload_n (q := 10) hX dJ1_indexOfChar_4cfef_9 3 rfl rfl ?_
    refine V_icmp_ge (q := 13) (t := 31) hX dJ1_indexOfChar_4cfef_10 (by decide) rfl (fun h => absurd h (nI_ge (by omega) (by omega))) (fun _ => ?_)
    refine V_aload_n (q := 14) hX dJ1_indexOfChar_4cfef_13 2 rfl rfl ?_
    refine V_iload (q := 16) hX dJ1_indexOfChar_4cfef_14 0 rfl rfl ?_
    refine V_bald z hz (q := 17) hX hin dJ1_indexOfChar_4cfef_16 rfl ?_
    refine V_iload (q := 19) hX dJ1_indexOfChar_4cfef_17 1 rfl rfl ?_
    rw [nI_clamp (by omega)]
    rw [hd, ixF, hg] at hi
    refine V_icmp_ne (q := 22) (t := 25) hX dJ1_indexOfChar_4cfef_19 (by decide) rfl (fun h => ?_) (fun h => ?_)
    · have h2 : ¬ Int32.ofNat ((txtN z).getD k 0) = Int32.ofNat c := fun e => h ((byte_eq _ hb c hc).mpr e)
      rw [if_neg h2] at hi
      refine V_iinc (v := nI (k + 1)) (lv' := [(5, .int (nI (k + 1))), (4, .int (Int32.ofNat c).toInt8.toInt32), (0, .ref (g.vS z)), (3, .int (nI (lenS z)))]) (q := 28) hX dJ1_indexOfChar_4cfef_25 0 rfl (by rw [nI_succ]; rfl) rfl rfl rfl ?_
      refine V_goto hX dJ1_indexOfChar_4cfef_28 (q := 7) (by decide) ?_
      exact ih (k + 1) (by omega) hi
    · have h2 : Int32.ofNat ((txtN z).getD k 0) = Int32.ofNat c := (byte_eq _ hb c hc).mp h
      rw [if_pos h2] at hi
      rw [← hi] at hQ
      refine V_iload (q := 24) hX dJ1_indexOfChar_4cfef_22 0 rfl rfl ?_
      exact V_iret hX hQ rfl dJ1_indexOfChar_4cfef_24
set_option maxRecDepth 100000 in
set_option maxHeartbeats 4000000 in
theorem cs_ixc (hg : OkG g) (z : Nat) (hz : z < 3) {c : Nat} (hc : c < 256) : CtI g l msIxc yJ1_indexOfChar_4cfef [.ref (g.vS z), .int (Int32.ofNat c), .int 0, .int (Int32.ofNat (lenS z))] σ (ixS z (Int32.ofNat c)) σ :=
  CtI.of hg (by decide) rfl rfl (fun X hX _ hQ => by
    refine V_iload_n (q := 1) hX dJ1_indexOfChar_4cfef_0 1 rfl rfl ?_
    refine V_i2b (q := 2) hX dJ1_indexOfChar_4cfef_1 rfl ?_
    refine V_istore (lv' := [(4, .int (Int32.ofNat c).toInt8.toInt32), (0, .ref (g.vS z)), (1, .int (Int32.ofNat c)), (2, .int 0), (3, .int (Int32.ofNat (lenS z)))]) (q := 4) hX dJ1_indexOfChar_4cfef_2 rfl rfl rfl ?_
    refine V_iload_n (q := 5) hX dJ1_indexOfChar_4cfef_4 3 rfl rfl ?_
    refine V_istore (lv' := [(5, .int 0), (4, .int (Int32.ofNat c).toInt8.toInt32), (0, .ref (g.vS z)), (1, .int (Int32.ofNat c)), (2, .int 0), (3, .int (Int32.ofNat (lenS z)))]) (q := 7) hX dJ1_indexOfChar_4cfef_5 rfl rfl rfl ?_
    refine V.pick [0, 1, 2, 5] rfl ?_
    exact v_ixc hX z hz hc hQ (lenS z) 0 (by omega) rfl)
theorem ixS_out {z : Nat} (hz : z < 3) {c : Int32} (h : c < 0 ∨ 255 < c) : ixS z c = -1 := by
  apply ixF_none
  intro b hb e
  have h1 := (txt_all z hz).2 b hb
  subst e
  have h2 : (Int32.ofNat b).toInt = b := Int32.toInt_ofNat_of_lt (by omega)
  rcases h with h | h
  · have := Int32.lt_iff_toInt_lt.mp h
    rw [h2] at this
    have h0 : (0 : Int32).toInt = 0 := by decide
    rw [h0] at this
    omega
  · have := Int32.lt_iff_toInt_lt.mp h
    rw [h2] at this
    have h0 : (255 : Int32).toInt = 255 := by decide
    rw [h0] at this
    omega
set_option maxRecDepth 100000 in
set_option maxHeartbeats 4000000 in
theorem cs_lix (hg : OkG g) (z : Nat) (hz : z < 3) (c : Int32) : CtI g l msLix yJ1_indexOf_4cfef [.ref (g.vS z), .int c, .int 0, .int (Int32.ofNat (lenS z))] σ (ixS z c) σ :=
  CtI.of hg (by decide) rfl rfl (fun X hX _ hQ => by
    refine V_iload_n (q := 1) hX dJ1_indexOf_4cfef_0 1 rfl rfl ?_
    refine V_cxI (As := [.int c]) (q := 4) hX (cs_enc hX.2.2.2.2.1) (goodSx_of j2_84 k2_85 k1_11 (cons_g k2_86)) (nA := 1) (by decide) rfl rfl rfl rfl rfl dJ1_indexOf_4cfef_1 rfl ?_
    by_cases hc : c < 0 ∨ 255 < c
    · have e : (if c < 0 then (0 : Int32) else if 255 < c then 0 else 1) = 0 := by
        rcases hc with h | h
        · rw [if_pos h]
        · by_cases h1 : c < 0
          · rw [if_pos h1]
          · rw [if_neg h1, if_pos h]
      rw [e]
      refine V_if_ne (q := 7) (t := 9) hX dJ1_indexOf_4cfef_4 (by decide) rfl (fun h => absurd rfl h) (fun _ => ?_)
      refine V_iconst (v := -1) (q := 8) hX dJ1_indexOf_4cfef_7 (by decide) rfl ?_
      rw [ixS_out hz hc] at hQ
      exact V_iret hX hQ rfl dJ1_indexOf_4cfef_8
    · have e : (if c < 0 then (0 : Int32) else if 255 < c then 0 else 1) = 1 := by
        rw [if_neg (fun h => hc (Or.inl h)), if_neg (fun h => hc (Or.inr h))]
      rw [e]
      obtain ⟨n, hn, rfl⟩ : ∃ n : Nat, n < 256 ∧ c = Int32.ofNat n := by
        have h1 : ¬ c < 0 := fun h => hc (Or.inl h)
        have h2 : ¬ 255 < c := fun h => hc (Or.inr h)
        have h3 := Int32.le_iff_toInt_le.mp (Int32.not_lt.mp h1)
        have h4 := Int32.le_iff_toInt_le.mp (Int32.not_lt.mp h2)
        have e0 : (0 : Int32).toInt = 0 := by decide
        have e1 : (255 : Int32).toInt = 255 := by decide
        rw [e0] at h3
        rw [e1] at h4
        refine ⟨c.toInt.toNat, by omega, ?_⟩
        apply Int32.toInt_inj.mp
        rw [Int32.toInt_ofNat_of_lt (by omega)]
        omega
      have e2 : jmax 0 0 = (0 : Int32) := by decide
      have e3 : jmin (Int32.ofNat (lenS z)) (Int32.ofNat (lenS z)) = Int32.ofNat (lenS z) := by simp [jmin]
      have e4 : ∀ z, z < 3 → (0 : Int32) < Int32.ofNat (lenS z) := by decide +kernel
      refine V_if_ne (q := 7) (t := 9) hX dJ1_indexOf_4cfef_4 (by decide) rfl (fun _ => ?_) (fun h => absurd h (by decide))
      refine V_iload_n (q := 10) hX dJ1_indexOf_4cfef_9 2 rfl rfl ?_
      refine V_iconst (v := 0) (q := 11) hX dJ1_indexOf_4cfef_10 (by decide) rfl ?_
      refine V_mmax (q := 14) hX j2_87 k2_88 k1_14 k2_89 rfl dJ1_indexOf_4cfef_11 rfl ?_
      rw [e2]
      refine V_istore_n (lv' := [(2, .int 0), (0, .ref (g.vS z)), (1, .int (Int32.ofNat n)), (3, .int (Int32.ofNat (lenS z)))]) (q := 15) hX dJ1_indexOf_4cfef_14 rfl rfl rfl ?_
      refine V_iload_n (q := 16) hX dJ1_indexOf_4cfef_15 3 rfl rfl ?_
      refine V_aload_n (q := 17) hX dJ1_indexOf_4cfef_16 1 rfl rfl ?_
      refine V_blen z hz (q := 18) hX dJ1_indexOf_4cfef_17 rfl ?_
      refine V_mmin (q := 21) hX j2_90 k2_91 k1_14 k2_92 rfl dJ1_indexOf_4cfef_18 rfl ?_
      rw [e3]
      refine V_istore_n (lv' := [(3, .int (Int32.ofNat (lenS z))), (2, .int 0), (0, .ref (g.vS z)), (1, .int (Int32.ofNat n))]) (q := 22) hX dJ1_indexOf_4cfef_21 rfl rfl rfl ?_
      refine V_iload_n (q := 23) hX dJ1_indexOf_4cfef_22 1 rfl rfl ?_
      refine V_iload_n (q := 24) hX dJ1_indexOf_4cfef_23 0 rfl rfl ?_
      refine V_icmp_lt (q := 27) (t := 29) hX dJ1_indexOf_4cfef_24 (by decide) rfl (fun _ => ?_) (fun h => absurd (e4 z hz) h)
      refine V_aload_n (q := 30) hX dJ1_indexOf_4cfef_29 2 rfl rfl ?_
      refine V_iload_n (q := 31) hX dJ1_indexOf_4cfef_30 3 rfl rfl ?_
      refine V_iload_n (q := 32) hX dJ1_indexOf_4cfef_31 1 rfl rfl ?_
      refine V_iload_n (q := 33) hX dJ1_indexOf_4cfef_32 0 rfl rfl ?_
      refine V_cxI (As := [.ref (g.vS z), .int (Int32.ofNat n), .int 0, .int (Int32.ofNat (lenS z))]) (q := 36) hX (cs_ixc hX.2.2.2.2.1 z hz hn) (goodSx_of j2_93 k2_94 k1_11 (cons_g k2_95)) (nA := 4) (by decide) rfl rfl rfl rfl rfl dJ1_indexOf_4cfef_33 rfl ?_
      exact V_iret hX hQ rfl dJ1_indexOf_4cfef_36)
set_option maxRecDepth 100000 in
set_option maxHeartbeats 4000000 in
theorem cs_ix2 (hg : OkG g) (z : Nat) (hz : z < 3) (c : Int32) : CtI g l msIx2 yJ0_indexOf_7cf53 [.ref (g.kS z), .int c, .int 0] σ (ixS z c) σ :=
  CtI.of hg (by decide) rfl rfl (fun X hX _ hQ => by
    refine V_aload_n (q := 1) hX dJ0_indexOf_7cf53_0 0 rfl rfl ?_
    refine V_cvs z hz (As := []) (q := 4) hX (cs_lat hX.2.2.2.2.1 z hz) (goodV_of j2_1 k2_2 k2_3 k1_10 (cons_g k2_4)) (nA := 0) (by decide) rfl rfl rfl rfl rfl dJ0_indexOf_7cf53_1 rfl ?_
    refine V_if_eq (q := 7) (t := 23) hX dJ0_indexOf_7cf53_4 (by decide) rfl (fun h => absurd h (by decide)) (fun _ => ?_)
    refine V_aload_n (q := 8) hX dJ0_indexOf_7cf53_7 0 rfl rfl ?_
    refine V_sval z hz (q := 11) hX rfl dJ0_indexOf_7cf53_8 rfl ?_
    refine V_iload_n (q := 12) hX dJ0_indexOf_7cf53_11 1 rfl rfl ?_
    refine V_iload_n (q := 13) hX dJ0_indexOf_7cf53_12 2 rfl rfl ?_
    refine V_aload_n (q := 14) hX dJ0_indexOf_7cf53_13 0 rfl rfl ?_
    refine V_cvs z hz (As := []) (q := 17) hX (cs_len hX.2.2.2.2.1 z hz) (goodV_of j2_80 k1_228 k1_229 k1_10 (cons_g k1_230)) (nA := 0) (by decide) rfl rfl rfl rfl rfl dJ0_indexOf_7cf53_14 rfl ?_
    refine V_cxI (As := [.ref (g.vS z), .int c, .int 0, .int (Int32.ofNat (lenS z))]) (q := 20) hX (cs_lix hX.2.2.2.2.1 z hz c) (goodSx_of j2_81 k2_82 k1_11 (cons_g k2_83)) (nA := 4) (by decide) rfl rfl rfl rfl rfl dJ0_indexOf_7cf53_17 rfl ?_
    refine V_goto hX dJ0_indexOf_7cf53_20 (q := 36) (by decide) ?_
    exact V_iret hX hQ rfl dJ0_indexOf_7cf53_36)
set_option maxRecDepth 100000 in
set_option maxHeartbeats 4000000 in
theorem cs_ix1 (hg : OkG g) (z : Nat) (hz : z < 3) (c : Int32) : CtI g l msIx1 yJ0_indexOf_0f7a4 [.ref (g.kS z), .int c] σ (ixS z c) σ :=
  CtI.of hg (by decide) rfl rfl (fun X hX _ hQ => by
    refine V_aload_n (q := 1) hX dJ0_indexOf_0f7a4_0 0 rfl rfl ?_
    refine V_iload_n (q := 2) hX dJ0_indexOf_0f7a4_1 1 rfl rfl ?_
    refine V_iconst (v := 0) (q := 3) hX dJ0_indexOf_0f7a4_2 (by decide) rfl ?_
    refine V_cvs z hz (As := [.int c, .int 0]) (q := 6) hX (cs_ix2 hX.2.2.2.2.1 z hz c) (goodV_of j2_76 k2_77 k2_78 k1_10 (cons_g k2_79)) (nA := 2) (by decide) rfl rfl rfl rfl rfl dJ0_indexOf_0f7a4_3 rfl ?_
    exact V_iret hX hQ rfl dJ0_indexOf_0f7a4_6)
end SMET2
section STR3
variable {g : GT} {X : XT} {i : MI} {pc q idx : Nat} {lv lv' : List (Nat × Value)} {st : List Value} {σ : St}
theorem V_slen (z : Nat) (hz : z < 3) (hX : OkX g X i) {v : Int32} (hv : Int32.ofNat (lenS z) = v) (hlk : (Cond.methodLink i.own idx yJ0_length_8abf5 : Cond) ∈ gtbl) (hlv : decide (5 < i.lv) = true) (hr : Nat.ble (st.map fun v => v.category).sum 8 = true)
    (hdg : decode i.cc pc = .ok (.invokevirtual idx, 3)) (hq : pc + 3 = q) (kk : V g X i q lv (.int v :: st) σ) : V g X i pc lv (.ref (g.kS z) :: st) σ := by
  subst hv
  have h1 := of_decide_eq_true hlv
  exact V_cvs z hz (As := []) hX (cs_len hX.2.2.2.2.1 z hz) (goodV_of hlk k1_228 k1_229 k1_10 (cons_g k1_230)) (nA := 0) (by decide) rfl (decide_eq_true (by show 1 < i.lv; omega)) rfl rfl hr hdg hq kk
theorem V_schar (z : Nat) (hz : z < 3) (hX : OkX g X i) {j : Int32} (hlk : (Cond.methodLink i.own idx yJ0_charAt_5068e : Cond) ∈ gtbl) (hin : inb j (lenS z)) (hlv : decide (5 < i.lv) = true) (hr : Nat.ble (st.map fun v => v.category).sum 8 = true)
    (hdg : decode i.cc pc = .ok (.invokevirtual idx, 3)) (hq : pc + 3 = q) (kk : V g X i q lv (.int (chS z j.toNatClampNeg) :: st) σ) : V g X i pc lv (.int j :: .ref (g.kS z) :: st) σ := by
  have h1 := of_decide_eq_true hlv
  exact V_cvs z hz (As := [.int j]) hX (cs_cha hX.2.2.2.2.1 z hz hin) (goodV_of hlk k1_238 k1_239 k1_10 (cons_g k2_0)) (nA := 1) (by decide) rfl (decide_eq_true (by show 3 < i.lv; omega)) rfl rfl hr hdg hq kk
theorem V_sidx (z : Nat) (hz : z < 3) (hX : OkX g X i) {j : Int32} (hlk : (Cond.methodLink i.own idx yJ0_indexOf_0f7a4 : Cond) ∈ gtbl) (hlv : decide (5 < i.lv) = true) (hr : Nat.ble (st.map fun v => v.category).sum 8 = true)
    (hdg : decode i.cc pc = .ok (.invokevirtual idx, 3)) (hq : pc + 3 = q) (kk : V g X i q lv (.int (ixS z j) :: st) σ) : V g X i pc lv (.int j :: .ref (g.kS z) :: st) σ := by
  have h1 := of_decide_eq_true hlv
  exact V_cvs z hz (As := [.int j]) hX (cs_ix1 hX.2.2.2.2.1 z hz j) (goodV_of hlk k2_73 k2_74 k1_10 (cons_g k2_75)) (nA := 1) (by decide) rfl (decide_eq_true (by show 3 < i.lv; omega)) rfl rfl hr hdg hq kk
end STR3
