/-! What the Statement gives of the start: classes, array classes, statics, constant texts. -/
theorem nest_on : ∀ w ∈ nestW, w.onTables = true := by
  intro w hw
  have h1 := List.all_eq_true.mp nest_ok w hw
  cases w <;> first | rfl | (cases h1)
def flatG : List Cond := flatC (Jvm.Cond.and given_1 narrow_1)
def tmS (i : Nat) : Term := if i = 0 then Term.string "RingOfStraw" 74 else if i = 1 then Term.string "RingOfStraw$Reader" 100 else Term.string "RingOfStraw$Reader" 93
def bytS : List (List Int32) := [txt0.map (fun k => Int32.ofNat k), txt1.map (fun k => Int32.ofNat k), txt2.map (fun k => Int32.ofNat k)]
def lenL : List Nat := [48, 60, 8]
theorem nest_tbl : ∀ w ∈ nestW, w ∈ lw_tbl := by decide +kernel
theorem sg_ex : ∀ i, i < 3 → Cond.exactly (tmS i) "java/lang/String" ∈ flatG := by decide +kernel
theorem sg_co : ∀ i, i < 3 → Cond.eq (.field (tmS i) "java/lang/String" "coder" "B") (.int 0) ∈ flatG := by decide +kernel
theorem sg_ar : ∀ i, i < 3 → Cond.arrayOf (.field (tmS i) "java/lang/String" "value" "[B") .byte ∈ flatG := by decide +kernel
theorem sg_le : ∀ i, i < 3 → Cond.eq (.length (.field (tmS i) "java/lang/String" "value" "[B")) (.int (Int32.ofNat (lenL.getD i 0))) ∈ flatG := by decide +kernel
theorem sg_el : ∀ i, i < 3 → ∀ j, j < lenL.getD i 0 → Cond.eq (.elem (.field (tmS i) "java/lang/String" "value" "[B") (.int (Int32.ofNat j))) (.int ((bytS.getD i []).getD j 0)) ∈ flatG := by decide +kernel
theorem sg_ne : ∀ i, i < 3 → ∀ j, j < 3 → i ≠ j → (Cond.not (Cond.eq (tmS i) (tmS j)) ∈ flatG ∨ Cond.not (Cond.eq (tmS j) (tmS i)) ∈ flatG) := by decide +kernel
theorem sg_sr0 : Cond.stringRef RX8 74 "force weight + pace * act ; stands 2 ; ahead 0 ;" ∈ lw_tbl := by decide +kernel
theorem sg_sr1 : Cond.stringRef RX1 100 "weight pace act his cell knee force stands ahead or and not " ∈ lw_tbl := by decide +kernel
theorem sg_sr2 : Cond.stringRef RX1 93 "();+-*<=" ∈ lw_tbl := by decide +kernel
def tLE : Term := Term.static RX2 "LEAST" "[I"
def tMO : Term := Term.static RX2 "MOST" "[I"
theorem sg_l1 : Cond.arrayOf tLE .int ∈ flatG ∧ Cond.arrayOf tMO .int ∈ flatG ∧ Cond.eq (.length tLE) (.int (Int32.ofNat 3)) ∈ flatG ∧ Cond.eq (.length tMO) (.int (Int32.ofNat 3)) ∈ flatG := by decide +kernel
theorem sg_l2 : ∀ j, j < 3 → Cond.eq (.elem tLE (.int (Int32.ofNat j))) (.int (leastF j)) ∈ flatG ∧ Cond.eq (.elem tMO (.int (Int32.ofNat j))) (.int (mostF j)) ∈ flatG := by decide +kernel
theorem sg_cs : Cond.eq (.static "java/lang/String" "COMPACT_STRINGS" "Z") (.int 1) ∈ flatG ∧ Cond.isRef (.static "jdk/internal/util/Preconditions" "SIOOBE_FORMATTER" "Ljava/util/function/BiFunction;") ∈ flatG := by decide +kernel
theorem sg_ls : Cond.laysStatic RX2 "LEAST" "[I" ∈ lw_tbl ∧ Cond.laysStatic RX2 "MOST" "[I" ∈ lw_tbl ∧ Cond.laysStatic "java/lang/String" "COMPACT_STRINGS" "Z" ∈ lw_tbl ∧ Cond.laysStatic "jdk/internal/util/Preconditions" "SIOOBE_FORMATTER" "Ljava/util/function/BiFunction;" ∈ lw_tbl := by decide +kernel
theorem sg_in : Cond.initialized RX2 ∈ lw_tbl ∧ Cond.initialized "java/lang/String" ∈ lw_tbl ∧ Cond.initialized "jdk/internal/util/Preconditions" ∈ lw_tbl := by decide +kernel
theorem sg_aw : Cond.arrayClass .int ∈ lw_tbl ∧ Cond.arrayOver (.object RX7) ∈ lw_tbl ∧ Cond.arrayOver (.object RX6) ∈ lw_tbl ∧ Cond.arrayOver (.object RX3) ∈ lw_tbl := by decide +kernel
theorem gin {w : Cond} (h : w ∈ gtbl) : w ∈ lw_tbl := (List.mem_filter.mp h).1
set_option maxRecDepth 100000 in
set_option maxHeartbeats 8000000 in
theorem va_overR {C : String} {U : State} (h : va_AO C U) : ∃ c : ClassId, ArrOfT U c (.object C) ∧ va_RA U c (.object C) := by
  obtain ⟨comp, c, k, h1, h2, h3, h4, h5⟩ := Cond.arrayOver_spec h
  exact ⟨c, fun N z => ⟨(fun k h => by cases h), k, h3, comp, h4⟩, k, comp, h3, h4, h1, h5⟩
theorem va_clsI {U : State} {A : Array Value} (h : (Cond.arrayClass .int).before A U = true) : ∃ c : ClassId, ArrOfT U c .int ∧ va_RA U c .int := by
  obtain ⟨c, k, comp, h1, h2, h3⟩ := Cond.arrayClass_spec h
  exact ⟨c, fun N z => ⟨(fun k h => by cases h), k, h2, comp, h3⟩, h1⟩
set_option maxRecDepth 100000 in
set_option maxHeartbeats 8000000 in
theorem start_all {p : Program} {e : Env} {s : State} {m : MethodId} {below : List Frame} {meth : Method} {c : Code} (l : Launch) (hp : PureAll) {b L : Nat} {xs : Nat → Int32} (hL : L ≤ 3584) (C0 : lw_At p s m meth c b L xs) : W p l e room_1 s m #[Value.ref b] below meth c s.heap [] 0 0 (lw_Z below #[Value.ref b] s) (entryFrame m ([Value.ref b] : List Value).toArray 4) := by
  obtain ⟨hx, hb, hr, hml, hown, hts, hXs, hbl, hlocks, hgv⟩ := id C0
  have hfl : ∀ w ∈ flatG, w.before #[Value.ref b] s = true := flat_of_before _ hgv
  have hA : ∀ a : Nat, a < s.heap.size → ¬ (fun q : Nat => s.heap.size ≤ q) a := fun a h => Nat.not_le.mpr h
  obtain ⟨c0, s0, K0⟩ := u_known (C := RX0) (T := TX0) (N := 6) (n := 6) hts (fun w h => gin (iG0 w h)) (hts _ (gin k1_151))
  obtain ⟨c1, s1, K1⟩ := u_known (C := RX1) (T := TX1) (N := 7) (n := 7) hts (fun w h => gin (iG1 w h)) (hts _ (gin k1_89))
  obtain ⟨c2, s2, K2⟩ := u_known (C := RX2) (T := TX2) (N := 1) (n := 1) hts (fun w h => gin (iG2 w h)) (hts _ (gin k1_141))
  obtain ⟨c3, s3, K3⟩ := u_known (C := RX3) (T := TX3) (N := 3) (n := 3) hts (fun w h => gin (iG3 w h)) (hts _ (gin k1_207))
  obtain ⟨c4, s4, K4⟩ := u_known (C := RX4) (T := TX4) (N := 6) (n := 6) hts (fun w h => gin (iG4 w h)) (hts _ (gin k1_157))
  obtain ⟨c5, s5, K5⟩ := u_known (C := RX5) (T := TX5) (N := 4) (n := 4) hts (fun w h => gin (iG5 w h)) (hts _ (gin k1_28))
  obtain ⟨c6, s6, K6⟩ := u_known (C := RX6) (T := TX6) (N := 3) (n := 3) hts (fun w h => gin (iG6 w h)) (hts _ (gin k1_95))
  obtain ⟨c7, s7, K7⟩ := u_known (C := RX7) (T := TX7) (N := 7) (n := 7) hts (fun w h => gin (iG7 w h)) (hts _ (gin k1_35))
  obtain ⟨c8, s8, K8⟩ := u_known (C := RX8) (T := TX8) (N := 11) (n := 11) hts (fun w h => gin (iG8 w h)) (hts _ (gin k1_20))
  obtain ⟨c9, s9, K9⟩ := u_known (C := RX9) (T := TX9) (N := 39) (n := 39) hts (fun w h => gin (iG9 w h)) (hts _ (gin k4_130))
  have o7 : va_AO RX7 s := va_AO.of (hts _ sg_aw.2.1)
  have o6 : va_AO RX6 s := va_AO.of (hts _ sg_aw.2.2.1)
  have o3 : va_AO RX3 s := va_AO.of (hts _ sg_aw.2.2.2)
  obtain ⟨aI, aI1, aI2⟩ := va_clsI (hts _ sg_aw.1)
  obtain ⟨a7, a71, a72⟩ := va_overR o7
  obtain ⟨a6, a61, a62⟩ := va_overR o6
  obtain ⟨a3, a31, a32⟩ := va_overR o3
  obtain ⟨tl, el, Tl⟩ := va_Tof (tm := tLE) (ty := .int) (N := 3) (f := fun j => .int (leastF j)) (A := fun q : Nat => s.heap.size ≤ q) (by decide) (hfl _ sg_l1.1) (va_eqt (hfl _ sg_l1.2.2.1)) (fun j hj => va_eqt (hfl _ (sg_l2 j hj).1)) hA
  obtain ⟨tm, em, Tm⟩ := va_Tof (tm := tMO) (ty := .int) (N := 3) (f := fun j => .int (mostF j)) (A := fun q : Nat => s.heap.size ≤ q) (by decide) (hfl _ sg_l1.2.1) (va_eqt (hfl _ sg_l1.2.2.2)) (fun j hj => va_eqt (hfl _ (sg_l2 j hj).2)) hA
  have Zl := va_Zof (hts _ sg_ls.1) (hts _ sg_in.1) el hA
  have Zm := va_Zof (hts _ sg_ls.2.1) (hts _ sg_in.1) em hA
  have Zc := va_Zof (hts _ sg_ls.2.2.1) (hts _ sg_in.2.1) (va_eqi (hfl _ sg_cs.1)) hA
  have Zf := va_Zqof (hts _ sg_ls.2.2.2) (hts _ sg_in.2.2) (hfl _ sg_cs.2) hA
  obtain ⟨kS, vS, hS, hk⟩ := vk_Sof (N := 3) (tm := tmS) (len := lenL) (byt := bytS) (A := fun q : Nat => s.heap.size ≤ q) (by decide) (fun i hi => hfl _ (sg_ex i hi)) (fun i hi => hfl _ (sg_co i hi)) (fun i hi => hfl _ (sg_ar i hi)) (fun i hi => hfl _ (sg_le i hi)) (fun i hi j hj => hfl _ (sg_el i hi j hj)) (fun i j hi hj hne => (sg_ne i hi j hj hne).elim (fun h => Or.inl (hfl _ h)) (fun h => Or.inr (hfl _ h))) hA
  have r0 : vk_R RX8 74 "force weight + pace * act ; stands 2 ; ahead 0 ;" (kS 0) s := vk_R.of (hts _ sg_sr0) (hk 0 (by decide))
  have r1 : vk_R RX1 100 "weight pace act his cell knee force stands ahead or and not " (kS 1) s := vk_R.of (hts _ sg_sr1) (hk 1 (by decide))
  have r2 : vk_R RX1 93 "();+-*<=" (kS 2) s := vk_R.of (hts _ sg_sr2) (hk 2 (by decide))
  let g : GT := (fun o => s.heap.size + o, (fun k => [c0, c1, c2, c3, c4, c5, c6, c7, c8, c9].getD k c0, fun k => match k with
    | 0 => s0
    | 1 => s1
    | 2 => s2
    | 3 => s3
    | 4 => s4
    | 5 => s5
    | 6 => s6
    | 7 => s7
    | 8 => s8
    | _ => s9), (fun k => [aI, a7, a6, a3].getD (k - 10) aI), 95, s.heap.size, (fun k => if k = 0 then tl else tm), kS, vS)
  have hLin : Lin g := fun o _ => rfl
  have hg : ∀ n, n ≤ 95 → OkG (g.setN n) := fun n hn => ⟨fun i j hi hj h => by have h : s.heap.size + i = s.heap.size + j := h; omega, fun i hi => Nat.le_add_right _ _, hn⟩
  refine start_of l hp hL C0 g rfl (hg 75 (by decide)) (hg 95 (by decide)) hLin ⟨⟨⟨fun k q hq => ?_, fun k q hq => ?_⟩, fun w hw => va_Nw.of (nest_on w hw) (hts _ (nest_tbl w hw)), Zl, Tl, Zm, Tm, ⟨r0, r1, r2⟩, hS, Zc, Zf⟩, o7, o6, o3⟩
  · match k, hq with
    | 0, hq => cases hq; exact K0
    | 1, hq => cases hq; exact K1
    | 2, hq => cases hq; exact K2
    | 3, hq => cases hq; exact K3
    | 4, hq => cases hq; exact K4
    | 5, hq => cases hq; exact K5
    | 6, hq => cases hq; exact K6
    | 7, hq => cases hq; exact K7
    | 8, hq => cases hq; exact K8
    | 9, hq => cases hq; exact K9
    | k + 10, hq => simp [vwCl] at hq
  · match k, hq with
    | 0, hq => cases hq; exact ⟨aI1, aI2⟩
    | 1, hq => cases hq; exact ⟨a71, a72⟩
    | 2, hq => cases hq; exact ⟨a61, a62⟩
    | 3, hq => cases hq; exact ⟨a31, a32⟩
    | k + 4, hq => simp [tysG] at hq
