/-! Shapes of what hangs at an object; an index inside; a default of a switch. -/
abbrev inb (j : Int32) (n : Nat) : Prop := ¬ (j < 0 ∨ n ≤ j.toNatClampNeg)
theorem sh_all5 : ∀ o, o < 75 → shC o = 5 → Ra 75 11 6 (o + 1) := by decide +kernel
theorem sh_all6 : ∀ o, o < 75 → shC o = 6 → Ar 75 160 (o + 1) ∧ Ar 75 3 (o + 2) := by decide +kernel
theorem sh_all3 : ∀ o, o < 75 → shC o = 3 → Ar 75 40 (o + 1) := by decide +kernel
theorem sh_all4 : ∀ o, o < 75 → shC o = 4 → Ar 75 144 (o + 1) := by decide +kernel
theorem sh_all11 : ∀ o, o < 75 → shC o = 11 → ∀ k, k < 6 → Ob 75 7 (rf o k) := by decide +kernel
theorem sh_all12 : ∀ o, o < 75 → shC o = 12 → ∀ k, k < 6 → Ob 75 6 (rf o k) := by decide +kernel
theorem sh_all13 : ∀ o, o < 75 → shC o = 13 → ∀ k, k < 4 → Ob 75 3 (rf o k) := by decide +kernel
theorem rf5 {o : Nat} (h : Ob 75 5 o) : rf o 0 = o + 1 := by simp [rf, h.1]
theorem ra5 {o : Nat} (h : Ob 75 5 o) : Ra 75 11 6 (o + 1) := sh_all5 o h.2 h.1
theorem rf6a {o : Nat} (h : Ob 75 6 o) : rf o 0 = o + 1 := by simp [rf, h.1]
theorem rf6b {o : Nat} (h : Ob 75 6 o) : rf o 1 = o + 2 := by simp [rf, h.1]
theorem ar6a {o : Nat} (h : Ob 75 6 o) : Ar 75 160 (o + 1) := (sh_all6 o h.2 h.1).1
theorem ar6b {o : Nat} (h : Ob 75 6 o) : Ar 75 3 (o + 2) := (sh_all6 o h.2 h.1).2
theorem rf3 {o : Nat} (h : Ob 75 3 o) : rf o 0 = o + 1 := by simp [rf, h.1]
theorem ar3 {o : Nat} (h : Ob 75 3 o) : Ar 75 40 (o + 1) := sh_all3 o h.2 h.1
theorem rf4a {o : Nat} (h : Ob 75 4 o) : rf o 0 = 33 := by simp [rf, h.1]
theorem rf4b {o : Nat} (h : Ob 75 4 o) : rf o 1 = o + 1 := by simp [rf, h.1]
theorem ar4 {o : Nat} (h : Ob 75 4 o) : Ar 75 144 (o + 1) := sh_all4 o h.2 h.1
theorem inb_lt {j : Int32} {n : Nat} (h : inb j n) : j.toNatClampNeg < n := Nat.not_le.mp fun q => h (Or.inr q)
theorem aa11 {o : Nat} {j : Int32} (h : Ra 75 11 6 o) (hj : inb j 6) : Ob 75 7 (rf o j.toNatClampNeg) := sh_all11 o h.2.2 h.1 _ (inb_lt hj)
theorem aa12 {o : Nat} {j : Int32} (h : Ra 75 12 6 o) (hj : inb j 6) : Ob 75 6 (rf o j.toNatClampNeg) := sh_all12 o h.2.2 h.1 _ (inb_lt hj)
theorem aa13 {o : Nat} {j : Int32} (h : Ra 75 13 4 o) (hj : inb j 4) : Ob 75 3 (rf o j.toNatClampNeg) := sh_all13 o h.2.2 h.1 _ (inb_lt hj)
theorem neI {x c : Int32} {v : Int} (hv : c.toInt = v) (h : ¬ x = c) : x.toInt ≠ v := fun z => h (Int32.toInt_inj.mp (z.trans hv.symm))
section SW
variable {g : GT} {X : XT} {i : MI} {pc q : Nat} {lv : List (Nat × Value)} {st : List Value} {σ : St}
theorem V_tsw (hX : OkX g X i) {dflt lo hi : Int} {offs : Array Int} {len : Nat} {x : Int32} {off : Int} (hdg : decode i.cc pc = .ok (.tableswitch dflt lo hi offs, len)) (h1 : ¬ x.toInt < lo) (h2 : ¬ hi < x.toInt) (ho : offs[(x.toInt - lo).toNat]? = some off) (ht : (pc : Int) + off = (q : Int)) (kk : V g X i q lv st σ) : V g X i pc lv (.int x :: st) σ := by
  intro H locs ls hP hS hl
  exact lv_tableIn hX.1.1 hX.1.2.1 hdg h1 h2 ho ht (kk H locs ls hP hS hl)
theorem V_tswD (hX : OkX g X i) {dflt lo hi : Int} {offs : Array Int} {len : Nat} {x : Int32} (hdg : decode i.cc pc = .ok (.tableswitch dflt lo hi offs, len)) (h : x.toInt < lo ∨ hi < x.toInt) (ht : (pc : Int) + dflt = (q : Int)) (kk : V g X i q lv st σ) : V g X i pc lv (.int x :: st) σ := by
  intro H locs ls hP hS hl
  exact lv_tableOut hX.1.1 hX.1.2.1 hdg h ht (kk H locs ls hP hS hl)
theorem V_lsw (hX : OkX g X i) {dflt : Int} {ps : Array (Int × Int)} {len : Nat} {x : Int32} {off : Int} (hdg : decode i.cc pc = .ok (.lookupswitch dflt ps, len)) (hp : (ps.toList.zip (ps.toList.drop 1)).all (fun (a, next) => a.1 < next.1) = true) (ho : Op.lookupswitch.offset ps.toList dflt x.toInt = off) (ht : (pc : Int) + off = (q : Int)) (kk : V g X i q lv st σ) : V g X i pc lv (.int x :: st) σ := by
  intro H locs ls hP hS hl
  exact lv_lookup hX.1.1 hX.1.2.1 hdg hp ho ht (kk H locs ls hP hS hl)
end SW
