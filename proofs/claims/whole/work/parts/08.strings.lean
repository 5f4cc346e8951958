/-! The constant texts: length, charAt, indexOf. -/
def chS (i k : Nat) : Int32 := Int32.ofNat ((txtN i).getD k 0)
def ixF (c : Int32) : List Nat → Nat → Int32
  | [], _ => -1
  | b :: l, k => if Int32.ofNat b = c then Int32.ofNat k else ixF c l (k + 1)
def ixS (i : Nat) (c : Int32) : Int32 := ixF c (txtN i) 0
def lenS (i : Nat) : Nat := [48, 60, 8].getD i 0
section STR
variable {g : GT} {X : XT} {i : MI} {pc q idx : Nat} {lv lv' : List (Nat × Value)} {st : List Value} {σ : St}
theorem V_slen (z : Nat) (hz : z < 3) (hX : OkX g X i) {v : Int32} (hv : Int32.ofNat (lenS z) = v) (hlk : (Cond.methodLink i.own idx yJ0_length_8abf5 : Cond) ∈ gtbl) (hlv : decide (5 < i.lv) = true) (hr : Nat.ble (st.map fun v => v.category).sum 8 = true)
    (hdg : decode i.cc pc = .ok (.invokevirtual idx, 3)) (hq : pc + 3 = q) (kk : V g X i q lv (.int v :: st) σ) : V g X i pc lv (.ref (g.kS z) :: st) σ := by
  sorry
theorem V_schar (z : Nat) (hz : z < 3) (hX : OkX g X i) {j : Int32} (hlk : (Cond.methodLink i.own idx yJ0_charAt_5068e : Cond) ∈ gtbl) (hin : inb j (lenS z)) (hlv : decide (5 < i.lv) = true) (hr : Nat.ble (st.map fun v => v.category).sum 8 = true)
    (hdg : decode i.cc pc = .ok (.invokevirtual idx, 3)) (hq : pc + 3 = q) (kk : V g X i q lv (.int (chS z j.toNatClampNeg) :: st) σ) : V g X i pc lv (.int j :: .ref (g.kS z) :: st) σ := by
  sorry
theorem V_sidx (z : Nat) (hz : z < 3) (hX : OkX g X i) {j : Int32} (hlk : (Cond.methodLink i.own idx yJ0_indexOf_0f7a4 : Cond) ∈ gtbl) (hlv : decide (5 < i.lv) = true) (hr : Nat.ble (st.map fun v => v.category).sum 8 = true)
    (hdg : decode i.cc pc = .ok (.invokevirtual idx, 3)) (hq : pc + 3 = q) (kk : V g X i q lv (.int (ixS z j) :: st) σ) : V g X i pc lv (.int j :: .ref (g.kS z) :: st) σ := by
  sorry
end STR
