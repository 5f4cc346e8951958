/-! From the growing world to the fixed one; the ends of the two constructors; the law's own instructions. -/
def XT.wth (X : XT) (k sl : Nat) : XT := (X.p, X.l, X.e, X.R, X.s, X.m, X.args, X.below, X.meth, X.c, k, sl, X.Q)
theorem okX_of {g : GT} {X : XT} {i : MI} {n0 mc ms k sl : Nat} (hX : OkC g X i n0 mc ms) (hk : k ≤ mc) (hs : sl ≤ ms) : OkX g (X.wth k sl) i :=
  ⟨hX.1, hX.2.1, hX.2.2.1, ⟨hX.2.2.2.1.1, hX.2.2.2.1.2.1, by show k ≤ X.R.cells; rw [hX.2.2.2.1.2.2.1]; exact hk, by show sl ≤ X.R.slots; rw [hX.2.2.2.1.2.2.2]; exact hs⟩, hX.2.2.2.2.1, hX.2.2.2.2.2.2.1.1⟩
/-- two cells that a heap can't tell apart -/
def alikeC (a b : va_E) : Prop := a = b ∨ ∃ (cA : ClassId) (n : Nat) (f f' : Nat → Option Nat), a = .inl (cA, n, .inr (.inr (.inr (.inr f)))) ∧ b = .inl (cA, n, .inr (.inr (.inr (.inr f')))) ∧ ∀ i, i < n → f i = f' i
theorem vp_cell_cg {cA : ClassId} {n : Nat} {f f' : Nat → Option Nat} (h : ∀ i, i < n → f i = f' i) : vp_cell cA (n, .inr (.inr (.inr (.inr f)))) = vp_cell cA (n, .inr (.inr (.inr (.inr f')))) := by
  rw [vp_cell_q, vp_cell_q]
  unfold arrV
  congr 1
  apply Array.ext
  · simp
  · intro i h1 h2
    have hi : i < n := by simpa using h1
    simp [h i hi]
theorem alike_at {D : va_G} {cl : List vw_C} {q : Nat} {a b : va_E} {H : Heap} (hab : alikeC a b) (h : va_at D cl (q, a) H) : va_at D cl (q, b) H := by
  rcases hab with rfl | ⟨cA, n, f, f', rfl, rfl, hf⟩
  · exact h
  · have h : H[q]? = some (vp_cell cA (n, .inr (.inr (.inr (.inr f))))) := h
    show H[q]? = some (vp_cell cA (n, .inr (.inr (.inr (.inr f')))))
    rw [h, vp_cell_cg hf]
theorem wsN_alike {g : GT} {n : Nat} {cf cf' : Nat → va_E} {H : Heap} (h : ∀ o, o < n → alikeC (cf o) (cf' o)) (hP : va_P g.D vwCl (wsN g n cf) H) : va_P g.D vwCl (wsN g n cf') H := by
  intro k q hq
  obtain ⟨hk, rfl⟩ := wsN_inv hq
  exact alike_at (h k hk) (hP k _ (wsN_get hk))
theorem wsM_eq (g : GT) (σ : St) : wsM g σ = wsN g g.N (cellOf g σ) := rfl
theorem G_toV {g : GT} {X : XT} {i : MI} {pc n k sl : Nat} {lv : List (Nat × Value)} {st : List Value} {cf : Nat → va_E} (σ : St) (hN : g.N = n) (hcf : ∀ o, o < n → alikeC (cf o) (cellOf g σ o)) (kk : V g (X.wth k sl) i pc lv st σ) : GV g X i pc lv st n cf k sl := by
  intro H locs ls hP hS hl
  have hP2 := wsN_alike hcf hP
  rw [← hN, ← wsM_eq] at hP2
  exact kk H locs ls hP2 hS hl
/-- the end of a constructor, in the fixed world -/
def QVC (g : GT) (X : XT) (σ : St) : Prop := X.Q = MQ X.below (va_Qv (fun _ : Unit => True) (fun _ t => WorldN g g.N (cellOf g σ) t) g.A) X.args X.s X.cells X.slots g.A ∧ (va_AO RX7 X.s ∧ va_AO RX6 X.s ∧ va_AO RX3 X.s) ∧ X.s.heap.size + X.cells ≤ g.lo + g.N ∧ g.lo ≤ X.s.heap.size
theorem V_vretC {g : GT} {X : XT} {i : MI} {pc : Nat} {lv : List (Nat × Value)} {σ : St} (hX : OkX g X i) (hQ : QVC g X σ) (hr : i.ret = none) (hdg : decode i.cc pc = .ok (.return_, 1)) : V g X i pc lv [] σ := by
  intro H locs ls hP hS hl
  unfold WX
  obtain ⟨q1, q2, q3, q4⟩ := hQ
  refine W_bound fun hs => ?_
  rw [q1]
  refine W.vret hX.1.1 hX.1.2.1 (hX.2.2.1.trans hr) (fun t ht hW => ⟨⟨(), rfl, trivial, ?_⟩, hS.F ht⟩) hS.2.2 hdg hX.2.1
  refine ⟨by rw [ht]; exact hP, by rw [ht]; omega, ⟨(world_end hX hP hS ht hW).2, q2.1.moved hW.alike, q2.2.1.moved hW.alike, q2.2.2.moved hW.alike⟩, by rw [ht]; exact Nat.le_trans q4 hS.1⟩
/-- the script -/
def HScr (g : GT) (X : XT) (b L : Nat) (xs : Nat → Int32) : Prop := va_X b L xs X.s X.s.heap ∧ b < X.s.heap.size ∧ ¬ g.A b
theorem V_sld {g : GT} {X : XT} {i : MI} {pc q b L : Nat} {xs : Nat → Int32} {lv : List (Nat × Value)} {st : List Value} {σ : St} (hX : OkX g X i) (hSc : HScr g X b L xs) {j : Int32} (hin : inb j L) (hdg : decode i.cc pc = .ok (.iaload, 1)) (hq : pc + 1 = q) (kk : V g X i q lv (.int (xs j.toNatClampNeg) :: st) σ) : V g X i pc lv (.int j :: .ref b :: st) σ := by
  subst hq
  intro H locs ls hP hS hl
  exact va_sld hX.1.1 hX.1.2.1 hSc.1 hSc.2.1 hSc.2.2 hS hin hdg (kk H locs ls hP hS hl)
theorem V_slenx {g : GT} {X : XT} {i : MI} {pc q b L : Nat} {xs : Nat → Int32} {lv : List (Nat × Value)} {st : List Value} {σ : St} (hX : OkX g X i) (hSc : HScr g X b L xs) (hdg : decode i.cc pc = .ok (.arraylength, 1)) (hq : pc + 1 = q) (kk : V g X i q lv (.int (nI L) :: st) σ) : V g X i pc lv (.ref b :: st) σ := by
  subst hq
  intro H locs ls hP hS hl
  exact va_slen hX.1.1 hX.1.2.1 hSc.1 hSc.2.1 hSc.2.2 hS hdg (kk H locs ls hP hS hl)
/-- the law's end, where it answers 1 -/
def QL (g : GT) (X : XT) (r : Int32) : Prop := r = 1 ∧ ∀ (i : MI) (pc : Nat) (H : Heap) (locs : List Loc) (ls : Array Slot), decode i.cc pc = .ok (.ireturn, 1) → X.c.code = i.cc → (∀ l ∈ locs, g.A l.base) → WX X H locs (F0 X.m pc ls [.int 1])
theorem V_lawret {g : GT} {X : XT} {i : MI} {pc : Nat} {lv : List (Nat × Value)} {r : Int32} {σ : St} (hX : OkX g X i) (hQ : QL g X r) (_ : i.own = RL) (hdg : decode i.cc pc = .ok (.ireturn, 1)) : V g X i pc lv [.int r] σ := by
  obtain ⟨rfl, hQ⟩ := hQ
  intro H locs ls hP hS hl
  exact hQ i pc H locs ls hdg hX.1.2.1 hS.2.2
abbrev mL : MI := (cL_law, RL, 4, ret, 90)
