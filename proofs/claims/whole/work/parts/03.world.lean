/-! The world of numbered objects. Objects 0 .. 74 are the class's, in the order in which its constructor makes them; 75 .. 94 the reference's. -/
abbrev St : Type := (Nat → Nat → Int32) × (Nat → Nat → Nat)
def gI (σ : St) (o k : Nat) : Int32 := σ.1 o k
def sI (σ : St) (o k : Nat) (v : Int32) : St := (fun a b => if a = o ∧ b = k then v else σ.1 a b, σ.2)
def gR (σ : St) (o k : Nat) : Nat := σ.2 o k
def sR (σ : St) (o k r : Nat) : St := (σ.1, fun a b => if a = o ∧ b = k then r else σ.2 a b)
/-- the whole row of an object -/
def sRow (σ : St) (o : Nat) (f : Nat → Int32) : St := (fun a b => if a = o then f b else σ.1 a b, σ.2)
def shCL : List Nat := [8, 5, 11, 7, 7, 7, 7, 7, 7, 5, 11, 7, 7, 7, 7, 7, 7, 5, 11, 7, 7, 7, 7, 7, 7, 7, 1, 10, 6, 10, 10, 12, 13, 2, 10, 0, 10, 4, 10, 7, 6, 10, 10, 4, 10, 7, 6, 10, 10, 6, 10, 10, 6, 10, 10, 6, 10, 10, 6, 10, 10, 6, 10, 10, 6, 10, 10, 3, 10, 3, 10, 3, 10, 3, 10, 9, 10, 10, 10, 10, 10, 10, 10, 10, 10, 10, 10, 10, 10, 10, 10, 10, 10, 10, 10]
def shNL : List Nat := [11, 4, 6, 7, 7, 7, 7, 7, 7, 4, 6, 7, 7, 7, 7, 7, 7, 4, 6, 7, 7, 7, 7, 7, 7, 7, 7, 160, 3, 160, 3, 6, 4, 1, 160, 6, 10, 6, 144, 7, 3, 160, 3, 6, 144, 7, 3, 160, 3, 3, 160, 3, 3, 160, 3, 3, 160, 3, 3, 160, 3, 3, 160, 3, 3, 160, 3, 3, 40, 3, 40, 3, 40, 3, 40, 39, 6, 6, 30, 160, 1200, 24, 30, 3, 4, 4, 160, 48, 96, 200, 200, 6, 288, 10, 30]
def shC (o : Nat) : Nat := shCL.getD o 99
def shN (o : Nat) : Nat := shNL.getD o 0
/-- the references that stay: field k of object o, element k of an array of references -/
def rf (o k : Nat) : Nat :=
  match shC o with
  | 8 => [1, 9, 17, 25, 26, 31, 32, 33, 35].getD k 0
  | 5 => o + 1
  | 11 => o + 1 + k
  | 1 => 27
  | 6 => o + 1 + k
  | 12 => 49 + 3 * k
  | 13 => 67 + 2 * k
  | 3 => o + 1
  | 2 => 34
  | 0 => [37, 43, 36].getD k 0
  | 4 => if k = 0 then 33 else o + 1
  | 9 => [0, 76, 77, 78, 0, 79, 0, 80, 81, 0, 0, 0, 82, 83, 84, 85, 86, 87, 0, 0, 0, 0, 88, 89, 0, 0, 0, 90, 91, 0, 0, 92, 0, 0, 0, 0, 0, 93, 94].getD k 0
  | _ => 0
/-- which fields hold references; which of them change -/
def isR (c k : Nat) : Bool :=
  match c with
  | 0 => decide (k < 3)
  | 1 => k == 0 || k == 6
  | 2 => true
  | 3 => k == 0
  | 4 => decide (k < 4)
  | 5 => k == 0
  | 6 => decide (k < 2)
  | 7 => false
  | 8 => decide (k < 9)
  | _ => [false, true, true, true, false, true, false, true, true, false, false, false, true, true, true, true, true, true, false, false, false, false, true, true, false, false, false, true, true, false, false, true, false, false, false, false, false, true, true].getD k false
def isM (c k : Nat) : Bool := (c == 4 && (k == 2 || k == 3)) || (c == 1 && k == 6)
/-- what is fixed of a world: addresses of the objects, kit's numbers of classes and slots, array classes, how many objects, the first free address, the addresses of the static arrays and of the constant texts -/
abbrev GT : Type := (Nat → Nat) × va_G × (Nat → ClassId) × Nat × Nat × (Nat → Nat) × (Nat → Nat) × (Nat → Nat)
abbrev GT.ad (g : GT) : Nat → Nat := g.1
abbrev GT.D (g : GT) : va_G := g.2.1
abbrev GT.cA (g : GT) : Nat → ClassId := g.2.2.1
abbrev GT.N (g : GT) : Nat := g.2.2.2.1
abbrev GT.lo (g : GT) : Nat := g.2.2.2.2.1
abbrev GT.tS (g : GT) : Nat → Nat := g.2.2.2.2.2.1
abbrev GT.kS (g : GT) : Nat → Nat := g.2.2.2.2.2.2.1
abbrev GT.vS (g : GT) : Nat → Nat := g.2.2.2.2.2.2.2
def GT.A (g : GT) : Nat → Prop := fun q => g.lo ≤ q
def fvl (g : GT) (σ : St) (o c k : Nat) : Value := if isR c k then .ref (g.ad (if isM c k then σ.2 o k else rf o k)) else .int (σ.1 o k)
def cellOf (g : GT) (σ : St) (o : Nat) : va_E :=
  if shC o < 10 then .inr (shC o, (List.range (shN o)).map (fvl g σ o (shC o)))
  else if shC o = 10 then .inl (g.cA 10, shN o, .inl (σ.1 o))
  else .inl (g.cA (shC o), shN o, .inr (.inr (.inr (.inr (fun i => some (g.ad (rf o i)))))))
def wsM (g : GT) (σ : St) : va_W := (List.range g.N).map fun o => (g.ad o, cellOf g σ o)
def tysG (g : GT) : List (ClassId × FieldType) := [(g.cA 10, .int), (g.cA 11, .object RX7), (g.cA 12, .object RX6), (g.cA 13, .object RX3)]
def OkG (g : GT) : Prop := (∀ i j, i < g.N → j < g.N → g.ad i = g.ad j → i = j) ∧ (∀ i, i < g.N → g.lo ≤ g.ad i) ∧ g.N ≤ 95
theorem wsM_get {g : GT} {σ : St} {o : Nat} (h : o < g.N) : (wsM g σ)[o]? = some (g.ad o, cellOf g σ o) := by
  simp [wsM, List.getElem?_map, List.getElem?_range h]
theorem wsM_inv {g : GT} {σ : St} {o : Nat} {q : Nat × va_E} (h : (wsM g σ)[o]? = some q) : o < g.N ∧ q = (g.ad o, cellOf g σ o) := by
  have hl : o < g.N := by
    have := (List.getElem?_eq_some_iff.mp h).1
    simpa [wsM] using this
  rw [wsM_get hl] at h
  exact ⟨hl, (Option.some.inj h).symm⟩
theorem wsM_D {g : GT} (h : OkG g) (σ : St) : va_D g.A (wsM g σ) := by
  refine ⟨fun i j p q hi hj e => ?_, fun k q hk => ?_⟩
  · obtain ⟨h1, rfl⟩ := wsM_inv hi
    obtain ⟨h2, rfl⟩ := wsM_inv hj
    exact h.1 i j h1 h2 e
  · obtain ⟨h1, rfl⟩ := wsM_inv hk
    exact h.2.1 k h1
theorem wsM_set {g : GT} {σ σ' : St} {o : Nat} {e : va_E} (ho : o < g.N) (he : e = cellOf g σ' o) (hk : ∀ i, i ≠ o → cellOf g σ' i = cellOf g σ i) : (wsM g σ).set o (g.ad o, e) = wsM g σ' := by
  apply List.ext_getElem?
  intro i
  by_cases hi : i = o
  · subst hi
    rw [List.getElem?_set_self (by simpa [wsM] using ho), wsM_get ho, he]
  · rw [List.getElem?_set_ne (fun q => hi q.symm)]
    by_cases hl : i < g.N
    · rw [wsM_get hl, wsM_get hl, hk i hi]
    · have h1 : (wsM g σ).length ≤ i := by simpa [wsM] using Nat.le_of_not_lt hl
      have h2 : (wsM g σ').length ≤ i := by simpa [wsM] using Nat.le_of_not_lt hl
      rw [List.getElem?_eq_none h1, List.getElem?_eq_none h2]
/-- an object of class number c among the first n; an int array of that length; an array of references -/
abbrev Ob (n c o : Nat) : Prop := shC o = c ∧ o < n
abbrev Ar (n len o : Nat) : Prop := shC o = 10 ∧ shN o = len ∧ o < n
abbrev Ra (n c len o : Nat) : Prop := shC o = c ∧ shN o = len ∧ o < n
/-- how many fields -/
def nfC (c : Nat) : Nat := [6, 7, 1, 3, 6, 4, 3, 7, 11, 39].getD c 0
theorem nf_all : ∀ o, o < 95 → shC o < 10 → shN o = nfC (shC o) := by decide +kernel
theorem cell_ob {g : GT} {σ : St} {n c o nf : Nat} (h : Ob n c o) (hn : n ≤ 95) (hc : c < 10) (hnf : nfC c = nf) : cellOf g σ o = .inr (c, (List.range nf).map (fvl g σ o c)) := by
  obtain ⟨h1, h2⟩ := h
  subst h1; subst hnf
  rw [← nf_all o (by omega) hc]
  simp [cellOf, hc]
theorem cell_ar {g : GT} {σ : St} {len o : Nat} (h : shC o = 10) (hl : shN o = len) : cellOf g σ o = .inl (g.cA 10, len, .inl (σ.1 o)) := by
  simp [cellOf, h, hl]
theorem cell_ra {g : GT} {σ : St} {c len o : Nat} (h : shC o = c) (hc : 10 < c) (hl : shN o = len) : cellOf g σ o = .inl (g.cA c, len, .inr (.inr (.inr (.inr (fun i => some (g.ad (rf o i))))))) := by
  subst h
  have h1 : ¬ shC o < 10 := by omega
  have h2 : ¬ shC o = 10 := by omega
  simp [cellOf, h1, h2, hl]
theorem cell_congr {g : GT} {σ σ' : St} {i : Nat} (h1 : ∀ k, σ'.1 i k = σ.1 i k) (h2 : ∀ k, σ'.2 i k = σ.2 i k) : cellOf g σ' i = cellOf g σ i := by
  have e1 : σ'.1 i = σ.1 i := funext h1
  have e2 : σ'.2 i = σ.2 i := funext h2
  have e3 : fvl g σ' i = fvl g σ i := by
    funext c k; simp [fvl, e1, e2]
  simp [cellOf, e1, e3]
theorem fs_get {g : GT} {σ : St} {o c k n : Nat} (hk : k < n) : ((List.range n).map (fvl g σ o c))[k]? = some (fvl g σ o c k) := by
  simp [List.getElem?_range hk]
theorem fs_set {g : GT} {σ σ' : St} {o c k n : Nat} {v : Value} (hv : v = fvl g σ' o c k) (hk : ∀ i, i ≠ k → fvl g σ' o c i = fvl g σ o c i) : ((List.range n).map (fvl g σ o c)).set k v = (List.range n).map (fvl g σ' o c) := by
  apply List.ext_getElem?
  intro i
  by_cases hi : i = k
  · subst hi
    by_cases hl : i < n
    · rw [List.getElem?_set_self (by simpa using hl), fs_get hl, hv]
    · rw [List.getElem?_eq_none (by simpa using Nat.le_of_not_lt hl), List.getElem?_eq_none (by simpa using Nat.le_of_not_lt hl)]
  · rw [List.getElem?_set_ne (fun q => hi q.symm)]
    by_cases hl : i < n
    · rw [fs_get hl, fs_get hl, hk i hi]
    · rw [List.getElem?_eq_none (by simpa using Nat.le_of_not_lt hl), List.getElem?_eq_none (by simpa using Nat.le_of_not_lt hl)]
/-- writing an int field -/
theorem set_int {g : GT} {σ : St} {n c o k nf : Nat} {x : Int32} (ho : Ob n c o) (hn : n ≤ g.N) (hN : g.N ≤ 95) (hc : c < 10) (hnf : nfC c = nf) (hr : isR c k = false) :
    (wsM g σ).set o (g.ad o, .inr (c, ((List.range nf).map (fvl g σ o c)).set k (.int x))) = wsM g (sI σ o k x) := by
  refine wsM_set (by have := ho.2; omega) ?_ (fun i hi => cell_congr (fun k => by simp [sI, hi]) (fun k => rfl))
  rw [cell_ob ho (by omega) hc hnf]
  congr 2
  refine fs_set (by simp [fvl, hr, sI]) (fun i hi => by simp [fvl, sI, hi])
/-- writing a reference that changes -/
theorem set_ref {g : GT} {σ : St} {n c o k r nf : Nat} (ho : Ob n c o) (hn : n ≤ g.N) (hN : g.N ≤ 95) (hc : c < 10) (hnf : nfC c = nf) (hr : isR c k = true) (hm : isM c k = true) :
    (wsM g σ).set o (g.ad o, .inr (c, ((List.range nf).map (fvl g σ o c)).set k (.ref (g.ad r)))) = wsM g (sR σ o k r) := by
  refine wsM_set (by have := ho.2; omega) ?_ (fun i hi => cell_congr (fun k => rfl) (fun k => by simp [sR, hi]))
  rw [cell_ob ho (by omega) hc hnf]
  congr 2
  refine fs_set (by simp [fvl, hr, hm, sR]) (fun i hi => by simp [fvl, sR, hi])
/-- writing an element of an int array -/
theorem set_arr {g : GT} {σ : St} {n len o k : Nat} {x : Int32} (ho : Ar n len o) (hn : n ≤ g.N) :
    (wsM g σ).set o (g.ad o, .inl (g.cA 10, len, .inl (upd (σ.1 o) k x))) = wsM g (sI σ o k x) := by
  refine wsM_set (by have := ho.2.2; omega) ?_ (fun i hi => cell_congr (fun k => by simp [sI, hi]) (fun k => rfl))
  rw [cell_ar ho.1 ho.2.1]
  congr 4
  funext i
  by_cases hi : i = k
  · subst hi; simp [sI, upd]
  · simp [sI, upd, hi]
/-- a whole int array anew -/
theorem set_row {g : GT} {σ : St} {n len o : Nat} {f : Nat → Int32} (ho : Ar n len o) (hn : n ≤ g.N) :
    (wsM g σ).set o (g.ad o, .inl (g.cA 10, len, .inl f)) = wsM g (sRow σ o f) := by
  refine wsM_set (by have := ho.2.2; omega) ?_ (fun i hi => cell_congr (fun k => by simp [sRow, hi]) (fun k => rfl))
  rw [cell_ar ho.1 ho.2.1]
  congr 4
  funext i
  simp [sRow]
