/-! The judgement V: from this place of the code, with these locals, this stack and this memory, the machine comes to the end that is wanted. -/
abbrev XT : Type := Program × Launch × Env × Room × State × MethodId × Array Value × List Frame × Method × Code × Nat × Nat × (State → Prop)
abbrev XT.p (X : XT) : Program := X.1
abbrev XT.l (X : XT) : Launch := X.2.1
abbrev XT.e (X : XT) : Env := X.2.2.1
abbrev XT.R (X : XT) : Room := X.2.2.2.1
abbrev XT.s (X : XT) : State := X.2.2.2.2.1
abbrev XT.m (X : XT) : MethodId := X.2.2.2.2.2.1
abbrev XT.args (X : XT) : Array Value := X.2.2.2.2.2.2.1
abbrev XT.below (X : XT) : List Frame := X.2.2.2.2.2.2.2.1
abbrev XT.meth (X : XT) : Method := X.2.2.2.2.2.2.2.2.1
abbrev XT.c (X : XT) : Code := X.2.2.2.2.2.2.2.2.2.1
abbrev XT.cells (X : XT) : Nat := X.2.2.2.2.2.2.2.2.2.2.1
abbrev XT.slots (X : XT) : Nat := X.2.2.2.2.2.2.2.2.2.2.2.1
abbrev XT.Q (X : XT) : State → Prop := X.2.2.2.2.2.2.2.2.2.2.2.2
/-- a method: its code, its class, its locals, what it returns, how deep its calls go -/
abbrev MI : Type := ByteArray × String × Nat × Option FieldType × Nat
abbrev MI.cc (i : MI) : ByteArray := i.1
abbrev MI.own (i : MI) : String := i.2.1
abbrev MI.nL (i : MI) : Nat := i.2.2.1
abbrev MI.ret (i : MI) : Option FieldType := i.2.2.2.1
abbrev MI.lv (i : MI) : Nat := i.2.2.2.2
def rmOf (d : Nat) : Room := { frames := d + 1, cells := 0, slots := 0, locals := 40 * (d + 1) }
def nestW : List Cond := [.methodLinkNest RX5 27 yX7_init "RingOfStraw", .methodLinkNest RX8 24 yX7_init "RingOfStraw", .methodLinkNest RX8 31 yX1_init "RingOfStraw", .methodLinkNest RX1 33 yX6_init "RingOfStraw", .methodLinkNest RX8 50 yX2_init "RingOfStraw", .methodLinkNest RX4 17 yX7_init "RingOfStraw", .methodLinkNest RX4 24 yX6_init "RingOfStraw", .methodLinkNest RX8 72 yX6_init "RingOfStraw", .methodLinkNest RX8 73 yX3_init "RingOfStraw", .methodLinkNest RX2 53 yX8_within "RingOfStraw", .methodLinkNest RX7 45 yX8_within "RingOfStraw", .methodLinkNest RX0 41 yX8_within "RingOfStraw", .methodLinkNest RX0 48 yX8_actIn "RingOfStraw", .methodLinkNest RX3 22 yX8_within "RingOfStraw"]
def leastF (j : Nat) : Int32 := if j = 2 then -2 else 0
def mostF (j : Nat) : Int32 := if j = 0 then 999 else if j = 1 then 5 else 2
def txt0 : List Nat := [102, 111, 114, 99, 101, 32, 119, 101, 105, 103, 104, 116, 32, 43, 32, 112, 97, 99, 101, 32, 42, 32, 97, 99, 116, 32, 59, 32, 115, 116, 97, 110, 100, 115, 32, 50, 32, 59, 32, 97, 104, 101, 97, 100, 32, 48, 32, 59]
def txt1 : List Nat := [119, 101, 105, 103, 104, 116, 32, 112, 97, 99, 101, 32, 97, 99, 116, 32, 104, 105, 115, 32, 99, 101, 108, 108, 32, 107, 110, 101, 101, 32, 102, 111, 114, 99, 101, 32, 115, 116, 97, 110, 100, 115, 32, 97, 104, 101, 97, 100, 32, 111, 114, 32, 97, 110, 100, 32, 110, 111, 116, 32]
def txt2 : List Nat := [40, 41, 59, 43, 45, 42, 60, 61]
def txtN (i : Nat) : List Nat := if i = 0 then txt0 else if i = 1 then txt1 else txt2
/-- the statics and the constant texts -/
def StatW (g : GT) (U : State) (H : Heap) : Prop :=
  va_Z RX2 "LEAST" "[I" (.ref (g.tS 0)) g.A U H ∧ va_T .int (g.tS 0) 3 (fun j => .int (leastF j)) g.A U H ∧
  va_Z RX2 "MOST" "[I" (.ref (g.tS 1)) g.A U H ∧ va_T .int (g.tS 1) 3 (fun j => .int (mostF j)) g.A U H ∧
  (vk_R RX8 74 "force weight + pace * act ; stands 2 ; ahead 0 ;" (g.kS 0) U ∧ vk_R RX1 100 "weight pace act his cell knee force stands ahead or and not " (g.kS 1) U ∧ vk_R RX1 93 "();+-*<=" (g.kS 2) U) ∧
  vk_S 3 [48, 60, 8] [txt0.map (fun k => Int32.ofNat k), txt1.map (fun k => Int32.ofNat k), txt2.map (fun k => Int32.ofNat k)] g.kS g.vS g.A U H ∧
  va_Z "java/lang/String" "COMPACT_STRINGS" "Z" (.int 1) g.A U H ∧ va_Zq "jdk/internal/util/Preconditions" "SIOOBE_FORMATTER" "Ljava/util/function/BiFunction;" g.A U H
theorem StatW.kept {g : GT} {U : State} {H H1 : Heap} (h : StatW g U H) (hq : ∀ a : Nat, a < H.size → ¬ g.A a → H1[a]? = H[a]?) : StatW g U H1 :=
  ⟨h.1.kept hq, h.2.1.kept hq, h.2.2.1.kept hq, h.2.2.2.1.kept hq, h.2.2.2.2.1, h.2.2.2.2.2.1.kept hq, h.2.2.2.2.2.2.1.kept hq, h.2.2.2.2.2.2.2.kept hq⟩
theorem StatW.warm {g : GT} {s U : State} {H : Heap} (hW : s.WarmedH U.vm) (h : StatW g s H) : StatW g U H :=
  ⟨h.1.moved hW.alike, h.2.1.moved hW.alike, h.2.2.1.moved hW.alike, h.2.2.2.1.moved hW.alike, ⟨h.2.2.2.2.1.1.warm hW, h.2.2.2.2.1.2.1.warm hW, h.2.2.2.2.1.2.2.warm hW⟩, h.2.2.2.2.2.1.moved hW.alike, h.2.2.2.2.2.2.1.moved hW.alike, h.2.2.2.2.2.2.2.moved hW.alike⟩
theorem StatW.same {g : GT} {u U : State} {H : Heap} (hv : U.vm = u.vm) (h : StatW g u H) : StatW g U H :=
  ⟨h.1.moved (hv ▸ Vm.Alike.refl _), h.2.1.moved (hv ▸ Vm.Alike.refl _), h.2.2.1.moved (hv ▸ Vm.Alike.refl _), h.2.2.2.1.moved (hv ▸ Vm.Alike.refl _), ⟨h.2.2.2.2.1.1.same hv, h.2.2.2.2.1.2.1.same hv, h.2.2.2.2.1.2.2.same hv⟩, h.2.2.2.2.2.1.moved (hv ▸ Vm.Alike.refl _), h.2.2.2.2.2.2.1.moved (hv ▸ Vm.Alike.refl _), h.2.2.2.2.2.2.2.moved (hv ▸ Vm.Alike.refl _)⟩
def nestOk (w : Cond) : Bool := match w with
  | .methodLinkNest _ _ _ _ => true
  | _ => false
theorem nest_ok : nestW.all nestOk = true := rfl
theorem nest_warm {s U : State} (hW : s.WarmedH U.vm) (h : ∀ w ∈ nestW, va_Nw w s) : ∀ w ∈ nestW, va_Nw w U := by
  intro w hw
  have h1 := List.all_eq_true.mp nest_ok w hw
  have h2 := h w hw
  cases w <;> first | (exact va_Nw.warmM hW h2) | (cases h1)
theorem nest_same {u U : State} (hv : u.vm = U.vm) (h : ∀ w ∈ nestW, va_Nw w u) : ∀ w ∈ nestW, va_Nw w U := by
  intro w hw
  have h1 := List.all_eq_true.mp nest_ok w hw
  have h2 := h w hw
  cases w <;> first | (exact va_Nw.same rfl hv h2) | (cases h1)
/-- what holds of the machine besides the objects -/
def Fx (g : GT) (U : State) (H : Heap) : Prop := va_K g.D vwCl (tysG g) U ∧ (∀ w ∈ nestW, va_Nw w U) ∧ StatW g U H
theorem Fx.kept {g : GT} {U : State} {H H1 : Heap} (h : Fx g U H) (hq : ∀ a : Nat, a < H.size → ¬ g.A a → H1[a]? = H[a]?) : Fx g U H1 := ⟨h.1, h.2.1, h.2.2.kept hq⟩
theorem Fx.warm {g : GT} {s U : State} {H : Heap} (hW : s.WarmedH U.vm) (h : Fx g s H) : Fx g U H := ⟨h.1.moved hW.alike, nest_warm hW h.2.1, h.2.2.warm hW⟩
theorem Fx.same {g : GT} {u U : State} {H : Heap} (hv : U.vm = u.vm) (h : Fx g u H) : Fx g U H := ⟨h.1.moved (hv ▸ Vm.Alike.refl _), nest_same hv.symm h.2.1, h.2.2.same hv⟩
def World (g : GT) (σ : St) (U : State) : Prop := va_P g.D vwCl (wsM g σ) U.heap ∧ Fx g U U.heap
def OkX (g : GT) (X : XT) (i : MI) : Prop :=
  CallFix X.p X.m X.c i.cc i.nL X.s X.args gtbl i.own ∧ X.meth.locks = false ∧ X.meth.sig.returnType = i.ret ∧
  (i.lv + 1 ≤ X.R.frames ∧ 40 * (i.lv + 1) ≤ X.R.locals ∧ X.cells ≤ X.R.cells ∧ X.slots ≤ X.R.slots) ∧ OkG g ∧ Fx g X.s X.s.heap
def WX (X : XT) (H : Heap) (locs : List Loc) (f : JFrame) : Prop := W X.p X.l X.e X.R X.s X.m X.args X.below X.meth X.c H locs X.cells X.slots X.Q f
def V (g : GT) (X : XT) (i : MI) (pc : Nat) (lv : List (Nat × Value)) (st : List Value) (σ : St) : Prop :=
  ∀ (H : Heap) (locs : List Loc) (ls : Array Slot), va_P g.D vwCl (wsM g σ) H → va_S g.A X.s.heap H locs → lv_has ls i.nL lv → WX X H locs (F0 X.m pc ls st)
def jmax (x y : Int32) : Int32 := if x < y then y else x
def jmin (x y : Int32) : Int32 := if y < x then y else x
def jabs (x : Int32) : Int32 := if 0 ≤ x then x else 0 - x
def jrem (x y : Int32) : Int32 := x - x / y * y
def jlrem (x y : Int64) : Int64 := x - x / y * y
theorem room_math {g : GT} {X : XT} {i : MI} {st : List Value} (hX : OkX g X i) (hr : Nat.ble (st.map fun v => v.category).sum 8 = true) : 1 ≤ X.R.frames ∧ (st.map fun v => v.category).sum + 13 ≤ X.R.locals := by
  have h1 := hX.2.2.2.1.1
  have h5 := hX.2.2.2.1.2.1
  have h6 := Nat.le_of_ble_eq_true hr
  refine ⟨by omega, by omega⟩
section RULES
variable {g : GT} {X : XT} {i : MI} {pc q : Nat} {lv lv' : List (Nat × Value)} {st : List Value} {σ : St}
theorem V.weak (h : ∀ x ∈ lv', x ∈ lv) (k : V g X i pc lv' st σ) : V g X i pc lv st σ := fun H locs ls hP hS hl => k H locs ls hP hS ⟨hl.1, hl.2.1, fun x hx => hl.2.2 x (h x hx)⟩
theorem V.pick (ks : List Nat) (h : lv_pick lv ks = lv') (k : V g X i pc lv' st σ) : V g X i pc lv st σ := fun H locs ls hP hS hl => k H locs ls hP hS (lv_sub hl ks h)
theorem V_iconst (hX : OkX g X i) {n : Int} {v : Int32} (hdg : decode i.cc pc = .ok (.iconst n, 1)) (hv : Int32.ofInt n = v) (hq : pc + 1 = q) (kk : V g X i q lv (.int v :: st) σ) : V g X i pc lv st σ := by
  subst hq
  intro H locs ls hP hS hl
  have hx := hX.1.1
  have hb := hX.1.2.1
  exact lv_iconst hx hb hdg hv (kk H locs ls hP hS hl)
theorem V_bipush (hX : OkX g X i) {n : Int} {v : Int32} (hdg : decode i.cc pc = .ok (.bipush n, 2)) (hv : (Int8.ofInt n).toInt32 = v) (hq : pc + 2 = q) (kk : V g X i q lv (.int v :: st) σ) : V g X i pc lv st σ := by
  subst hq
  intro H locs ls hP hS hl
  have hx := hX.1.1
  have hb := hX.1.2.1
  exact lv_bipush hx hb hdg hv (kk H locs ls hP hS hl)
theorem V_sipush (hX : OkX g X i) {n : Int} {v : Int32} (hdg : decode i.cc pc = .ok (.sipush n, 3)) (hv : (Int16.ofInt n).toInt32 = v) (hq : pc + 3 = q) (kk : V g X i q lv (.int v :: st) σ) : V g X i pc lv st σ := by
  subst hq
  intro H locs ls hP hS hl
  have hx := hX.1.1
  have hb := hX.1.2.1
  exact lv_sipush hx hb hdg hv (kk H locs ls hP hS hl)
theorem V_lconst (hX : OkX g X i) {n : Fin 2} {v : Int64} (hdg : decode i.cc pc = .ok (.lconst n, 1)) (hv : Int64.ofNat (n : Nat) = v) (hq : pc + 1 = q) (kk : V g X i q lv (.long v :: st) σ) : V g X i pc lv st σ := by
  subst hq
  intro H locs ls hP hS hl
  have hx := hX.1.1
  have hb := hX.1.2.1
  exact lv_lconst hx hb hdg hv (kk H locs ls hP hS hl)
theorem V_ldc (hX : OkX g X i) {n : Nat} {v : Int32} (hc : (Cond.constant i.own n v : Cond) ∈ gtbl) (hdg : decode i.cc pc = .ok (.ldc n, 2)) (hq : pc + 2 = q) (kk : V g X i q lv (.int v :: st) σ) : V g X i pc lv st σ := by
  subst hq
  intro H locs ls hP hS hl
  have hx := hX.1.1
  have hb := hX.1.2.1
  exact lv_ldc hx hb hX.1.2.2.2.1 (hX.1.2.2.2.2 _ hc) hdg (kk H locs ls hP hS hl)
theorem V_iload (hX : OkX g X i) {j : Nat} {x : Int32} (hdg : decode i.cc pc = .ok (.iload j, 2)) (k : Nat) (hk : lv[k]? = some (j, .int x)) (hq : pc + 2 = q) (kk : V g X i q lv (.int x :: st) σ) : V g X i pc lv st σ := by
  subst hq
  intro H locs ls hP hS hl
  have hx := hX.1.1
  have hb := hX.1.2.1
  exact lv_iload hx hb hdg (lv_at hl k hk) (kk H locs ls hP hS hl)
theorem V_iload_n (hX : OkX g X i) {n : Fin 4} {x : Int32} (hdg : decode i.cc pc = .ok (.iload_n n, 1)) (k : Nat) (hk : lv[k]? = some (n.val, .int x)) (hq : pc + 1 = q) (kk : V g X i q lv (.int x :: st) σ) : V g X i pc lv st σ := by
  subst hq
  intro H locs ls hP hS hl
  have hx := hX.1.1
  have hb := hX.1.2.1
  exact lv_iload_n hx hb hdg rfl (lv_at hl k hk) (kk H locs ls hP hS hl)
theorem V_lload (hX : OkX g X i) {j : Nat} {x : Int64} (hdg : decode i.cc pc = .ok (.lload j, 2)) (k : Nat) (hk : lv[k]? = some (j, .long x)) (hq : pc + 2 = q) (kk : V g X i q lv (.long x :: st) σ) : V g X i pc lv st σ := by
  subst hq
  intro H locs ls hP hS hl
  have hx := hX.1.1
  have hb := hX.1.2.1
  exact lv_lload hx hb hdg (lv_at hl k hk) (kk H locs ls hP hS hl)
theorem V_lload_n (hX : OkX g X i) {n : Fin 4} {x : Int64} (hdg : decode i.cc pc = .ok (.lload_n n, 1)) (k : Nat) (hk : lv[k]? = some (n.val, .long x)) (hq : pc + 1 = q) (kk : V g X i q lv (.long x :: st) σ) : V g X i pc lv st σ := by
  subst hq
  intro H locs ls hP hS hl
  have hx := hX.1.1
  have hb := hX.1.2.1
  exact lv_lload_n hx hb hdg rfl (lv_at hl k hk) (kk H locs ls hP hS hl)
theorem V_aload (hX : OkX g X i) {j x : Nat} (hdg : decode i.cc pc = .ok (.aload j, 2)) (k : Nat) (hk : lv[k]? = some (j, .ref x)) (hq : pc + 2 = q) (kk : V g X i q lv (.ref x :: st) σ) : V g X i pc lv st σ := by
  subst hq
  intro H locs ls hP hS hl
  have hx := hX.1.1
  have hb := hX.1.2.1
  exact lv_aload hx hb hdg (lv_at hl k hk) (kk H locs ls hP hS hl)
theorem V_aload_n (hX : OkX g X i) {n : Fin 4} {x : Nat} (hdg : decode i.cc pc = .ok (.aload_n n, 1)) (k : Nat) (hk : lv[k]? = some (n.val, .ref x)) (hq : pc + 1 = q) (kk : V g X i q lv (.ref x :: st) σ) : V g X i pc lv st σ := by
  subst hq
  intro H locs ls hP hS hl
  have hx := hX.1.1
  have hb := hX.1.2.1
  exact lv_aload_n hx hb hdg rfl (lv_at hl k hk) (kk H locs ls hP hS hl)
theorem V_istore (hX : OkX g X i) {j : Nat} {x : Int32} (hdg : decode i.cc pc = .ok (.istore j, 2)) (hn : decide (j < i.nL) = true) (hl0 : (j, Value.int x) :: lv.filter (fun q => !(q.1 == j) && !(q.1 + 1 == j && q.2.category == 2)) = lv') (hq : pc + 2 = q) (kk : V g X i q lv' st σ) : V g X i pc lv (.int x :: st) σ := by
  subst hq
  intro H locs ls hP hS hl
  have hx := hX.1.1
  have hb := hX.1.2.1
  exact lv_istore hx hb hdg hl (of_decide_eq_true hn) hl0 (fun ls2 hl2 => kk H locs ls2 hP hS hl2)
theorem V_istore_n (hX : OkX g X i) {n : Fin 4} {x : Int32} (hdg : decode i.cc pc = .ok (.istore_n n, 1)) (hn : decide (n.val < i.nL) = true) (hl0 : (n.val, Value.int x) :: lv.filter (fun q => !(q.1 == n.val) && !(q.1 + 1 == n.val && q.2.category == 2)) = lv') (hq : pc + 1 = q) (kk : V g X i q lv' st σ) : V g X i pc lv (.int x :: st) σ := by
  subst hq
  intro H locs ls hP hS hl
  have hx := hX.1.1
  have hb := hX.1.2.1
  exact lv_istore_n hx hb hdg rfl hl (of_decide_eq_true hn) hl0 (fun ls2 hl2 => kk H locs ls2 hP hS hl2)
theorem V_astore (hX : OkX g X i) {j : Nat} {x : Nat} (hdg : decode i.cc pc = .ok (.astore j, 2)) (hn : decide (j < i.nL) = true) (hl0 : (j, Value.ref x) :: lv.filter (fun q => !(q.1 == j) && !(q.1 + 1 == j && q.2.category == 2)) = lv') (hq : pc + 2 = q) (kk : V g X i q lv' st σ) : V g X i pc lv (.ref x :: st) σ := by
  subst hq
  intro H locs ls hP hS hl
  have hx := hX.1.1
  have hb := hX.1.2.1
  exact lv_astore hx hb hdg hl (of_decide_eq_true hn) hl0 (fun ls2 hl2 => kk H locs ls2 hP hS hl2)
theorem V_astore_n (hX : OkX g X i) {n : Fin 4} {x : Nat} (hdg : decode i.cc pc = .ok (.astore_n n, 1)) (hn : decide (n.val < i.nL) = true) (hl0 : (n.val, Value.ref x) :: lv.filter (fun q => !(q.1 == n.val) && !(q.1 + 1 == n.val && q.2.category == 2)) = lv') (hq : pc + 1 = q) (kk : V g X i q lv' st σ) : V g X i pc lv (.ref x :: st) σ := by
  subst hq
  intro H locs ls hP hS hl
  have hx := hX.1.1
  have hb := hX.1.2.1
  exact lv_astore_n hx hb hdg rfl hl (of_decide_eq_true hn) hl0 (fun ls2 hl2 => kk H locs ls2 hP hS hl2)
theorem V_lstore (hX : OkX g X i) {j : Nat} {x : Int64} (hdg : decode i.cc pc = .ok (.lstore j, 2)) (hn : decide (j + 1 < i.nL) = true) (hl0 : (j, Value.long x) :: lv.filter (fun q => !(q.1 == j) && (!(q.1 == j + 1) && !(q.1 + 1 == j && q.2.category == 2))) = lv') (hq : pc + 2 = q) (kk : V g X i q lv' st σ) : V g X i pc lv (.long x :: st) σ := by
  subst hq
  intro H locs ls hP hS hl
  have hx := hX.1.1
  have hb := hX.1.2.1
  exact lv_lstore hx hb hdg hl (of_decide_eq_true hn) hl0 (fun ls2 hl2 => kk H locs ls2 hP hS hl2)
theorem V_lstore_n (hX : OkX g X i) {n : Fin 4} {x : Int64} (hdg : decode i.cc pc = .ok (.lstore_n n, 1)) (hn : decide (n.val + 1 < i.nL) = true) (hl0 : (n.val, Value.long x) :: lv.filter (fun q => !(q.1 == n.val) && (!(q.1 == n.val + 1) && !(q.1 + 1 == n.val && q.2.category == 2))) = lv') (hq : pc + 1 = q) (kk : V g X i q lv' st σ) : V g X i pc lv (.long x :: st) σ := by
  subst hq
  intro H locs ls hP hS hl
  have hx := hX.1.1
  have hb := hX.1.2.1
  exact lv_lstore_n hx hb hdg rfl hl (of_decide_eq_true hn) hl0 (fun ls2 hl2 => kk H locs ls2 hP hS hl2)
theorem V_iinc (hX : OkX g X i) {j : Nat} {n : Int} {x v : Int32} (hdg : decode i.cc pc = .ok (.iinc j n, 3)) (k : Nat) (hk : lv[k]? = some (j, .int x)) (hv : x + Int32.ofInt n = v) (hn : decide (j < i.nL) = true) (hl0 : (j, Value.int v) :: lv.filter (fun q => !(q.1 == j) && !(q.1 + 1 == j && q.2.category == 2)) = lv') (hq : pc + 3 = q) (kk : V g X i q lv' st σ) : V g X i pc lv st σ := by
  subst hq
  intro H locs ls hP hS hl
  have hx := hX.1.1
  have hb := hX.1.2.1
  exact lv_iinc hx hb hdg hl hk hv (of_decide_eq_true hn) hl0 (fun ls2 hl2 => kk H locs ls2 hP hS hl2)
theorem V_iadd (hX : OkX g X i) {x y : Int32} (hdg : decode i.cc pc = .ok (.iadd, 1)) (hq : pc + 1 = q) (kk : V g X i q lv (.int (x + y) :: st) σ) : V g X i pc lv (.int y :: .int x :: st) σ := by
  subst hq
  intro H locs ls hP hS hl
  have hx := hX.1.1
  have hb := hX.1.2.1
  exact lv_iadd hx hb hdg (kk H locs ls hP hS hl)
theorem V_isub (hX : OkX g X i) {x y : Int32} (hdg : decode i.cc pc = .ok (.isub, 1)) (hq : pc + 1 = q) (kk : V g X i q lv (.int (x - y) :: st) σ) : V g X i pc lv (.int y :: .int x :: st) σ := by
  subst hq
  intro H locs ls hP hS hl
  have hx := hX.1.1
  have hb := hX.1.2.1
  exact lv_isub hx hb hdg (kk H locs ls hP hS hl)
theorem V_imul (hX : OkX g X i) {x y : Int32} (hdg : decode i.cc pc = .ok (.imul, 1)) (hq : pc + 1 = q) (kk : V g X i q lv (.int (x * y) :: st) σ) : V g X i pc lv (.int y :: .int x :: st) σ := by
  subst hq
  intro H locs ls hP hS hl
  have hx := hX.1.1
  have hb := hX.1.2.1
  exact lv_imul hx hb hdg (kk H locs ls hP hS hl)
theorem V_iand (hX : OkX g X i) {x y : Int32} (hdg : decode i.cc pc = .ok (.iand, 1)) (hq : pc + 1 = q) (kk : V g X i q lv (.int (x &&& y) :: st) σ) : V g X i pc lv (.int y :: .int x :: st) σ := by
  subst hq
  intro H locs ls hP hS hl
  have hx := hX.1.1
  have hb := hX.1.2.1
  exact lv_iand hx hb hdg (kk H locs ls hP hS hl)
theorem V_ior (hX : OkX g X i) {x y : Int32} (hdg : decode i.cc pc = .ok (.ior, 1)) (hq : pc + 1 = q) (kk : V g X i q lv (.int (x ||| y) :: st) σ) : V g X i pc lv (.int y :: .int x :: st) σ := by
  subst hq
  intro H locs ls hP hS hl
  have hx := hX.1.1
  have hb := hX.1.2.1
  exact lv_ior hx hb hdg (kk H locs ls hP hS hl)
theorem V_ixor (hX : OkX g X i) {x y : Int32} (hdg : decode i.cc pc = .ok (.ixor, 1)) (hq : pc + 1 = q) (kk : V g X i q lv (.int (x ^^^ y) :: st) σ) : V g X i pc lv (.int y :: .int x :: st) σ := by
  subst hq
  intro H locs ls hP hS hl
  have hx := hX.1.1
  have hb := hX.1.2.1
  exact lv_ixor hx hb hdg (kk H locs ls hP hS hl)
theorem V_ishl (hX : OkX g X i) {x y : Int32} (hdg : decode i.cc pc = .ok (.ishl, 1)) (hq : pc + 1 = q) (kk : V g X i q lv (.int (x <<< (y &&& 31)) :: st) σ) : V g X i pc lv (.int y :: .int x :: st) σ := by
  subst hq
  intro H locs ls hP hS hl
  have hx := hX.1.1
  have hb := hX.1.2.1
  exact lv_ishl hx hb hdg (kk H locs ls hP hS hl)
theorem V_ishr (hX : OkX g X i) {x y : Int32} (hdg : decode i.cc pc = .ok (.ishr, 1)) (hq : pc + 1 = q) (kk : V g X i q lv (.int (x >>> (y &&& 31)) :: st) σ) : V g X i pc lv (.int y :: .int x :: st) σ := by
  subst hq
  intro H locs ls hP hS hl
  have hx := hX.1.1
  have hb := hX.1.2.1
  exact lv_ishr hx hb hdg (kk H locs ls hP hS hl)
theorem V_idiv (hX : OkX g X i) {x y : Int32} (hne : ¬ y = 0) (hdg : decode i.cc pc = .ok (.idiv, 1)) (hq : pc + 1 = q) (kk : V g X i q lv (.int (x / y) :: st) σ) : V g X i pc lv (.int y :: .int x :: st) σ := by
  subst hq
  intro H locs ls hP hS hl
  have hx := hX.1.1
  have hb := hX.1.2.1
  exact lv_idiv hx hb hdg hne (kk H locs ls hP hS hl)
theorem V_irem (hX : OkX g X i) {x y : Int32} (hne : ¬ y = 0) (hdg : decode i.cc pc = .ok (.irem, 1)) (hq : pc + 1 = q) (kk : V g X i q lv (.int (jrem x y) :: st) σ) : V g X i pc lv (.int y :: .int x :: st) σ := by
  subst hq
  intro H locs ls hP hS hl
  have hx := hX.1.1
  have hb := hX.1.2.1
  exact lv_irem hx hb hdg hne (kk H locs ls hP hS hl)
theorem V_ineg (hX : OkX g X i) {x : Int32} (hdg : decode i.cc pc = .ok (.ineg, 1)) (hq : pc + 1 = q) (kk : V g X i q lv (.int (-x) :: st) σ) : V g X i pc lv (.int x :: st) σ := by
  subst hq
  intro H locs ls hP hS hl
  have hx := hX.1.1
  have hb := hX.1.2.1
  exact lv_ineg hx hb hdg (kk H locs ls hP hS hl)
theorem V_ladd (hX : OkX g X i) {x y : Int64} (hdg : decode i.cc pc = .ok (.ladd, 1)) (hq : pc + 1 = q) (kk : V g X i q lv (.long (x + y) :: st) σ) : V g X i pc lv (.long y :: .long x :: st) σ := by
  subst hq
  intro H locs ls hP hS hl
  have hx := hX.1.1
  have hb := hX.1.2.1
  exact lv_ladd hx hb hdg (kk H locs ls hP hS hl)
theorem V_lmul (hX : OkX g X i) {x y : Int64} (hdg : decode i.cc pc = .ok (.lmul, 1)) (hq : pc + 1 = q) (kk : V g X i q lv (.long (x * y) :: st) σ) : V g X i pc lv (.long y :: .long x :: st) σ := by
  subst hq
  intro H locs ls hP hS hl
  have hx := hX.1.1
  have hb := hX.1.2.1
  exact lv_lmul hx hb hdg (kk H locs ls hP hS hl)
theorem V_ldiv (hX : OkX g X i) {x y : Int64} (hne : ¬ y = 0) (hdg : decode i.cc pc = .ok (.ldiv, 1)) (hq : pc + 1 = q) (kk : V g X i q lv (.long (x / y) :: st) σ) : V g X i pc lv (.long y :: .long x :: st) σ := by
  subst hq
  intro H locs ls hP hS hl
  have hx := hX.1.1
  have hb := hX.1.2.1
  exact lv_ldiv hx hb hdg hne (kk H locs ls hP hS hl)
theorem V_lrem (hX : OkX g X i) {x y : Int64} (hne : ¬ y = 0) (hdg : decode i.cc pc = .ok (.lrem, 1)) (hq : pc + 1 = q) (kk : V g X i q lv (.long (jlrem x y) :: st) σ) : V g X i pc lv (.long y :: .long x :: st) σ := by
  subst hq
  intro H locs ls hP hS hl
  have hx := hX.1.1
  have hb := hX.1.2.1
  exact lv_lrem hx hb hdg hne (kk H locs ls hP hS hl)
theorem V_lshl (hX : OkX g X i) {x : Int64} {y : Int32} (hdg : decode i.cc pc = .ok (.lshl, 1)) (hq : pc + 1 = q) (kk : V g X i q lv (.long (x <<< (y.toInt64 &&& 63)) :: st) σ) : V g X i pc lv (.int y :: .long x :: st) σ := by
  subst hq
  intro H locs ls hP hS hl
  have hx := hX.1.1
  have hb := hX.1.2.1
  exact lv_lshl hx hb hdg rfl (kk H locs ls hP hS hl)
theorem V_i2l (hX : OkX g X i) {x : Int32} (hdg : decode i.cc pc = .ok (.i2l, 1)) (hq : pc + 1 = q) (kk : V g X i q lv (.long (x.toInt64) :: st) σ) : V g X i pc lv (.int x :: st) σ := by
  subst hq
  intro H locs ls hP hS hl
  have hx := hX.1.1
  have hb := hX.1.2.1
  exact lv_i2l hx hb hdg rfl (kk H locs ls hP hS hl)
theorem V_l2i (hX : OkX g X i) {x : Int64} (hdg : decode i.cc pc = .ok (.l2i, 1)) (hq : pc + 1 = q) (kk : V g X i q lv (.int (x.toInt32) :: st) σ) : V g X i pc lv (.long x :: st) σ := by
  subst hq
  intro H locs ls hP hS hl
  have hx := hX.1.1
  have hb := hX.1.2.1
  exact lv_l2i hx hb hdg rfl (kk H locs ls hP hS hl)
theorem V_i2b (hX : OkX g X i) {x : Int32} (hdg : decode i.cc pc = .ok (.i2b, 1)) (hq : pc + 1 = q) (kk : V g X i q lv (.int (x.toInt8.toInt32) :: st) σ) : V g X i pc lv (.int x :: st) σ := by
  subst hq
  intro H locs ls hP hS hl
  have hx := hX.1.1
  have hb := hX.1.2.1
  exact lv_i2b hx hb hdg rfl (kk H locs ls hP hS hl)
theorem V_i2s (hX : OkX g X i) {x : Int32} (hdg : decode i.cc pc = .ok (.i2s, 1)) (hq : pc + 1 = q) (kk : V g X i q lv (.int (x.toInt16.toInt32) :: st) σ) : V g X i pc lv (.int x :: st) σ := by
  subst hq
  intro H locs ls hP hS hl
  have hx := hX.1.1
  have hb := hX.1.2.1
  exact lv_i2s hx hb hdg rfl (kk H locs ls hP hS hl)
theorem V_i2c (hX : OkX g X i) {x : Int32} (hdg : decode i.cc pc = .ok (.i2c, 1)) (hq : pc + 1 = q) (kk : V g X i q lv (.int ((x.toUInt32 % 65536).toInt32) :: st) σ) : V g X i pc lv (.int x :: st) σ := by
  subst hq
  intro H locs ls hP hS hl
  have hx := hX.1.1
  have hb := hX.1.2.1
  exact lv_i2c hx hb hdg rfl (kk H locs ls hP hS hl)
theorem V_dup (hX : OkX g X i) {va : Value} (hdg : decode i.cc pc = .ok (.dup, 1)) (hva : va.category = 1) (hq : pc + 1 = q) (kk : V g X i q lv (va :: va :: st) σ) : V g X i pc lv (va :: st) σ := by
  subst hq
  intro H locs ls hP hS hl
  have hx := hX.1.1
  have hb := hX.1.2.1
  exact lv_dup hx hb hdg hva (kk H locs ls hP hS hl)
theorem V_pop (hX : OkX g X i) {va : Value} (hdg : decode i.cc pc = .ok (.pop, 1)) (hva : va.category = 1) (hq : pc + 1 = q) (kk : V g X i q lv st σ) : V g X i pc lv (va :: st) σ := by
  subst hq
  intro H locs ls hP hS hl
  have hx := hX.1.1
  have hb := hX.1.2.1
  exact lv_pop hx hb hdg hva (kk H locs ls hP hS hl)
theorem V_ldcw (hX : OkX g X i) {n : Nat} {v : Int32} (hc : (Cond.constant i.own n v : Cond) ∈ gtbl) (hdg : decode i.cc pc = .ok (.ldc_w n, 3)) (hq : pc + 3 = q) (kk : V g X i q lv (.int v :: st) σ) : V g X i pc lv st σ := by
  subst hq
  intro H locs ls hP hS hl
  have hx := hX.1.1
  have hb := hX.1.2.1
  exact lv_ldcw hx hb hX.1.2.2.2.1 (hX.1.2.2.2.2 _ hc) hdg (kk H locs ls hP hS hl)
theorem V_ldc2 (hX : OkX g X i) {n : Nat} {v : Int64} (hc : (Cond.constantLong i.own n v : Cond) ∈ gtbl) (hdg : decode i.cc pc = .ok (.ldc2_w n, 3)) (hq : pc + 3 = q) (kk : V g X i q lv (.long v :: st) σ) : V g X i pc lv st σ := by
  subst hq
  intro H locs ls hP hS hl
  have hx := hX.1.1
  have hb := hX.1.2.1
  exact lv_ldc2 hx hb hX.1.2.2.2.1 (hX.1.2.2.2.2 _ hc) hdg (kk H locs ls hP hS hl)
theorem V_lcmp (hX : OkX g X i) {x y : Int64} (hdg : decode i.cc pc = .ok (.lcmp, 1)) (hq : pc + 1 = q) (kk : V g X i q lv (.int (lg_cmp x y) :: st) σ) : V g X i pc lv (.long y :: .long x :: st) σ := by
  subst hq
  intro H locs ls hP hS hl
  have hx := hX.1.1
  have hb := hX.1.2.1
  exact W.lcmp hx hb hdg (kk H locs ls hP hS hl)
theorem V_gets0 (hX : OkX g X i) {n : Nat} (hi : i.own = RX2) (hlink : (Cond.fieldLink i.own n RX2 "LEAST" "[I" : Cond) ∈ gtbl) (hdg : decode i.cc pc = .ok (.getstatic n, 3)) (hq : pc + 3 = q) (kk : V g X i q lv (.ref (g.tS 0) :: st) σ) : V g X i pc lv st σ := by
  subst hq
  intro H locs ls hP hS hl
  have hx := hX.1.1
  have hb := hX.1.2.1
  exact va_gets hx hb hX.2.2.2.2.2.2.2.1 hS hX.1.2.2.2.1 (hX.1.2.2.2.2 _ hlink) (fun x h => h) hdg (kk H locs ls hP hS hl)
theorem V_gets1 (hX : OkX g X i) {n : Nat} (hi : i.own = RX2) (hlink : (Cond.fieldLink i.own n RX2 "MOST" "[I" : Cond) ∈ gtbl) (hdg : decode i.cc pc = .ok (.getstatic n, 3)) (hq : pc + 3 = q) (kk : V g X i q lv (.ref (g.tS 1) :: st) σ) : V g X i pc lv st σ := by
  subst hq
  intro H locs ls hP hS hl
  have hx := hX.1.1
  have hb := hX.1.2.1
  exact va_gets hx hb hX.2.2.2.2.2.2.2.2.2.1 hS hX.1.2.2.2.1 (hX.1.2.2.2.2 _ hlink) (fun x h => h) hdg (kk H locs ls hP hS hl)
theorem V_tlen0 (hX : OkX g X i) {v : Int32} (hv : Int32.ofNat 3 = v) (hdg : decode i.cc pc = .ok (.arraylength, 1)) (hq : pc + 1 = q) (kk : V g X i q lv (.int v :: st) σ) : V g X i pc lv (.ref (g.tS 0) :: st) σ := by
  subst hq
  intro H locs ls hP hS hl
  have hx := hX.1.1
  have hb := hX.1.2.1
  exact va_tlen hx hb hX.2.2.2.2.2.2.2.2.1 hS hv hdg (kk H locs ls hP hS hl)
theorem V_tld0 (hX : OkX g X i) {j : Int32} (hin : vp_in j 3) (hdg : decode i.cc pc = .ok (.iaload, 1)) (hq : pc + 1 = q) (kk : V g X i q lv (.int (leastF j.toNatClampNeg) :: st) σ) : V g X i pc lv (.int j :: .ref (g.tS 0) :: st) σ := by
  subst hq
  intro H locs ls hP hS hl
  have hx := hX.1.1
  have hb := hX.1.2.1
  exact va_ti hx hb hX.2.2.2.2.2.2.2.2.1 hS hin rfl hdg (kk H locs ls hP hS hl)
theorem V_tlen1 (hX : OkX g X i) {v : Int32} (hv : Int32.ofNat 3 = v) (hdg : decode i.cc pc = .ok (.arraylength, 1)) (hq : pc + 1 = q) (kk : V g X i q lv (.int v :: st) σ) : V g X i pc lv (.ref (g.tS 1) :: st) σ := by
  subst hq
  intro H locs ls hP hS hl
  have hx := hX.1.1
  have hb := hX.1.2.1
  exact va_tlen hx hb hX.2.2.2.2.2.2.2.2.2.2.1 hS hv hdg (kk H locs ls hP hS hl)
theorem V_tld1 (hX : OkX g X i) {j : Int32} (hin : vp_in j 3) (hdg : decode i.cc pc = .ok (.iaload, 1)) (hq : pc + 1 = q) (kk : V g X i q lv (.int (mostF j.toNatClampNeg) :: st) σ) : V g X i pc lv (.int j :: .ref (g.tS 1) :: st) σ := by
  subst hq
  intro H locs ls hP hS hl
  have hx := hX.1.1
  have hb := hX.1.2.1
  exact va_ti hx hb hX.2.2.2.2.2.2.2.2.2.2.1 hS hin rfl hdg (kk H locs ls hP hS hl)
theorem V_ldcS0 (hX : OkX g X i) (hi : i.own = RX8) (hdg : decode i.cc pc = .ok (.ldc 74, 2)) (hq : pc + 2 = q) (kk : V g X i q lv (.ref (g.kS 0) :: st) σ) : V g X i pc lv st σ := by
  subst hq
  intro H locs ls hP hS hl
  have hx := hX.1.1
  have hb := hX.1.2.1
  exact va_ldcS hx hb (hi ▸ hX.1.2.2.2.1) hX.2.2.2.2.2.2.2.2.2.2.2.1.1 hdg (kk H locs ls hP hS hl)
theorem V_ldcS1 (hX : OkX g X i) (hi : i.own = RX1) (hdg : decode i.cc pc = .ok (.ldc 100, 2)) (hq : pc + 2 = q) (kk : V g X i q lv (.ref (g.kS 1) :: st) σ) : V g X i pc lv st σ := by
  subst hq
  intro H locs ls hP hS hl
  have hx := hX.1.1
  have hb := hX.1.2.1
  exact va_ldcS hx hb (hi ▸ hX.1.2.2.2.1) hX.2.2.2.2.2.2.2.2.2.2.2.1.2.1 hdg (kk H locs ls hP hS hl)
theorem V_ldcS2 (hX : OkX g X i) (hi : i.own = RX1) (hdg : decode i.cc pc = .ok (.ldc 93, 2)) (hq : pc + 2 = q) (kk : V g X i q lv (.ref (g.kS 2) :: st) σ) : V g X i pc lv st σ := by
  subst hq
  intro H locs ls hP hS hl
  have hx := hX.1.1
  have hb := hX.1.2.1
  exact va_ldcS hx hb (hi ▸ hX.1.2.2.2.1) hX.2.2.2.2.2.2.2.2.2.2.2.1.2.2 hdg (kk H locs ls hP hS hl)
theorem V_mmax (hX : OkX g X i) {n : Nat} {y x : Int32} (hlink : (Cond.methodLink i.own n Lib.Math.max.name : Cond) ∈ gtbl) (h1 : (Cond.static Lib.Math.max.name : Cond) ∈ gtbl) (h2 : (Cond.initialized "java/lang/Math" : Cond) ∈ gtbl) (h3 : (Cond.code Lib.Math.max.name Lib.Math.max.code 2 (some .int) : Cond) ∈ gtbl) (hr : Nat.ble (st.map fun v => v.category).sum 8 = true) (hdg : decode i.cc pc = .ok (.invokestatic n, 3)) (hq : pc + 3 = q) (kk : V g X i q lv (.int (jmax x y) :: st) σ) : V g X i pc lv (.int y :: .int x :: st) σ := by
  subst hq
  intro H locs ls hP hS hl
  have hx := hX.1.1
  have hb := hX.1.2.1
  exact va_mmax hx hb (hX.1.2.2.1.trans hl.1.symm) hX.1.2.2.2.1 (hX.1.2.2.2.2 _ hlink) (hX.1.2.2.2.2 _ h1) (hX.1.2.2.2.2 _ h2) (hX.1.2.2.2.2 _ h3) (room_math hX hr).1 (room_math hX hr).2 hX.2.2.2.1.2.2.1 hX.2.2.2.1.2.2.2 hdg (kk H locs ls hP hS hl)
theorem V_mmin (hX : OkX g X i) {n : Nat} {y x : Int32} (hlink : (Cond.methodLink i.own n Lib.Math.min.name : Cond) ∈ gtbl) (h1 : (Cond.static Lib.Math.min.name : Cond) ∈ gtbl) (h2 : (Cond.initialized "java/lang/Math" : Cond) ∈ gtbl) (h3 : (Cond.code Lib.Math.min.name Lib.Math.min.code 2 (some .int) : Cond) ∈ gtbl) (hr : Nat.ble (st.map fun v => v.category).sum 8 = true) (hdg : decode i.cc pc = .ok (.invokestatic n, 3)) (hq : pc + 3 = q) (kk : V g X i q lv (.int (jmin x y) :: st) σ) : V g X i pc lv (.int y :: .int x :: st) σ := by
  subst hq
  intro H locs ls hP hS hl
  have hx := hX.1.1
  have hb := hX.1.2.1
  exact va_mmin hx hb (hX.1.2.2.1.trans hl.1.symm) hX.1.2.2.2.1 (hX.1.2.2.2.2 _ hlink) (hX.1.2.2.2.2 _ h1) (hX.1.2.2.2.2 _ h2) (hX.1.2.2.2.2 _ h3) (room_math hX hr).1 (room_math hX hr).2 hX.2.2.2.1.2.2.1 hX.2.2.2.1.2.2.2 hdg (kk H locs ls hP hS hl)
theorem V_mabs (hX : OkX g X i) {n : Nat} {x : Int32} (hlink : (Cond.methodLink i.own n Lib.Math.abs.name : Cond) ∈ gtbl) (h1 : (Cond.static Lib.Math.abs.name : Cond) ∈ gtbl) (h2 : (Cond.initialized "java/lang/Math" : Cond) ∈ gtbl) (h3 : (Cond.code Lib.Math.abs.name Lib.Math.abs.code 1 (some .int) : Cond) ∈ gtbl) (hr : Nat.ble (st.map fun v => v.category).sum 8 = true) (hdg : decode i.cc pc = .ok (.invokestatic n, 3)) (hq : pc + 3 = q) (kk : V g X i q lv (.int (jabs x) :: st) σ) : V g X i pc lv (.int x :: st) σ := by
  subst hq
  intro H locs ls hP hS hl
  have hx := hX.1.1
  have hb := hX.1.2.1
  exact va_mabs hx hb (hX.1.2.2.1.trans hl.1.symm) hX.1.2.2.2.1 (hX.1.2.2.2.2 _ hlink) (hX.1.2.2.2.2 _ h1) (hX.1.2.2.2.2 _ h2) (hX.1.2.2.2.2 _ h3) (room_math hX hr).1 (room_math hX hr).2 hX.2.2.2.1.2.2.1 hX.2.2.2.1.2.2.2 hdg (kk H locs ls hP hS hl)
theorem V_goto (hX : OkX g X i) {off : Int} (hdg : decode i.cc pc = .ok (.goto off, 3)) (ht : (pc : Int) + off = (q : Int)) (kk : V g X i q lv st σ) : V g X i pc lv st σ := by
  intro H locs ls hP hS hl
  exact lv_goto hX.1.1 hX.1.2.1 hdg ht (kk H locs ls hP hS hl)
theorem V_icmp_eq (hX : OkX g X i) {x y : Int32} {off : Int} {t : Nat} (hdg : decode i.cc pc = .ok (.if_icmp .eq off, 3)) (ht : (pc : Int) + off = (t : Int)) (hq : pc + 3 = q) (kt : x = y → V g X i t lv st σ) (kf : ¬ x = y → V g X i q lv st σ) : V g X i pc lv (.int y :: .int x :: st) σ := by
  subst hq
  intro H locs ls hP hS hl
  exact lv_icmp_eq hX.1.1 hX.1.2.1 hdg ht (fun z => kt z H locs ls hP hS hl) (fun z => kf z H locs ls hP hS hl)
theorem V_icmp_ne (hX : OkX g X i) {x y : Int32} {off : Int} {t : Nat} (hdg : decode i.cc pc = .ok (.if_icmp .ne off, 3)) (ht : (pc : Int) + off = (t : Int)) (hq : pc + 3 = q) (kt : ¬ x = y → V g X i t lv st σ) (kf : x = y → V g X i q lv st σ) : V g X i pc lv (.int y :: .int x :: st) σ := by
  subst hq
  intro H locs ls hP hS hl
  exact lv_icmp_ne hX.1.1 hX.1.2.1 hdg ht (fun z => kt z H locs ls hP hS hl) (fun z => kf z H locs ls hP hS hl)
theorem V_icmp_lt (hX : OkX g X i) {x y : Int32} {off : Int} {t : Nat} (hdg : decode i.cc pc = .ok (.if_icmp .lt off, 3)) (ht : (pc : Int) + off = (t : Int)) (hq : pc + 3 = q) (kt : x < y → V g X i t lv st σ) (kf : ¬ x < y → V g X i q lv st σ) : V g X i pc lv (.int y :: .int x :: st) σ := by
  subst hq
  intro H locs ls hP hS hl
  exact lv_icmp_lt hX.1.1 hX.1.2.1 hdg ht (fun z => kt z H locs ls hP hS hl) (fun z => kf z H locs ls hP hS hl)
theorem V_icmp_le (hX : OkX g X i) {x y : Int32} {off : Int} {t : Nat} (hdg : decode i.cc pc = .ok (.if_icmp .le off, 3)) (ht : (pc : Int) + off = (t : Int)) (hq : pc + 3 = q) (kt : x ≤ y → V g X i t lv st σ) (kf : ¬ x ≤ y → V g X i q lv st σ) : V g X i pc lv (.int y :: .int x :: st) σ := by
  subst hq
  intro H locs ls hP hS hl
  exact lv_icmp_le hX.1.1 hX.1.2.1 hdg ht (fun z => kt z H locs ls hP hS hl) (fun z => kf z H locs ls hP hS hl)
theorem V_icmp_gt (hX : OkX g X i) {x y : Int32} {off : Int} {t : Nat} (hdg : decode i.cc pc = .ok (.if_icmp .gt off, 3)) (ht : (pc : Int) + off = (t : Int)) (hq : pc + 3 = q) (kt : y < x → V g X i t lv st σ) (kf : ¬ y < x → V g X i q lv st σ) : V g X i pc lv (.int y :: .int x :: st) σ := by
  subst hq
  intro H locs ls hP hS hl
  exact lv_icmp_gt hX.1.1 hX.1.2.1 hdg ht (fun z => kt z H locs ls hP hS hl) (fun z => kf z H locs ls hP hS hl)
theorem V_icmp_ge (hX : OkX g X i) {x y : Int32} {off : Int} {t : Nat} (hdg : decode i.cc pc = .ok (.if_icmp .ge off, 3)) (ht : (pc : Int) + off = (t : Int)) (hq : pc + 3 = q) (kt : y ≤ x → V g X i t lv st σ) (kf : ¬ y ≤ x → V g X i q lv st σ) : V g X i pc lv (.int y :: .int x :: st) σ := by
  subst hq
  intro H locs ls hP hS hl
  exact lv_icmp_ge hX.1.1 hX.1.2.1 hdg ht (fun z => kt z H locs ls hP hS hl) (fun z => kf z H locs ls hP hS hl)
theorem V_if_eq (hX : OkX g X i) {x : Int32} {off : Int} {t : Nat} (hdg : decode i.cc pc = .ok (.ifCond .eq off, 3)) (ht : (pc : Int) + off = (t : Int)) (hq : pc + 3 = q) (kt : x = 0 → V g X i t lv st σ) (kf : ¬ x = 0 → V g X i q lv st σ) : V g X i pc lv (.int x :: st) σ := by
  subst hq
  intro H locs ls hP hS hl
  exact lv_if_eq hX.1.1 hX.1.2.1 hdg ht (fun z => kt z H locs ls hP hS hl) (fun z => kf z H locs ls hP hS hl)
theorem V_if_ne (hX : OkX g X i) {x : Int32} {off : Int} {t : Nat} (hdg : decode i.cc pc = .ok (.ifCond .ne off, 3)) (ht : (pc : Int) + off = (t : Int)) (hq : pc + 3 = q) (kt : ¬ x = 0 → V g X i t lv st σ) (kf : x = 0 → V g X i q lv st σ) : V g X i pc lv (.int x :: st) σ := by
  subst hq
  intro H locs ls hP hS hl
  exact lv_if_ne hX.1.1 hX.1.2.1 hdg ht (fun z => kt z H locs ls hP hS hl) (fun z => kf z H locs ls hP hS hl)
theorem V_if_lt (hX : OkX g X i) {x : Int32} {off : Int} {t : Nat} (hdg : decode i.cc pc = .ok (.ifCond .lt off, 3)) (ht : (pc : Int) + off = (t : Int)) (hq : pc + 3 = q) (kt : x < 0 → V g X i t lv st σ) (kf : ¬ x < 0 → V g X i q lv st σ) : V g X i pc lv (.int x :: st) σ := by
  subst hq
  intro H locs ls hP hS hl
  exact lv_if_lt hX.1.1 hX.1.2.1 hdg ht (fun z => kt z H locs ls hP hS hl) (fun z => kf z H locs ls hP hS hl)
theorem V_if_le (hX : OkX g X i) {x : Int32} {off : Int} {t : Nat} (hdg : decode i.cc pc = .ok (.ifCond .le off, 3)) (ht : (pc : Int) + off = (t : Int)) (hq : pc + 3 = q) (kt : x ≤ 0 → V g X i t lv st σ) (kf : ¬ x ≤ 0 → V g X i q lv st σ) : V g X i pc lv (.int x :: st) σ := by
  subst hq
  intro H locs ls hP hS hl
  exact lv_if_le hX.1.1 hX.1.2.1 hdg ht (fun z => kt z H locs ls hP hS hl) (fun z => kf z H locs ls hP hS hl)
theorem V_if_gt (hX : OkX g X i) {x : Int32} {off : Int} {t : Nat} (hdg : decode i.cc pc = .ok (.ifCond .gt off, 3)) (ht : (pc : Int) + off = (t : Int)) (hq : pc + 3 = q) (kt : 0 < x → V g X i t lv st σ) (kf : ¬ 0 < x → V g X i q lv st σ) : V g X i pc lv (.int x :: st) σ := by
  subst hq
  intro H locs ls hP hS hl
  exact lv_if_gt hX.1.1 hX.1.2.1 hdg ht (fun z => kt z H locs ls hP hS hl) (fun z => kf z H locs ls hP hS hl)
theorem V_if_ge (hX : OkX g X i) {x : Int32} {off : Int} {t : Nat} (hdg : decode i.cc pc = .ok (.ifCond .ge off, 3)) (ht : (pc : Int) + off = (t : Int)) (hq : pc + 3 = q) (kt : 0 ≤ x → V g X i t lv st σ) (kf : ¬ 0 ≤ x → V g X i q lv st σ) : V g X i pc lv (.int x :: st) σ := by
  subst hq
  intro H locs ls hP hS hl
  exact lv_if_ge hX.1.1 hX.1.2.1 hdg ht (fun z => kt z H locs ls hP hS hl) (fun z => kf z H locs ls hP hS hl)
theorem V_getI (hX : OkX g X i) {n c o k idx nf : Nat} {C : String} {T : u_T} (hc : vwCl[c]? = some (C, T, nf)) (hnf : nfC c = nf) (hin : ∀ w ∈ u_ws C T nf, w ∈ gtbl) (hlink : (Cond.fieldLink i.own idx C (T k).2.1 (T k).2.2.1 : Cond) ∈ gtbl) (hC : (T k).1 = C) (hk : decide (k < nf) = true) (ho : Ob n c o) (hn : n ≤ g.N) (hc10 : decide (c < 10) = true) (hr : isR c k = false) (hdg : decode i.cc pc = .ok (.getfield idx, 3)) (hq : pc + 3 = q) (kk : V g X i q lv (.int (gI σ o k) :: st) σ) : V g X i pc lv (.ref (g.ad o) :: st) σ := by
  subst hq
  intro H locs ls hP hS hl
  have hx := hX.1.1
  have hb := hX.1.2.1
  have hown := hX.1.2.2.2.1
  have hts := hX.1.2.2.2.2
  have hK := hX.2.2.2.2.2.1
  have hD := wsM_D hX.2.2.2.2.1 σ
  refine va_get (C := C) (T := T) (N := nf) hx hb hts hin hown hK hP o (fs := (List.range nf).map (fvl g σ o c)) (by rw [wsM_get (Nat.lt_of_lt_of_le ho.2 hn), cell_ob ho (Nat.le_trans hn hX.2.2.2.2.1.2.2) (of_decide_eq_true hc10) hnf]) hc k (of_decide_eq_true hk) (hts _ hlink) (fun x hx => by rw [hC] at hx; exact hx) (v := .int (gI σ o k)) (by rw [fs_get (of_decide_eq_true hk)]; simp [fvl, hr, gI]) hdg ?_
  exact kk H locs ls hP hS hl
theorem V_getF (hX : OkX g X i) {n c o k idx nf : Nat} {C : String} {r : Nat} {T : u_T} (hc : vwCl[c]? = some (C, T, nf)) (hnf : nfC c = nf) (hin : ∀ w ∈ u_ws C T nf, w ∈ gtbl) (hlink : (Cond.fieldLink i.own idx C (T k).2.1 (T k).2.2.1 : Cond) ∈ gtbl) (hC : (T k).1 = C) (hk : decide (k < nf) = true) (ho : Ob n c o) (hn : n ≤ g.N) (hc10 : decide (c < 10) = true) (hr : isR c k = true) (hm : isM c k = false) (hrf : rf o k = r) (hdg : decode i.cc pc = .ok (.getfield idx, 3)) (hq : pc + 3 = q) (kk : V g X i q lv (.ref (g.ad r) :: st) σ) : V g X i pc lv (.ref (g.ad o) :: st) σ := by
  subst hq
  intro H locs ls hP hS hl
  have hx := hX.1.1
  have hb := hX.1.2.1
  have hown := hX.1.2.2.2.1
  have hts := hX.1.2.2.2.2
  have hK := hX.2.2.2.2.2.1
  have hD := wsM_D hX.2.2.2.2.1 σ
  refine va_get (C := C) (T := T) (N := nf) hx hb hts hin hown hK hP o (fs := (List.range nf).map (fvl g σ o c)) (by rw [wsM_get (Nat.lt_of_lt_of_le ho.2 hn), cell_ob ho (Nat.le_trans hn hX.2.2.2.2.1.2.2) (of_decide_eq_true hc10) hnf]) hc k (of_decide_eq_true hk) (hts _ hlink) (fun x hx => by rw [hC] at hx; exact hx) (v := .ref (g.ad r)) (by rw [fs_get (of_decide_eq_true hk)]; simp [fvl, hr, hm, hrf]) hdg ?_
  exact kk H locs ls hP hS hl
theorem V_getM (hX : OkX g X i) {n c o k idx nf : Nat} {C : String} {T : u_T} (hc : vwCl[c]? = some (C, T, nf)) (hnf : nfC c = nf) (hin : ∀ w ∈ u_ws C T nf, w ∈ gtbl) (hlink : (Cond.fieldLink i.own idx C (T k).2.1 (T k).2.2.1 : Cond) ∈ gtbl) (hC : (T k).1 = C) (hk : decide (k < nf) = true) (ho : Ob n c o) (hn : n ≤ g.N) (hc10 : decide (c < 10) = true) (hr : isR c k = true) (hm : isM c k = true) (hdg : decode i.cc pc = .ok (.getfield idx, 3)) (hq : pc + 3 = q) (kk : V g X i q lv (.ref (g.ad (gR σ o k)) :: st) σ) : V g X i pc lv (.ref (g.ad o) :: st) σ := by
  subst hq
  intro H locs ls hP hS hl
  have hx := hX.1.1
  have hb := hX.1.2.1
  have hown := hX.1.2.2.2.1
  have hts := hX.1.2.2.2.2
  have hK := hX.2.2.2.2.2.1
  have hD := wsM_D hX.2.2.2.2.1 σ
  refine va_get (C := C) (T := T) (N := nf) hx hb hts hin hown hK hP o (fs := (List.range nf).map (fvl g σ o c)) (by rw [wsM_get (Nat.lt_of_lt_of_le ho.2 hn), cell_ob ho (Nat.le_trans hn hX.2.2.2.2.1.2.2) (of_decide_eq_true hc10) hnf]) hc k (of_decide_eq_true hk) (hts _ hlink) (fun x hx => by rw [hC] at hx; exact hx) (v := .ref (g.ad (gR σ o k))) (by rw [fs_get (of_decide_eq_true hk)]; simp [fvl, hr, hm, gR]) hdg ?_
  exact kk H locs ls hP hS hl
theorem V_putI (hX : OkX g X i) {n c o k idx nf : Nat} {C : String} {x : Int32} {ty : FieldType} {T : u_T} (hc : vwCl[c]? = some (C, T, nf)) (hnf : nfC c = nf) (hin : ∀ w ∈ u_ws C T nf, w ∈ gtbl) (hlink : (Cond.fieldLink i.own idx C (T k).2.1 (T k).2.2.1 : Cond) ∈ gtbl) (hC : (T k).1 = C) (hk : decide (k < nf) = true) (ho : Ob n c o) (hn : n ≤ g.N) (hc10 : decide (c < 10) = true) (ty0 : Nat → FieldType) (hty : ∀ k, k < nf → parseFieldDescriptor (T k).2.2.1 = some (ty0 k)) (hnm : ∀ a, a < nf → ∀ b, b < nf → a ≠ b → (T a).2.1 ≠ (T b).2.1) (hfin : (T k).2.2.2 = false) (hr : isR c k = false) (hd : parseFieldDescriptor (T k).2.2.1 = some ty) (hnr : narrow ty (.int x) = .int x) (hft : fits ty (.int x) = true) (hdg : decode i.cc pc = .ok (.putfield idx, 3)) (hq : pc + 3 = q) (kk : V g X i q lv st (sI σ o k x)) : V g X i pc lv (.int x :: .ref (g.ad o) :: st) σ := by
  subst hq
  intro H locs ls hP hS hl
  have hx := hX.1.1
  have hb := hX.1.2.1
  have hown := hX.1.2.2.2.1
  have hts := hX.1.2.2.2.2
  have hK := hX.2.2.2.2.2.1
  have hD := wsM_D hX.2.2.2.2.1 σ
  refine va_put (C := C) (T := T) (N := nf) hx hb hts hin ty0 hty hnm hown hK hP hD hS o (fs := (List.range nf).map (fvl g σ o c)) (by rw [wsM_get (Nat.lt_of_lt_of_le ho.2 hn), cell_ob ho (Nat.le_trans hn hX.2.2.2.2.1.2.2) (of_decide_eq_true hc10) hnf]) hc k (of_decide_eq_true hk) (hts _ hlink) (fun x hx => by rw [hC] at hx; exact hx) hfin (ty := ty) hd hnr hft (by simpa using of_decide_eq_true hk) hdg (fun H1 locs1 hP1 _ hS1 => ?_)
  rw [set_int ho hn hX.2.2.2.2.1.2.2 (of_decide_eq_true hc10) hnf hr] at hP1
  exact kk H1 locs1 ls hP1 hS1 hl
theorem V_putM (hX : OkX g X i) {n c o k idx nf : Nat} {C : String} {r : Nat} {ty : FieldType} {T : u_T} (hc : vwCl[c]? = some (C, T, nf)) (hnf : nfC c = nf) (hin : ∀ w ∈ u_ws C T nf, w ∈ gtbl) (hlink : (Cond.fieldLink i.own idx C (T k).2.1 (T k).2.2.1 : Cond) ∈ gtbl) (hC : (T k).1 = C) (hk : decide (k < nf) = true) (ho : Ob n c o) (hn : n ≤ g.N) (hc10 : decide (c < 10) = true) (ty0 : Nat → FieldType) (hty : ∀ k, k < nf → parseFieldDescriptor (T k).2.2.1 = some (ty0 k)) (hnm : ∀ a, a < nf → ∀ b, b < nf → a ≠ b → (T a).2.1 ≠ (T b).2.1) (hfin : (T k).2.2.2 = false) (hr : isR c k = true) (hm : isM c k = true) (hd : parseFieldDescriptor (T k).2.2.1 = some ty) (hnr : narrow ty (.ref (g.ad r)) = .ref (g.ad r)) (hft : fits ty (.ref (g.ad r)) = true) (hdg : decode i.cc pc = .ok (.putfield idx, 3)) (hq : pc + 3 = q) (kk : V g X i q lv st (sR σ o k r)) : V g X i pc lv (.ref (g.ad r) :: .ref (g.ad o) :: st) σ := by
  subst hq
  intro H locs ls hP hS hl
  have hx := hX.1.1
  have hb := hX.1.2.1
  have hown := hX.1.2.2.2.1
  have hts := hX.1.2.2.2.2
  have hK := hX.2.2.2.2.2.1
  have hD := wsM_D hX.2.2.2.2.1 σ
  refine va_put (C := C) (T := T) (N := nf) hx hb hts hin ty0 hty hnm hown hK hP hD hS o (fs := (List.range nf).map (fvl g σ o c)) (by rw [wsM_get (Nat.lt_of_lt_of_le ho.2 hn), cell_ob ho (Nat.le_trans hn hX.2.2.2.2.1.2.2) (of_decide_eq_true hc10) hnf]) hc k (of_decide_eq_true hk) (hts _ hlink) (fun x hx => by rw [hC] at hx; exact hx) hfin (ty := ty) hd hnr hft (by simpa using of_decide_eq_true hk) hdg (fun H1 locs1 hP1 _ hS1 => ?_)
  rw [set_ref ho hn hX.2.2.2.2.1.2.2 (of_decide_eq_true hc10) hnf hr hm] at hP1
  exact kk H1 locs1 ls hP1 hS1 hl
theorem V_iald (hX : OkX g X i) {n len o : Nat} {j : Int32} (ho : Ar n len o) (hn : n ≤ g.N) (hin : vp_in j len) (hdg : decode i.cc pc = .ok (.iaload, 1)) (hq : pc + 1 = q) (kk : V g X i q lv (.int (gI σ o j.toNatClampNeg) :: st) σ) : V g X i pc lv (.int j :: .ref (g.ad o) :: st) σ := by
  subst hq
  intro H locs ls hP hS hl
  have hx := hX.1.1
  have hb := hX.1.2.1
  have hown := hX.1.2.2.2.1
  have hts := hX.1.2.2.2.2
  have hK := hX.2.2.2.2.2.1
  have hD := wsM_D hX.2.2.2.2.1 σ
  refine va_iald hx hb hK hP o 0 (cA := g.cA 10) (n := len) (f := σ.1 o) (by rw [wsM_get (Nat.lt_of_lt_of_le ho.2.2 hn), cell_ar ho.1 ho.2.1]) rfl hin hdg ?_
  exact kk H locs ls hP hS hl
theorem V_iast (hX : OkX g X i) {n len o : Nat} {j x : Int32} (ho : Ar n len o) (hn : n ≤ g.N) (hin : vp_in j len) (hdg : decode i.cc pc = .ok (.iastore, 1)) (hq : pc + 1 = q) (kk : V g X i q lv st (sI σ o j.toNatClampNeg x)) : V g X i pc lv (.int x :: .int j :: .ref (g.ad o) :: st) σ := by
  subst hq
  intro H locs ls hP hS hl
  have hx := hX.1.1
  have hb := hX.1.2.1
  have hown := hX.1.2.2.2.1
  have hts := hX.1.2.2.2.2
  have hK := hX.2.2.2.2.2.1
  have hD := wsM_D hX.2.2.2.2.1 σ
  refine va_iast hx hb hK hP hD hS o 0 (cA := g.cA 10) (n := len) (f := σ.1 o) (by rw [wsM_get (Nat.lt_of_lt_of_le ho.2.2 hn), cell_ar ho.1 ho.2.1]) rfl hin hdg (fun H1 locs1 hP1 _ hS1 => ?_)
  rw [set_arr ho hn] at hP1
  exact kk H1 locs1 ls hP1 hS1 hl
theorem V_alen (hX : OkX g X i) {n len o : Nat} {v : Int32} (ho : Ar n len o) (hn : n ≤ g.N) (hv : Int32.ofNat len = v) (hdg : decode i.cc pc = .ok (.arraylength, 1)) (hq : pc + 1 = q) (kk : V g X i q lv (.int v :: st) σ) : V g X i pc lv (.ref (g.ad o) :: st) σ := by
  subst hq
  intro H locs ls hP hS hl
  have hx := hX.1.1
  have hb := hX.1.2.1
  have hown := hX.1.2.2.2.1
  have hts := hX.1.2.2.2.2
  have hK := hX.2.2.2.2.2.1
  have hD := wsM_D hX.2.2.2.2.1 σ
  refine va_alen hx hb hK hP o 0 (cA := g.cA 10) (by rw [wsM_get (Nat.lt_of_lt_of_le ho.2.2 hn), cell_ar ho.1 ho.2.1]) rfl hv hdg ?_
  exact kk H locs ls hP hS hl
theorem V_alenR (hX : OkX g X i) {n c len o : Nat} {C : String} {v : Int32} (ho : Ra n c len o) (hn : n ≤ g.N) (hc : decide (10 < c) = true) (t0 : Nat) (ht : (tysG g)[t0]? = some (g.cA c, .object C)) (hv : Int32.ofNat len = v) (hdg : decode i.cc pc = .ok (.arraylength, 1)) (hq : pc + 1 = q) (kk : V g X i q lv (.int v :: st) σ) : V g X i pc lv (.ref (g.ad o) :: st) σ := by
  subst hq
  intro H locs ls hP hS hl
  have hx := hX.1.1
  have hb := hX.1.2.1
  have hown := hX.1.2.2.2.1
  have hts := hX.1.2.2.2.2
  have hK := hX.2.2.2.2.2.1
  have hD := wsM_D hX.2.2.2.2.1 σ
  refine va_alen hx hb hK hP o t0 (cA := g.cA c) (by rw [wsM_get (Nat.lt_of_lt_of_le ho.2.2 hn), cell_ra ho.1 (of_decide_eq_true hc) ho.2.1]) ht hv hdg ?_
  exact kk H locs ls hP hS hl
theorem V_aald (hX : OkX g X i) {n c len o : Nat} {C : String} {j : Int32} (ho : Ra n c len o) (hn : n ≤ g.N) (hc : decide (10 < c) = true) (t0 : Nat) (ht : (tysG g)[t0]? = some (g.cA c, .object C)) (hin : vp_in j len) (hdg : decode i.cc pc = .ok (.aaload, 1)) (hq : pc + 1 = q) (kk : V g X i q lv (.ref (g.ad (rf o j.toNatClampNeg)) :: st) σ) : V g X i pc lv (.int j :: .ref (g.ad o) :: st) σ := by
  subst hq
  intro H locs ls hP hS hl
  have hx := hX.1.1
  have hb := hX.1.2.1
  have hown := hX.1.2.2.2.1
  have hts := hX.1.2.2.2.2
  have hK := hX.2.2.2.2.2.1
  have hD := wsM_D hX.2.2.2.2.1 σ
  refine va_aldq hx hb hK hP o t0 (cA := g.cA c) (C := C) (n := len) (f := fun i => some (g.ad (rf o i))) (by rw [wsM_get (Nat.lt_of_lt_of_le ho.2.2 hn), cell_ra ho.1 (of_decide_eq_true hc) ho.2.1]) ht hin hdg ?_
  exact kk H locs ls hP hS hl
end RULES
