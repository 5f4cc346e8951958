/-! Constructors: a world of the first n objects, which grows; object o lies at the address lo + o. -/
def put (cf : Nat → va_E) (o : Nat) (e : va_E) : Nat → va_E := fun i => if i = o then e else cf i
def wsN (g : GT) (n : Nat) (cf : Nat → va_E) : va_W := (List.range n).map fun o => (g.ad o, cf o)
def Lin (g : GT) : Prop := ∀ o, o < 95 → g.ad o = g.lo + o
def FxC (g : GT) (U : State) (H : Heap) : Prop := Fx g U H ∧ va_AO RX7 U ∧ va_AO RX6 U ∧ va_AO RX3 U
theorem FxC.warm {g : GT} {s U : State} {H : Heap} (hW : s.WarmedH U.vm) (h : FxC g s H) : FxC g U H := ⟨h.1.warm hW, h.2.1.moved hW.alike, h.2.2.1.moved hW.alike, h.2.2.2.moved hW.alike⟩
theorem FxC.kept {g : GT} {U : State} {H H1 : Heap} (h : FxC g U H) (hq : ∀ a : Nat, a < H.size → ¬ g.A a → H1[a]? = H[a]?) : FxC g U H1 := ⟨h.1.kept hq, h.2⟩
theorem FxC.same {g : GT} {u U : State} {H : Heap} (hv : U.vm = u.vm) (h : FxC g u H) : FxC g U H := ⟨h.1.same hv, h.2.1.moved (hv ▸ Vm.Alike.refl _), h.2.2.1.moved (hv ▸ Vm.Alike.refl _), h.2.2.2.moved (hv ▸ Vm.Alike.refl _)⟩
def WorldN (g : GT) (n : Nat) (cf : Nat → va_E) (U : State) : Prop := va_P g.D vwCl (wsN g n cf) U.heap ∧ U.heap.size ≤ g.lo + n ∧ FxC g U U.heap ∧ g.lo ≤ U.heap.size
theorem wsN_get {g : GT} {cf : Nat → va_E} {n o : Nat} (h : o < n) : (wsN g n cf)[o]? = some (g.ad o, cf o) := by
  simp [wsN, List.getElem?_map, List.getElem?_range h]
theorem wsN_inv {g : GT} {n : Nat} {cf : Nat → va_E} {o : Nat} {q : Nat × va_E} (h : (wsN g n cf)[o]? = some q) : o < n ∧ q = (g.ad o, cf o) := by
  have hl : o < n := by
    have := (List.getElem?_eq_some_iff.mp h).1
    simpa [wsN] using this
  rw [wsN_get hl] at h
  exact ⟨hl, (Option.some.inj h).symm⟩
theorem wsN_D {g : GT} {n : Nat} (hL : Lin g) (hn : n ≤ 95) (cf : Nat → va_E) : va_D g.A (wsN g n cf) := by
  refine ⟨fun i j p q hi hj e => ?_, fun k q hk => ?_⟩
  · obtain ⟨h1, rfl⟩ := wsN_inv hi
    obtain ⟨h2, rfl⟩ := wsN_inv hj
    have e : g.ad i = g.ad j := e
    rw [hL i (by omega), hL j (by omega)] at e
    omega
  · obtain ⟨h1, rfl⟩ := wsN_inv hk
    show g.lo ≤ g.ad k
    rw [hL k (by omega)]
    omega
theorem wsN_set {g : GT} {n : Nat} {cf : Nat → va_E} {o : Nat} {e : va_E} (ho : o < n) : (wsN g n cf).set o (g.ad o, e) = wsN g n (put cf o e) := by
  apply List.ext_getElem?
  intro i
  by_cases hi : i = o
  · subst hi
    rw [List.getElem?_set_self (by simpa [wsN] using ho), wsN_get ho]
    simp [put]
  · rw [List.getElem?_set_ne (fun q => hi q.symm)]
    by_cases hl : i < n
    · rw [wsN_get hl, wsN_get hl]; simp [put, hi]
    · rw [List.getElem?_eq_none (by simpa [wsN] using Nat.le_of_not_lt hl), List.getElem?_eq_none (by simpa [wsN] using Nat.le_of_not_lt hl)]
theorem wsN_push {g : GT} {n : Nat} {cf : Nat → va_E} {e : va_E} : wsN g n cf ++ [(g.ad n, e)] = wsN g (n + 1) (put cf n e) := by
  unfold wsN
  rw [List.range_succ, List.map_append]
  congr 1
  · apply List.map_congr_left
    intro a ha
    have : a < n := List.mem_range.mp ha
    simp [put, Nat.ne_of_lt this]
  · simp [put]
/-- the fresh address is the next one -/
theorem next_ad {g : GT} {D : va_G} {cl : List vw_C} {n q : Nat} {cf : Nat → va_E} {e : va_E} {H1 : Heap} (hL : Lin g) (hn : n + 1 ≤ 95) (hP : va_P D cl (wsN g n cf ++ [(q, e)]) H1) (hD : va_D g.A (wsN g n cf ++ [(q, e)])) (hs : H1.size ≤ g.lo + (n + 1)) : q = g.ad n := by
  have hlen : (wsN g n cf).length = n := by simp [wsN]
  have hq : (wsN g n cf ++ [(q, e)])[n]? = some (q, e) := by rw [List.getElem?_append_right (by omega), hlen]; simp
  have h1 : q < H1.size := (hP n _ hq).lt
  have h2 : g.lo ≤ q := hD.2 n _ hq
  rw [hL n (by omega)]
  have h3 : ¬ q < g.lo + n := by
    intro h
    have ho : q - g.lo < n := by omega
    have hi : (wsN g n cf ++ [(q, e)])[q - g.lo]? = some (g.ad (q - g.lo), cf (q - g.lo)) := by rw [List.getElem?_append_left (by omega), wsN_get ho]
    have := hD.1 _ _ _ _ hi hq (by show g.ad _ = q; rw [hL _ (by omega)]; omega)
    omega
  omega
def OkC (g : GT) (X : XT) (i : MI) (n0 mc ms : Nat) : Prop :=
  CallFix X.p X.m X.c i.cc i.nL X.s X.args gtbl i.own ∧ X.meth.locks = false ∧ X.meth.sig.returnType = i.ret ∧
  (i.lv + 1 ≤ X.R.frames ∧ 40 * (i.lv + 1) ≤ X.R.locals ∧ X.R.cells = mc ∧ X.R.slots = ms) ∧ OkG g ∧ Lin g ∧ FxC g X.s X.s.heap ∧ X.s.heap.size ≤ g.lo + n0 ∧ g.lo ≤ X.s.heap.size
def GV (g : GT) (X : XT) (i : MI) (pc : Nat) (lv : List (Nat × Value)) (st : List Value) (n : Nat) (cf : Nat → va_E) (k sl : Nat) : Prop :=
  ∀ (H : Heap) (locs : List Loc) (ls : Array Slot), va_P g.D vwCl (wsN g n cf) H → va_S g.A X.s.heap H locs → lv_has ls i.nL lv → W X.p X.l X.e X.R X.s X.m X.args X.below X.meth X.c H locs k sl X.Q (F0 X.m pc ls st)
theorem W_bound {p : Program} {l : Launch} {e : Env} {R : Room} {s : State} {m : MethodId} {args : Array Value} {below : List Frame} {meth : Method} {c : Code} {H : Heap} {locs : List Loc} {cells slots : Nat} {Q : State → Prop} {f : JFrame}
    (k : H.size ≤ s.heap.size + cells → W p l e R s m args below meth c H locs cells slots Q f) : W p l e R s m args below meth c H locs cells slots Q f := fun T hT X => k (by rw [← hT]; exact X.same.2.2.1) T hT X
theorem vaRA_eq {U : State} {ty : FieldType} {a b : ClassId} (ha : va_RA U a ty) (hb : va_RA U b ty) : a = b := by
  cases ty with
  | object C =>
    obtain ⟨_, _, -, -, -, h1⟩ := ha
    obtain ⟨_, _, -, -, -, h2⟩ := hb
    exact Option.some.inj (h1.symm.trans h2)
  | _ => exact Option.some.inj (ha.symm.trans hb)
section GRULES
variable {g : GT} {X : XT} {i j : MI} {pc q n0 mc ms n k sl : Nat} {lv lv' : List (Nat × Value)} {st st0 : List Value} {cf cf' : Nat → va_E}
theorem GV.pick (ks : List Nat) (h : lv_pick lv ks = lv') (kk : GV g X i pc lv' st n cf k sl) : GV g X i pc lv st n cf k sl := fun H locs ls hP hS hl => kk H locs ls hP hS (lv_sub hl ks h)
theorem G_iconst (hX : OkC g X i n0 mc ms) {z : Int} {v : Int32} (hdg : decode i.cc pc = .ok (.iconst z, 1)) (hv : Int32.ofInt z = v) (hq : pc + 1 = q) (kk : GV g X i q lv (.int v :: st) n cf k sl) : GV g X i pc lv st n cf k sl := by
  subst hq
  intro H locs ls hP hS hl
  have hx := hX.1.1
  have hb := hX.1.2.1
  exact lv_iconst hx hb hdg hv (kk H locs ls hP hS hl)
theorem G_bipush (hX : OkC g X i n0 mc ms) {z : Int} {v : Int32} (hdg : decode i.cc pc = .ok (.bipush z, 2)) (hv : (Int8.ofInt z).toInt32 = v) (hq : pc + 2 = q) (kk : GV g X i q lv (.int v :: st) n cf k sl) : GV g X i pc lv st n cf k sl := by
  subst hq
  intro H locs ls hP hS hl
  have hx := hX.1.1
  have hb := hX.1.2.1
  exact lv_bipush hx hb hdg hv (kk H locs ls hP hS hl)
theorem G_sipush (hX : OkC g X i n0 mc ms) {z : Int} {v : Int32} (hdg : decode i.cc pc = .ok (.sipush z, 3)) (hv : (Int16.ofInt z).toInt32 = v) (hq : pc + 3 = q) (kk : GV g X i q lv (.int v :: st) n cf k sl) : GV g X i pc lv st n cf k sl := by
  subst hq
  intro H locs ls hP hS hl
  have hx := hX.1.1
  have hb := hX.1.2.1
  exact lv_sipush hx hb hdg hv (kk H locs ls hP hS hl)
theorem G_iload_n (hX : OkC g X i n0 mc ms) {z : Fin 4} {x : Int32} (hdg : decode i.cc pc = .ok (.iload_n z, 1)) (p : Nat) (hk : lv[p]? = some (z.val, .int x)) (hq : pc + 1 = q) (kk : GV g X i q lv (.int x :: st) n cf k sl) : GV g X i pc lv st n cf k sl := by
  subst hq
  intro H locs ls hP hS hl
  have hx := hX.1.1
  have hb := hX.1.2.1
  exact lv_iload_n hx hb hdg rfl (lv_at hl p hk) (kk H locs ls hP hS hl)
theorem G_aload_n (hX : OkC g X i n0 mc ms) {z : Fin 4} {x : Nat} (hdg : decode i.cc pc = .ok (.aload_n z, 1)) (p : Nat) (hk : lv[p]? = some (z.val, .ref x)) (hq : pc + 1 = q) (kk : GV g X i q lv (.ref x :: st) n cf k sl) : GV g X i pc lv st n cf k sl := by
  subst hq
  intro H locs ls hP hS hl
  have hx := hX.1.1
  have hb := hX.1.2.1
  exact lv_aload_n hx hb hdg rfl (lv_at hl p hk) (kk H locs ls hP hS hl)
theorem G_istore_n (hX : OkC g X i n0 mc ms) {z : Fin 4} {x : Int32} (hdg : decode i.cc pc = .ok (.istore_n z, 1)) (hn : decide (z.val < i.nL) = true) (hl0 : (z.val, Value.int x) :: lv.filter (fun q => !(q.1 == z.val) && !(q.1 + 1 == z.val && q.2.category == 2)) = lv') (hq : pc + 1 = q) (kk : GV g X i q lv' st n cf k sl) : GV g X i pc lv (.int x :: st) n cf k sl := by
  subst hq
  intro H locs ls hP hS hl
  have hx := hX.1.1
  have hb := hX.1.2.1
  exact lv_istore_n hx hb hdg rfl hl (of_decide_eq_true hn) hl0 (fun ls2 hl2 => kk H locs ls2 hP hS hl2)
theorem G_astore_n (hX : OkC g X i n0 mc ms) {z : Fin 4} {x : Nat} (hdg : decode i.cc pc = .ok (.astore_n z, 1)) (hn : decide (z.val < i.nL) = true) (hl0 : (z.val, Value.ref x) :: lv.filter (fun q => !(q.1 == z.val) && !(q.1 + 1 == z.val && q.2.category == 2)) = lv') (hq : pc + 1 = q) (kk : GV g X i q lv' st n cf k sl) : GV g X i pc lv (.ref x :: st) n cf k sl := by
  subst hq
  intro H locs ls hP hS hl
  have hx := hX.1.1
  have hb := hX.1.2.1
  exact lv_astore_n hx hb hdg rfl hl (of_decide_eq_true hn) hl0 (fun ls2 hl2 => kk H locs ls2 hP hS hl2)
theorem G_iinc (hX : OkC g X i n0 mc ms) {jj : Nat} {z : Int} {x v : Int32} (hdg : decode i.cc pc = .ok (.iinc jj z, 3)) (p : Nat) (hk : lv[p]? = some (jj, .int x)) (hv : x + Int32.ofInt z = v) (hn : decide (jj < i.nL) = true) (hl0 : (jj, Value.int v) :: lv.filter (fun q => !(q.1 == jj) && !(q.1 + 1 == jj && q.2.category == 2)) = lv') (hq : pc + 3 = q) (kk : GV g X i q lv' st n cf k sl) : GV g X i pc lv st n cf k sl := by
  subst hq
  intro H locs ls hP hS hl
  have hx := hX.1.1
  have hb := hX.1.2.1
  exact lv_iinc hx hb hdg hl hk hv (of_decide_eq_true hn) hl0 (fun ls2 hl2 => kk H locs ls2 hP hS hl2)
theorem G_dup (hX : OkC g X i n0 mc ms) {va : Value} (hdg : decode i.cc pc = .ok (.dup, 1)) (hva : va.category = 1) (hq : pc + 1 = q) (kk : GV g X i q lv (va :: va :: st) n cf k sl) : GV g X i pc lv (va :: st) n cf k sl := by
  subst hq
  intro H locs ls hP hS hl
  have hx := hX.1.1
  have hb := hX.1.2.1
  exact lv_dup hx hb hdg hva (kk H locs ls hP hS hl)
theorem G_goto (hX : OkC g X i n0 mc ms) {off : Int} (hdg : decode i.cc pc = .ok (.goto off, 3)) (ht : (pc : Int) + off = (q : Int)) (kk : GV g X i q lv st n cf k sl) : GV g X i pc lv st n cf k sl := by
  intro H locs ls hP hS hl
  exact lv_goto hX.1.1 hX.1.2.1 hdg ht (kk H locs ls hP hS hl)
theorem G_icmp_ge (hX : OkC g X i n0 mc ms) {x y : Int32} {off : Int} {t : Nat} (hdg : decode i.cc pc = .ok (.if_icmp .ge off, 3)) (ht : (pc : Int) + off = (t : Int)) (hq : pc + 3 = q) (kt : y ≤ x → GV g X i t lv st n cf k sl) (kf : ¬ y ≤ x → GV g X i q lv st n cf k sl) : GV g X i pc lv (.int y :: .int x :: st) n cf k sl := by
  subst hq
  intro H locs ls hP hS hl
  exact lv_icmp_ge hX.1.1 hX.1.2.1 hdg ht (fun z => kt z H locs ls hP hS hl) (fun z => kf z H locs ls hP hS hl)
theorem G_obj (hX : OkC g X i n0 mc ms) {idx o : Nat} (hlk : (Cond.methodLink i.own idx Lib.objectInit : Cond) ∈ gtbl) (hr : Nat.ble (st.map fun v => v.category).sum 8 = true) (hdg : decode i.cc pc = .ok (.invokespecial idx, 3)) (hq : pc + 3 = q) (kk : GV g X i q lv st n cf k sl) : GV g X i pc lv (.ref o :: st) n cf k sl := by
  subst hq
  intro H locs ls hP hS hl
  have h5 := hX.2.2.2.1.2.1
  have h6 := lv_room (pc := pc) (m := X.m) (ls := ls) (rest := (.ref o :: st)) (Nat.le_of_ble_eq_true hr)
  refine W.objInit hX.1.1 hX.1.2.1 hX.1.2.2.2.1 (hX.1.2.2.2.2 _ hlk) (hX.1.2.2.2.2 _ k1_25) (hX.1.2.2.2.2 _ k1_26) rfl (hl.1.trans hX.1.2.2.1.symm) rfl hdg (by have := hX.2.2.2.1.1; omega) (by omega) ?_
  exact kk H locs ls hP hS hl
theorem G_new (hX : OkC g X i n0 mc ms) {c idx nf : Nat} {C : String} {T : u_T} {fs : List Value} (ty : Nat → FieldType) (hty : ∀ k, k < nf → parseFieldDescriptor (T k).2.2.1 = some (ty k)) (hc : vwCl[c]? = some (C, T, nf)) (hin : ∀ w ∈ u_ws C T nf, w ∈ gtbl) (h1 : (Cond.classLink i.own idx C : Cond) ∈ gtbl) (h2 : (Cond.instantiable C nf : Cond) ∈ gtbl) (h3 : (Cond.initialized C : Cond) ∈ gtbl)
    (hfs : ∀ j, j < nf → defaultValue (ty j) = vp_V fs j) (hb : decide (n + 1 ≤ 95 ∧ k + 1 ≤ mc ∧ sl + nf ≤ ms ∧ n0 + k = n) = true) (hdg : decode i.cc pc = .ok (.new idx, 3)) (hq : pc + 3 = q)
    (kk : GV g X i q lv (.ref (g.ad n) :: st) (n + 1) (put cf n (.inr (c, fs))) (k + 1) (sl + nf)) : GV g X i pc lv st n cf k sl := by
  subst hq
  obtain ⟨b1, b2, b3, b4⟩ := of_decide_eq_true hb
  intro H locs ls hP hS hl
  refine va_new hX.1.1 hX.1.2.1 hX.1.2.2.2.2 hin ty hty hX.1.2.2.2.1 (hX.1.2.2.2.2 _ h1) (hX.1.2.2.2.2 _ h2) (hX.1.2.2.2.2 _ h3) hX.2.2.2.2.2.2.1.1.1 hP (wsN_D hX.2.2.2.2.2.1 (by omega) cf) hS (fun a ha => Nat.le_trans hX.2.2.2.2.2.2.2.2 ha) hc hfs (by rw [hX.2.2.2.1.2.2.1]; exact b2) (by rw [hX.2.2.2.1.2.2.2]; exact b3) hdg (fun a H1 hP1 hD1 hS1 => ?_)
  refine W_bound fun hs => ?_
  have hs2 := hX.2.2.2.2.2.2.2.1
  have e := next_ad hX.2.2.2.2.2.1 b1 hP1 hD1 (by omega)
  subst e
  rw [wsN_push] at hP1
  exact kk H1 locs ls hP1 hS1 hl
theorem G_newa (hX : OkC g X i n0 mc ms) {len : Nat} {z : Int32} (hz : ¬ z < 0 ∧ z.toNatClampNeg = len) (hb : decide (n + 1 ≤ 95 ∧ k + 1 ≤ mc ∧ sl + len ≤ ms ∧ n0 + k = n ∧ len ≤ 2000) = true) (hdg : decode i.cc pc = .ok (.newarray .int, 2)) (hq : pc + 2 = q)
    (kk : GV g X i q lv (.ref (g.ad n) :: st) (n + 1) (put cf n (.inl (g.cA 10, len, .inl (fun _ => 0)))) (k + 1) (sl + len)) : GV g X i pc lv (.int z :: st) n cf k sl := by
  subst hq
  obtain ⟨b1, b2, b3, b4, b5⟩ := of_decide_eq_true hb
  intro H locs ls hP hS hl
  refine va_newa (atype := .int) (ty := .int) (a0 := (len, .inl (fun _ => 0))) hX.1.1 hX.1.2.1 (hX.1.2.2.2.2 _ (mem_g (mem_t1 (List.mem_of_getElem? (i := 112) (by decide +kernel))) rfl : (Cond.arrayClass .int : Cond) ∈ gtbl)) rfl hX.2.2.2.2.2.2.1.1.1 hP (wsN_D hX.2.2.2.2.2.1 (by omega) cf) hS (fun a ha => Nat.le_trans hX.2.2.2.2.2.2.2.2 ha) (fun _ => rfl) hz.1 hz.2 (by show len * 4 ≤ _; omega) (by rw [hX.2.2.2.1.2.2.1]; exact b2) (by rw [hX.2.2.2.1.2.2.2]; exact b3) hdg (fun a cA H1 hK1 hP1 hD1 hS1 => ?_)
  refine W_bound fun hs => ?_
  have hs2 := hX.2.2.2.2.2.2.2.1
  have e := next_ad hX.2.2.2.2.2.1 b1 hP1 hD1 (by omega)
  subst e
  have e2 : cA = g.cA 10 := vaRA_eq (U := X.s) (ty := .int) ((hK1.2 4 (cA, .int) rfl).2) ((hX.2.2.2.2.2.2.1.1.1.2 0 (g.cA 10, .int) rfl).2)
  subst e2
  rw [wsN_push] at hP1
  exact kk H1 locs ls hP1 hS1 hl
theorem G_anew (hX : OkC g X i n0 mc ms) {c t0 idx len : Nat} {C : String} {z : Int32} (hao : va_AO C X.s) (ht : (tysG g)[t0]? = some (g.cA c, .object C)) (h1 : (Cond.classLink i.own idx C : Cond) ∈ gtbl) (hz : ¬ z < 0 ∧ z.toNatClampNeg = len) (hb : decide (n + 1 ≤ 95 ∧ k + 1 ≤ mc ∧ sl + len ≤ ms ∧ n0 + k = n ∧ len ≤ 2000) = true) (hdg : decode i.cc pc = .ok (.anewarray idx, 3)) (hq : pc + 3 = q)
    (kk : GV g X i q lv (.ref (g.ad n) :: st) (n + 1) (put cf n (.inl (g.cA c, len, .inr (.inr (.inr (.inr (fun _ => none))))))) (k + 1) (sl + len)) : GV g X i pc lv (.int z :: st) n cf k sl := by
  subst hq
  obtain ⟨b1, b2, b3, b4, b5⟩ := of_decide_eq_true hb
  intro H locs ls hP hS hl
  refine va_newq hX.1.1 hX.1.2.1 hX.1.2.2.2.1 (hX.1.2.2.2.2 _ h1) hao hX.2.2.2.2.2.2.1.1.1 hP (wsN_D hX.2.2.2.2.2.1 (by omega) cf) hS (fun a ha => Nat.le_trans hX.2.2.2.2.2.2.2.2 ha) hz.1 hz.2 (by omega) (by rw [hX.2.2.2.1.2.2.1]; exact b2) (by rw [hX.2.2.2.1.2.2.2]; exact b3) hdg (fun a cA H1 hK1 hP1 hD1 hS1 => ?_)
  refine W_bound fun hs => ?_
  have hs2 := hX.2.2.2.2.2.2.2.1
  have e := next_ad hX.2.2.2.2.2.1 b1 hP1 hD1 (by omega)
  subst e
  have e2 : cA = g.cA c := vaRA_eq (U := X.s) (ty := .object C) ((hK1.2 4 (cA, .object C) rfl).2) ((hX.2.2.2.2.2.2.1.1.1.2 t0 (g.cA c, .object C) ht).2)
  subst e2
  rw [wsN_push] at hP1
  exact kk H1 locs ls hP1 hS1 hl
theorem G_get (hX : OkC g X i n0 mc ms) {c o p idx nf : Nat} {C : String} {T : u_T} {fs : List Value} {v : Value} (hcf : cf o = .inr (c, fs)) (hv : fs[p]? = some v) (hc : vwCl[c]? = some (C, T, nf)) (hin : ∀ w ∈ u_ws C T nf, w ∈ gtbl) (hlink : (Cond.fieldLink i.own idx C (T p).2.1 (T p).2.2.1 : Cond) ∈ gtbl) (hC : (T p).1 = C) (hb : decide (p < nf ∧ o < n) = true)
    (hdg : decode i.cc pc = .ok (.getfield idx, 3)) (hq : pc + 3 = q) (kk : GV g X i q lv (v :: st) n cf k sl) : GV g X i pc lv (.ref (g.ad o) :: st) n cf k sl := by
  subst hq
  obtain ⟨b1, b2⟩ := of_decide_eq_true hb
  intro H locs ls hP hS hl
  refine va_get (C := C) (T := T) (N := nf) hX.1.1 hX.1.2.1 hX.1.2.2.2.2 hin hX.1.2.2.2.1 hX.2.2.2.2.2.2.1.1.1 hP o (fs := fs) (by rw [wsN_get b2, hcf]) hc p b1 (hX.1.2.2.2.2 _ hlink) (fun x hx => by rw [hC] at hx; exact hx) hv hdg ?_
  exact kk H locs ls hP hS hl
theorem G_put (hX : OkC g X i n0 mc ms) {c o p idx nf : Nat} {C : String} {T : u_T} {fs fs' : List Value} {v : Value} {ty : FieldType} (hcf : cf o = .inr (c, fs)) (hfs : fs.set p v = fs') (ty0 : Nat → FieldType) (hty : ∀ k, k < nf → parseFieldDescriptor (T k).2.2.1 = some (ty0 k)) (hnm : ∀ a, a < nf → ∀ b, b < nf → a ≠ b → (T a).2.1 ≠ (T b).2.1) (hfin : (T p).2.2.2 = false) (hc : vwCl[c]? = some (C, T, nf)) (hin : ∀ w ∈ u_ws C T nf, w ∈ gtbl) (hlink : (Cond.fieldLink i.own idx C (T p).2.1 (T p).2.2.1 : Cond) ∈ gtbl) (hC : (T p).1 = C) (hb : decide (p < nf ∧ o < n ∧ n ≤ 95) = true) (hlen : p < fs.length)
    (hd : parseFieldDescriptor (T p).2.2.1 = some ty) (hnr : narrow ty v = v) (hft : fits ty v = true) (hdg : decode i.cc pc = .ok (.putfield idx, 3)) (hq : pc + 3 = q) (kk : GV g X i q lv st n (put cf o (.inr (c, fs'))) k sl) : GV g X i pc lv (v :: .ref (g.ad o) :: st) n cf k sl := by
  subst hq
  obtain ⟨b1, b2, b3⟩ := of_decide_eq_true hb
  intro H locs ls hP hS hl
  refine va_put (C := C) (T := T) (N := nf) hX.1.1 hX.1.2.1 hX.1.2.2.2.2 hin ty0 hty hnm hX.1.2.2.2.1 hX.2.2.2.2.2.2.1.1.1 hP (wsN_D hX.2.2.2.2.2.1 b3 cf) hS o (fs := fs) (by rw [wsN_get b2, hcf]) hc p b1 (hX.1.2.2.2.2 _ hlink) (fun x hx => by rw [hC] at hx; exact hx) hfin (ty := ty) hd hnr hft hlen hdg (fun H1 locs1 hP1 _ hS1 => ?_)
  rw [hfs, wsN_set b2] at hP1
  exact kk H1 locs1 ls hP1 hS1 hl
theorem G_putF (hX : OkC g X i n0 mc ms) {c o p idx nf : Nat} {C : String} {T : u_T} {fs fs' : List Value} {v : Value} {ty : FieldType} (hnm1 : X.meth.name = "<init>") (hcf : cf o = .inr (c, fs)) (hfs : fs.set p v = fs') (ty0 : Nat → FieldType) (hty : ∀ k, k < nf → parseFieldDescriptor (T k).2.2.1 = some (ty0 k)) (hnm : ∀ a, a < nf → ∀ b, b < nf → a ≠ b → (T a).2.1 ≠ (T b).2.1) (hfin : (T p).2.2.2 = true) (hc : vwCl[c]? = some (C, T, nf)) (hin : ∀ w ∈ u_ws C T nf, w ∈ gtbl) (hlink : (Cond.fieldLink i.own idx C (T p).2.1 (T p).2.2.1 : Cond) ∈ gtbl) (hC : (T p).1 = C) (hown : C = i.own) (hb : decide (p < nf ∧ o < n ∧ n ≤ 95) = true) (hlen : p < fs.length)
    (hd : parseFieldDescriptor (T p).2.2.1 = some ty) (hnr : narrow ty v = v) (hft : fits ty v = true) (hdg : decode i.cc pc = .ok (.putfield idx, 3)) (hq : pc + 3 = q) (kk : GV g X i q lv st n (put cf o (.inr (c, fs'))) k sl) : GV g X i pc lv (v :: .ref (g.ad o) :: st) n cf k sl := by
  subst hq
  obtain ⟨b1, b2, b3⟩ := of_decide_eq_true hb
  intro H locs ls hP hS hl
  refine va_putF (C := C) (T := T) (N := nf) hX.1.1 hX.1.2.1 hX.1.2.2.2.2 hin ty0 hty hnm hX.1.2.2.2.1 hX.2.2.2.2.2.2.1.1.1 hP (wsN_D hX.2.2.2.2.2.1 b3 cf) hS o (fs := fs) (by rw [wsN_get b2, hcf]) hc p b1 (hX.1.2.2.2.2 _ hlink) (fun x hx => by rw [hC] at hx; exact hx) hfin hnm1 (hC.trans hown) (ty := ty) hd hnr hft hlen hdg (fun H1 locs1 hP1 _ hS1 => ?_)
  rw [hfs, wsN_set b2] at hP1
  exact kk H1 locs1 ls hP1 hS1 hl
theorem G_alen (hX : OkC g X i n0 mc ms) {t0 o len : Nat} {cA : ClassId} {ty : FieldType} {a : (Nat → Int32) ⊕ (Nat → Int64) ⊕ (Nat → UInt32) ⊕ (Nat → UInt64) ⊕ (Nat → Option Nat)} {v : Int32} (hcf : cf o = .inl (cA, len, a)) (ht : (tysG g)[t0]? = some (cA, ty)) (hv : Int32.ofNat len = v) (hb : decide (o < n) = true) (hdg : decode i.cc pc = .ok (.arraylength, 1)) (hq : pc + 1 = q) (kk : GV g X i q lv (.int v :: st) n cf k sl) : GV g X i pc lv (.ref (g.ad o) :: st) n cf k sl := by
  subst hq
  intro H locs ls hP hS hl
  refine va_alen hX.1.1 hX.1.2.1 hX.2.2.2.2.2.2.1.1.1 hP o t0 (cA := cA) (by rw [wsN_get (of_decide_eq_true hb), hcf]) ht hv hdg ?_
  exact kk H locs ls hP hS hl
theorem G_iast (hX : OkC g X i n0 mc ms) {o len : Nat} {f : Nat → Int32} {z x : Int32} (hcf : cf o = .inl (g.cA 10, len, .inl f)) (hz : inb z len) (hb : decide (o < n ∧ n ≤ 95) = true) (hdg : decode i.cc pc = .ok (.iastore, 1)) (hq : pc + 1 = q) (kk : GV g X i q lv st n (put cf o (.inl (g.cA 10, len, .inl (upd f z.toNatClampNeg x)))) k sl) : GV g X i pc lv (.int x :: .int z :: .ref (g.ad o) :: st) n cf k sl := by
  subst hq
  obtain ⟨b2, b3⟩ := of_decide_eq_true hb
  intro H locs ls hP hS hl
  refine va_iast hX.1.1 hX.1.2.1 hX.2.2.2.2.2.2.1.1.1 hP (wsN_D hX.2.2.2.2.2.1 b3 cf) hS o 0 (cA := g.cA 10) (n := len) (f := f) (by rw [wsN_get b2, hcf]) rfl hz hdg (fun H1 locs1 hP1 _ hS1 => ?_)
  rw [wsN_set b2] at hP1
  exact kk H1 locs1 ls hP1 hS1 hl
theorem G_aast (hX : OkC g X i n0 mc ms) {o len t0 c r ci nf : Nat} {C : String} {T : u_T} {f : Nat → Option Nat} {fs : List Value} {z : Int32} (hcf : cf o = .inl (g.cA c, len, .inr (.inr (.inr (.inr f))))) (ht : (tysG g)[t0]? = some (g.cA c, .object C)) (hcr : cf r = .inr (ci, fs)) (hc : vwCl[ci]? = some (C, T, nf)) (hz : inb z len) (hb : decide (o < n ∧ r < n ∧ n ≤ 95) = true) (hdg : decode i.cc pc = .ok (.aastore, 1)) (hq : pc + 1 = q)
    (kk : GV g X i q lv st n (put cf o (.inl (g.cA c, len, .inr (.inr (.inr (.inr (va_up f z.toNatClampNeg (some (g.ad r))))))))) k sl) : GV g X i pc lv (.ref (g.ad r) :: .int z :: .ref (g.ad o) :: st) n cf k sl := by
  subst hq
  obtain ⟨b2, b3, b4⟩ := of_decide_eq_true hb
  intro H locs ls hP hS hl
  refine va_astq hX.1.1 hX.1.2.1 hX.2.2.2.2.2.2.1.1.1 hP (wsN_D hX.2.2.2.2.2.1 b4 cf) hS o t0 r ci (cA := g.cA c) (r := (C, T, nf)) (n := len) (f := f) (by rw [wsN_get b2, hcf]) ht (by rw [wsN_get b3, hcr]) hc hz hdg (fun H1 locs1 hP1 _ hS1 => ?_)
  rw [wsN_set b2] at hP1
  exact kk H1 locs1 ls hP1 hS1 hl
end GRULES
def rmC (d mc ms : Nat) : Room := { frames := d + 1, cells := mc, slots := ms, locals := 40 * (d + 1) }
def CtC (g : GT) (l : Launch) (i : MI) (y : MethodName) (As : List Value) (n : Nat) (cf : Nat → va_E) (n' : Nat) (cf' : Nat → va_E) (mc ms : Nat) : Prop := Met l y (.code y i.cc i.nL none :: gtbl) (rmC i.lv mc ms) (va_Pc As (WorldN g n cf)) (va_Qv (fun _ : Unit => True) (fun _ t => WorldN g n' cf' t) g.A) mc ms g.A
def QC (g : GT) (X : XT) (n' : Nat) (cf' : Nat → va_E) (mc ms : Nat) : State → Prop := MQ X.below (va_Qv (fun _ : Unit => True) (fun _ t => WorldN g n' cf' t) g.A) X.args X.s mc ms g.A
theorem worldN_end {g : GT} {X : XT} {i : MI} {n0 mc ms n : Nat} {cf : Nat → va_E} {H : Heap} {locs : List Loc} (hX : OkC g X i n0 mc ms) (hP : va_P g.D vwCl (wsN g n cf) H) (hS : va_S g.A X.s.heap H locs) (hs : H.size ≤ g.lo + n) {t : State} (ht : t.heap = H) (hW : X.s.WarmedH t.vm) : WorldN g n cf t := by
  refine ⟨by rw [ht]; exact hP, by rw [ht]; exact hs, ?_, by rw [ht]; exact Nat.le_trans hX.2.2.2.2.2.2.2.2 hS.1⟩
  exact (hX.2.2.2.2.2.2.1.warm hW).kept (H1 := t.heap) (fun a h1 h2 => by rw [ht]; exact hS.2.1 a h1 h2)
theorem G_ret {g : GT} {X : XT} {i : MI} {n0 mc ms n pc : Nat} {lv : List (Nat × Value)} {cf : Nat → va_E} (hX : OkC g X i n0 mc ms) (hQ : X.Q = QC g X n cf mc ms) (hr : i.ret = none) (hn : n0 + mc = n) (hdg : decode i.cc pc = .ok (.return_, 1)) : GV g X i pc lv [] n cf mc ms := by
  intro H locs ls hP hS hl
  refine W_bound fun hs => ?_
  have hs2 := hX.2.2.2.2.2.2.2.1
  rw [hQ]
  exact W.vret hX.1.1 hX.1.2.1 (hX.2.2.1.trans hr) (fun t ht hW => ⟨⟨(), rfl, trivial, worldN_end hX hP hS (by omega) ht hW⟩, hS.F ht⟩) hS.2.2 hdg hX.2.1
theorem CtC.of {g : GT} {l : Launch} {i : MI} {y : MethodName} {As : List Value} {n n' mc ms : Nat} {cf cf' : Nat → va_E} (hg : OkG g) (hL : Lin g) (hy : plainName y.cls = true) (hyn : y.name = "<init>") (hr : i.ret = none) (hown : y.cls = i.own) (hn : decide ((lg_sl As).length ≤ i.nL) = true)
    (k : ∀ X : XT, OkC g X i n mc ms → X.meth.name = "<init>" → X.l = l → X.Q = QC g X n' cf' mc ms → GV g X i 0 (lv_args 0 As) [] n cf 0 0) : CtC g l i y As n cf n' cf' mc ms := by
  refine Met.ofW (cc := i.cc) (maxL := i.nL) (ret := none) hy rfl ?_
  intro p e s m args below meth c s₁ B hml hv
  obtain ⟨rfl, hW⟩ := hv
  have hts := atoms_spec (ws := .code y i.cc i.nL none :: gtbl) B.pre
  have hown2 : s.vm.findClass i.own = some m.cls := by rw [← hown]; exact findClass_of_methodNamed B.named
  have hnm : meth.name = "<init>" := by rw [← hyn]; exact (name_of_methodNamed B.named B.method).1
  have hK := k (p, l, e, rmC i.lv mc ms, s, m, As.toArray, below, meth, c, 0, 0, MQ below (va_Qv (fun _ : Unit => True) (fun _ t => WorldN g n' cf' t) g.A) As.toArray s mc ms g.A)
    ⟨⟨B.exec, B.bytes, hml, hown2, fun w h => hts w (List.mem_cons_of_mem _ h)⟩, B.notSynchronized, B.returns.trans hr.symm, ⟨Nat.le_refl _, Nat.le_refl _, rfl, rfl⟩, hg, hL, hW.2.2.1, hW.2.1, hW.2.2.2⟩ hnm rfl rfl
  have hl := lv_entry As (n := i.nL) (of_decide_eq_true hn)
  rw [lg_entry_eq]
  exact hK s.heap [] _ hW.1 va_S.rf hl
theorem worldN_blind {g : GT} {As : List Value} {n : Nat} {cf : Nat → va_E} : FrameBlind (va_Pc As (WorldN g n cf)) := fun a U f mk q => ⟨q.1, q.2.1, q.2.2.1, FxC.same (u := U) (U := U.calling f mk a) (H := U.heap) rfl q.2.2.2.1, q.2.2.2.2⟩
section GCALL
variable {g : GT} {X : XT} {i j : MI} {pc q n0 mc ms mc' ms' n n' k sl idx nA : Nat} {lv lv' : List (Nat × Value)} {st st0 : List Value} {cf cf' : Nat → va_E} {y : MethodName} {As : List Value}
theorem G_ci (hX : OkC g X i n0 mc ms) {o : Nat} (hM : CtC g X.l j y (.ref (g.ad o) :: As) n cf n' cf' mc' ms') (hlk : (Cond.methodLink i.own idx y : Cond) ∈ gtbl) (him : (Cond.instanceMethod y : Cond) ∈ gtbl) (hini : (Cond.initialized y.cls : Cond) ∈ gtbl) (hco : (Cond.code y j.cc j.nL none : Cond) ∈ gtbl) (hyn : y.name = "<init>")
    (hd : y.cls ≠ "java/lang/invoke/MethodHandle" ∧ y.cls ≠ "java/lang/invoke/VarHandle" ∧ (parseMethodDescriptor y.desc).map (fun d => d.parameters.length) = some nA) (hA : As.length = nA) (hb : decide (j.lv < i.lv ∧ j.nL ≤ 21 ∧ n0 + k = n ∧ k + mc' ≤ mc ∧ sl + ms' ≤ ms) = true)
    (hst : st0 = As.reverse ++ .ref (g.ad o) :: st) (hr : Nat.ble (st.map fun v => v.category).sum 8 = true) (hdg : decode i.cc pc = .ok (.invokespecial idx, 3)) (hq : pc + 3 = q) (kk : GV g X i q lv st n' cf' (k + mc') (sl + ms')) : GV g X i pc lv st0 n cf k sl := by
  subst hq; subst hst
  obtain ⟨b1, b2, b3, b4, b5⟩ := of_decide_eq_true hb
  intro H locs ls hP hS hl
  refine W_bound fun hs => ?_
  have hs2 := hX.2.2.2.2.2.2.2.1
  have r1 := hX.2.2.2.1.1
  have r2 := hX.2.2.2.1.2.1
  refine va_callv (va_runI (n := nA) hX.1 hM (cwI nA hX.1.2.2.2.2 (fun w h => ⟨cons_g hco w h, (gtbl_good w (cons_g hco w h)).2⟩) rfl rfl rfl (hX.1.2.2.2.2 _ hini) (hX.1.2.2.2.2 _ hlk) (hX.1.2.2.2.2 _ him) hyn hd ⟨by show j.lv + 1 + 1 ≤ _; omega, by show 8 + (j.nL + 11) + 40 * (j.lv + 1) ≤ _; omega⟩) ⟨worldN_blind, fun U hU hW => ⟨rfl, worldN_end hX hP hS (by omega) hU hW⟩⟩ rfl hA hl.1 rfl (lv_room (Nat.le_of_ble_eq_true hr)) hdg ⟨by rw [hX.2.2.2.1.2.2.1]; exact b4, by rw [hX.2.2.2.1.2.2.2]; exact b5⟩) hS (fun q _ h => h) (fun q h => h) (fun u t H1 locs1 ht hvm hw hB hz1 hk1 hS1 => ?_)
  have hP1 := hB.1
  rw [ht] at hP1
  exact kk H1 locs1 ls hP1 hS1 hl
theorem G_cin (hX : OkC g X i n0 mc ms) {o : Nat} {host : String} (hM : CtC g X.l j y (.ref (g.ad o) :: As) n cf n' cf' mc' ms') (hlk : (Cond.methodLinkNest i.own idx y host : Cond) ∈ nestW) (him : (Cond.instanceMethod y : Cond) ∈ gtbl) (hini : (Cond.initialized y.cls : Cond) ∈ gtbl) (hco : (Cond.code y j.cc j.nL none : Cond) ∈ gtbl) (hyn : y.name = "<init>")
    (hd : y.cls ≠ "java/lang/invoke/MethodHandle" ∧ y.cls ≠ "java/lang/invoke/VarHandle" ∧ (parseMethodDescriptor y.desc).map (fun d => d.parameters.length) = some nA) (hA : As.length = nA) (hb : decide (j.lv < i.lv ∧ j.nL ≤ 21 ∧ n0 + k = n ∧ k + mc' ≤ mc ∧ sl + ms' ≤ ms) = true)
    (hst : st0 = As.reverse ++ .ref (g.ad o) :: st) (hr : Nat.ble (st.map fun v => v.category).sum 8 = true) (hdg : decode i.cc pc = .ok (.invokespecial idx, 3)) (hq : pc + 3 = q) (kk : GV g X i q lv st n' cf' (k + mc') (sl + ms')) : GV g X i pc lv st0 n cf k sl := by
  subst hq; subst hst
  obtain ⟨b1, b2, b3, b4, b5⟩ := of_decide_eq_true hb
  intro H locs ls hP hS hl
  refine W_bound fun hs => ?_
  have hs2 := hX.2.2.2.2.2.2.2.1
  have r1 := hX.2.2.2.1.1
  have r2 := hX.2.2.2.1.2.1
  refine va_callv (va_runIN (n := nA) hX.1 hM ⟨va_cnB nA hX.1.2.2.2.2 (fun w h => ⟨cons_g hco w h, (gtbl_good w (cons_g hco w h)).2⟩) rfl rfl rfl (hX.2.2.2.2.2.2.1.1.2.1 _ hlk) (hX.1.2.2.2.2 _ hini) hd ⟨by show j.lv + 1 + 1 ≤ _; omega, by show 8 + (j.nL + 11) + 40 * (j.lv + 1) ≤ _; omega⟩, hyn, hX.1.2.2.2.2 _ him⟩ ⟨worldN_blind, fun U hU hW => ⟨rfl, worldN_end hX hP hS (by omega) hU hW⟩⟩ rfl hA hl.1 rfl (lv_room (Nat.le_of_ble_eq_true hr)) hdg ⟨by rw [hX.2.2.2.1.2.2.1]; exact b4, by rw [hX.2.2.2.1.2.2.2]; exact b5⟩) hS (fun q _ h => h) (fun q h => h) (fun u t H1 locs1 ht hvm hw hB hz1 hk1 hS1 => ?_)
  have hP1 := hB.1
  rw [ht] at hP1
  exact kk H1 locs1 ls hP1 hS1 hl
end GCALL
