/-! Ends of methods, contracts, calls. -/
def QI (g : GT) (X : XT) (r : Int32) (σ : St) : State → Prop := MQ X.below (va_Qi (fun r2 u => r2 = r ∧ u = σ) (World g) g.A) X.args X.s 0 0 g.A
def QJ (g : GT) (X : XT) (r : Int64) (σ : St) : State → Prop := MQ X.below (va_Ql (fun r2 u => r2 = r ∧ u = σ) (World g) g.A) X.args X.s 0 0 g.A
def QV (g : GT) (X : XT) (σ : St) : State → Prop := MQ X.below (va_Qv (fun u => u = σ) (World g) g.A) X.args X.s 0 0 g.A
def QR (g : GT) (X : XT) (r : Nat) (σ : St) : State → Prop := MQ X.below (va_Qr (fun u => u = σ) (fun u a t => a = g.ad r ∧ World g u t) g.A) X.args X.s 0 0 g.A
theorem world_end {g : GT} {X : XT} {i : MI} {σ : St} {H : Heap} {locs : List Loc} (hX : OkX g X i) (hP : va_P g.D vwCl (wsM g σ) H) (hS : va_S g.A X.s.heap H locs) {t : State} (ht : t.heap = H) (hW : X.s.WarmedH t.vm) : World g σ t := by
  refine ⟨by rw [ht]; exact hP, ?_⟩
  have h1 := (hX.2.2.2.2.2.warm hW).kept (H1 := t.heap) (fun a h1 h2 => by rw [ht]; exact hS.2.1 a h1 h2)
  exact h1
section ENDS
variable {g : GT} {X : XT} {i : MI} {pc q : Nat} {lv lv' : List (Nat × Value)} {st : List Value} {σ : St}
theorem V_iret (hX : OkX g X i) {r : Int32} (hQ : X.Q = QI g X r σ ∧ X.cells = 0 ∧ X.slots = 0) (hr : i.ret = some .int) (hdg : decode i.cc pc = .ok (.ireturn, 1)) : V g X i pc lv [.int r] σ := by
  intro H locs ls hP hS hl
  unfold WX
  rw [hQ.1, hQ.2.1, hQ.2.2]
  exact W.iret hX.1.1 hX.1.2.1 (hX.2.2.1.trans hr) (fun t ht hW => ⟨⟨r, σ, rfl, ⟨rfl, rfl⟩, world_end hX hP hS ht hW⟩, hS.F ht⟩) hS.2.2 hdg hX.2.1
theorem V_zret (hX : OkX g X i) {r : Int32} {ty : FieldType} (hQ : X.Q = QI g X r σ ∧ X.cells = 0 ∧ X.slots = 0) (hr : i.ret = some ty) (hn : narrow ty (.int r) = .int r) (hdg : decode i.cc pc = .ok (.ireturn, 1)) : V g X i pc lv [.int r] σ := by
  intro H locs ls hP hS hl
  unfold WX
  rw [hQ.1, hQ.2.1, hQ.2.2]
  exact W.zret hX.1.1 hX.1.2.1 (hX.2.2.1.trans hr) hn (fun t ht hW => ⟨⟨r, σ, rfl, ⟨rfl, rfl⟩, world_end hX hP hS ht hW⟩, hS.F ht⟩) hS.2.2 hdg hX.2.1
theorem V_lret (hX : OkX g X i) {r : Int64} (hQ : X.Q = QJ g X r σ ∧ X.cells = 0 ∧ X.slots = 0) (hr : i.ret = some .long) (hdg : decode i.cc pc = .ok (.lreturn, 1)) : V g X i pc lv [.long r] σ := by
  intro H locs ls hP hS hl
  unfold WX
  rw [hQ.1, hQ.2.1, hQ.2.2]
  exact W.lret hX.1.1 hX.1.2.1 (hX.2.2.1.trans hr) (fun t ht hW => ⟨⟨r, σ, rfl, ⟨rfl, rfl⟩, world_end hX hP hS ht hW⟩, hS.F ht⟩) hS.2.2 hdg hX.2.1
theorem V_vret (hX : OkX g X i) (hQ : X.Q = QV g X σ ∧ X.cells = 0 ∧ X.slots = 0) (hr : i.ret = none) (hdg : decode i.cc pc = .ok (.return_, 1)) : V g X i pc lv [] σ := by
  intro H locs ls hP hS hl
  unfold WX
  rw [hQ.1, hQ.2.1, hQ.2.2]
  exact W.vret hX.1.1 hX.1.2.1 (hX.2.2.1.trans hr) (fun t ht hW => ⟨⟨σ, rfl, rfl, world_end hX hP hS ht hW⟩, hS.F ht⟩) hS.2.2 hdg hX.2.1
theorem V_aret (hX : OkX g X i) {r : Nat} {C : String} (hQ : X.Q = QR g X r σ ∧ X.cells = 0 ∧ X.slots = 0) (hr : i.ret = some (.object C)) (hdg : decode i.cc pc = .ok (.areturn, 1)) : V g X i pc lv [.ref (g.ad r)] σ := by
  intro H locs ls hP hS hl
  unfold WX
  rw [hQ.1, hQ.2.1, hQ.2.2]
  refine W.aret hX.1.1 hX.1.2.1 (hX.2.2.1.trans hr) (Or.inl ⟨C, rfl⟩) (Or.inr ⟨g.ad r, rfl⟩) (fun t ht hW => ⟨⟨σ, g.ad r, rfl, rfl, rfl, world_end hX hP hS ht hW⟩, hS.F ht⟩) hS.2.2 hdg hX.2.1
end ENDS
def CtI (g : GT) (l : Launch) (i : MI) (y : MethodName) (As : List Value) (σ : St) (r : Int32) (σ' : St) : Prop := Met l y (.code y i.cc i.nL i.ret :: gtbl) (rmOf i.lv) (va_Pc As (World g σ)) (va_Qi (fun r2 u => r2 = r ∧ u = σ') (World g) g.A) 0 0 g.A
def CtJ (g : GT) (l : Launch) (i : MI) (y : MethodName) (As : List Value) (σ : St) (r : Int64) (σ' : St) : Prop := Met l y (.code y i.cc i.nL i.ret :: gtbl) (rmOf i.lv) (va_Pc As (World g σ)) (va_Ql (fun r2 u => r2 = r ∧ u = σ') (World g) g.A) 0 0 g.A
def CtV (g : GT) (l : Launch) (i : MI) (y : MethodName) (As : List Value) (σ : St) (σ' : St) : Prop := Met l y (.code y i.cc i.nL i.ret :: gtbl) (rmOf i.lv) (va_Pc As (World g σ)) (va_Qv (fun u => u = σ') (World g) g.A) 0 0 g.A
def CtR (g : GT) (l : Launch) (i : MI) (y : MethodName) (As : List Value) (σ : St) (r : Nat) (σ' : St) : Prop := Met l y (.code y i.cc i.nL i.ret :: gtbl) (rmOf i.lv) (va_Pc As (World g σ)) (va_Qr (fun u => u = σ') (fun u a t => a = g.ad r ∧ World g u t) g.A) 0 0 g.A
theorem met_gen {g : GT} {l : Launch} {i : MI} {y : MethodName} {As : List Value} {σ : St} {Qc : Array Value → State → Outcome → State → Prop} (hg : OkG g) (hy : plainName y.cls = true) (hown : y.cls = i.own) (hn : decide ((lg_sl As).length ≤ i.nL) = true)
    (k : ∀ X : XT, OkX g X i → X.l = l → X.Q = MQ X.below Qc X.args X.s 0 0 g.A → X.cells = 0 → X.slots = 0 → V g X i 0 (lv_args 0 As) [] σ) :
    Met l y (.code y i.cc i.nL i.ret :: gtbl) (rmOf i.lv) (va_Pc As (World g σ)) Qc 0 0 g.A := by
  refine Met.ofW (cc := i.cc) (maxL := i.nL) (ret := i.ret) hy rfl ?_
  intro p e s m args below meth c s₁ B hml hv
  obtain ⟨rfl, hW⟩ := hv
  have hts := atoms_spec (ws := .code y i.cc i.nL i.ret :: gtbl) B.pre
  have hown2 : s.vm.findClass i.own = some m.cls := by rw [← hown]; exact findClass_of_methodNamed B.named
  have hK := k (p, l, e, rmOf i.lv, s, m, As.toArray, below, meth, c, 0, 0, MQ below Qc As.toArray s 0 0 g.A)
    ⟨⟨B.exec, B.bytes, hml, hown2, fun w h => hts w (List.mem_cons_of_mem _ h)⟩, B.notSynchronized, B.returns, ⟨Nat.le_refl _, Nat.le_refl _, Nat.le_refl _, Nat.le_refl _⟩, hg, hW.2⟩ rfl rfl rfl rfl
  have hl := lv_entry As (n := i.nL) (of_decide_eq_true hn)
  rw [lg_entry_eq]
  exact hK s.heap [] _ hW.1 va_S.rf hl
theorem CtI.of {g : GT} {l : Launch} {i : MI} {y : MethodName} {As : List Value} {σ : St} {r : Int32} {σ' : St} (hg : OkG g) (hy : plainName y.cls = true) (hown : y.cls = i.own) (hn : decide ((lg_sl As).length ≤ i.nL) = true)
    (k : ∀ X : XT, OkX g X i → X.l = l → (X.Q = QI g X r σ' ∧ X.cells = 0 ∧ X.slots = 0) → V g X i 0 (lv_args 0 As) [] σ) : CtI g l i y As σ r σ' := met_gen hg hy hown hn (fun X h1 h2 h3 h4 h5 => k X h1 h2 ⟨h3, h4, h5⟩)
theorem CtJ.of {g : GT} {l : Launch} {i : MI} {y : MethodName} {As : List Value} {σ : St} {r : Int64} {σ' : St} (hg : OkG g) (hy : plainName y.cls = true) (hown : y.cls = i.own) (hn : decide ((lg_sl As).length ≤ i.nL) = true)
    (k : ∀ X : XT, OkX g X i → X.l = l → (X.Q = QJ g X r σ' ∧ X.cells = 0 ∧ X.slots = 0) → V g X i 0 (lv_args 0 As) [] σ) : CtJ g l i y As σ r σ' := met_gen hg hy hown hn (fun X h1 h2 h3 h4 h5 => k X h1 h2 ⟨h3, h4, h5⟩)
theorem CtV.of {g : GT} {l : Launch} {i : MI} {y : MethodName} {As : List Value} {σ : St} {σ' : St} (hg : OkG g) (hy : plainName y.cls = true) (hown : y.cls = i.own) (hn : decide ((lg_sl As).length ≤ i.nL) = true)
    (k : ∀ X : XT, OkX g X i → X.l = l → (X.Q = QV g X σ' ∧ X.cells = 0 ∧ X.slots = 0) → V g X i 0 (lv_args 0 As) [] σ) : CtV g l i y As σ σ' := met_gen hg hy hown hn (fun X h1 h2 h3 h4 h5 => k X h1 h2 ⟨h3, h4, h5⟩)
theorem CtR.of {g : GT} {l : Launch} {i : MI} {y : MethodName} {As : List Value} {σ : St} {r : Nat} {σ' : St} (hg : OkG g) (hy : plainName y.cls = true) (hown : y.cls = i.own) (hn : decide ((lg_sl As).length ≤ i.nL) = true)
    (k : ∀ X : XT, OkX g X i → X.l = l → (X.Q = QR g X r σ' ∧ X.cells = 0 ∧ X.slots = 0) → V g X i 0 (lv_args 0 As) [] σ) : CtR g l i y As σ r σ' := met_gen hg hy hown hn (fun X h1 h2 h3 h4 h5 => k X h1 h2 ⟨h3, h4, h5⟩)
theorem world_blind {g : GT} {As : List Value} {σ : St} : FrameBlind (va_Pc As (World g σ)) := fun a U f mk q => ⟨q.1, q.2.1, Fx.same (u := U) (U := U.calling f mk a) (H := U.heap) rfl q.2.2⟩
theorem world_at {g : GT} {X : XT} {i : MI} {σ : St} {H : Heap} {locs : List Loc} (hX : OkX g X i) (hP : va_P g.D vwCl (wsM g σ) H) (hS : va_S g.A X.s.heap H locs) {U : State} (hU : U.heap = H) (hW : X.s.WarmedH U.vm) : World g σ U := world_end hX hP hS hU hW
theorem room_call {X : XT} {i j : MI} {g : GT} (hX : OkX g X i) (hlv : decide (j.lv < i.lv) = true) (hml : decide (j.nL ≤ 21) = true) : (rmOf j.lv).frames + 1 ≤ X.R.frames ∧ 8 + (j.nL + 11) + (rmOf j.lv).locals ≤ X.R.locals := by
  have h1 := of_decide_eq_true hlv
  have h2 := of_decide_eq_true hml
  have h3 := hX.2.2.2.1.1
  have h4 := hX.2.2.2.1.2.1
  refine ⟨?_, ?_⟩
  · show j.lv + 1 + 1 ≤ _
    omega
  · show 8 + (j.nL + 11) + 40 * (j.lv + 1) ≤ _
    omega
theorem goodV_of {own C : String} {idx : Nat} {y : MethodName} {ws : List Cond} (h1 : (Cond.methodLink own idx y : Cond) ∈ gtbl) (h2 : (Cond.instanceMethod y : Cond) ∈ gtbl) (h3 : (Cond.selects C y y : Cond) ∈ gtbl) (h4 : (Cond.initialized C : Cond) ∈ gtbl) (h5 : ∀ w ∈ ws, w ∈ gtbl) : GoodIn gtbl (wsV own idx C y ws) := by
  intro w hw
  refine ⟨?_, (gtbl_good w ?_).2⟩ <;>
  · unfold wsV at hw
    rcases List.mem_append.mp hw with h | h
    · simp only [List.mem_cons, List.not_mem_nil, or_false] at h
      rcases h with rfl | rfl | rfl | rfl <;> assumption
    · exact h5 w h
theorem goodS_of {own : String} {idx : Nat} {y : MethodName} {ws : List Cond} (h1 : (Cond.methodLink own idx y : Cond) ∈ gtbl) (h2 : (Cond.static y : Cond) ∈ gtbl) (h4 : (Cond.initialized own : Cond) ∈ gtbl) (h5 : ∀ w ∈ ws, w ∈ gtbl) : GoodIn gtbl (wsS own idx y ws) := by
  intro w hw
  refine ⟨?_, (gtbl_good w ?_).2⟩ <;>
  · unfold wsS at hw
    rcases List.mem_append.mp hw with h | h
    · simp only [List.mem_cons, List.not_mem_nil, or_false] at h
      rcases h with rfl | rfl | rfl <;> assumption
    · exact h5 w h
theorem goodSx_of {own : String} {idx : Nat} {y : MethodName} {ws : List Cond} (h1 : (Cond.methodLink own idx y : Cond) ∈ gtbl) (h2 : (Cond.static y : Cond) ∈ gtbl) (h4 : (Cond.initialized y.cls : Cond) ∈ gtbl) (h5 : ∀ w ∈ ws, w ∈ gtbl) : GoodIn gtbl (va_wsS own idx y ws) := by
  intro w hw
  refine ⟨?_, (gtbl_good w ?_).2⟩ <;>
  · unfold va_wsS at hw
    rcases List.mem_append.mp hw with h | h
    · simp only [List.mem_cons, List.not_mem_nil, or_false] at h
      rcases h with rfl | rfl | rfl <;> assumption
    · exact h5 w h
theorem cons_g {w : Cond} (h : w ∈ gtbl) : ∀ x ∈ w :: gtbl, x ∈ gtbl := fun x hx => (List.mem_cons.mp hx).elim (fun e => e ▸ h) id
section CALLS
variable {g : GT} {X : XT} {i j : MI} {pc q idx : Nat} {lv lv' : List (Nat × Value)} {nA : Nat} {st st0 : List Value} {σ σ' : St} {y : MethodName} {As : List Value}
theorem V_cvI (hX : OkX g X i) {n c o nf : Nat} {C : String} {T : u_T} {r : Int32} (hM : CtI g X.l j y (.ref (g.ad o) :: As) σ r σ') (hG : GoodIn gtbl (wsV i.own idx C y (.code y j.cc j.nL j.ret :: gtbl)))
    (hd : y.cls = C ∧ y.cls ≠ "java/lang/invoke/MethodHandle" ∧ y.cls ≠ "java/lang/invoke/VarHandle" ∧ (parseMethodDescriptor y.desc).map (fun d => d.parameters.length) = some nA) (hA : As.length = nA) (hlv : decide (j.lv < i.lv) = true) (hml : decide (j.nL ≤ 21) = true)
    (hc : vwCl[c]? = some (C, T, nf)) (hnf : nfC c = nf) (ho : Ob n c o) (hn : n ≤ g.N) (hc10 : decide (c < 10) = true) (hst : st0 = As.reverse ++ .ref (g.ad o) :: st) (hr : Nat.ble (st.map fun v => v.category).sum 8 = true)
    (hdg : decode i.cc pc = .ok (.invokevirtual idx, 3)) (hq : pc + 3 = q) (kk : V g X i q lv (.int r :: st) σ') : V g X i pc lv st0 σ := by
  subst hq; subst hst
  intro H locs ls hP hS hl
  refine va_calli (va_runV (n := nA) hX.1 hM (cwV nA hX.1.2.2.2.2 hG rfl rfl rfl hd (room_call hX hlv hml)) ⟨world_blind, va_recv hX.2.2.2.2.2.1 hP (q0 := o) hc (by rw [wsM_get (Nat.lt_of_lt_of_le ho.2 hn), cell_ob ho (Nat.le_trans hn hX.2.2.2.2.1.2.2) (of_decide_eq_true hc10) hnf]), fun U hU hW => ⟨rfl, world_at hX hP hS hU hW⟩⟩ rfl hA hl.1 rfl (lv_room (Nat.le_of_ble_eq_true hr)) hdg ⟨hX.2.2.2.1.2.2.1, hX.2.2.2.1.2.2.2⟩) hS (fun q _ h => h) (fun q h => h) (fun r2 u t H1 locs1 ht hvm hw hB hz1 hk1 hS1 => ?_)
  have e2 := hw.2
  subst e2
  have e1 := hw.1
  subst e1
  have hP1 := (hB).1
  rw [ht] at hP1
  exact kk H1 locs1 ls hP1 hS1 hl
theorem V_csI (hX : OkX g X i) {r : Int32} (hM : CtI g X.l j y As σ r σ') (hG : GoodIn gtbl (wsS i.own idx y (.code y j.cc j.nL j.ret :: gtbl)))
    (hd : y.cls = i.own ∧ y.cls ≠ "java/lang/invoke/MethodHandle" ∧ y.cls ≠ "java/lang/invoke/VarHandle" ∧ (parseMethodDescriptor y.desc).map (fun d => d.parameters.length) = some nA) (hA : As.length = nA) (hlv : decide (j.lv < i.lv) = true) (hml : decide (j.nL ≤ 21) = true)
    (hst : st0 = As.reverse ++ st) (hr : Nat.ble (st.map fun v => v.category).sum 8 = true)
    (hdg : decode i.cc pc = .ok (.invokestatic idx, 3)) (hq : pc + 3 = q) (kk : V g X i q lv (.int r :: st) σ') : V g X i pc lv st0 σ := by
  subst hq; subst hst
  intro H locs ls hP hS hl
  refine va_calli (va_runS (n := nA) hX.1 hM (cwS nA hX.1.2.2.2.2 hG rfl rfl rfl hd (room_call hX hlv hml)) ⟨world_blind, fun U hU hW => ⟨rfl, world_at hX hP hS hU hW⟩⟩ rfl hA hl.1 rfl (lv_room (Nat.le_of_ble_eq_true hr)) hdg ⟨hX.2.2.2.1.2.2.1, hX.2.2.2.1.2.2.2⟩) hS (fun q _ h => h) (fun q h => h) (fun r2 u t H1 locs1 ht hvm hw hB hz1 hk1 hS1 => ?_)
  have e2 := hw.2
  subst e2
  have e1 := hw.1
  subst e1
  have hP1 := (hB).1
  rw [ht] at hP1
  exact kk H1 locs1 ls hP1 hS1 hl
theorem V_cnI (hX : OkX g X i) {host : String} {r : Int32} (hM : CtI g X.l j y As σ r σ') (hlk : (Cond.methodLinkNest i.own idx y host : Cond) ∈ nestW) (hst1 : (Cond.static y : Cond) ∈ gtbl) (hin1 : (Cond.initialized y.cls : Cond) ∈ gtbl) (hco : ∀ w ∈ (Cond.code y j.cc j.nL j.ret :: gtbl : List Cond), w ∈ gtbl)
    (hd : y.cls ≠ "java/lang/invoke/MethodHandle" ∧ y.cls ≠ "java/lang/invoke/VarHandle" ∧ (parseMethodDescriptor y.desc).map (fun d => d.parameters.length) = some nA) (hA : As.length = nA) (hlv : decide (j.lv < i.lv) = true) (hml : decide (j.nL ≤ 21) = true)
    (hst : st0 = As.reverse ++ st) (hr : Nat.ble (st.map fun v => v.category).sum 8 = true)
    (hdg : decode i.cc pc = .ok (.invokestatic idx, 3)) (hq : pc + 3 = q) (kk : V g X i q lv (.int r :: st) σ') : V g X i pc lv st0 σ := by
  subst hq; subst hst
  intro H locs ls hP hS hl
  refine va_calli (va_runSN (n := nA) hX.1 hM ⟨va_cnB nA hX.1.2.2.2.2 (fun w h => ⟨hco w h, (gtbl_good w (hco w h)).2⟩) rfl rfl rfl (hX.2.2.2.2.2.2.1 _ hlk) (hX.1.2.2.2.2 _ hin1) hd (room_call hX hlv hml), hX.1.2.2.2.2 _ hst1, trivial⟩ ⟨world_blind, fun U hU hW => ⟨rfl, world_at hX hP hS hU hW⟩⟩ rfl hA hl.1 rfl (lv_room (Nat.le_of_ble_eq_true hr)) hdg ⟨hX.2.2.2.1.2.2.1, hX.2.2.2.1.2.2.2⟩) hS (fun q _ h => h) (fun q h => h) (fun r2 u t H1 locs1 ht hvm hw hB hz1 hk1 hS1 => ?_)
  have e2 := hw.2
  subst e2
  have e1 := hw.1
  subst e1
  have hP1 := (hB).1
  rw [ht] at hP1
  exact kk H1 locs1 ls hP1 hS1 hl
theorem V_cvJ (hX : OkX g X i) {n c o nf : Nat} {C : String} {T : u_T} {r : Int64} (hM : CtJ g X.l j y (.ref (g.ad o) :: As) σ r σ') (hG : GoodIn gtbl (wsV i.own idx C y (.code y j.cc j.nL j.ret :: gtbl)))
    (hd : y.cls = C ∧ y.cls ≠ "java/lang/invoke/MethodHandle" ∧ y.cls ≠ "java/lang/invoke/VarHandle" ∧ (parseMethodDescriptor y.desc).map (fun d => d.parameters.length) = some nA) (hA : As.length = nA) (hlv : decide (j.lv < i.lv) = true) (hml : decide (j.nL ≤ 21) = true)
    (hc : vwCl[c]? = some (C, T, nf)) (hnf : nfC c = nf) (ho : Ob n c o) (hn : n ≤ g.N) (hc10 : decide (c < 10) = true) (hst : st0 = As.reverse ++ .ref (g.ad o) :: st) (hr : Nat.ble (st.map fun v => v.category).sum 8 = true)
    (hdg : decode i.cc pc = .ok (.invokevirtual idx, 3)) (hq : pc + 3 = q) (kk : V g X i q lv (.long r :: st) σ') : V g X i pc lv st0 σ := by
  subst hq; subst hst
  intro H locs ls hP hS hl
  refine va_calll (va_runV (n := nA) hX.1 hM (cwV nA hX.1.2.2.2.2 hG rfl rfl rfl hd (room_call hX hlv hml)) ⟨world_blind, va_recv hX.2.2.2.2.2.1 hP (q0 := o) hc (by rw [wsM_get (Nat.lt_of_lt_of_le ho.2 hn), cell_ob ho (Nat.le_trans hn hX.2.2.2.2.1.2.2) (of_decide_eq_true hc10) hnf]), fun U hU hW => ⟨rfl, world_at hX hP hS hU hW⟩⟩ rfl hA hl.1 rfl (lv_room (Nat.le_of_ble_eq_true hr)) hdg ⟨hX.2.2.2.1.2.2.1, hX.2.2.2.1.2.2.2⟩) hS (fun q _ h => h) (fun q h => h) (fun r2 u t H1 locs1 ht hvm hw hB hz1 hk1 hS1 => ?_)
  have e2 := hw.2
  subst e2
  have e1 := hw.1
  subst e1
  have hP1 := (hB).1
  rw [ht] at hP1
  exact kk H1 locs1 ls hP1 hS1 hl
theorem V_csJ (hX : OkX g X i) {r : Int64} (hM : CtJ g X.l j y As σ r σ') (hG : GoodIn gtbl (wsS i.own idx y (.code y j.cc j.nL j.ret :: gtbl)))
    (hd : y.cls = i.own ∧ y.cls ≠ "java/lang/invoke/MethodHandle" ∧ y.cls ≠ "java/lang/invoke/VarHandle" ∧ (parseMethodDescriptor y.desc).map (fun d => d.parameters.length) = some nA) (hA : As.length = nA) (hlv : decide (j.lv < i.lv) = true) (hml : decide (j.nL ≤ 21) = true)
    (hst : st0 = As.reverse ++ st) (hr : Nat.ble (st.map fun v => v.category).sum 8 = true)
    (hdg : decode i.cc pc = .ok (.invokestatic idx, 3)) (hq : pc + 3 = q) (kk : V g X i q lv (.long r :: st) σ') : V g X i pc lv st0 σ := by
  subst hq; subst hst
  intro H locs ls hP hS hl
  refine va_calll (va_runS (n := nA) hX.1 hM (cwS nA hX.1.2.2.2.2 hG rfl rfl rfl hd (room_call hX hlv hml)) ⟨world_blind, fun U hU hW => ⟨rfl, world_at hX hP hS hU hW⟩⟩ rfl hA hl.1 rfl (lv_room (Nat.le_of_ble_eq_true hr)) hdg ⟨hX.2.2.2.1.2.2.1, hX.2.2.2.1.2.2.2⟩) hS (fun q _ h => h) (fun q h => h) (fun r2 u t H1 locs1 ht hvm hw hB hz1 hk1 hS1 => ?_)
  have e2 := hw.2
  subst e2
  have e1 := hw.1
  subst e1
  have hP1 := (hB).1
  rw [ht] at hP1
  exact kk H1 locs1 ls hP1 hS1 hl
theorem V_cnJ (hX : OkX g X i) {host : String} {r : Int64} (hM : CtJ g X.l j y As σ r σ') (hlk : (Cond.methodLinkNest i.own idx y host : Cond) ∈ nestW) (hst1 : (Cond.static y : Cond) ∈ gtbl) (hin1 : (Cond.initialized y.cls : Cond) ∈ gtbl) (hco : ∀ w ∈ (Cond.code y j.cc j.nL j.ret :: gtbl : List Cond), w ∈ gtbl)
    (hd : y.cls ≠ "java/lang/invoke/MethodHandle" ∧ y.cls ≠ "java/lang/invoke/VarHandle" ∧ (parseMethodDescriptor y.desc).map (fun d => d.parameters.length) = some nA) (hA : As.length = nA) (hlv : decide (j.lv < i.lv) = true) (hml : decide (j.nL ≤ 21) = true)
    (hst : st0 = As.reverse ++ st) (hr : Nat.ble (st.map fun v => v.category).sum 8 = true)
    (hdg : decode i.cc pc = .ok (.invokestatic idx, 3)) (hq : pc + 3 = q) (kk : V g X i q lv (.long r :: st) σ') : V g X i pc lv st0 σ := by
  subst hq; subst hst
  intro H locs ls hP hS hl
  refine va_calll (va_runSN (n := nA) hX.1 hM ⟨va_cnB nA hX.1.2.2.2.2 (fun w h => ⟨hco w h, (gtbl_good w (hco w h)).2⟩) rfl rfl rfl (hX.2.2.2.2.2.2.1 _ hlk) (hX.1.2.2.2.2 _ hin1) hd (room_call hX hlv hml), hX.1.2.2.2.2 _ hst1, trivial⟩ ⟨world_blind, fun U hU hW => ⟨rfl, world_at hX hP hS hU hW⟩⟩ rfl hA hl.1 rfl (lv_room (Nat.le_of_ble_eq_true hr)) hdg ⟨hX.2.2.2.1.2.2.1, hX.2.2.2.1.2.2.2⟩) hS (fun q _ h => h) (fun q h => h) (fun r2 u t H1 locs1 ht hvm hw hB hz1 hk1 hS1 => ?_)
  have e2 := hw.2
  subst e2
  have e1 := hw.1
  subst e1
  have hP1 := (hB).1
  rw [ht] at hP1
  exact kk H1 locs1 ls hP1 hS1 hl
theorem V_cvV (hX : OkX g X i) {n c o nf : Nat} {C : String} {T : u_T} (hM : CtV g X.l j y (.ref (g.ad o) :: As) σ σ') (hG : GoodIn gtbl (wsV i.own idx C y (.code y j.cc j.nL j.ret :: gtbl)))
    (hd : y.cls = C ∧ y.cls ≠ "java/lang/invoke/MethodHandle" ∧ y.cls ≠ "java/lang/invoke/VarHandle" ∧ (parseMethodDescriptor y.desc).map (fun d => d.parameters.length) = some nA) (hA : As.length = nA) (hlv : decide (j.lv < i.lv) = true) (hml : decide (j.nL ≤ 21) = true)
    (hc : vwCl[c]? = some (C, T, nf)) (hnf : nfC c = nf) (ho : Ob n c o) (hn : n ≤ g.N) (hc10 : decide (c < 10) = true) (hst : st0 = As.reverse ++ .ref (g.ad o) :: st) (hr : Nat.ble (st.map fun v => v.category).sum 8 = true)
    (hdg : decode i.cc pc = .ok (.invokevirtual idx, 3)) (hq : pc + 3 = q) (kk : V g X i q lv st σ') : V g X i pc lv st0 σ := by
  subst hq; subst hst
  intro H locs ls hP hS hl
  refine va_callv (va_runV (n := nA) hX.1 hM (cwV nA hX.1.2.2.2.2 hG rfl rfl rfl hd (room_call hX hlv hml)) ⟨world_blind, va_recv hX.2.2.2.2.2.1 hP (q0 := o) hc (by rw [wsM_get (Nat.lt_of_lt_of_le ho.2 hn), cell_ob ho (Nat.le_trans hn hX.2.2.2.2.1.2.2) (of_decide_eq_true hc10) hnf]), fun U hU hW => ⟨rfl, world_at hX hP hS hU hW⟩⟩ rfl hA hl.1 rfl (lv_room (Nat.le_of_ble_eq_true hr)) hdg ⟨hX.2.2.2.1.2.2.1, hX.2.2.2.1.2.2.2⟩) hS (fun q _ h => h) (fun q h => h) (fun u t H1 locs1 ht hvm hw hB hz1 hk1 hS1 => ?_)
  have e2 := hw
  subst e2
  have hP1 := (hB).1
  rw [ht] at hP1
  exact kk H1 locs1 ls hP1 hS1 hl
theorem V_csV (hX : OkX g X i) (hM : CtV g X.l j y As σ σ') (hG : GoodIn gtbl (wsS i.own idx y (.code y j.cc j.nL j.ret :: gtbl)))
    (hd : y.cls = i.own ∧ y.cls ≠ "java/lang/invoke/MethodHandle" ∧ y.cls ≠ "java/lang/invoke/VarHandle" ∧ (parseMethodDescriptor y.desc).map (fun d => d.parameters.length) = some nA) (hA : As.length = nA) (hlv : decide (j.lv < i.lv) = true) (hml : decide (j.nL ≤ 21) = true)
    (hst : st0 = As.reverse ++ st) (hr : Nat.ble (st.map fun v => v.category).sum 8 = true)
    (hdg : decode i.cc pc = .ok (.invokestatic idx, 3)) (hq : pc + 3 = q) (kk : V g X i q lv st σ') : V g X i pc lv st0 σ := by
  subst hq; subst hst
  intro H locs ls hP hS hl
  refine va_callv (va_runS (n := nA) hX.1 hM (cwS nA hX.1.2.2.2.2 hG rfl rfl rfl hd (room_call hX hlv hml)) ⟨world_blind, fun U hU hW => ⟨rfl, world_at hX hP hS hU hW⟩⟩ rfl hA hl.1 rfl (lv_room (Nat.le_of_ble_eq_true hr)) hdg ⟨hX.2.2.2.1.2.2.1, hX.2.2.2.1.2.2.2⟩) hS (fun q _ h => h) (fun q h => h) (fun u t H1 locs1 ht hvm hw hB hz1 hk1 hS1 => ?_)
  have e2 := hw
  subst e2
  have hP1 := (hB).1
  rw [ht] at hP1
  exact kk H1 locs1 ls hP1 hS1 hl
theorem V_cnV (hX : OkX g X i) {host : String} (hM : CtV g X.l j y As σ σ') (hlk : (Cond.methodLinkNest i.own idx y host : Cond) ∈ nestW) (hst1 : (Cond.static y : Cond) ∈ gtbl) (hin1 : (Cond.initialized y.cls : Cond) ∈ gtbl) (hco : ∀ w ∈ (Cond.code y j.cc j.nL j.ret :: gtbl : List Cond), w ∈ gtbl)
    (hd : y.cls ≠ "java/lang/invoke/MethodHandle" ∧ y.cls ≠ "java/lang/invoke/VarHandle" ∧ (parseMethodDescriptor y.desc).map (fun d => d.parameters.length) = some nA) (hA : As.length = nA) (hlv : decide (j.lv < i.lv) = true) (hml : decide (j.nL ≤ 21) = true)
    (hst : st0 = As.reverse ++ st) (hr : Nat.ble (st.map fun v => v.category).sum 8 = true)
    (hdg : decode i.cc pc = .ok (.invokestatic idx, 3)) (hq : pc + 3 = q) (kk : V g X i q lv st σ') : V g X i pc lv st0 σ := by
  subst hq; subst hst
  intro H locs ls hP hS hl
  refine va_callv (va_runSN (n := nA) hX.1 hM ⟨va_cnB nA hX.1.2.2.2.2 (fun w h => ⟨hco w h, (gtbl_good w (hco w h)).2⟩) rfl rfl rfl (hX.2.2.2.2.2.2.1 _ hlk) (hX.1.2.2.2.2 _ hin1) hd (room_call hX hlv hml), hX.1.2.2.2.2 _ hst1, trivial⟩ ⟨world_blind, fun U hU hW => ⟨rfl, world_at hX hP hS hU hW⟩⟩ rfl hA hl.1 rfl (lv_room (Nat.le_of_ble_eq_true hr)) hdg ⟨hX.2.2.2.1.2.2.1, hX.2.2.2.1.2.2.2⟩) hS (fun q _ h => h) (fun q h => h) (fun u t H1 locs1 ht hvm hw hB hz1 hk1 hS1 => ?_)
  have e2 := hw
  subst e2
  have hP1 := (hB).1
  rw [ht] at hP1
  exact kk H1 locs1 ls hP1 hS1 hl
theorem V_cvR (hX : OkX g X i) {n c o nf : Nat} {C : String} {T : u_T} {r : Nat} (hM : CtR g X.l j y (.ref (g.ad o) :: As) σ r σ') (hG : GoodIn gtbl (wsV i.own idx C y (.code y j.cc j.nL j.ret :: gtbl)))
    (hd : y.cls = C ∧ y.cls ≠ "java/lang/invoke/MethodHandle" ∧ y.cls ≠ "java/lang/invoke/VarHandle" ∧ (parseMethodDescriptor y.desc).map (fun d => d.parameters.length) = some nA) (hA : As.length = nA) (hlv : decide (j.lv < i.lv) = true) (hml : decide (j.nL ≤ 21) = true)
    (hc : vwCl[c]? = some (C, T, nf)) (hnf : nfC c = nf) (ho : Ob n c o) (hn : n ≤ g.N) (hc10 : decide (c < 10) = true) (hst : st0 = As.reverse ++ .ref (g.ad o) :: st) (hr : Nat.ble (st.map fun v => v.category).sum 8 = true)
    (hdg : decode i.cc pc = .ok (.invokevirtual idx, 3)) (hq : pc + 3 = q) (kk : V g X i q lv (.ref (g.ad r) :: st) σ') : V g X i pc lv st0 σ := by
  subst hq; subst hst
  intro H locs ls hP hS hl
  refine va_callr (va_runV (n := nA) hX.1 hM (cwV nA hX.1.2.2.2.2 hG rfl rfl rfl hd (room_call hX hlv hml)) ⟨world_blind, va_recv hX.2.2.2.2.2.1 hP (q0 := o) hc (by rw [wsM_get (Nat.lt_of_lt_of_le ho.2 hn), cell_ob ho (Nat.le_trans hn hX.2.2.2.2.1.2.2) (of_decide_eq_true hc10) hnf]), fun U hU hW => ⟨rfl, world_at hX hP hS hU hW⟩⟩ rfl hA hl.1 rfl (lv_room (Nat.le_of_ble_eq_true hr)) hdg ⟨hX.2.2.2.1.2.2.1, hX.2.2.2.1.2.2.2⟩) hS (fun q _ h => h) (fun q h => h) (fun u ra t H1 locs1 ht hvm hw hB hz1 hk1 hS1 => ?_)
  have e2 := hw
  subst e2
  have e1 := hB.1
  subst e1
  have hP1 := (hB.2).1
  rw [ht] at hP1
  exact kk H1 locs1 ls hP1 hS1 hl
theorem V_csR (hX : OkX g X i) {r : Nat} (hM : CtR g X.l j y As σ r σ') (hG : GoodIn gtbl (wsS i.own idx y (.code y j.cc j.nL j.ret :: gtbl)))
    (hd : y.cls = i.own ∧ y.cls ≠ "java/lang/invoke/MethodHandle" ∧ y.cls ≠ "java/lang/invoke/VarHandle" ∧ (parseMethodDescriptor y.desc).map (fun d => d.parameters.length) = some nA) (hA : As.length = nA) (hlv : decide (j.lv < i.lv) = true) (hml : decide (j.nL ≤ 21) = true)
    (hst : st0 = As.reverse ++ st) (hr : Nat.ble (st.map fun v => v.category).sum 8 = true)
    (hdg : decode i.cc pc = .ok (.invokestatic idx, 3)) (hq : pc + 3 = q) (kk : V g X i q lv (.ref (g.ad r) :: st) σ') : V g X i pc lv st0 σ := by
  subst hq; subst hst
  intro H locs ls hP hS hl
  refine va_callr (va_runS (n := nA) hX.1 hM (cwS nA hX.1.2.2.2.2 hG rfl rfl rfl hd (room_call hX hlv hml)) ⟨world_blind, fun U hU hW => ⟨rfl, world_at hX hP hS hU hW⟩⟩ rfl hA hl.1 rfl (lv_room (Nat.le_of_ble_eq_true hr)) hdg ⟨hX.2.2.2.1.2.2.1, hX.2.2.2.1.2.2.2⟩) hS (fun q _ h => h) (fun q h => h) (fun u ra t H1 locs1 ht hvm hw hB hz1 hk1 hS1 => ?_)
  have e2 := hw
  subst e2
  have e1 := hB.1
  subst e1
  have hP1 := (hB.2).1
  rw [ht] at hP1
  exact kk H1 locs1 ls hP1 hS1 hl
theorem V_cnR (hX : OkX g X i) {host : String} {r : Nat} (hM : CtR g X.l j y As σ r σ') (hlk : (Cond.methodLinkNest i.own idx y host : Cond) ∈ nestW) (hst1 : (Cond.static y : Cond) ∈ gtbl) (hin1 : (Cond.initialized y.cls : Cond) ∈ gtbl) (hco : ∀ w ∈ (Cond.code y j.cc j.nL j.ret :: gtbl : List Cond), w ∈ gtbl)
    (hd : y.cls ≠ "java/lang/invoke/MethodHandle" ∧ y.cls ≠ "java/lang/invoke/VarHandle" ∧ (parseMethodDescriptor y.desc).map (fun d => d.parameters.length) = some nA) (hA : As.length = nA) (hlv : decide (j.lv < i.lv) = true) (hml : decide (j.nL ≤ 21) = true)
    (hst : st0 = As.reverse ++ st) (hr : Nat.ble (st.map fun v => v.category).sum 8 = true)
    (hdg : decode i.cc pc = .ok (.invokestatic idx, 3)) (hq : pc + 3 = q) (kk : V g X i q lv (.ref (g.ad r) :: st) σ') : V g X i pc lv st0 σ := by
  subst hq; subst hst
  intro H locs ls hP hS hl
  refine va_callr (va_runSN (n := nA) hX.1 hM ⟨va_cnB nA hX.1.2.2.2.2 (fun w h => ⟨hco w h, (gtbl_good w (hco w h)).2⟩) rfl rfl rfl (hX.2.2.2.2.2.2.1 _ hlk) (hX.1.2.2.2.2 _ hin1) hd (room_call hX hlv hml), hX.1.2.2.2.2 _ hst1, trivial⟩ ⟨world_blind, fun U hU hW => ⟨rfl, world_at hX hP hS hU hW⟩⟩ rfl hA hl.1 rfl (lv_room (Nat.le_of_ble_eq_true hr)) hdg ⟨hX.2.2.2.1.2.2.1, hX.2.2.2.1.2.2.2⟩) hS (fun q _ h => h) (fun q h => h) (fun u ra t H1 locs1 ht hvm hw hB hz1 hk1 hS1 => ?_)
  have e2 := hw
  subst e2
  have e1 := hB.1
  subst e1
  have hP1 := (hB.2).1
  rw [ht] at hP1
  exact kk H1 locs1 ls hP1 hS1 hl
end CALLS
/-! helpers about the pure functions -/
def bnd {α β : Type} (x : Option (α × St)) (f : α → St → Option β) : Option β := match x with
  | some (r, σ) => f r σ
  | none => none
theorem bnd_some {α β : Type} {x : Option (α × St)} {f : α → St → Option β} {z : β} (h : bnd x f = some z) : ∃ r σ', x = some (r, σ') ∧ f r σ' = some z := by
  cases x with
  | none => cases h
  | some y => exact ⟨y.1, y.2, rfl, h⟩
theorem ite_t {α : Type} {c : Prop} {i : Decidable c} {a b x : α} (hc : c) (h : @ite α c i a b = x) : a = x := by rw [if_pos hc] at h; exact h
theorem ite_f {α : Type} {c : Prop} {i : Decidable c} {a b x : α} (hc : ¬ c) (h : @ite α c i a b = x) : b = x := by rw [if_neg hc] at h; exact h
theorem chk_t {α : Type} {c : Prop} {i : Decidable c} {a : Option α} {x : α} (h : @ite (Option α) c i a none = some x) : c ∧ a = some x := by
  by_cases hc : c
  · exact ⟨hc, ite_t hc h⟩
  · have := ite_f hc h
    cases this
theorem chk_n {α : Type} {c : Prop} {i : Decidable c} {a : Option α} {x : α} (h : @ite (Option α) c i none a = some x) : ¬ c ∧ a = some x := by
  by_cases hc : c
  · have := ite_t hc h
    cases this
  · exact ⟨hc, ite_f hc h⟩
theorem some2 {α : Type} {a : α} {σ : St} {res : α × St} (h : (some (a, σ) : Option (α × St)) = some res) : res.1 = a ∧ res.2 = σ := by
  cases h; exact ⟨rfl, rfl⟩
