def B8_tail_174 (rec : Int32 → St → Option (Unit × St)) (x1 : Int32) (σ : St) : Option (Unit × St) := if (48 : Int32) ≤ x1 then (bnd (S1_readInto (rf 31 ((0 : Int32)).toNatClampNeg) σ) fun r25 σ24 => bnd (S1_clear σ24) fun r28 σ27 => some ((), σ27)) else (if inb x1 48 then (bnd (S1_add (chS 0 (x1).toNatClampNeg) σ) fun r32 σ31 => rec (x1 + 1) σ31) else none)
def S8_tail_174 : Nat → Int32 → St → Option (Unit × St)
  | 0, _, _ => none
  | n + 1, x1, σ => B8_tail_174 (S8_tail_174 n) x1 σ
def S8_tail (σ : St) : Option (Unit × St) := S8_tail_174 4096 (0 : Int32) σ
set_option maxRecDepth 100000 in
set_option maxHeartbeats 8000000 in
theorem v8_tail_174n {g : GT} {X : XT} (hX : OkX g X (mi8)) (hN : 75 ≤ g.N) {res : Unit × St} (hQ : QVC g X res.2)   (n : Nat) : ∀ (x1 : Int32) (σ : St) , S8_tail_174 n x1 σ = some res → V g X (mi8) 174 [(0, .ref (g.ad (0))), (1, .int (x1))] [] σ := by
  induction n with
  | zero => intro x1 σ; intro h; cases h
  | succ n ih =>
    intro x1 σ h
    have h : B8_tail_174 (S8_tail_174 n) x1 σ = some res := h
    unfold B8_tail_174 at h
    refine V_iload_n (q := 175) hX dX8_init_174 1 rfl rfl ?_
    refine V_ldcS0 (q := 177) hX rfl dX8_init_175 rfl ?_
    refine V_slen 0 (by decide) (q := 180) hX (v := 48) (by decide) k1_227 rfl rfl dX8_init_177 rfl ?_
    refine V_icmp_ge (q := 183) (t := 202) hX dX8_init_180 (by decide) rfl (fun z23 => ?_) (fun z23 => ?_)
    · have h := ite_t z23 h
      refine V_aload_n (q := 203) hX dX8_init_202 0 rfl rfl ?_
      refine V_getF (r := 26) (n := 75) (c := 8) (k := 4) (nf := 11) (C := RX8) (T := TX8) (q := 206) hX rfl rfl iG8 k2_179 rfl rfl ⟨rfl, by decide⟩ hN rfl rfl rfl rfl dX8_init_203 rfl ?_
      refine V_aload_n (q := 207) hX dX8_init_206 0 rfl rfl ?_
      refine V_getF (r := 31) (n := 75) (c := 8) (k := 5) (nf := 11) (C := RX8) (T := TX8) (q := 210) hX rfl rfl iG8 k2_180 rfl rfl ⟨rfl, by decide⟩ hN rfl rfl rfl rfl dX8_init_207 rfl ?_
      refine V_iconst (v := 0) (q := 211) hX dX8_init_210 (by decide) rfl ?_
      refine V_aald (n := 75) (c := 12) (len := 6) (C := RX6) (q := 212) hX ⟨rfl, rfl, by decide⟩ hN rfl 2 rfl (by show inb _ _; decide) dX8_init_211 rfl ?_
      obtain ⟨r25, σ24, e26, h⟩ := bnd_some h
      refine V_cvI (n := 75) (c := 1) (nf := 7) (C := RX1) (T := TX1) (As := [.ref (g.ad ((rf 31 ((0 : Int32)).toNatClampNeg)))]) (q := 215) hX (c1_readInto hX.2.2.2.2.1 hN (aa12 ⟨rfl, rfl, by decide⟩ (by show inb _ _; decide)) e26) (goodV_of k2_39 k2_40 k2_41 k1_4 (cons_g k2_42)) (nA := 1) (by decide) rfl rfl rfl rfl rfl ⟨rfl, by decide⟩ hN rfl rfl rfl dX8_init_212 rfl ?_
      refine V_pop (q := 216) hX dX8_init_215 rfl rfl ?_
      refine V_aload_n (q := 217) hX dX8_init_216 0 rfl rfl ?_
      refine V_getF (r := 26) (n := 75) (c := 8) (k := 4) (nf := 11) (C := RX8) (T := TX8) (q := 220) hX rfl rfl iG8 k2_179 rfl rfl ⟨rfl, by decide⟩ hN rfl rfl rfl rfl dX8_init_217 rfl ?_
      obtain ⟨r28, σ27, e29, h⟩ := bnd_some h
      refine V_cvV (n := 75) (c := 1) (nf := 7) (C := RX1) (T := TX1) (As := []) (q := 223) hX (c1_clear hX.2.2.2.2.1 hN e29) (goodV_of k2_171 k2_172 k2_173 k1_4 (cons_g k2_174)) (nA := 0) (by decide) rfl rfl rfl rfl rfl ⟨rfl, by decide⟩ hN rfl rfl rfl dX8_init_220 rfl ?_
      obtain ⟨f1, f2⟩ := some2 h
      rw [f2] at hQ
      exact V_vretC hX hQ rfl dX8_init_223
    have h := ite_f z23 h
    refine V_aload_n (q := 184) hX dX8_init_183 0 rfl rfl ?_
    refine V_getF (r := 26) (n := 75) (c := 8) (k := 4) (nf := 11) (C := RX8) (T := TX8) (q := 187) hX rfl rfl iG8 k2_179 rfl rfl ⟨rfl, by decide⟩ hN rfl rfl rfl rfl dX8_init_184 rfl ?_
    refine V_ldcS0 (q := 189) hX rfl dX8_init_187 rfl ?_
    refine V_iload_n (q := 190) hX dX8_init_189 1 rfl rfl ?_
    obtain ⟨z30, h⟩ := chk_t h
    refine V_schar 0 (by decide) (q := 193) hX k1_237 z30 rfl rfl dX8_init_190 rfl ?_
    obtain ⟨r32, σ31, e33, h⟩ := bnd_some h
    refine V_cvV (n := 75) (c := 1) (nf := 7) (C := RX1) (T := TX1) (As := [.int ((chS 0 (x1).toNatClampNeg))]) (q := 196) hX (c1_add hX.2.2.2.2.1 hN e33) (goodV_of k2_35 k2_36 k2_37 k1_4 (cons_g k2_38)) (nA := 1) (by decide) rfl rfl rfl rfl rfl ⟨rfl, by decide⟩ hN rfl rfl rfl dX8_init_193 rfl ?_
    refine V_iinc (v := (x1 + 1)) (lv' := [(1, .int ((x1 + 1))), (0, .ref (g.ad (0)))]) (q := 199) hX dX8_init_196 1 rfl (by rfl) rfl rfl rfl ?_
    refine V_goto hX dX8_init_199 (q := 174) (by decide) ?_
    refine V.pick [1, 0] rfl ?_
    exact ih (x1 + 1) σ31  h
theorem v8_tail_174 {g : GT} {X : XT} (hX : OkX g X (mi8)) (hN : 75 ≤ g.N) {res : Unit × St} (hQ : QVC g X res.2) (x1 : Int32) (σ : St) (h : S8_tail_174 4096 x1 σ = some res) : V g X (mi8) 174 [(0, .ref (g.ad (0))), (1, .int (x1))] [] σ := v8_tail_174n hX hN hQ 4096 x1 σ h
set_option maxRecDepth 100000 in
set_option maxHeartbeats 8000000 in
theorem v8_tail {g : GT} {X : XT} (hX : OkX g X (mi8)) (hN : 75 ≤ g.N) {res : Unit × St} (hQ : QVC g X res.2) {σ : St} (h : S8_tail σ = some res) : V g X (mi8) 172 [(0, .ref (g.ad (0)))] [] σ := by
  unfold S8_tail at h
  refine V_iconst (v := 0) (q := 173) hX dX8_init_172 (by decide) rfl ?_
  refine V_istore_n (lv' := [(1, .int ((0 : Int32))), (0, .ref (g.ad (0)))]) (q := 174) hX dX8_init_173 rfl rfl rfl ?_
  refine V.pick [1, 0] rfl ?_
  exact v8_tail_174 hX hN hQ (0 : Int32) σ h
def B9_tail_1029 (rec : Int32 → St → Option (Unit × St)) (x1 : Int32) (σ : St) : Option (Unit × St) := if (48 : Int32) ≤ x1 then (bnd (S9_text (sI σ 75 6 (48 : Int32))) fun r13 σ12 => some ((), σ12)) else (if inb x1 48 then (if inb x1 160 then (rec (x1 + 1) (sI σ 79 (x1).toNatClampNeg (gI σ 87 (x1).toNatClampNeg))) else none) else none)
def S9_tail_1029 : Nat → Int32 → St → Option (Unit × St)
  | 0, _, _ => none
  | n + 1, x1, σ => B9_tail_1029 (S9_tail_1029 n) x1 σ
def S9_tail (σ : St) : Option (Unit × St) := S9_tail_1029 4096 (0 : Int32) σ
set_option maxRecDepth 100000 in
set_option maxHeartbeats 8000000 in
theorem v9_tail_1029n {g : GT} {X : XT} (hX : OkX g X (mi9)) (hN : 95 ≤ g.N) {res : Unit × St} (hQ : QVC g X res.2)   (n : Nat) : ∀ (x1 : Int32) (σ : St) , S9_tail_1029 n x1 σ = some res → V g X (mi9) 1029 [(0, .ref (g.ad (75))), (1, .int (x1))] [] σ := by
  induction n with
  | zero => intro x1 σ; intro h; cases h
  | succ n ih =>
    intro x1 σ h
    have h : B9_tail_1029 (S9_tail_1029 n) x1 σ = some res := h
    unfold B9_tail_1029 at h
    refine V_iload_n (q := 1030) hX dX9_init_1029 1 rfl rfl ?_
    refine V_bipush (v := 48) (q := 1032) hX dX9_init_1030 (by decide) rfl ?_
    refine V_icmp_ge (q := 1035) (t := 1053) hX dX9_init_1032 (by decide) rfl (fun z11 => ?_) (fun z11 => ?_)
    · have h := ite_t z11 h
      refine V_aload_n (q := 1054) hX dX9_init_1053 0 rfl rfl ?_
      refine V_bipush (v := 48) (q := 1056) hX dX9_init_1054 (by decide) rfl ?_
      refine V_putI (n := 95) (c := 9) (k := 6) (nf := 39) (C := RX9) (T := TX9) (q := 1059) hX rfl rfl iG9 k4_188 rfl rfl ⟨rfl, by decide⟩ hN rfl tyX9 tyX9_ok nmX9 rfl rfl (ty := .int) (tyX9_ok 6 (by decide)) rfl rfl dX9_init_1056 rfl ?_
      refine V_aload_n (q := 1060) hX dX9_init_1059 0 rfl rfl ?_
      obtain ⟨r13, σ12, e14, h⟩ := bnd_some h
      refine V_cvI (n := 95) (c := 9) (nf := 39) (C := RX9) (T := TX9) (As := []) (q := 1063) hX (c9_text hX.2.2.2.2.1 hN e14) (goodV_of k4_135 k4_136 k4_137 k1_16 (cons_g k4_138)) (nA := 0) (by decide) rfl rfl rfl rfl rfl ⟨rfl, by decide⟩ hN rfl rfl rfl dX9_init_1060 rfl ?_
      refine V_pop (q := 1064) hX dX9_init_1063 rfl rfl ?_
      obtain ⟨f1, f2⟩ := some2 h
      rw [f2] at hQ
      exact V_vretC hX hQ rfl dX9_init_1064
    have h := ite_f z11 h
    refine V_aload_n (q := 1036) hX dX9_init_1035 0 rfl rfl ?_
    refine V_getF (r := 79) (n := 95) (c := 9) (k := 5) (nf := 39) (C := RX9) (T := TX9) (q := 1039) hX rfl rfl iG9 k4_187 rfl rfl ⟨rfl, by decide⟩ hN rfl rfl rfl rfl dX9_init_1036 rfl ?_
    refine V_iload_n (q := 1040) hX dX9_init_1039 1 rfl rfl ?_
    refine V_aload_n (q := 1041) hX dX9_init_1040 0 rfl rfl ?_
    refine V_getF (r := 87) (n := 95) (c := 9) (k := 17) (nf := 39) (C := RX9) (T := TX9) (q := 1044) hX rfl rfl iG9 k4_199 rfl rfl ⟨rfl, by decide⟩ hN rfl rfl rfl rfl dX9_init_1041 rfl ?_
    refine V_iload_n (q := 1045) hX dX9_init_1044 1 rfl rfl ?_
    obtain ⟨z15, h⟩ := chk_t h
    refine V_iald (n := 95) (len := 48) (q := 1046) hX ⟨rfl, rfl, by decide⟩ hN z15 dX9_init_1045 rfl ?_
    obtain ⟨z16, h⟩ := chk_t h
    refine V_iast (n := 95) (len := 160) (q := 1047) hX ⟨rfl, rfl, by decide⟩ hN z16 dX9_init_1046 rfl ?_
    refine V_iinc (v := (x1 + 1)) (lv' := [(1, .int ((x1 + 1))), (0, .ref (g.ad (75)))]) (q := 1050) hX dX9_init_1047 1 rfl (by rfl) rfl rfl rfl ?_
    refine V_goto hX dX9_init_1050 (q := 1029) (by decide) ?_
    refine V.pick [1, 0] rfl ?_
    exact ih (x1 + 1) (sI σ 79 (x1).toNatClampNeg (gI σ 87 (x1).toNatClampNeg))  h
theorem v9_tail_1029 {g : GT} {X : XT} (hX : OkX g X (mi9)) (hN : 95 ≤ g.N) {res : Unit × St} (hQ : QVC g X res.2) (x1 : Int32) (σ : St) (h : S9_tail_1029 4096 x1 σ = some res) : V g X (mi9) 1029 [(0, .ref (g.ad (75))), (1, .int (x1))] [] σ := v9_tail_1029n hX hN hQ 4096 x1 σ h
set_option maxRecDepth 100000 in
set_option maxHeartbeats 8000000 in
theorem v9_tail {g : GT} {X : XT} (hX : OkX g X (mi9)) (hN : 95 ≤ g.N) {res : Unit × St} (hQ : QVC g X res.2) {σ : St} (h : S9_tail σ = some res) : V g X (mi9) 1027 [(0, .ref (g.ad (75)))] [] σ := by
  unfold S9_tail at h
  refine V_iconst (v := 0) (q := 1028) hX dX9_init_1027 (by decide) rfl ?_
  refine V_istore_n (lv' := [(1, .int ((0 : Int32))), (0, .ref (g.ad (75)))]) (q := 1029) hX dX9_init_1028 rfl rfl rfl ?_
  refine V.pick [1, 0] rfl ?_
  exact v9_tail_1029 hX hN hQ (0 : Int32) σ h
