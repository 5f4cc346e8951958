/-! A text, read from the tape: both sides the same. -/
def fP8 (t p a k : Nat) : Prop := fC t a k ∨ (a = 51 + 3 * t ∧ k = p)
def fP9 (t p a k : Nat) : Prop := fE t a k ∨ (a = 81 ∧ k = 4 * t + p)
def fT8 (t a k : Nat) : Prop := (a = 26 ∧ 2 ≤ k ∧ k ≤ 5) ∨ (49 + 3 * t ≤ a ∧ a ≤ 51 + 3 * t)
def fT9 (t a k : Nat) : Prop := fE t a k ∨ (a = 81 ∧ 4 * t ≤ k ∧ k < 4 * t + 4) ∨ (a = 75 ∧ k = 6)
def RT (b : Nat → Nat) (s t : Nat) (out : List Int32) (j : Nat) (σ : St) : Prop := TR b s σ ∧ ((gI σ 75 9 = nI t ∧ t < 6) ∧ gI σ 75 26 = nI out.length ∧ cds σ t 0 out.length = out) ∧ gI σ 75 18 = nI (pS b s j)
def keyB (K : Nat) (c : Int32) (V p : Nat) : Bool := decide (c = 106 + nI p) == (decide (K = 3) && decide (V = p))
theorem key_b : KL.all (fun K => (List.range 6).all (fun V => (decide (K = 3) && decide (3 ≤ V)) || (List.range 3).all (fun p => keyB K (ctk K V) V p))) = true := by decide +kernel
theorem key_fin : ∀ K ∈ KL, ∀ V, V < 6 → (K = 3 → V < 3) → ∀ p, p < 3 → (ctk K V = 106 + nI p ↔ (K = 3 ∧ V = p)) := by
  intro K hK V hV h3 p hp
  have h := List.all_eq_true.mp (List.all_eq_true.mp key_b K hK) V (List.mem_range.mpr hV)
  rw [Bool.or_eq_true, Bool.and_eq_true, decide_eq_true_iff, decide_eq_true_iff] at h
  rcases h with ⟨y1, y2⟩ | h
  · have := h3 y1; omega
  · have h' := List.all_eq_true.mp h p (List.mem_range.mpr hp)
    unfold keyB at h'
    have h2 := eq_of_beq h'
    rw [← Bool.decide_and] at h2
    exact decide_eq_decide.mp h2
section TXC
variable {b : Nat → Nat} {s t : Nat}
theorem key_ok {j p : Nat} (hp : p < 3) : ctk (tK b s j) (tV b s j) = 106 + nI p ↔ (tK b s j = 3 ∧ tV b s j = p) := by
  obtain ⟨h2, h3, h4⟩ := tV_w (b := b) (s := s) (j := j)
  generalize tK b s j = K at h2 h3 h4 ⊢
  generalize tV b s j = V at h2 h3 ⊢
  have hmem : K ∈ KL := by
    rcases h4 with h | h
    · have : K = 0 ∨ K = 1 ∨ K = 2 ∨ K = 3 ∨ K = 4 ∨ K = 5 ∨ K = 6 ∨ K = 7 := by omega
      rcases this with rfl | rfl | rfl | rfl | rfl | rfl | rfl | rfl <;> decide
    · unfold isSg at h
      simp only [Bool.or_eq_true, beq_iff_eq] at h
      rcases h with (((((((h | h) | h) | h) | h) | h) | h) | h) <;> (rw [h]; decide)
  by_cases q3 : K = 3
  · exact key_fin K hmem V (by have := h3 q3; omega) (fun _ => by have := h3 q3; omega) p hp
  · by_cases q2 : K = 2
    · exact key_fin K hmem V (by have := h2 q2; omega) (fun h => absurd h q3) p hp
    · have e : ctk K V = ctk K 0 := by unfold ctk; rw [if_neg q2, if_neg q2, if_neg q3, if_neg q3]
      rw [e]
      refine (key_fin K hmem 0 (by omega) (fun h => absurd h q3) p hp).trans ⟨fun h => absurd h.1 q3, fun h => absurd h.1 q3⟩
theorem RT.fr {out : List Int32} {j : Nat} {σ σ' : St} (h : RT b s t out j σ) (k : ∀ x y, (x = 75 ∧ (y = 6 ∨ y = 9 ∨ y = 18 ∨ y = 26)) ∨ x = 79 ∨ x = 80 ∨ x = 88 → gI σ' x y = gI σ x y) : RT b s t out j σ' := by
  obtain ⟨h1, ⟨⟨h2, h3⟩, h4, h5⟩, h6⟩ := h
  refine ⟨h1.fr (fun x y z => k x y (by omega)), ⟨⟨(k 75 9 (by omega)).trans h2, h3⟩, (k 75 26 (by omega)).trans h4, ?_⟩, (k 75 18 (by omega)).trans h6⟩
  rw [cds_eq t (fun i => k 80 i (by omega))]; exact h5
theorem nextT (hs : s ≤ 160) (hb : ∀ k, k < s → b k ≤ 255) {out : List Int32} {j : Nat} {σ : St} (h : RT b s t out j σ) : ∃ σ1, S9_next σ = some ((), σ1) ∧ RT b s t out (j + 1) σ1 ∧ rdT b s j σ1 ∧ Fr (fE t) noR σ σ1 := by
  obtain ⟨h1, ⟨⟨h2, h3⟩, h4, h5⟩, h6⟩ := h
  obtain ⟨σ1, g, r, f⟩ := next9 hs hb h1 h6
  refine ⟨σ1, g, ⟨h1.fr (fun x y z => f.1 x y (by unfold lxR; omega)), ⟨⟨(f.1 75 9 (by unfold lxR; omega)).trans h2, h3⟩, (f.1 75 26 (by unfold lxR; omega)).trans h4, ?_⟩, r.1⟩, r, lxR_E f⟩
  rw [cds_eq t (fun i => f.1 80 i (by unfold lxR; omega))]; exact h5
theorem RT.opn {out : List Int32} {j : Nat} {σ : St} (h : RT b s t out j σ) : RM b s t [] out j (sI (sI σ 75 24 0) 75 25 0) := by
  have h' : RT b s t out j (sI (sI σ 75 24 0) 75 25 0) := h.fr (fun x y z => by rw [gI_sI, if_neg (by omega), gI_sI, if_neg (by omega)])
  obtain ⟨h1, ⟨h2, h4, h5⟩, h6⟩ := h'
  refine ⟨h1, ⟨h2, ⟨?_, trivial, fun x hx => absurd hx (List.not_mem_nil)⟩, ?_, h4, h5⟩, h6⟩
  · rw [gI_sI, if_neg (by omega), gI_sI, if_pos ⟨rfl, rfl⟩]; rfl
  · rw [gI_sI, if_pos ⟨rfl, rfl⟩]; rfl
theorem RM.cls {H : List Nat} {out : List Int32} {j : Nat} {σ : St} (h : RM b s t H out j σ) : RT b s t out j σ := ⟨h.1, ⟨h.2.1.1, h.2.1.2.2.2⟩, h.2.2⟩
theorem CM.ends {out : List Int32} {j p : Nat} {v : Int32} {σ : St} (h : CM b s t out j σ) : CM b s t out j (sI σ (51 + 3 * t) p v) := by
  obtain ⟨h1, h2, ⟨h3, h4⟩, h5, h6⟩ := h
  have K : ∀ x y, x = 26 ∨ x = 27 ∨ x = 49 + 3 * t ∨ x = 50 + 3 * t → gI (sI σ (51 + 3 * t) p v) x y = gI σ x y := fun x y z => by rw [gI_sI, if_neg (by omega)]
  refine ⟨h1.fr (fun x y z => K x y (by omega)), ⟨(K _ _ (Or.inl rfl)).trans h2.1, (K _ _ (Or.inl rfl)).trans h2.2.1, (K _ _ (Or.inl rfl)).trans h2.2.2.1, fun z => (K _ _ (Or.inl rfl)).trans (h2.2.2.2 z)⟩, ⟨h3, h4⟩, (K _ _ (by omega)).trans h5, fun i hi => (K _ _ (by omega)).trans (h6 i hi)⟩
/-- the reference gives up -/
theorem text_fail {q : Nat} {σ : St} (h9 : gI σ 75 9 = nI t) (ht : t < 6) (h19 : gI σ 75 19 = nI q) : ∃ σ', S9_text_122 0 σ = some (-100 - nI q, σ') ∧ Fr (fT9 t) noR σ σ' ∧ gI σ' 75 6 = 0 := by
  unfold S9_text_122
  rw [h9, show (4 : Int32) * nI t + 3 = nI (4 * t + 3) by rw [show (4 : Int32) = nI 4 from rfl, nI_mul, show (3 : Int32) = nI 3 from rfl, nI_add], if_pos (inb_nI (by omega) (by omega)), nI_clamp (by omega), if_pos rfl, gI_sI, if_neg (by omega), gI_sI, if_neg (by omega), h19]
  refine ⟨_, rfl, (Fr.rf.sI _ (by unfold fT9; omega)).sI _ (by unfold fT9; omega), by rw [gI_sI, if_pos ⟨rfl, rfl⟩]⟩
theorem text_rec0 (f : Nat) (x : Int32) (σ : St) : S9_text_26 (f + 1) 0 x σ = S9_text_122 0 σ := by
  show B9_text_26 _ _ _ σ = _
  unfold B9_text_26 S9_text_101
  rw [if_pos rfl, if_pos rfl]
  split <;> rfl
theorem fE_T9 {σ σ' : St} (h : Fr (fE t) noR σ σ') : Fr (fT9 t) noR σ σ' := h.mo (fun a k z => Or.inl z) (fun _ _ z => z)
theorem fP_T9 {p : Nat} (hp : p < 3) {σ σ' : St} (h : Fr (fP9 t p) noR σ σ') : Fr (fT9 t) noR σ σ' := h.mo (fun a k z => by rcases z with z | z; exact Or.inl z; unfold fT9; omega) (fun _ _ z => z)
theorem fC_T8 {σ σ' : St} (h : Fr (fC t) noR σ σ') : Fr (fT8 t) noR σ σ' := h.mo (fun a k z => by unfold fC at z; unfold fT8; omega) (fun _ _ z => z)
theorem fP_T8 {p : Nat} {σ σ' : St} (h : Fr (fP8 t p) noR σ σ') : Fr (fT8 t) noR σ σ' := h.mo (fun a k z => by unfold fP8 fC at z; unfold fT8; omega) (fun _ _ z => z)
theorem part_ok (hs : s ≤ 160) (hb : ∀ k, k < s → b k ≤ 255) {p j : Nat} {out : List Int32} {σ8 σ9 : St} (hp : p < 3) (h8 : CM b s t out j σ8) (h9 : RT b s t out j σ9) (hl : out.length ≤ j) (hj : j ≤ s) :
    (∃ (q : Nat) (σ8' σ9' : St), (∀ f, S1_readInto_24 (49 + 3 * t) (f + 1) (nI p) σ8 = some (nI q, σ8')) ∧ q ≤ s ∧ Fr (fT8 t) noR σ8 σ8' ∧ (∀ f, S9_text_26 (f + 2) 1 (nI p) σ9 = some (-100 - nI q, σ9')) ∧ Fr (fT9 t) noR σ9 σ9' ∧ gI σ9' 75 6 = 0) ∨
    (∃ (j' : Nat) (cs : List Int32) (σ8' σ9' : St), ((∀ f, S1_readInto_24 (49 + 3 * t) (f + 1) (nI p) σ8 = S1_readInto_24 (49 + 3 * t) f (nI (p + 1)) σ8') ∧ CM b s t (out ++ cs) j' σ8' ∧ gI σ8' (51 + 3 * t) p = nI (out ++ cs).length ∧ Fr (fP8 t p) noR σ8 σ8') ∧ VD cs ∧ ((∀ f, S9_text_26 (f + 1) 1 (nI p) σ9 = S9_text_26 f 1 (nI (p + 1)) σ9') ∧ RT b s t (out ++ cs) j' σ9' ∧ gI σ9' 81 (4 * t + p) = nI out.length ∧ Fr (fP9 t p) noR σ9 σ9') ∧ (out ++ cs).length ≤ j' ∧ j' ≤ s) := by
  have ht := h8.2.2.1.2
  have hKb := tK_b hb j
  obtain ⟨σ9a, g9a, R9a, ⟨-, r19, r20, r21⟩, f9a⟩ := nextT hs hb h9
  have e9 : (4 : Int32) * nI t + nI p = nI (4 * t + p) := by rw [show (4 : Int32) = nI 4 from rfl, nI_mul, nI_add]
  have h79 := R9a.2.1.1.1
  -- the reference notes where the part begins
  have Rb : RT b s t out (j + 1) (sI σ9a 81 (4 * t + p) (nI out.length)) := R9a.fr (fun x y z => by rw [gI_sI, if_neg (by omega)])
  have fb : Fr (fP9 t p) noR σ9a (sI σ9a 81 (4 * t + p) (nI out.length)) := Fr.rf.sI _ (by unfold fP9; omega)
  have m81 : gI (sI σ9a 81 (4 * t + p) (nI out.length)) 81 (4 * t + p) = nI out.length := by rw [gI_sI, if_pos ⟨rfl, rfl⟩]
  have m19 : gI (sI σ9a 81 (4 * t + p) (nI out.length)) 75 19 = nI (pL b s j) := by rw [gI_sI, if_neg (by omega)]; exact r19
  have g9 : ∀ f, S9_text_26 (f + 1) 1 (nI p) σ9 = if rtk (tK b s j) = (3 : Int32) then (if gI σ9a 75 21 = nI p then S9_text_60 (S9_text_26 f) (nI p) 1 σ9a else S9_text_59 (S9_text_26 f) (nI p) σ9a) else S9_text_59 (S9_text_26 f) (nI p) σ9a := fun f => by
    show B9_text_26 _ _ _ σ9 = _
    unfold B9_text_26
    rw [if_neg (show ¬ (3 : Int32) ≤ nI p from nI_ge (b := 3) (by omega) (by omega)), if_neg (by decide), g9a, bnd_s, r20]
  have g8 : ∀ f, S1_readInto_24 (49 + 3 * t) (f + 1) (nI p) σ8 = bnd (S1_takes (106 + nI p) σ8) fun r48 σ47 => if r48 = 0 then S1_readInto_57 (49 + 3 * t) σ47 else bnd (SG 50 0 0 σ47) fun r52 σ51 => if r52 = 0 then S1_readInto_57 (49 + 3 * t) σ51 else bnd (S1_takes 59 σ51) fun r56 σ55 => if r56 = 0 then S1_readInto_57 (49 + 3 * t) σ55 else if Ob 75 6 (gR σ55 26 6) then bnd (S6_endPart (gR σ55 26 6) (nI p) σ55) fun _ σ60 => S1_readInto_24 (49 + 3 * t) f (nI p + 1) σ60 else none := fun f => by
    show B1_readInto_24 _ _ _ σ8 = _
    unfold B1_readInto_24
    rw [if_neg (show ¬ (3 : Int32) ≤ nI p from nI_ge (b := 3) (by omega) (by omega))]
  obtain ⟨k1, k2⟩ := takes8 hs hb h8 (106 + nI p)
  by_cases hkey : tK b s j = 3 ∧ tV b s j = p
  · obtain ⟨σ8a, g8a, c8a, f8a⟩ := k1 ((key_ok hp).mpr hkey)
    have hlt := (tK_lt hb j (show ¬ tK b s j = 0 by omega)).2
    have e60 : ∀ f, S9_text_26 (f + 1) 1 (nI p) σ9 = bnd (S9_eRead (sI σ9a 81 (4 * t + p) (nI out.length))) fun r67 σ66 => if r67 = 0 then S9_text_26 f 0 (nI p + 1) σ66 else S9_text_26 f 1 (nI p + 1) σ66 := fun f => by
      rw [g9 f, if_pos (show rtk (tK b s j) = (3 : Int32) from (rtk_eq hKb (n := 3) (by omega) (by omega)).mpr hkey.1), r21 (by omega), hkey.2, if_pos rfl]
      unfold S9_text_60 S9_text_93 S9_text_94
      rw [h79, e9, if_pos (inb_nI (by omega) (by omega)), nI_clamp (by omega), if_neg (by decide), R9a.2.1.2.1]
    have hcl := claim_ok (t := t) hs hb 50 0 0 (j + 1) [] out 1 σ8a (sI (sI (sI σ9a 81 (4 * t + p) (nI out.length)) 75 24 0) 75 25 0) (by omega) (by omega) rfl (by omega) c8a Rb.opn trivial (fun _ => rfl) (fun y => absurd y (by omega)) (by show out.length + 0 ≤ j + 1; omega) (by omega)
    have fo : Fr (fE t) noR (sI σ9a 81 (4 * t + p) (nI out.length)) (sI (sI (sI σ9a 81 (4 * t + p) (nI out.length)) 75 24 0) 75 25 0) := (Fr.rf.sI _ (by unfold fE; omega)).sI _ (by unfold fE; omega)
    -- what a fault behind the key makes of it
    have fin : ∀ (j2 : Nat) (σ8b σ9b : St), pL b s j2 ≤ s → (∀ f, S1_readInto_24 (49 + 3 * t) (f + 1) (nI p) σ8 = some (nI (pL b s j2), σ8b)) → Fr (fT8 t) noR σ8a σ8b → S9_eRead (sI σ9a 81 (4 * t + p) (nI out.length)) = some (0, σ9b) → gI σ9b 75 19 = nI (pL b s j2) → Fr (fE t) noR (sI (sI (sI σ9a 81 (4 * t + p) (nI out.length)) 75 24 0) 75 25 0) σ9b → (∃ (q : Nat) (σ8' σ9' : St), (∀ f, S1_readInto_24 (49 + 3 * t) (f + 1) (nI p) σ8 = some (nI q, σ8')) ∧ q ≤ s ∧ Fr (fT8 t) noR σ8 σ8' ∧ (∀ f, S9_text_26 (f + 2) 1 (nI p) σ9 = some (-100 - nI q, σ9')) ∧ Fr (fT9 t) noR σ9 σ9' ∧ gI σ9' 75 6 = 0) := by
      intro j2 σ8b σ9b w0 w1 w2 w3 w4 w5
      have h79b : gI σ9b 75 9 = nI t := (w5.1 75 9 (by unfold fE; omega)).trans ((fo.1 75 9 (by unfold fE; omega)).trans ((fb.1 75 9 (by unfold fP9 fE; omega)).trans h79))
      obtain ⟨σ9c, v1, v2, v3⟩ := text_fail h79b ht w4
      refine ⟨pL b s j2, σ8b, σ9c, w1, w0, (fC_T8 f8a).tr w2, fun f => ?_, ((((fE_T9 f9a).tr (fP_T9 hp fb)).tr (fE_T9 fo)).tr (fE_T9 w5)).tr v2, v3⟩
      rw [e60 (f + 1), w3, bnd_s, if_pos rfl, text_rec0, v1]
    rcases hcl with ⟨j2, σ8b, σ9b, ⟨q1, q2⟩, q3, q4, q5, q6, q7, q8⟩ | ⟨j2, cs, Hx, outx, mn2, σ8b, σ9b, ⟨q1, q2⟩, ⟨q3, q4⟩, ⟨q5, q6, q7⟩, ⟨q8, q9⟩, ⟨q10, q11, q12⟩, q13⟩
    · refine Or.inl (fin j2 σ8b σ9b (pL_b b s j2).2 (fun f => ?_) (fC_T8 q5) ?_ q7 q8)
      · rw [g8 f, g8a, bnd_s, if_neg (by decide), show SG 50 0 0 σ8a = _ from q3, bnd_s, if_pos rfl]
        unfold S1_readInto_57
        rw [q4]
      · have := q6 (4096 - (j2 - (j + 1)) - 1)
        rw [show 4096 - (j2 - (j + 1)) - 1 + (j2 - (j + 1)) + 1 = 4096 by omega] at this
        exact this
    · have k8' : unw 1 Hx outx = ([], out ++ cs) := q8
      have e0 : ∀ f, f ≤ 4096 - (j2 - (j + 1)) → f = 4096 - (j2 - (j + 1)) → S9_eRead (sI σ9a 81 (4 * t + p) (nI out.length)) = S9_eRead_14 f 0 mn2 σ9b := fun f _ y => by
        have := q5 f
        rw [show f + (j2 - (j + 1)) = 4096 by omega] at this
        exact this
      have e1 : S9_eRead (sI σ9a 81 (4 * t + p) (nI out.length)) = S9_eRead_14 (4095 - (j2 - (j + 1)) + 1) 0 mn2 σ9b := e0 _ (by omega) (by omega)
      have q10' : (out ++ cs).length + 0 ≤ j2 := q10
      obtain ⟨t1, t2⟩ := takes8 hs hb q3 (59 : Int32)
      have v59 := (see_ok (b := b) (s := s) (j := j2)).2.2.2.1
      by_cases h59 : tK b s j2 = 59
      · obtain ⟨σ8c, g8c, c8c, f8c⟩ := t1 (v59.mpr h59)
        obtain ⟨σ9c, w1, w2, w3, w4⟩ := eN_semi hs hb q6 (by omega) mn2 h59
        rw [k8'] at w1 w2
        have hlt2 := (tK_lt hb j2 (show ¬ tK b s j2 = 0 by omega)).2
        have hend : S6_endPart (gR σ8c 26 6) (nI p) σ8c = some ((), sI σ8c (51 + 3 * t) p (nI (out ++ cs).length)) := by
          unfold S6_endPart
          rw [c8c.2.2.1.1, if_neg (show ¬ nI p < (0 : Int32) from nI_pos (by omega)), if_neg (show ¬ (3 : Int32) ≤ nI p from nI_ge (b := 3) (by omega) (by omega)), if_pos (inb_nI (by omega) (by omega)), nI_clamp (by omega), c8c.2.2.2.1, show 49 + 3 * t + 2 = 51 + 3 * t by omega]
        refine Or.inr ⟨j2 + 1, cs, sI σ8c (51 + 3 * t) p (nI (out ++ cs).length), σ9c, ⟨fun f => ?_, c8c.ends, by rw [gI_sI, if_pos ⟨rfl, rfl⟩], ?_⟩, q9, ⟨fun f => ?_, w2.cls, ?_, ?_⟩, by omega, by omega⟩
        · rw [g8 f, g8a, bnd_s, if_neg (by decide), show SG 50 0 0 σ8a = _ from q2, bnd_s, if_neg (by decide), g8c, bnd_s, if_neg (by decide), if_pos (show Ob 75 6 (gR σ8c 26 6) by rw [c8c.2.2.1.1]; exact obT ht), hend, bnd_s, nI_1]
        · exact (((f8a.tr q4).tr f8c).mo (fun a k z => Or.inl z) (fun _ _ z => z)).sI _ (Or.inr ⟨rfl, rfl⟩)
        · rw [e60 f, e1, w1, if_pos rfl, bnd_s, if_neg (by decide), nI_1]
        · rw [w4.1 81 _ (by unfold fE; omega), q7.1 81 _ (by unfold fE; omega), fo.1 81 _ (by unfold fE; omega)]; exact m81
        · exact (((((f9a.mo (fun a k z => Or.inl z) (fun _ _ z => z)).tr fb).tr (fo.mo (fun a k z => Or.inl z) (fun _ _ z => z))).tr (q7.mo (fun a k z => Or.inl z) (fun _ _ z => z))).tr (w4.mo (fun a k z => Or.inl z) (fun _ _ z => z)))
      · have hfault : ∃ σ', (∀ f, S9_eRead_14 (f + 1) 0 mn2 σ9b = some (0, σ')) ∧ gI σ' 75 19 = nI (pL b s j2) ∧ Fr (fE t) noR σ9b σ' := by
          by_cases h41 : tK b s j2 = 41
          · exact (eN_close hs hb q6 (by omega) mn2 h41).1 (by rw [k8'])
          · exact stop9 hs hb q6 (by omega) mn2 q13 h59 h41
        obtain ⟨σ9c, w1, w2, w3⟩ := hfault
        refine Or.inl (fin j2 σ8b σ9c (pL_b b s j2).2 (fun f => ?_) (fC_T8 q4) ?_ w2 (q7.tr w3))
        · rw [g8 f, g8a, bnd_s, if_neg (by decide), show SG 50 0 0 σ8a = _ from q2, bnd_s, if_neg (by decide), t2 (fun z => h59 (v59.mp z)), bnd_s, if_pos rfl]
          unfold S1_readInto_57
          rw [q3.2.1.1]
        · rw [e1, w1]
  · -- another word than the one that must stand here
    have e59 : ∀ f, S9_text_26 (f + 1) 1 (nI p) σ9 = S9_text_26 f 0 (nI p + 1) (sI σ9a 81 (4 * t + p) (nI out.length)) := fun f => by
      have h59 : S9_text_59 (S9_text_26 f) (nI p) σ9a = S9_text_26 f 0 (nI p + 1) (sI σ9a 81 (4 * t + p) (nI out.length)) := by
        unfold S9_text_59 S9_text_60 S9_text_93 S9_text_94
        rw [h79, e9, if_pos (inb_nI (by omega) (by omega)), nI_clamp (by omega), if_pos rfl, R9a.2.1.2.1]
      rw [g9 f, h59]
      by_cases y : tK b s j = 3
      · have hV := tV_w (b := b) (s := s) (j := j)
        rw [if_pos (show rtk (tK b s j) = (3 : Int32) from (rtk_eq hKb (n := 3) (by omega) (by omega)).mpr y), r21 (by omega), if_neg (fun z => hkey ⟨y, (nI_inj (by have := hV.2.1 y; omega) (by omega)).mp z⟩)]
      · rw [if_neg (show ¬ rtk (tK b s j) = (3 : Int32) from fun z => y ((rtk_eq hKb (n := 3) (by omega) (by omega)).mp z))]
    obtain ⟨σ9c, v1, v2, v3⟩ := text_fail (σ := sI σ9a 81 (4 * t + p) (nI out.length)) Rb.2.1.1.1 ht m19
    refine Or.inl ⟨pL b s j, σ8, σ9c, fun f => ?_, (pL_b b s j).2, Fr.rf, fun f => ?_, ((fE_T9 f9a).tr (fP_T9 hp fb)).tr v2, v3⟩
    · rw [g8 f, k2 (fun z => hkey ((key_ok hp).mp z)), bnd_s, if_pos rfl]
      unfold S1_readInto_57
      rw [h8.2.1.1]
    · rw [e59 (f + 1), text_rec0, v1]
end TXC
