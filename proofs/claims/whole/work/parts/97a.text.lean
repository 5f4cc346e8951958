/-! A whole text; the call `text`. -/
theorem cds_len (σ : St) (t : Nat) : ∀ n i, (cds σ t i n).length = n := by
  intro n
  induction n with
  | zero => intro i; rfl
  | succ n ih => intro i; show (cds σ t (i + 1) n).length + 1 = _; rw [ih]
theorem cds_split (σ : St) (t : Nat) : ∀ n m i, cds σ t i (n + m) = cds σ t i n ++ cds σ t (i + n) m := by
  intro n
  induction n with
  | zero => intro m i; rw [Nat.zero_add, Nat.add_zero]; rfl
  | succ n ih =>
    intro m i
    rw [show n + 1 + m = (n + m) + 1 by omega]
    show _ :: cds σ t (i + 1) (n + m) = (_ :: cds σ t (i + 1) n) ++ _
    rw [ih m (i + 1), show i + 1 + n = i + (n + 1) by omega]
    rfl
theorem cds_get (σ : St) (t : Nat) : ∀ n i k, k < n → (cds σ t i n).getD k 0 = gI σ 80 (200 * t + (i + k)) := by
  intro n
  induction n with
  | zero => intro i k h; exact absurd h (by omega)
  | succ n ih =>
    intro i k h
    cases k with
    | zero => rfl
    | succ k =>
      show (cds σ t (i + 1) n).getD k 0 = _
      rw [ih (i + 1) k (by omega), show i + 1 + k = i + (k + 1) by omega]
/-- a text in the two memories -/
def TX (t : Nat) (σ σ' : St) : Prop := ∃ b : Nat → Nat, b 0 = 0 ∧ (∀ p, p < 3 → b p ≤ b (p + 1)) ∧ b 3 ≤ 160 ∧ (∀ p, p < 4 → gI σ' 81 (4 * t + p) = nI (b p)) ∧ (∀ p, p < 3 → gI σ (51 + 3 * t) p = nI (b (p + 1))) ∧ (∀ k, k < b 3 → gI σ (50 + 3 * t) k = stp (gI σ' 80 (200 * t + k))) ∧ ∀ p, p < 3 → dep (cds σ' t (b p) (b (p + 1) - b p)) 0 = some 1
def uR (a k : Nat) : Prop := a = 26 ∧ k = 6
def fS9 (t a k : Nat) : Prop := fT9 t a k ∨ (a = 75 ∧ k = 9)
section TXW
variable {b : Nat → Nat} {s t : Nat}
theorem end_ok (hs : s ≤ 160) (hb : ∀ k, k < s → b k ≤ 255) {j : Nat} {out : List Int32} {σ8 σ9 : St} (h8 : CM b s t out j σ8) (h9 : RT b s t out j σ9) :
    ((∀ f, S1_readInto_24 (49 + 3 * t) (f + 1) (nI 3) σ8 = some (nI (pL b s j), σ8)) ∧ ∃ σ9', (∀ f, S9_text_26 (f + 1) 1 (nI 3) σ9 = some (-100 - nI (pL b s j), σ9')) ∧ Fr (fT9 t) noR σ9 σ9' ∧ gI σ9' 75 6 = 0) ∨
    ((∀ f, S1_readInto_24 (49 + 3 * t) (f + 1) (nI 3) σ8 = some (-1, σ8)) ∧ ∃ σ9', (∀ f, S9_text_26 (f + 1) 1 (nI 3) σ9 = some (nI t, σ9')) ∧ Fr (fS9 t) noR σ9 σ9' ∧ gI σ9' 75 6 = 0 ∧ gI σ9' 75 9 = nI (t + 1) ∧ gI σ9' 81 (4 * t + 3) = nI out.length ∧ (∀ k, gI σ9' 80 k = gI σ9 80 k) ∧ ∀ k, ¬ k = 4 * t + 3 → gI σ9' 81 k = gI σ9 81 k) := by
  have ht := h8.2.2.1.2
  have hKb := tK_b hb j
  have vm1 := (see_ok (b := b) (s := s) (j := j)).2.2.2.2.2.2
  obtain ⟨σ9a, g9a, R9a, ⟨-, r19, r20, r21⟩, f9a⟩ := nextT hs hb h9
  have e9 : (4 : Int32) * nI t + 3 = nI (4 * t + 3) := by rw [show (4 : Int32) = nI 4 from rfl, nI_mul, show (3 : Int32) = nI 3 from rfl, nI_add]
  have h79 := R9a.2.1.1.1
  have g8 : ∀ f, S1_readInto_24 (49 + 3 * t) (f + 1) (nI 3) σ8 = if ctk (tK b s j) (tV b s j) = (-1 : Int32) then some (-1, σ8) else some (nI (pL b s j), σ8) := fun f => by
    show B1_readInto_24 _ _ _ σ8 = _
    unfold B1_readInto_24
    rw [if_pos (show (3 : Int32) ≤ nI 3 by decide), h8.2.1.2.2.1, h8.2.1.1]
  have g9 : ∀ f, S9_text_26 (f + 1) 1 (nI 3) σ9 = if rtk (tK b s j) = 0 then S9_text_122 1 σ9a else S9_text_122 0 σ9a := fun f => by
    show B9_text_26 _ _ _ σ9 = _
    unfold B9_text_26 S9_text_101 S9_text_121
    rw [if_pos (show (3 : Int32) ≤ nI 3 by decide), if_neg (by decide), g9a, bnd_s, r20]
  by_cases h0 : tK b s j = 0
  · right
    refine ⟨fun f => by rw [g8 f, if_pos (vm1.mpr h0)], ?_⟩
    have e122 : S9_text_122 1 σ9a = some (nI t, sI (sI (sI σ9a 81 (4 * t + 3) (nI out.length)) 75 6 0) 75 9 (nI (t + 1))) := by
      unfold S9_text_122
      rw [h79, e9, if_pos (inb_nI (by omega) (by omega)), nI_clamp (by omega), if_neg (by decide), R9a.2.1.2.1]
      have e1 : gI (sI (sI σ9a 81 (4 * t + 3) (nI out.length)) 75 6 0) 75 9 = nI t := by rw [gI_sI, if_neg (by omega), gI_sI, if_neg (by omega)]; exact h79
      rw [e1, nI_1, gI_sI, if_pos ⟨rfl, rfl⟩, nI_pred]
    refine ⟨_, fun f => by rw [g9 f, if_pos (show rtk (tK b s j) = 0 from (rtk_eq hKb (n := 0) (by omega) (by omega)).mpr h0)]; exact e122, ?_, ?_, ?_, ?_, fun k => ?_, fun k hk => ?_⟩
    · have f1 : Fr (fS9 t) noR σ9 σ9a := f9a.mo (fun a k z => Or.inl (Or.inl z)) (fun _ _ z => z)
      exact ((f1.sI _ (by unfold fS9 fT9; omega)).sI _ (by unfold fS9 fT9; omega)).sI _ (by unfold fS9 fT9; omega)
    · rw [gI_sI, if_neg (by omega), gI_sI, if_pos ⟨rfl, rfl⟩]
    · rw [gI_sI, if_pos ⟨rfl, rfl⟩]
    · rw [gI_sI, if_neg (by omega), gI_sI, if_neg (by omega), gI_sI, if_pos ⟨rfl, rfl⟩]
    · rw [gI_sI, if_neg (by omega), gI_sI, if_neg (by omega), gI_sI, if_neg (by omega)]
      obtain ⟨h1, -, h6⟩ := h9
      obtain ⟨σx, gx, -, fx⟩ := next9 hs hb h1 h6
      rw [g9a] at gx
      have : σ9a = σx := congrArg Prod.snd (Option.some.inj gx)
      rw [this]
      exact fx.1 80 k (by unfold lxR; omega)
    · rw [gI_sI, if_neg (by omega), gI_sI, if_neg (by omega), gI_sI, if_neg (by omega)]
      exact f9a.1 81 k (by unfold fE; omega)
  · left
    refine ⟨fun f => by rw [g8 f, if_neg (fun z => h0 (vm1.mp z))], ?_⟩
    obtain ⟨σ9c, v1, v2, v3⟩ := text_fail h79 ht r19
    refine ⟨σ9c, fun f => ?_, (fE_T9 f9a).tr v2, v3⟩
    rw [g9 f, if_neg (show ¬ rtk (tK b s j) = 0 from fun z => h0 ((rtk_eq hKb (n := 0) (by omega) (by omega)).mp z)), v1]
theorem core_ok (hs : s ≤ 160) (hb : ∀ k, k < s → b k ≤ 255) (ht : t < 6) {σ8 σ9 : St} (h8 : TC b s σ8) (h9 : TR b s σ9) (h79 : gI σ9 75 9 = nI t) :
    (∃ (q : Nat) (σ8' σ9' : St), S1_readInto (49 + 3 * t) σ8 = some (nI q, σ8') ∧ q ≤ s ∧ Fr (fT8 t) uR σ8 σ8' ∧ S9_text_26 4096 1 0 (sI (sI σ9 75 18 0) 75 26 0) = some (-100 - nI q, σ9') ∧ Fr (fT9 t) noR σ9 σ9' ∧ gI σ9' 75 6 = 0) ∨
    (∃ (σ8' σ9' : St), S1_readInto (49 + 3 * t) σ8 = some (-1, σ8') ∧ Fr (fT8 t) uR σ8 σ8' ∧ S9_text_26 4096 1 0 (sI (sI σ9 75 18 0) 75 26 0) = some (nI t, σ9') ∧ Fr (fS9 t) noR σ9 σ9' ∧ gI σ9' 75 6 = 0 ∧ gI σ9' 75 9 = nI (t + 1) ∧ TX t σ8' σ9') := by
  -- the class begins
  have hg : gR (sR σ8 26 6 (49 + 3 * t)) 26 6 = 49 + 3 * t := by rw [gR_sR, if_pos ⟨rfl, rfl⟩]
  have fa : Fr (fT8 t) uR σ8 (sI (sI (sR σ8 26 6 (49 + 3 * t)) (49 + 3 * t) 2 0) 26 3 0) := ((Fr.rf.sR _ ⟨rfl, rfl⟩).sI _ (by unfold fT8; omega)).sI _ (by unfold fT8; omega)
  have hTa : TC b s (sI (sI (sR σ8 26 6 (49 + 3 * t)) (49 + 3 * t) 2 0) 26 3 0) := h8.fr (fun x y z => fa.1 x y (by unfold fT8; omega))
  obtain ⟨σ8a, g8a, l8a, f8a⟩ := step8 (j := 0) hs hb hTa (by rw [gI_sI, if_pos ⟨rfl, rfl⟩]; rfl)
  have hres : S1_readInto (49 + 3 * t) σ8 = S1_readInto_24 (49 + 3 * t) 4096 (nI 0) σ8a := by
    unfold S1_readInto
    rw [hg, if_pos (tx_ob t ht), g8a, bnd_s]; rfl
  have c0 : CM b s t [] 0 σ8a := by
    refine ⟨hTa.fr (fun x y z => f8a.1 x y (by unfold lxC; omega)), l8a, ⟨?_, ht⟩, ?_, fun k hk => absurd hk (by show ¬ k < 0; omega)⟩
    · rw [f8a.2 26 6 (fun z => z), gR_sI, gR_sI]; exact hg
    · rw [f8a.1 _ _ (by unfold lxC; omega), gI_sI, if_neg (by omega), gI_sI, if_pos ⟨rfl, rfl⟩]; rfl
  have F8a : Fr (fT8 t) uR σ8 σ8a := fa.tr (f8a.mo (fun a k z => by unfold lxC at z; unfold fT8; omega) (fun _ _ z => z.elim))
  -- the reference, too
  have f9a : Fr (fT9 t) noR σ9 (sI (sI σ9 75 18 0) 75 26 0) := (Fr.rf.sI _ (by unfold fT9 fE; omega)).sI _ (by unfold fT9 fE; omega)
  have r0 : RT b s t [] 0 (sI (sI σ9 75 18 0) 75 26 0) := by
    have K : ∀ x y, ¬ (x = 75 ∧ (y = 18 ∨ y = 26)) → gI (sI (sI σ9 75 18 0) 75 26 0) x y = gI σ9 x y := fun x y z => by rw [gI_sI, if_neg (by omega), gI_sI, if_neg (by omega)]
    refine ⟨h9.fr (fun x y z => K x y (by omega)), ⟨⟨(K 75 9 (by omega)).trans h79, ht⟩, ?_, rfl⟩, ?_⟩
    · rw [gI_sI, if_pos ⟨rfl, rfl⟩]; rfl
    · rw [gI_sI, if_neg (by omega), gI_sI, if_pos ⟨rfl, rfl⟩]; rfl
  rw [hres]
  generalize sI (sI σ9 75 18 0) 75 26 0 = σ9a at f9a r0 ⊢
  have up8 : ∀ {x y : St}, Fr (fT8 t) noR x y → Fr (fT8 t) uR x y := fun h => h.mo (fun _ _ z => z) (fun _ _ z => z.elim)
  have up9 : ∀ {x y : St}, Fr (fT9 t) noR x y → Fr (fS9 t) noR x y := fun h => h.mo (fun _ _ z => Or.inl z) (fun _ _ z => z)
  -- the first part
  rcases part_ok (p := 0) hs hb (by omega) c0 r0 (Nat.le_refl _) (Nat.zero_le _) with ⟨q, σ8b, σ9b, a1, a2, a3, a4, a5, a6⟩ | ⟨j1, d0, σ8b, σ9b, ⟨a1, a2, a3, a4⟩, a5, ⟨a6, a7, a8, a9⟩, a10, a11⟩
  · exact Or.inl ⟨q, σ8b, σ9b, a1 4095, a2, F8a.tr (up8 a3), a4 4094, f9a.tr a5, a6⟩
  rw [show S1_readInto_24 (49 + 3 * t) 4096 (nI 0) σ8a = S1_readInto_24 (49 + 3 * t) 4095 (nI 1) σ8b from a1 4095, show S9_text_26 4096 1 0 σ9a = S9_text_26 4095 1 (nI 1) σ9b from a6 4095]
  rcases part_ok (p := 1) hs hb (by omega) a2 a7 a10 a11 with ⟨q, σ8c, σ9c, b1, b2, b3, b4, b5, b6⟩ | ⟨j2, d1, σ8c, σ9c, ⟨b1, b2, b3, b4⟩, b5, ⟨b6, b7, b8, b9⟩, b10, b11⟩
  · exact Or.inl ⟨q, σ8c, σ9c, b1 4094, b2, (F8a.tr (up8 (fP_T8 a4))).tr (up8 b3), b4 4093, (f9a.tr (fP_T9 (by omega) a9)).tr b5, b6⟩
  rw [show S1_readInto_24 (49 + 3 * t) 4095 (nI 1) σ8b = S1_readInto_24 (49 + 3 * t) 4094 (nI 2) σ8c from b1 4094, show S9_text_26 4095 1 (nI 1) σ9b = S9_text_26 4094 1 (nI 2) σ9c from b6 4094]
  rcases part_ok (p := 2) hs hb (by omega) b2 b7 b10 b11 with ⟨q, σ8d, σ9d, c1, c2, c3, c4, c5, c6⟩ | ⟨j3, d2, σ8d, σ9d, ⟨c1, c2, c3, c4⟩, c5, ⟨c6, c7, c8, c9⟩, c10, c11⟩
  · exact Or.inl ⟨q, σ8d, σ9d, c1 4093, c2, ((F8a.tr (up8 (fP_T8 a4))).tr (up8 (fP_T8 b4))).tr (up8 c3), c4 4092, ((f9a.tr (fP_T9 (by omega) a9)).tr (fP_T9 (by omega) b9)).tr c5, c6⟩
  rw [show S1_readInto_24 (49 + 3 * t) 4094 (nI 2) σ8c = S1_readInto_24 (49 + 3 * t) 4093 (nI 3) σ8d from c1 4093, show S9_text_26 4094 1 (nI 2) σ9c = S9_text_26 4093 1 (nI 3) σ9d from c6 4093]
  have G8 : Fr (fT8 t) uR σ8 σ8d := ((F8a.tr (up8 (fP_T8 a4))).tr (up8 (fP_T8 b4))).tr (up8 (fP_T8 c4))
  have G9 : Fr (fT9 t) noR σ9 σ9d := ((f9a.tr (fP_T9 (by omega) a9)).tr (fP_T9 (by omega) b9)).tr (fP_T9 (by omega) c9)
  rcases end_ok hs hb c2 c7 with ⟨e1, σ9e, e2, e3, e4⟩ | ⟨e1, σ9e, e2, e3, e4, e5, e6, e7, e8⟩
  · exact Or.inl ⟨pL b s j3, σ8d, σ9e, e1 4092, (pL_b b s j3).2, G8, e2 4092, G9.tr e3, e4⟩
  right
  refine ⟨σ8d, σ9e, e1 4092, G8, e2 4092, (up9 G9).tr e3, e4, e5, ?_⟩
  -- what now stands there
  have q0 : (([] : List Int32) ++ d0).length = d0.length := rfl
  have q1 : (([] : List Int32) ++ d0 ++ d1).length = d0.length + d1.length := by simp
  have q2 : (([] : List Int32) ++ d0 ++ d1 ++ d2).length = d0.length + d1.length + d2.length := by simp only [List.nil_append, List.length_append]
  rw [q0] at a3 b8
  rw [q1] at b3 c8
  rw [q2] at c3 e6
  have hlen : d0.length + d1.length + d2.length ≤ 160 := by rw [q2] at c10; omega
  have hcd : cds σ9e t 0 (d0.length + d1.length + d2.length) = d0 ++ d1 ++ d2 := by
    rw [cds_eq t e7]
    have := c7.2.1.2.2
    rw [q2] at this
    exact this
  have s1 := hcd
  rw [cds_split, cds_split] at s1
  obtain ⟨s2, s3⟩ := List.append_inj s1 (by rw [List.length_append, List.length_append, cds_len, cds_len])
  obtain ⟨s4, s5⟩ := List.append_inj s2 (cds_len _ _ _ _)
  rw [Nat.zero_add] at s5 s3
  refine ⟨fun p => if p = 0 then 0 else if p = 1 then d0.length else if p = 2 then d0.length + d1.length else d0.length + d1.length + d2.length, rfl, fun p hp => ?_, hlen, fun p hp => ?_, fun p hp => ?_, fun k hk => ?_, fun p hp => ?_⟩
  · have : p = 0 ∨ p = 1 ∨ p = 2 := by omega
    rcases this with rfl | rfl | rfl
    · show 0 ≤ d0.length; omega
    · show d0.length ≤ d0.length + d1.length; omega
    · show d0.length + d1.length ≤ d0.length + d1.length + d2.length; omega
  · have : p = 0 ∨ p = 1 ∨ p = 2 ∨ p = 3 := by omega
    rcases this with rfl | rfl | rfl | rfl
    · show _ = nI 0
      rw [e8 _ (by omega), c9.1 81 _ (by unfold fP9 fE; omega), b9.1 81 _ (by unfold fP9 fE; omega)]; exact a8
    · show _ = nI d0.length
      rw [e8 _ (by omega), c9.1 81 _ (by unfold fP9 fE; omega)]; exact b8
    · show _ = nI (d0.length + d1.length)
      rw [e8 _ (by omega)]; exact c8
    · exact e6
  · have : p = 0 ∨ p = 1 ∨ p = 2 := by omega
    rcases this with rfl | rfl | rfl
    · show _ = nI d0.length
      rw [c4.1 _ _ (by unfold fP8 fC; omega), b4.1 _ _ (by unfold fP8 fC; omega)]; exact a3
    · show _ = nI (d0.length + d1.length)
      rw [c4.1 _ _ (by unfold fP8 fC; omega)]; exact b3
    · exact c3
  · have hk' : k < d0.length + d1.length + d2.length := hk
    have h1 := c2.2.2.2.2 k (by rw [q2]; exact hk')
    have h2 := cds_get σ9e t (d0.length + d1.length + d2.length) 0 k hk'
    rw [hcd, Nat.zero_add] at h2
    rw [h1, ← h2]; rfl
  · have : p = 0 ∨ p = 1 ∨ p = 2 := by omega
    rcases this with rfl | rfl | rfl
    · show dep (cds σ9e t 0 (d0.length - 0)) 0 = some 1
      rw [Nat.sub_zero, s4]; exact a5 0
    · show dep (cds σ9e t d0.length (d0.length + d1.length - d0.length)) 0 = some 1
      rw [Nat.add_sub_cancel_left, s5]; exact b5 0
    · show dep (cds σ9e t (d0.length + d1.length) (d0.length + d1.length + d2.length - (d0.length + d1.length))) 0 = some 1
      rw [Nat.add_sub_cancel_left, s3]; exact c5 0
end TXW
