/-! The start: what holds behind the two constructors. -/
def b0 (k : Nat) : Nat := (txtN 0).getD k 0
theorem b0_b : ∀ k, k < 48 → b0 k ≤ 255 := by decide +kernel
theorem a87_b : ∀ k, k < 48 → arr87 k = nI (b0 k) := by decide +kernel
theorem tail8 : ∀ m k f, k + m = 48 → m < f → S8_tail_174 f (nI k) (tapeS k) = bnd (S1_readInto 49 (tapeS 48)) fun _ σ => bnd (S1_clear σ) fun _ σ => some ((), σ) := by
  intro m
  induction m with
  | zero =>
    intro k f hk hf
    obtain ⟨f, rfl⟩ : ∃ z, f = z + 1 := ⟨f - 1, by omega⟩
    obtain rfl : k = 48 := by omega
    show B8_tail_174 _ _ _ = _
    unfold B8_tail_174
    rw [if_pos (show (48 : Int32) ≤ nI 48 by decide)]; rfl
  | succ m ih =>
    intro k f hk hf
    obtain ⟨f, rfl⟩ : ∃ z, f = z + 1 := ⟨f - 1, by omega⟩
    show B8_tail_174 _ _ _ = _
    unfold B8_tail_174
    rw [if_neg (show ¬ (48 : Int32) ≤ nI k from nI_ge (b := 48) (by omega) (by omega)), if_pos (inb_nI (by omega) (by omega)), nI_clamp (by omega), tapeS_1 k (by omega), bnd_s, nI_1]
    exact ih (k + 1) f (by omega) (by omega)
/-- the reference, ready to read the first text -/
def tapeR : St := (fun o k => if o = 75 ∧ k = 6 then nI 48 else if o = 79 then arr87 k else if o = 88 then arr88 k else 0, fun _ _ => 0)
theorem tapeS_T : TC b0 48 (tapeS 48) := by
  refine ⟨rfl, fun k hk => ?_⟩
  show (if 27 = 27 ∧ k < 48 then chS 0 k else _) = _
  rw [if_pos ⟨rfl, hk⟩]; rfl
theorem tapeR_T : TR b0 48 tapeR ∧ gI tapeR 75 9 = nI 0 := ⟨⟨rfl, fun k hk => a87_b k hk, fun k _ => rfl⟩, rfl⟩
theorem not_place {q : Nat} (h : q ≤ 160) : ¬ nI q = -1 := fun z => by
  have hq : ¬ nI q < 0 := nI_pos (by omega)
  rw [z] at hq
  exact hq (by decide)
theorem begin8 : ∃ σ', S1_readInto 49 (tapeS 48) = some (-1, σ') ∧ Fr (fT8 0) uR (tapeS 48) σ' := by
  have hf := first_ok
  rcases core_ok (t := 0) (show 48 ≤ 160 by omega) b0_b (by omega) tapeS_T tapeR_T.1 tapeR_T.2 with ⟨q, σ', -, a1, a2, -⟩ | ⟨σ', -, a1, a2, -⟩
  · rw [show S1_readInto 49 (tapeS 48) = _ from a1] at hf
    exact absurd (Option.some.inj hf) (not_place (by omega))
  · exact ⟨σ', a1, a2⟩
theorem tail9 (ρ : St) : ∀ m k f (σ : St), k + m = 48 → m < f → (∀ i, i < k → gI σ 79 i = gI ρ 87 i) → (∀ a i, a ≠ 79 → gI σ a i = gI ρ a i) → ∃ σ', S9_tail_1029 f (nI k) σ = (bnd (S9_text (sI σ' 75 6 48)) fun _ σ => some ((), σ)) ∧ (∀ i, i < 48 → gI σ' 79 i = gI ρ 87 i) ∧ ∀ a i, a ≠ 79 → gI σ' a i = gI ρ a i := by
  intro m
  induction m with
  | zero =>
    intro k f σ hk hf h1 h2
    obtain ⟨f, rfl⟩ : ∃ z, f = z + 1 := ⟨f - 1, by omega⟩
    obtain rfl : k = 48 := by omega
    refine ⟨σ, ?_, h1, h2⟩
    show B9_tail_1029 _ _ _ = _
    unfold B9_tail_1029
    rw [if_pos (show (48 : Int32) ≤ nI 48 by decide)]
  | succ m ih =>
    intro k f σ hk hf h1 h2
    obtain ⟨f, rfl⟩ : ∃ z, f = z + 1 := ⟨f - 1, by omega⟩
    obtain ⟨σ', g, g1, g2⟩ := ih (k + 1) f (sI σ 79 k (gI σ 87 k)) (by omega) (by omega) (fun i hi => by
      rw [gI_sI]
      by_cases q : i = k
      · rw [if_pos ⟨rfl, q⟩, q, h2 87 k (by omega)]
      · rw [if_neg (fun z => q z.2)]; exact h1 i (by omega)) (fun a i ha => by rw [gI_sI, if_neg (fun z => ha z.1)]; exact h2 a i ha)
    refine ⟨σ', ?_, g1, g2⟩
    show B9_tail_1029 _ _ _ = _
    unfold B9_tail_1029
    rw [if_neg (show ¬ (48 : Int32) ≤ nI k from nI_ge (b := 48) (by omega) (by omega)), if_pos (inb_nI (by omega) (by omega)), if_pos (inb_nI (by omega) (by omega)), nI_clamp (by omega), nI_1]
    exact g
def inM (o k : Nat) : Int32 := match o with
  | 84 => arr84 k
  | 87 => arr87 k
  | 88 => arr88 k
  | _ => 0
theorem init_hi (σ : St) {o : Nat} (h : ¬ o < 75) (k : Nat) : gI (initM σ) o k = inM o k := by
  show (if o < 75 then σ.1 o k else inM o k) = _
  rw [if_neg h]
theorem sh0_8 : ∀ s, s < 4 → sig0.1 (67 + 2 * s) 1 = -1 ∧ sig0.1 (67 + 2 * s) 2 = 0 ∧ arr84 s = -1 := by decide +kernel
theorem sig0_row (s k : Nat) (hs : s < 4) : sig0.1 (68 + 2 * s) k = 0 := by
  show (if 68 + 2 * s = 0 ∧ k = 9 then (1 : Int32) else if 68 + 2 * s = 26 ∧ k = 4 then -1 else if 68 + 2 * s = 35 ∧ k = 3 then 4 else if (68 + 2 * s = 67 ∨ 68 + 2 * s = 69 ∨ 68 + 2 * s = 71 ∨ 68 + 2 * s = 73) ∧ k = 1 then -1 else 0) = 0
  rw [if_neg (by omega), if_neg (by omega), if_neg (by omega), if_neg (by omega)]
theorem begins : ∃ σ1 σ2 : St, S8_tail sig0 = some ((), σ1) ∧ S9_tail (initM σ1) = some ((), σ2) ∧ Inv 0 1 0 σ2 := by
  obtain ⟨σ8', a1, a2⟩ := begin8
  have e8 : S8_tail sig0 = some ((), sI σ8' 26 1 0) := by
    have := tail8 48 0 4096 (by omega) (by omega)
    rw [tapeS_0, a1, bnd_s] at this
    exact this
  refine ⟨sI σ8' 26 1 0, ?_⟩
  have lo : ∀ a k, ¬ a = 26 → ¬ a = 27 → ¬ (49 ≤ a ∧ a ≤ 51) → gI (sI σ8' 26 1 0) a k = sig0.1 a k := fun a k h1 h2 h3 => by
    rw [gI_sI, if_neg (by omega), a2.1 a k (by unfold fT8; omega)]
    show (if a = 27 ∧ k < 48 then _ else if a = 26 ∧ k = 1 then _ else sig0.1 a k) = _
    rw [if_neg (by omega), if_neg (by omega)]
  obtain ⟨σc, g, g1, g2⟩ := tail9 (initM (sI σ8' 26 1 0)) 48 0 4096 (initM (sI σ8' 26 1 0)) (by omega) (by omega) (fun i hi => absurd hi (by omega)) (fun a i _ => rfl)
  have kd : ∀ a k, ¬ a = 79 → ¬ (a = 75 ∧ k = 6) → gI (sI σc 75 6 48) a k = gI (initM (sI σ8' 26 1 0)) a k := fun a k h1 h2 => by
    rw [gI_sI, if_neg (by omega)]; exact g2 a k h1
  have i9 : gI (sI σc 75 6 48) 75 9 = nI 0 := by rw [kd 75 9 (by omega) (by omega), init_hi _ (by omega)]; rfl
  have hTR : TR b0 48 (sI σc 75 6 48) := by
    refine ⟨by rw [gI_sI, if_pos ⟨rfl, rfl⟩]; rfl, fun k hk => ?_, fun k hk => ?_⟩
    · rw [gI_sI, if_neg (by omega), g1 k hk, init_hi _ (by omega)]; exact a87_b k hk
    · rw [kd 88 k (by omega) (by omega), init_hi _ (by omega)]; rfl
  have et : S9_text (sI σc 75 6 48) = S9_text_26 4096 1 0 (sI (sI (sI σc 75 6 48) 75 18 0) 75 26 0) := by
    unfold S9_text
    rw [i9, if_neg (by decide)]
  rcases core_ok (t := 0) (show 48 ≤ 160 by omega) b0_b (by omega) tapeS_T hTR i9 with ⟨q, σx, -, b1, b2, -⟩ | ⟨σx, σ2, b1, b3, b4, b5, b6, b7, b8⟩
  · exact absurd (congrArg Prod.fst (Option.some.inj (b1.symm.trans a1))) (not_place (by omega))
  have hx : σx = σ8' := congrArg Prod.snd (Option.some.inj (b1.symm.trans a1))
  rw [hx] at b8
  have up : ∀ a k, a < 75 → gI σ2 a k = gI (sI σ8' 26 1 0) a k := fun a k h => by
    rw [b5.1 a k (by unfold fS9 fT9 fE; omega), kd a k (by omega) (by omega)]
    show (if a < 75 then _ else _) = _
    rw [if_pos h]; rfl
  have vlo : ∀ a k, a < 75 → ¬ a = 26 → ¬ a = 27 → ¬ (49 ≤ a ∧ a ≤ 51) → gI σ2 a k = sig0.1 a k := fun a k h h1 h2 h3 => (up a k h).trans (lo a k h1 h2 h3)
  have vhi : ∀ a k, ¬ a < 75 → ¬ (a = 75 ∧ (k = 6 ∨ k = 9 ∨ 18 ≤ k)) → ¬ a = 79 → ¬ a = 80 → ¬ a = 81 → ¬ a = 89 → gI σ2 a k = gI (initM (sI σ8' 26 1 0)) a k := fun a k h h1 h2 h3 h4 h5 => by
    rw [b5.1 a k (by unfold fS9 fT9 fE; omega), kd a k h2 (by omega)]
  have v75 : ∀ k, ¬ (k = 6 ∨ k = 9 ∨ 18 ≤ k) → gI σ2 75 k = 0 := fun k h => by
    rw [vhi 75 k (by omega) (by omega) (by omega) (by omega) (by omega) (by omega), init_hi _ (by omega)]; rfl
  have hTx : TxOk σ2 0 := b8.ok (fun k => by rw [up _ _ (by omega), gI_sI, if_neg (by omega)]) (fun k => by rw [up _ _ (by omega), gI_sI, if_neg (by omega)])
  refine ⟨σ2, e8, ?_, ⟨⟨by omega, by omega, by omega⟩, ⟨?_, ?_⟩, ⟨?_, b7⟩, ⟨?_, ?_⟩, ?_⟩, fun m hm => absurd hm (by omega), fun j hj => by rw [show j = 0 by omega]; exact hTx, ⟨0, by omega, ?_, b6, fun k hk => absurd hk (by omega)⟩, fun s hs => ?_, ⟨?_, Or.inl (v75 11 (by omega))⟩, fun k hk => ?_⟩
  · show S9_tail_1029 4096 (nI 0) _ = _
    rw [g, et, b4, bnd_s]
  · rw [vlo 1 1 (by omega) (by omega) (by omega) (by omega)]; rfl
  · rw [v75 0 (by omega)]; rfl
  · rw [vlo 0 9 (by omega) (by omega) (by omega) (by omega)]; rfl
  · rw [vlo 1 3 (by omega) (by omega) (by omega) (by omega)]; rfl
  · rw [v75 10 (by omega)]; rfl
  · rw [vlo 1 2 (by omega) (by omega) (by omega) (by omega), v75 4 (by omega)]; rfl
  · rw [up 26 1 (by omega), gI_sI, if_pos ⟨rfl, rfl⟩]; rfl
  · obtain ⟨s1, s2, s3⟩ := sh0_8 s hs
    have h84 : gI σ2 84 s = -1 := by rw [vhi 84 s (by omega) (by omega) (by omega) (by omega) (by omega) (by omega), init_hi _ (by omega)]; exact s3
    refine ⟨⟨?_, Or.inl h84⟩, ⟨0, by omega, ?_, ?_⟩, fun k hk => ?_⟩
    · rw [h84, vlo _ _ (by omega) (by omega) (by omega) (by omega)]; exact s1
    · rw [vlo _ _ (by omega) (by omega) (by omega) (by omega)]; exact s2
    · rw [vhi 85 s (by omega) (by omega) (by omega) (by omega) (by omega) (by omega), init_hi _ (by omega)]; rfl
    · rw [vlo _ _ (by omega) (by omega) (by omega) (by omega), vhi 86 _ (by omega) (by omega) (by omega) (by omega) (by omega) (by omega), init_hi _ (by omega)]
      exact sig0_row s k hs
  · rw [v75 11 (by omega), vlo 0 10 (by omega) (by omega) (by omega) (by omega)]; rfl
  · rw [vhi 88 k (by omega) (by omega) (by omega) (by omega) (by omega) (by omega), init_hi _ (by omega)]; rfl
