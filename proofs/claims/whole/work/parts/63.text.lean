/-! A text of both sides, what it says of one's numbers. -/
def TxOk (σ : St) (t : Nat) : Prop := ∃ b : Nat → Nat, b 0 = 0 ∧ (∀ p, p < 3 → b p ≤ b (p + 1)) ∧ b 3 ≤ 160 ∧ (∀ p, p < 4 → gI σ 81 (4 * t + p) = nI (b p)) ∧ (∀ p, p < 3 → gI σ (51 + 3 * t) p = nI (b (p + 1))) ∧ (∀ k, k < b 3 → gI σ (50 + 3 * t) k = stp (gI σ 80 (200 * t + k))) ∧ ∀ p, p < 3 → dep (cds σ t (b p) (b (p + 1) - b p)) 0 = some 1
/-- the codes of a part -/
def txC (σ : St) (t p : Nat) : List Int32 := cds σ t (gI σ 81 (4 * t + p)).toNatClampNeg ((gI σ 81 (4 * t + p + 1)).toNatClampNeg - (gI σ 81 (4 * t + p)).toNatClampNeg)
def sayF (cs : List Int32) (p : Nat) (env : Nat → Int32) : Int32 := clampF p ((evC env cs []).headD 0)
def envS (s : Nat → Int32) (a h c : Int32) (k : Nat) : Int32 := if k = 0 then s 2 else if k = 1 then s 3 else if k = 2 then a else if k = 3 then h else if k = 4 then c else s 4
theorem evC_congr {env env' : Nat → Int32} (h : ∀ k, k < 6 → env k = env' k) : ∀ (cs : List Int32) (d : Nat) (r : Nat) (st : List Int32), dep cs d = some r → evC env cs st = evC env' cs st := by
  intro cs
  induction cs with
  | nil => intro d r st _; rfl
  | cons c cs ih =>
    intro d r st hd
    have e : evI env c st = evI env' c st := by
      unfold dep at hd
      by_cases hv : vcB c = true
      · unfold evI
        by_cases h1 : 100000 ≤ c
        · rw [if_pos h1, if_pos h1]
        · rw [if_neg h1, if_neg h1]
          by_cases h2 : c < 11
          · rw [if_pos h2, if_pos h2]
            rcases vc_cases hv with ⟨h3, -⟩ | ⟨k, rfl, hk⟩ | ⟨k, rfl, hk, hk2⟩
            · exact absurd h3 h1
            · rw [nI_clamp (by omega), h k hk]
            · exact absurd h2 (nI_nlt (a := k) (b := 11) hk (by omega))
          · rw [if_neg h2, if_neg h2]
      · rw [if_neg hv] at hd; cases hd
    show evC env cs (evI env c st) = evC env' cs (evI env' c st)
    rw [e]
    unfold dep at hd
    by_cases hv : vcB c = true
    · rw [if_pos hv] at hd
      split at hd
      · exact ih _ _ _ hd
      · split at hd
        · split at hd
          · exact ih _ _ _ hd
          · cases hd
        · split at hd
          · exact ih _ _ _ hd
          · cases hd
    · rw [if_neg hv] at hd; cases hd
theorem txC_eq {σ : St} {t p : Nat} {b : Nat → Nat} (hp : p < 3) (hb : b 3 ≤ 160) (hm : ∀ p, p < 3 → b p ≤ b (p + 1)) (h : ∀ p, p < 4 → gI σ 81 (4 * t + p) = nI (b p)) : txC σ t p = cds σ t (b p) (b (p + 1) - b p) := by
  have h0 : b 0 ≤ b 1 := hm 0 (by omega)
  have h1 : b 1 ≤ b 2 := hm 1 (by omega)
  have h2 : b 2 ≤ b 3 := hm 2 (by omega)
  have hp1 : b p ≤ 160 := by
    match p, hp with
    | 0, _ => omega
    | 1, _ => omega
    | 2, _ => omega
  have hp2 : b (p + 1) ≤ 160 := by
    match p, hp with
    | 0, _ => show b 1 ≤ 160; omega
    | 1, _ => show b 2 ≤ 160; omega
    | 2, _ => exact hb
  unfold txC
  rw [show 4 * t + p + 1 = 4 * t + (p + 1) by omega, h p (by omega), h (p + 1) (by omega), nI_clamp (by omega), nI_clamp (by omega)]
theorem tx_le {b : Nat → Nat} (hb : b 3 ≤ 160) (hm : ∀ p, p < 3 → b p ≤ b (p + 1)) {p : Nat} (hp : p < 3) : b p ≤ b (p + 1) ∧ b (p + 1) ≤ b 3 := by
  have h0 : b 0 ≤ b 1 := hm 0 (by omega)
  have h1 : b 1 ≤ b 2 := hm 1 (by omega)
  have h2 : b 2 ≤ b 3 := hm 2 (by omega)
  match p, hp with
  | 0, _ => exact ⟨h0, by show b 1 ≤ b 3; omega⟩
  | 1, _ => exact ⟨h1, by show b 2 ≤ b 3; omega⟩
  | 2, _ => exact ⟨h2, Nat.le_refl _⟩
theorem endOf2 (o p : Nat) (hp : p < 3) (σ : St) : S6_endOf o (nI p) σ = some (gI σ (o + 2) p, σ) := by
  unfold S6_endOf
  rw [if_neg (show ¬ nI p < (0 : Int32) from nI_pos (by omega)), if_neg (show ¬ (3 : Int32) ≤ nI p from nI_ge (a := p) (b := 3) hp (by omega)), if_pos (inb_nI hp (by omega)), nI_clamp (by omega)]
theorem endOf2m (o : Nat) (σ : St) : S6_endOf o (nI 0 - 1) σ = some (0, σ) := by
  unfold S6_endOf
  rw [if_pos (show nI 0 - (1 : Int32) < 0 by decide)]
/-- the class says -/
theorem says2 {σ : St} {t p w : Nat} {act his cell : Int32} (ht : t < 6) (hp : p < 3) (hT : TxOk σ t) (hw : w ≠ 34) : ∃ σ', S2_says (49 + 3 * t) (nI p) w act his cell σ = some (sayF (txC σ t p) p (envS (gI σ w) act his cell), σ') ∧ Fr (fun a _ => a = 34) noR σ σ' := by
  obtain ⟨b, b0, bm, b3, m1, m2, m3, m4⟩ := hT
  obtain ⟨l1, l2⟩ := tx_le b3 bm hp
  obtain ⟨σ', h1, h2⟩ := says2_loop (t := t) (p := p) (e := b (p + 1)) (o := 49 + 3 * t) (w := w) (act := act) (his := his) (cell := cell) hp (by omega) (by omega) hw ht (b (p + 1) - b p) (b p) 0 4096 σ (fun k k1 k2 => by rw [show 49 + 3 * t + 1 = 50 + 3 * t by omega]; exact m3 k (by omega)) (by omega) (by omega) (by omega) (m4 p hp)
  refine ⟨σ', ?_, h2⟩
  rw [txC_eq hp b3 bm m1]
  unfold S2_says
  rw [if_neg (show ¬ nI p < (0 : Int32) from nI_pos (by omega)), if_neg (show ¬ (3 : Int32) ≤ nI p from nI_ge (a := p) (b := 3) hp (by omega)), if_pos (show nI p < (3 : Int32) from nI_lt (a := p) (b := 3) hp (by omega)), endOf2 _ p hp, bnd_s]
  have e2 : gI σ (49 + 3 * t + 2) p = nI (b (p + 1)) := by rw [show 49 + 3 * t + 2 = 51 + 3 * t by omega]; exact m2 p hp
  have e1 : S6_endOf (49 + 3 * t) (nI p - 1) σ = some (nI (b p), σ) := by
    by_cases h0 : p = 0
    · subst h0
      rw [endOf2m, b0]; rfl
    · obtain ⟨q, rfl⟩ : ∃ q, p = q + 1 := ⟨p - 1, by omega⟩
      rw [show nI (q + 1) - (1 : Int32) = nI q from nI_pred2 (n := q + 1) (by omega), endOf2 _ q (by omega), show 49 + 3 * t + 2 = 51 + 3 * t by omega, m2 q (by omega)]
  rw [e1, bnd_s, e2]
  have e3 : jmin (nI (b (p + 1))) 160 = nI (b (p + 1)) := by
    unfold jmin
    by_cases h : (160 : Int32) < nI (b (p + 1))
    · exact absurd h (nI_nlt (a := 160) (b := b (p + 1)) (by omega) (by omega))
    · rw [if_neg h]
  rw [e3]
  exact h1
theorem within9 (v : Int32) (p : Nat) (hp : p < 3) (σ : St) : S9_within v (leastF p) (mostF p) σ = some (clampF p v, σ) := by
  unfold S9_within clampF jmax jmin
  match p, hp with
  | 0, _ =>
    have e1 : leastF 0 = 0 := rfl
    have e2 : mostF 0 = 999 := rfl
    rw [e1, e2]
    split <;> split <;> (congr 2; grind)
  | 1, _ =>
    have e1 : leastF 1 = 0 := rfl
    have e2 : mostF 1 = 5 := rfl
    rw [e1, e2]
    split <;> split <;> (congr 2; grind)
  | 2, _ =>
    have e1 : leastF 2 = -2 := rfl
    have e2 : mostF 2 = 2 := rfl
    rw [e1, e2]
    split <;> split <;> (congr 2; grind)
/-- one's numbers at the reference: kind, more, weight, pace, knee, wins, losses -/
def stM (σ : St) (m k : Nat) : Int32 := if k = 0 then gI σ 76 m else if k = 1 then gI σ 77 m else gI σ 78 (5 * m + (k - 2))
/-- the reference says -/
theorem says9 {σ : St} {t p m : Nat} {act his cell : Int32} (ht : t < 6) (hp : p < 3) (hm : m < 6) (hr : gI σ 75 10 = nI t) (hT : TxOk σ t) : ∃ σ', S9_asksOf (nI p) (nI m) act his cell σ = some (sayF (txC σ t p) p (envS (stM σ m) act his cell), σ') ∧ Fr (fun a _ => a = 90 ∨ a = 91) noR σ σ' := by
  obtain ⟨b, b0, bm, b3, m1, m2, m3, m4⟩ := hT
  obtain ⟨l1, l2⟩ := tx_le b3 bm hp
  have i0 : (5 : Int32) * nI m = nI (5 * m) := nI_mul 5 m
  have i1 : nI (5 * m) + (1 : Int32) = nI (5 * m + 1) := nI_add (5 * m) 1
  have i2 : nI (5 * m) + (2 : Int32) = nI (5 * m + 2) := nI_add (5 * m) 2
  have c0 : (0 : Int32).toNatClampNeg = 0 := rfl
  have c1 : (1 : Int32).toNatClampNeg = 1 := rfl
  have c2 : (2 : Int32).toNatClampNeg = 2 := rfl
  have c3 : (3 : Int32).toNatClampNeg = 3 := rfl
  have c4 : (4 : Int32).toNatClampNeg = 4 := rfl
  have c5 : (5 : Int32).toNatClampNeg = 5 := rfl
  unfold S9_asksOf
  simp only [i0, i1, i2, c0, c1, c2, c3, c4, c5, if_pos (inb_nI (show 5 * m < 30 by omega) (show 30 < 2 ^ 31 by omega)), if_pos (inb_nI (show 5 * m + 1 < 30 by omega) (show 30 < 2 ^ 31 by omega)), if_pos (inb_nI (show 5 * m + 2 < 30 by omega) (show 30 < 2 ^ 31 by omega)), nI_clamp (show 5 * m < 2 ^ 31 by omega), nI_clamp (show 5 * m + 1 < 2 ^ 31 by omega), nI_clamp (show 5 * m + 2 < 2 ^ 31 by omega)]
  generalize hS : sI (sI (sI (sI (sI (sI σ 91 0 _) 91 1 _) 91 2 _) 91 3 _) 91 4 _) 91 5 _ = σ1
  have f1 : Fr (fun a _ => a = 90 ∨ a = 91) noR σ σ1 := by
    rw [← hS]
    exact (((((Fr.rf.sI _ (Or.inr rfl)).sI _ (Or.inr rfl)).sI _ (Or.inr rfl)).sI _ (Or.inr rfl)).sI _ (Or.inr rfl)).sI _ (Or.inr rfl)
  have g : ∀ a k, a ≠ 90 → a ≠ 91 → gI σ1 a k = gI σ a k := fun a k h1 h2 => f1.1 a k (fun q => q.elim h1 h2)
  have hcd : ∀ d i, cds σ1 t i d = cds σ t i d := cds_eq t (fun k => g 80 k (by omega) (by omega))
  obtain ⟨σ2, h1, h2⟩ := says9_loop (t := t) (p := p) (e := b (p + 1)) ht hp (by omega) (b (p + 1) - b p) (b p) 0 4096 σ1 (by rw [g 75 10 (by omega) (by omega)]; exact hr) (by rw [g 81 _ (by omega) (by omega), show 4 * t + p + 1 = 4 * t + (p + 1) by omega]; exact m1 (p + 1) (by omega)) (by omega) (by omega) (by omega) (by rw [hcd]; exact m4 p hp)
  have f2 : Fr (fun a _ => a = 90 ∨ a = 91) noR σ1 σ2 := h2.mo (fun a _ h => Or.inl h) (fun _ _ h => h)
  refine ⟨σ2, ?_, f1.tr f2⟩
  have hsay : S9_says (nI p) σ1 = some ((evC (envS (stM σ m) act his cell) (txC σ t p) []).headD 0, σ2) := by
    unfold S9_says
    have e1 : (4 : Int32) * gI σ1 75 10 + nI p = nI (4 * t + p) := by rw [g 75 10 (by omega) (by omega), hr, show (4 : Int32) = nI 4 from rfl, nI_mul, nI_add]
    rw [e1, if_pos (inb_nI (by omega) (by omega)), nI_clamp (by omega), g 81 _ (by omega) (by omega), m1 p (by omega), txC_eq hp b3 bm m1]
    refine h1.trans ?_
    rw [hcd]
    show some ((evC _ _ []).headD 0, σ2) = _
    rw [evC_congr (env := rgE σ1) (env' := envS (stM σ m) act his cell) (fun k hk => ?_) _ 0 1 [] (m4 p hp)]
    rw [← hS]
    unfold rgE envS stM
    match k, hk with
    | 0, _ => simp [gI_sI]
    | 1, _ => simp [gI_sI]
    | 2, _ => simp [gI_sI]
    | 3, _ => simp [gI_sI]
    | 4, _ => simp [gI_sI]
    | 5, _ => simp [gI_sI]
  rw [hsay, bnd_s]
  have hw := within9 ((evC (envS (stM σ m) act his cell) (txC σ t p) []).headD 0) p hp σ2
  unfold sayF
  match p, hp with
  | 0, _ =>
    rw [if_pos (show nI 0 = (0 : Int32) from rfl)]
    rw [show S9_within _ (0 : Int32) 999 σ2 = _ from hw, bnd_s]
  | 1, _ =>
    rw [if_neg (show ¬ nI 1 = (0 : Int32) by decide), if_pos (show nI 1 = (1 : Int32) from rfl)]
    rw [show S9_within _ (0 : Int32) 5 σ2 = _ from hw, bnd_s]
  | 2, _ =>
    rw [if_neg (show ¬ nI 2 = (0 : Int32) by decide), if_neg (show ¬ nI 2 = (1 : Int32) by decide)]
    rw [show S9_within _ (-2 : Int32) 2 σ2 = _ from hw, bnd_s]
