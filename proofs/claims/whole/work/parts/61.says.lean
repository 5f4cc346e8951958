/-! What a text says: codes in the reference's numbering, operands first. -/
def twoF (c x y : Int32) : Int32 :=
  if c = 11 then (if x = 0 then (if y = 0 then 0 else 1) else 1)
  else if c = 12 then (if x = 0 then 0 else if y = 0 then 0 else 1)
  else if c = 14 then (if y ≤ x then 0 else 1)
  else if c = 15 then (if x = y then 1 else 0)
  else if c = 16 then x + y else if c = 17 then x - y else x * y
def evI (env : Nat → Int32) (c : Int32) (st : List Int32) : List Int32 :=
  if 100000 ≤ c then (c - 100000) :: st
  else if c < 11 then env c.toNatClampNeg :: st
  else if c = 13 then (match st with | x :: r => (if x = 0 then 1 else 0) :: r | [] => [])
  else if c = 19 then (match st with | x :: r => (-x) :: r | [] => [])
  else (match st with | y :: x :: r => twoF c x y :: r | r => r)
def evC (env : Nat → Int32) : List Int32 → List Int32 → List Int32
  | [], st => st
  | c :: cs, st => evC env cs (evI env c st)
def vcB (c : Int32) : Bool := (decide (100000 ≤ c) && decide (c ≤ 109999)) || (decide (0 ≤ c) && decide (c ≤ 5)) || (decide (11 ≤ c) && decide (c ≤ 19))
def dep : List Int32 → Nat → Option Nat
  | [], d => some d
  | c :: cs, d => if vcB c = true then (if 100000 ≤ c ∨ c < 11 then dep cs (d + 1) else if c = 13 ∨ c = 19 then (if 1 ≤ d then dep cs d else none) else (if 2 ≤ d then dep cs (d - 1) else none)) else none
/-- d codes of text t from place i on -/
def cds (σ : St) (t : Nat) : Nat → Nat → List Int32
  | _, 0 => []
  | i, d + 1 => gI σ 80 (200 * t + i) :: cds σ t (i + 1) d
/-- a stack in a row of the memory, its top first -/
def stk (σ : St) (o : Nat) : Nat → List Int32
  | 0 => []
  | n + 1 => gI σ o n :: stk σ o n
theorem stk_up (σ : St) (o : Nat) (v : Int32) : ∀ n k, n ≤ k → stk (sI σ o k v) o n = stk σ o n := by
  intro n
  induction n with
  | zero => intro k _; rfl
  | succ n ih =>
    intro k h
    show _ :: _ = _ :: _
    rw [ih k (by omega), gI_sI, if_neg (by omega)]
theorem stk_push (σ : St) (o n : Nat) (v : Int32) : stk (sI σ o n v) o (n + 1) = v :: stk σ o n := by
  show gI _ o n :: stk _ o n = _
  rw [stk_up σ o v n n (Nat.le_refl _), gI_sI, if_pos ⟨rfl, rfl⟩]
theorem cds_eq {σ σ' : St} (t : Nat) (h : ∀ k, gI σ' 80 k = gI σ 80 k) : ∀ d i, cds σ' t i d = cds σ t i d := by
  intro d
  induction d with
  | zero => intro i; rfl
  | succ d ih => intro i; show _ :: _ = _ :: _; rw [ih, h]
theorem two9 (c x y : Int32) (σ : St) : S9_two c x y σ = some (twoF c x y, σ) := by
  unfold S9_two S9_two_52 twoF
  repeat' split
  all_goals first | rfl | (exfalso; simp_all; done) | simp_all
def rgE (σ : St) : Nat → Int32 := fun k => gI σ 91 k
theorem nI_pred2 {n : Nat} (h : 1 ≤ n) : nI n - 1 = nI (n - 1) := nI_sub (b := 1) h
theorem nI_m1 {n : Nat} (h : 1 ≤ n) : nI n + (-1) = nI (n - 1) := by
  rw [← nI_pred2 h, Int32.sub_eq_add_neg]
theorem says9_loop {t p e : Nat} (ht : t < 6) (hp : p < 3) (he : e ≤ 160) : ∀ (d i n f : Nat) (σ : St), gI σ 75 10 = nI t → gI σ 81 (4 * t + p + 1) = nI e → i + d = e → n ≤ i → d < f → dep (cds σ t i d) n = some 1 →
    ∃ σ', S9_says_16 (nI p) f (nI n) (nI i) σ = some ((evC (rgE σ) (cds σ t i d) (stk σ 90 n)).headD 0, σ') ∧ Fr (fun a _ => a = 90) noR σ σ' := by
  intro d
  induction d with
  | zero =>
    intro i n f σ hr hs hi hn hf hd
    obtain ⟨f, rfl⟩ : ∃ z, f = z + 1 := ⟨f - 1, by omega⟩
    have hi : i = e := hi
    have hd : n = 1 := Option.some.inj hd
    subst hd; subst hi
    refine ⟨σ, ?_, Fr.rf⟩
    show B9_says_16 _ _ _ _ σ = _
    unfold B9_says_16
    have e1 : (4 : Int32) * gI σ 75 10 + nI p + 1 = nI (4 * t + p + 1) := by rw [hr, show (4 : Int32) = nI 4 from rfl, show (1 : Int32) = nI 1 from rfl, nI_mul, nI_add, nI_add]
    rw [e1, if_pos (inb_nI (by omega) (by omega)), nI_clamp (by omega), hs, if_pos (nI_le (by omega) (by omega))]
    rfl
  | succ d ih =>
    intro i n f σ hr hs hi hn hf hd
    obtain ⟨f, rfl⟩ : ∃ z, f = z + 1 := ⟨f - 1, by omega⟩
    have e1 : (4 : Int32) * gI σ 75 10 + nI p + 1 = nI (4 * t + p + 1) := by rw [hr, show (4 : Int32) = nI 4 from rfl, show (1 : Int32) = nI 1 from rfl, nI_mul, nI_add, nI_add]
    have e2 : (200 : Int32) * gI σ 75 10 + nI i = nI (200 * t + i) := by rw [hr, show (200 : Int32) = nI 200 from rfl, nI_mul, nI_add]
    have e3 : nI i + 1 = nI (i + 1) := (nI_succ i).symm
    have e4 : nI n + 1 = nI (n + 1) := (nI_succ n).symm
    show ∃ σ', B9_says_16 _ _ _ _ σ = _ ∧ _
    unfold B9_says_16
    rw [e1, e2, if_pos (inb_nI (by omega) (by omega)), nI_clamp (show 4 * t + p + 1 < 2 ^ 31 by omega), hs, if_neg (nI_ge (by omega) (by omega)), if_pos (inb_nI (by omega) (by omega)), nI_clamp (show 200 * t + i < 2 ^ 31 by omega)]
    show ∃ σ', _ = some ((evC (rgE σ) (cds σ t (i + 1) d) (evI (rgE σ) (gI σ 80 (200 * t + i)) (stk σ 90 n))).headD 0, σ') ∧ _
    have hd' : dep (gI σ 80 (200 * t + i) :: cds σ t (i + 1) d) n = some 1 := hd
    generalize hc : gI σ 80 (200 * t + i) = c at hd' ⊢
    unfold dep at hd'
    -- after one write into the stack
    have step : ∀ (k n' : Nat) (v : Int32), k < 200 → n' ≤ i + 1 → dep (cds σ t (i + 1) d) n' = some 1 → stk (sI σ 90 k v) 90 n' = evI (rgE σ) c (stk σ 90 n) →
        ∃ σ', S9_says_16 (nI p) f (nI n') (nI (i + 1)) (sI σ 90 k v) = some ((evC (rgE σ) (cds σ t (i + 1) d) (evI (rgE σ) c (stk σ 90 n))).headD 0, σ') ∧ Fr (fun a _ => a = 90) noR σ σ' := by
      intro k n' v hk hn' hdd hst
      have hcd : cds (sI σ 90 k v) t (i + 1) d = cds σ t (i + 1) d := cds_eq t (fun b => by rw [gI_sI, if_neg (by omega)]) d (i + 1)
      obtain ⟨σ', h1, h2⟩ := ih (i + 1) n' f (sI σ 90 k v) (by rw [gI_sI, if_neg (by omega)]; exact hr) (by rw [gI_sI, if_neg (by omega)]; exact hs) (by omega) hn' (by omega) (by rw [hcd]; exact hdd)
      refine ⟨σ', ?_, ((Fr.rf (T := fun a _ => a = 90) (U := noR)).sI v rfl).tr h2⟩
      rw [h1, hcd, hst]
      rfl
    by_cases hv : vcB c = true
    · rw [if_pos hv] at hd'
      by_cases h1 : 100000 ≤ c
      · rw [if_pos h1]
        rw [if_pos (Or.inl h1)] at hd'
        unfold S9_says_66
        rw [if_pos (by grind)]
        unfold S9_says_93 S9_says_191
        rw [if_pos (inb_nI (by omega) (by omega)), nI_clamp (show n < 2 ^ 31 by omega), e3, e4]
        exact step n (n + 1) _ (by omega) (by omega) hd' (by rw [stk_push]; unfold evI; rw [if_pos h1])
      · rw [if_neg h1]
        by_cases h2 : c < 11
        · rw [if_neg (by grind)]
          rw [if_pos (Or.inr h2)] at hd'
          obtain ⟨k, rfl, hk⟩ : ∃ k, c = nI k ∧ k < 6 := by
            have h3 : ¬ c < 0 ∧ ¬ nI 5 < c := by
              have : nI 5 = 5 := rfl
              rw [this]
              unfold vcB at hv
              constructor <;> grind
            obtain ⟨k, h4, h5⟩ := ex_nIc (by omega) h3.1 h3.2
            exact ⟨k, h4, by omega⟩
          unfold S9_says_66
          rw [if_neg (by grind), if_pos (inb_nI hk (by omega)), nI_clamp (show k < 2 ^ 31 by omega)]
          unfold S9_says_93 S9_says_191
          rw [if_pos (inb_nI (by omega) (by omega)), nI_clamp (show n < 2 ^ 31 by omega), e3, e4]
          exact step n (n + 1) _ (by omega) (by omega) hd' (by rw [stk_push]; unfold evI; rw [if_neg h1, if_pos h2, nI_clamp (show k < 2 ^ 31 by omega)]; rfl)
        · rw [if_pos (by grind)]
          rw [if_neg (by rintro (h | h) <;> contradiction)] at hd'
          by_cases h3 : c = 13
          · rw [if_pos h3]
            rw [if_pos (Or.inl h3)] at hd'
            by_cases hn1 : 1 ≤ n
            · rw [if_pos hn1] at hd'
              obtain ⟨n, rfl⟩ : ∃ z, n = z + 1 := ⟨n - 1, by omega⟩
              rw [nI_pred2 hn1, if_pos (inb_nI (by omega) (by omega)), nI_clamp (show n + 1 - 1 < 2 ^ 31 by omega)]
              have hst : ∀ v, (if gI σ 90 n = 0 then (1 : Int32) else 0) = v → stk (sI σ 90 n v) 90 (n + 1) = evI (rgE σ) c (stk σ 90 (n + 1)) := by
                intro v hv
                rw [stk_push]; unfold evI; rw [if_neg h1, if_neg h2, if_pos h3, ← hv]; rfl
              unfold S9_says_130 S9_says_191
              simp only [Nat.add_sub_cancel, if_pos (inb_nI (show n < 200 by omega) (show 200 < 2 ^ 31 by omega)), nI_clamp (show n < 2 ^ 31 by omega), e3]
              split
              · next h => exact step n (n + 1) 1 (by omega) (by omega) hd' (hst 1 (if_pos h))
              · next h => exact step n (n + 1) 0 (by omega) (by omega) hd' (hst 0 (if_neg h))
            · rw [if_neg hn1] at hd'; cases hd'
          · rw [if_neg h3]
            by_cases h4 : c = 19
            · rw [if_pos h4]
              rw [if_pos (Or.inr h4)] at hd'
              by_cases hn1 : 1 ≤ n
              · rw [if_pos hn1] at hd'
                obtain ⟨n, rfl⟩ : ∃ z, n = z + 1 := ⟨n - 1, by omega⟩
                rw [nI_pred2 hn1, if_pos (inb_nI (by omega) (by omega)), if_pos (inb_nI (by omega) (by omega)), nI_clamp (show n + 1 - 1 < 2 ^ 31 by omega)]
                unfold S9_says_191
                rw [e3]
                simp only [Nat.add_sub_cancel]
                exact step n (n + 1) _ (by omega) (by omega) hd' (by rw [stk_push]; unfold evI; rw [if_neg h1, if_neg h2, if_neg h3, if_pos h4]; rfl)
              · rw [if_neg hn1] at hd'; cases hd'
            · rw [if_neg h4]
              rw [if_neg (by rintro (h | h) <;> contradiction)] at hd'
              by_cases hn1 : 2 ≤ n
              · rw [if_pos hn1] at hd'
                obtain ⟨n, rfl⟩ : ∃ z, n = z + 2 := ⟨n - 2, by omega⟩
                have q1 : n + 2 - 1 = n + 1 := by omega
                have q2 : nI (n + 1) - 1 = nI n := nI_pred2 (n := n + 1) (by omega)
                have q3 : nI (n + 2) + (-1) = nI (n + 1) := nI_m1 (n := n + 2) (by omega)
                unfold S9_says_191
                simp only [q3, q2, if_pos (inb_nI (show n < 200 by omega) (show 200 < 2 ^ 31 by omega)), if_pos (inb_nI (show n + 1 < 200 by omega) (show 200 < 2 ^ 31 by omega)), nI_clamp (show n < 2 ^ 31 by omega), nI_clamp (show n + 1 < 2 ^ 31 by omega), two9, bnd_s, e3]
                rw [q1] at hd'
                exact step n (n + 1) _ (by omega) (by omega) hd' (by rw [stk_push]; unfold evI; rw [if_neg h1, if_neg h2, if_neg h3, if_neg h4]; rfl)
              · rw [if_neg hn1] at hd'; cases hd'
    · rw [if_neg hv] at hd'; cases hd'
