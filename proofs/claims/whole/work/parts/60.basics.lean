/-! Pure part: small numbers, memory. -/
theorem bnd_s {α β : Type} (r : α) (σ : St) (f : α → St → Option β) : bnd (some (r, σ)) f = f r σ := rfl
theorem gI_sI (σ : St) (o k : Nat) (v : Int32) (a b : Nat) : gI (sI σ o k v) a b = if a = o ∧ b = k then v else gI σ a b := rfl
theorem gI_sR (σ : St) (o k r a b : Nat) : gI (sR σ o k r) a b = gI σ a b := rfl
theorem gR_sI (σ : St) (o k : Nat) (v : Int32) (a b : Nat) : gR (sI σ o k v) a b = gR σ a b := rfl
theorem gR_sR (σ : St) (o k r a b : Nat) : gR (sR σ o k r) a b = if a = o ∧ b = k then r else gR σ a b := rfl
theorem gI_row (σ : St) (o : Nat) (f : Nat → Int32) (a b : Nat) : gI (sRow σ o f) a b = if a = o then f b else gI σ a b := rfl
theorem gR_row (σ : St) (o : Nat) (f : Nat → Int32) (a b : Nat) : gR (sRow σ o f) a b = gR σ a b := rfl
theorem gI_fill (σ : St) (o n : Nat) (v : Int32) (a b : Nat) : gI (fillS σ o n v) a b = if a = o ∧ b < n then v else gI σ a b := by
  unfold fillS rowTo
  rw [gI_row]
  by_cases h : a = o
  · subst h; by_cases h2 : b < n <;> simp [h2, gI]
  · simp [h]
theorem gR_fill (σ : St) (o n : Nat) (v : Int32) (a b : Nat) : gR (fillS σ o n v) a b = gR σ a b := rfl
theorem lit_nI (n : Nat) : (OfNat.ofNat n : Int32) = nI n := rfl
theorem nI_mul (a b : Nat) : nI a * nI b = nI (a * b) := by
  simp [nI]
theorem nI_inj {a b : Nat} (ha : a < 2 ^ 31) (hb : b < 2 ^ 31) : nI a = nI b ↔ a = b := by
  constructor
  · intro h
    have := congrArg Int32.toInt h
    rw [nI_toInt ha, nI_toInt hb] at this
    omega
  · intro h; rw [h]
theorem nI_lt_iff {a b : Nat} (ha : a < 2 ^ 31) (hb : b < 2 ^ 31) : nI a < nI b ↔ a < b := by
  rw [Int32.lt_iff_toInt_lt, nI_toInt ha, nI_toInt hb]; omega
theorem nI_le_iff {a b : Nat} (ha : a < 2 ^ 31) (hb : b < 2 ^ 31) : nI a ≤ nI b ↔ a ≤ b := by
  rw [Int32.le_iff_toInt_le, nI_toInt ha, nI_toInt hb]; omega
theorem nI_sub {a b : Nat} (h : b ≤ a) : nI a - nI b = nI (a - b) := by
  have h2 : nI a = nI (a - b) + nI b := by rw [nI_add, Nat.sub_add_cancel h]
  rw [h2]
  simp
theorem inb_nI {a n : Nat} (h : a < n) (hn : n < 2 ^ 31) : inb (nI a) n := nI_in h hn
/-- an int that is not below 0 is a natural number -/
theorem ex_nI {a : Int32} (h : ¬ a < 0) : ∃ n : Nat, a = nI n ∧ n < 2 ^ 31 := by
  have h1 := Int32.le_iff_toInt_le.mp (Int32.not_lt.mp h)
  have h0 : (0 : Int32).toInt = 0 := by decide
  rw [h0] at h1
  have h2 := Int32.toInt_lt a
  refine ⟨a.toInt.toNat, ?_, by omega⟩
  apply Int32.toInt_inj.mp
  rw [nI_toInt (by omega)]
  omega
theorem ex_nIc {a : Int32} {c : Nat} (hc : c < 2 ^ 31) (h : ¬ a < 0) (h2 : ¬ nI c < a) : ∃ n : Nat, a = nI n ∧ n ≤ c := by
  obtain ⟨n, rfl, hn⟩ := ex_nI h
  refine ⟨n, rfl, ?_⟩
  rw [nI_lt_iff hc hn] at h2
  omega
theorem inb_inv {a : Int32} {n : Nat} (h : inb a n) : ∃ k : Nat, a = nI k ∧ k < n := by
  obtain ⟨k, rfl, hk⟩ := ex_nI (fun q => h (Or.inl q))
  have := inb_lt h
  rw [nI_clamp hk] at this
  exact ⟨k, rfl, this⟩
theorem nI_div {a b : Nat} (ha : a < 2 ^ 31) (hb : b < 2 ^ 31) : nI a / nI b = nI (a / b) := by
  apply Int32.toInt_inj.mp
  rw [Int32.toInt_div, nI_toInt ha, nI_toInt hb, nI_toInt (Nat.lt_of_le_of_lt (Nat.div_le_self _ _) ha)]
  rw [show ((a : Int).tdiv (b : Int)) = ((a / b : Nat) : Int) from (Int.ofNat_tdiv a b).symm ▸ rfl]
  have h1 : a / b < 2 ^ 31 := Nat.lt_of_le_of_lt (Nat.div_le_self _ _) ha
  have h2 : (0 : Int) ≤ ((a / b : Nat) : Int) := Int.natCast_nonneg _
  have h3 : ((a / b : Nat) : Int) < 2147483648 := Int.ofNat_lt.mpr (show a / b < 2147483648 from h1)
  generalize ((a / b : Nat) : Int) = w at h2 h3 ⊢
  rw [Int.bmod_eq_of_le (by omega) (by omega)]
theorem nI_rem {a b : Nat} (ha : a < 2 ^ 31) (hb : b < 2 ^ 31) : jrem (nI a) (nI b) = nI (a % b) := by
  unfold jrem
  rw [nI_div ha hb, nI_mul, nI_sub (Nat.div_mul_le_self a b)]
  congr 1
  have := Nat.div_add_mod a b
  have h2 : a / b * b = b * (a / b) := Nat.mul_comm _ _
  omega
/-- what a step leaves as it was -/
def Fr (T U : Nat → Nat → Prop) (σ σ' : St) : Prop := (∀ a b, ¬ T a b → gI σ' a b = gI σ a b) ∧ ∀ a b, ¬ U a b → gR σ' a b = gR σ a b
def noR : Nat → Nat → Prop := fun _ _ => False
theorem Fr.rf {T U : Nat → Nat → Prop} {σ : St} : Fr T U σ σ := ⟨fun _ _ _ => rfl, fun _ _ _ => rfl⟩
theorem Fr.tr {T U : Nat → Nat → Prop} {σ σ' σ'' : St} (h : Fr T U σ σ') (k : Fr T U σ' σ'') : Fr T U σ σ'' := ⟨fun a b z => (k.1 a b z).trans (h.1 a b z), fun a b z => (k.2 a b z).trans (h.2 a b z)⟩
theorem Fr.mo {T U T' U' : Nat → Nat → Prop} {σ σ' : St} (h : Fr T U σ σ') (k1 : ∀ a b, T a b → T' a b) (k2 : ∀ a b, U a b → U' a b) : Fr T' U' σ σ' := ⟨fun a b z => h.1 a b (fun q => z (k1 a b q)), fun a b z => h.2 a b (fun q => z (k2 a b q))⟩
theorem Fr.sI {T U : Nat → Nat → Prop} {σ σ' : St} (h : Fr T U σ σ') {o k : Nat} (v : Int32) (ht : T o k) : Fr T U σ (sI σ' o k v) := by
  refine ⟨fun a b z => ?_, fun a b z => h.2 a b z⟩
  rw [gI_sI, if_neg (fun q => z (by rw [q.1, q.2]; exact ht))]
  exact h.1 a b z
theorem Fr.sR {T U : Nat → Nat → Prop} {σ σ' : St} (h : Fr T U σ σ') {o k : Nat} (r : Nat) (ht : U o k) : Fr T U σ (sR σ' o k r) := by
  refine ⟨fun a b z => h.1 a b z, fun a b z => ?_⟩
  rw [gR_sR, if_neg (fun q => z (by rw [q.1, q.2]; exact ht))]
  exact h.2 a b z
theorem Fr.fill {T U : Nat → Nat → Prop} {σ σ' : St} (h : Fr T U σ σ') {o n : Nat} (v : Int32) (ht : ∀ k, T o k) : Fr T U σ (fillS σ' o n v) := by
  refine ⟨fun a b z => ?_, fun a b z => h.2 a b z⟩
  rw [gI_fill, if_neg (fun q => z (by rw [q.1]; exact ht b))]
  exact h.1 a b z
