/-! The law's loop. -/
def P1 (e : Option (Int32 × St)) : Prop := ∃ σ, e = some (1, σ)
theorem ite_P {c : Prop} [Decidable c] {a b : Option (Int32 × St)} (h1 : P1 a) (h2 : P1 b) : P1 (if c then a else b) := by
  by_cases h : c
  · rw [if_pos h]; exact h1
  · rw [if_neg h]; exact h2
theorem ite_tP {c : Prop} [Decidable c] {a b : Option (Int32 × St)} (h : c) (k : P1 a) : P1 (if c then a else b) := by rw [if_pos h]; exact k
theorem call_P {R : Type} {f g : St → Option (R × St)} {n T t : Nat} {σ : St} {k : R → St → Option (Int32 × St)} (hs : Same f g) (hI : Inv n T t σ) (h : ∀ r σ1 σ2, g σ1 = some (r, σ2) → (∃ n T t, Inv n T t σ2) → P1 (k r σ1)) : P1 (bnd (f σ) k) := by
  obtain ⟨r, σ1, σ2, e1, e2, hJ⟩ := hs n T t σ hI
  rw [e1, bnd_s]
  exact h r σ1 σ2 e2 hJ
theorem get_P {R : Type} {e : Option (R × St)} {r : R} {σ : St} {k : R → St → Option (Int32 × St)} (h : e = some (r, σ)) (q : P1 (k r σ)) : P1 (bnd e k) := by rw [h, bnd_s]; exact q
set_option maxHeartbeats 4000000 in
theorem law_one {xs : Nat → Int32} {L : Nat} {rec : Int32 → St → Option (Int32 × St)} {x3 : Int32} {n T t : Nat} {σ : St} (hI : Inv n T t σ) (h0 : inb x3 L) (h1 : inb (x3 + 1) L) (h2 : inb (x3 + 2) L) (h3 : inb (x3 + 3) L) (h4 : inb (x3 + 4) L) (h5 : inb (x3 + 5) L) (h6 : inb (x3 + 6) L) (hlt : ¬ nI L - 7 < x3) (go : ∀ σ', (∃ n T t, Inv n T t σ') → P1 (rec (x3 + 7) σ')) : P1 (BL_law_18 xs L rec x3 σ) := by
  unfold BL_law_18
  rw [if_neg hlt]
  refine ite_tP h0 ?_
  refine ite_P (ite_tP h1 (call_P (same_count _) hI (fun r σ1 σ2 e2 hJ => ite_tP h1 (get_P e2 (ite_tP rfl (go σ2 hJ)))))) ?_
  refine ite_P (ite_tP h1 (ite_tP h2 (ite_tP h3 (ite_tP h4 (ite_tP h5 (ite_tP h6 (call_P (same_feed _ _ _ _ _ _) hI (fun r σ1 σ2 e2 hJ => ite_tP h1 (ite_tP h2 (ite_tP h3 (ite_tP h4 (ite_tP h5 (ite_tP h6 (get_P e2 (ite_tP rfl (go σ2 hJ)))))))))))))))) ?_
  refine ite_P (call_P (same_text) hI (fun r σ1 σ2 e2 hJ => get_P e2 (ite_tP rfl (go σ2 hJ)))) ?_
  refine ite_P (ite_tP h1 (call_P (same_force _) hI (fun r σ1 σ2 e2 hJ => ite_tP h1 (get_P e2 (ite_tP rfl (go σ2 hJ)))))) ?_
  refine ite_P (ite_tP h1 (ite_tP h2 (ite_tP h3 (ite_tP h4 (call_P (same_asks _ _ _ _) hI (fun r σ1 σ2 e2 hJ => ite_tP h1 (ite_tP h2 (ite_tP h3 (ite_tP h4 (get_P e2 (ite_tP rfl (go σ2 hJ)))))))))))) ?_
  refine ite_P (ite_tP h1 (ite_tP h2 (call_P (same_man _ _) hI (fun r σ1 σ2 e2 hJ => ite_tP h1 (ite_tP h2 (get_P e2 (ite_tP rfl (go σ2 hJ)))))))) ?_
  refine ite_P (ite_tP h1 (ite_tP h2 (ite_tP h3 (call_P (same_put _ _ _) hI (fun r σ1 σ2 e2 hJ => ite_tP h1 (ite_tP h2 (ite_tP h3 (get_P e2 (ite_tP rfl (go σ2 hJ)))))))))) ?_
  refine ite_P (ite_tP h1 (ite_tP h2 (call_P (same_told _ _) hI (fun r σ1 σ2 e2 hJ => ite_tP h1 (ite_tP h2 (get_P e2 (ite_tP rfl (go σ2 hJ)))))))) ?_
  refine ite_P (ite_tP h1 (ite_tP h2 (ite_tP h3 (ite_tP h4 (call_P (same_bout _ _ _ _) hI (fun r σ1 σ2 e2 hJ => ite_tP h1 (ite_tP h2 (ite_tP h3 (ite_tP h4 (get_P e2 (ite_tP rfl (go σ2 hJ)))))))))))) ?_
  refine ite_P (ite_tP h1 (ite_tP h2 (ite_tP h3 (ite_tP h4 (call_P (same_fight _ _ _ _) hI (fun r σ1 σ2 e2 hJ => ite_tP h1 (ite_tP h2 (ite_tP h3 (ite_tP h4 (get_P e2 (ite_tP rfl (go σ2 hJ)))))))))))) ?_
  refine ite_P (ite_tP h1 (ite_tP h2 (ite_tP h3 (ite_tP h4 (call_P (same_best _ _ _ _) hI (fun r σ1 σ2 e2 hJ => ite_tP h1 (ite_tP h2 (ite_tP h3 (ite_tP h4 (get_P e2 (ite_tP rfl (go σ2 hJ)))))))))))) ?_
  refine ite_P (ite_tP h1 (ite_tP h2 (ite_tP h3 (call_P (same_sure _ _ _) hI (fun r σ1 σ2 e2 hJ => ite_tP h1 (ite_tP h2 (ite_tP h3 (get_P e2 (ite_tP rfl (go σ2 hJ)))))))))) ?_
  refine ite_P (ite_tP h1 (ite_tP h2 (ite_tP h3 (call_P (same_chance _ _ _) hI (fun r σ1 σ2 e2 hJ => ite_tP h1 (ite_tP h2 (ite_tP h3 (get_P e2 (ite_tP ((lg_cmp_eq _ _).mpr rfl) (go σ2 hJ)))))))))) ?_
  refine ite_P (ite_tP h1 (ite_tP h2 (ite_tP h3 (call_P (same_knees _ _ _) hI (fun r σ1 σ2 e2 hJ => ite_tP h1 (ite_tP h2 (ite_tP h3 (get_P e2 (ite_tP rfl (go σ2 hJ)))))))))) ?_
  refine ite_P (ite_tP h1 (ite_tP h2 (ite_tP h3 (call_P (same_beats _ _ _) hI (fun r σ1 σ2 e2 hJ => ite_tP h1 (ite_tP h2 (ite_tP h3 (get_P e2 (ite_tP rfl (go σ2 hJ)))))))))) ?_
  refine ite_P (ite_tP h1 (ite_tP h2 (call_P (same_meet _ _) hI (fun r σ1 σ2 e2 hJ => ite_tP h1 (ite_tP h2 (get_P e2 (ite_tP rfl (go σ2 hJ)))))))) ?_
  refine ite_P (ite_tP h1 (ite_tP h2 (ite_tP h3 (call_P (same_run _ _ _) hI (fun r σ1 σ2 e2 hJ => ite_tP h1 (ite_tP h2 (ite_tP h3 (get_P e2 (ite_tP rfl (go σ2 hJ)))))))))) ?_
  refine ite_P (ite_tP h1 (ite_tP h2 (ite_tP h3 (ite_tP h4 (call_P (same_judge _ _ _ _) hI (fun r σ1 σ2 e2 hJ => ite_tP h1 (ite_tP h2 (ite_tP h3 (ite_tP h4 (get_P e2 (ite_tP rfl (go σ2 hJ)))))))))))) ?_
  refine ite_P (ite_tP h1 (ite_tP h2 (ite_tP h3 (ite_tP h4 (ite_tP h5 (call_P (same_kinds _ _ _ _ _) hI (fun r σ1 σ2 e2 hJ => ite_tP h1 (ite_tP h2 (ite_tP h3 (ite_tP h4 (ite_tP h5 (get_P e2 (ite_tP rfl (go σ2 hJ)))))))))))))) ?_
  refine ite_P (ite_tP h1 (ite_tP h2 (ite_tP h3 (ite_tP h4 (ite_tP h5 (call_P (same_acts _ _ _ _ _) hI (fun r σ1 σ2 e2 hJ => ite_tP h1 (ite_tP h2 (ite_tP h3 (ite_tP h4 (ite_tP h5 (get_P e2 (ite_tP rfl (go σ2 hJ)))))))))))))) ?_
  refine ite_P (ite_tP h1 (ite_tP h2 (ite_tP h3 (ite_tP h4 (ite_tP h5 (call_P (same_heavy _ _ _ _ _) hI (fun r σ1 σ2 e2 hJ => ite_tP h1 (ite_tP h2 (ite_tP h3 (ite_tP h4 (ite_tP h5 (get_P e2 (ite_tP rfl (go σ2 hJ)))))))))))))) ?_
  refine ite_P (ite_tP h1 (ite_tP h2 (ite_tP h3 (ite_tP h4 (call_P (same_laws _ _ _ _) hI (fun r σ1 σ2 e2 hJ => ite_tP h1 (ite_tP h2 (ite_tP h3 (ite_tP h4 (get_P e2 (ite_tP rfl (go σ2 hJ)))))))))))) ?_
  refine ite_P (ite_tP h1 (ite_tP h2 (ite_tP h3 (ite_tP h4 (call_P (same_whose _ _ _ _) hI (fun r σ1 σ2 e2 hJ => ite_tP h1 (ite_tP h2 (ite_tP h3 (ite_tP h4 (get_P e2 (ite_tP rfl (go σ2 hJ)))))))))))) ?_
  refine ite_P (ite_tP h1 (ite_tP h2 (ite_tP h3 (ite_tP h4 (call_P (same_film _ _ _ _) hI (fun r σ1 σ2 e2 hJ => ite_tP h1 (ite_tP h2 (ite_tP h3 (ite_tP h4 (get_P e2 (ite_tP rfl (go σ2 hJ)))))))))))) ?_
  refine ite_P (ite_tP h1 (ite_tP h2 (ite_tP h3 (ite_tP h4 (call_P (same_drawn _ _ _ _) hI (fun r σ1 σ2 e2 hJ => ite_tP h1 (ite_tP h2 (ite_tP h3 (ite_tP h4 (get_P e2 (ite_tP rfl (go σ2 hJ)))))))))))) ?_
  refine ite_P (ite_tP h1 (ite_tP h2 (ite_tP h3 (ite_tP h4 (ite_tP h5 (call_P (same_odds _ _ _ _ _) hI (fun r σ1 σ2 e2 hJ => ite_tP h1 (ite_tP h2 (ite_tP h3 (ite_tP h4 (ite_tP h5 (get_P e2 (ite_tP ((lg_cmp_eq _ _).mpr rfl) (go σ2 hJ)))))))))))))) ?_
  refine ite_P (call_P (same_image) hI (fun r σ1 σ2 e2 hJ => get_P e2 (ite_tP rfl (go σ2 hJ)))) ?_
  refine ite_P (call_P (same_back) hI (fun r σ1 σ2 e2 hJ => get_P e2 (ite_tP rfl (go σ2 hJ)))) ?_
  refine ite_P (ite_tP h1 (ite_tP h2 (ite_tP h3 (call_P (same_sheet _ _ _) hI (fun r σ1 σ2 e2 hJ => ite_tP h1 (ite_tP h2 (ite_tP h3 (get_P e2 (ite_tP rfl (go σ2 hJ)))))))))) ?_
  refine ite_P (ite_tP h1 (ite_tP h2 (ite_tP h3 (call_P (same_cell _ _ _) hI (fun r σ1 σ2 e2 hJ => ite_tP h1 (ite_tP h2 (ite_tP h3 (get_P e2 (ite_tP rfl (go σ2 hJ)))))))))) ?_
  refine ite_P (ite_tP h1 (ite_tP h2 (ite_tP h3 (ite_tP h4 (ite_tP h5 (call_P (same_copy _ _ _ _ _) hI (fun r σ1 σ2 e2 hJ => ite_tP h1 (ite_tP h2 (ite_tP h3 (ite_tP h4 (ite_tP h5 (get_P e2 (ite_tP rfl (go σ2 hJ)))))))))))))) ?_
  refine ite_P (ite_tP h1 (ite_tP h2 (ite_tP h3 (ite_tP h4 (call_P (same_menBy _ _ _ _) hI (fun r σ1 σ2 e2 hJ => ite_tP h1 (ite_tP h2 (ite_tP h3 (ite_tP h4 (get_P e2 (ite_tP rfl (go σ2 hJ)))))))))))) ?_
  refine ite_P (ite_tP h1 (ite_tP h2 (call_P (same_taken _ _) hI (fun r σ1 σ2 e2 hJ => ite_tP h1 (ite_tP h2 (get_P e2 (ite_tP rfl (go σ2 hJ)))))))) ?_
  exact go σ ⟨n, T, t, hI⟩
theorem neg_L : ∀ L, L < 7 → nI L - 7 < 0 := by decide +kernel
theorem law_loop {xs : Nat → Int32} {L : Nat} (hL : L ≤ 3584) : ∀ (f i : Nat) (σ : St), (∃ n T t, Inv n T t σ) → L + 7 < 7 * (i + f) → 7 * i ≤ L + 6 → P1 (SL_law_18 xs L f (nI (7 * i)) σ) := by
  intro f
  induction f with
  | zero => intro i σ _ h1 h2; exact absurd h1 (by omega)
  | succ f ih =>
    intro i σ hI h1 h2
    show P1 (BL_law_18 xs L (SL_law_18 xs L f) (nI (7 * i)) σ)
    by_cases q : 7 * i + 7 ≤ L
    · obtain ⟨n, T, t, hI⟩ := hI
      have ad : ∀ c : Nat, c < 7 → inb (nI (7 * i) + nI c) L := fun c hc => by rw [nI_add]; exact inb_nI (by omega) (by omega)
      refine law_one hI (inb_nI (by omega) (by omega)) (ad 1 (by omega)) (ad 2 (by omega)) (ad 3 (by omega)) (ad 4 (by omega)) (ad 5 (by omega)) (ad 6 (by omega)) ?_ (fun σ' hJ => ?_)
      · rw [show (7 : Int32) = nI 7 from rfl, nI_sub (by omega)]
        exact nI_nlt (by omega) (by omega)
      · rw [show (7 : Int32) = nI 7 from rfl, nI_add, show 7 * i + 7 = 7 * (i + 1) by omega]
        exact ih (i + 1) σ' hJ (by omega) (by omega)
    · unfold BL_law_18
      have hlt : nI L - 7 < nI (7 * i) := by
        by_cases q7 : L < 7
        · exact Int32.lt_of_lt_of_le (neg_L L q7) (nI_pos' (by omega))
        · rw [show (7 : Int32) = nI 7 from rfl, nI_sub (by omega)]
          exact nI_lt (by omega) (by omega)
      rw [if_pos hlt]
      exact ⟨σ, rfl⟩
theorem pure_all : PureAll := by
  obtain ⟨σ1, σ2, h1, h2, h3⟩ := begins
  exact ⟨σ1, σ2, h1, h2, fun xs L hL => law_loop hL 4096 0 σ2 ⟨0, 1, 0, h3⟩ (by omega) (by omega)⟩
