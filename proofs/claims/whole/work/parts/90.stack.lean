/-! The reference's signs that are held. -/
def rkN (s : Nat) : Nat := if s = 0 then 0 else if s = 11 then 1 else if s = 12 then 2 else if s = 13 then 3 else if s ≤ 15 then 4 else if s ≤ 17 then 5 else if s = 18 then 6 else 7
theorem rank9 : ∀ s, s < 20 → ∀ σ : St, S9_rank (nI s) σ = some (nI (rkN s), σ) := by
  intro s hs σ
  match s, hs with
  | 0, _ => rfl
  | 1, _ => rfl
  | 2, _ => rfl
  | 3, _ => rfl
  | 4, _ => rfl
  | 5, _ => rfl
  | 6, _ => rfl
  | 7, _ => rfl
  | 8, _ => rfl
  | 9, _ => rfl
  | 10, _ => rfl
  | 11, _ => rfl
  | 12, _ => rfl
  | 13, _ => rfl
  | 14, _ => rfl
  | 15, _ => rfl
  | 16, _ => rfl
  | 17, _ => rfl
  | 18, _ => rfl
  | 19, _ => rfl
  | s + 20, h => exact absurd h (by omega)
def unw (l : Nat) : List Nat → List Int32 → List Nat × List Int32
  | [], out => ([], out)
  | s :: H, out => if rkN s < l then (s :: H, out) else unw l H (out ++ [nI s])
def topR (H : List Nat) (l : Nat) : Prop := match H with
  | [] => True
  | s :: _ => rkN s < l
theorem rkN_b : ∀ c, c < 20 → rkN c ≤ 7 := by decide +kernel
theorem topR_mono {H : List Nat} {l l' : Nat} (h : topR H l) (hl : l ≤ l') : topR H l' := by
  cases H with
  | nil => exact trivial
  | cons s H => exact Nat.lt_of_lt_of_le h hl
theorem unw_id {l : Nat} {H : List Nat} (h : topR H l) (out : List Int32) : unw l H out = (H, out) := by
  cases H with
  | nil => rfl
  | cons s H => unfold unw; rw [if_pos (show rkN s < l from h)]
theorem unw_pop {l s : Nat} (h : l ≤ rkN s) (H : List Nat) (out : List Int32) : unw l (s :: H) out = unw l H (out ++ [nI s]) := by
  show (if rkN s < l then _ else _) = _
  rw [if_neg (by omega)]
theorem unw_top (l : Nat) : ∀ (H : List Nat) (out : List Int32), topR (unw l H out).1 l := by
  intro H
  induction H with
  | nil => intro out; exact trivial
  | cons s H ih =>
    intro out
    unfold unw
    by_cases q : rkN s < l
    · rw [if_pos q]; exact q
    · rw [if_neg q]; exact ih _
theorem unw_len (l : Nat) : ∀ (H : List Nat) (out : List Int32), (unw l H out).2.length + (unw l H out).1.length = out.length + H.length := by
  intro H
  induction H with
  | nil => intro out; rfl
  | cons s H ih =>
    intro out
    unfold unw
    by_cases q : rkN s < l
    · rw [if_pos q]
    · rw [if_neg q, ih]
      simp only [List.length_append, List.length_cons, List.length_nil]
      omega
theorem unw_unw {l l' : Nat} (hl : l ≤ l') : ∀ (H : List Nat) (out : List Int32), unw l (unw l' H out).1 (unw l' H out).2 = unw l H out := by
  intro H
  induction H with
  | nil => intro out; rfl
  | cons s H ih =>
    intro out
    by_cases q : rkN s < l'
    · rw [unw_id (l := l') (H := s :: H) q]
    · rw [unw_pop (l := l') (by omega), ih, unw_pop (l := l) (by omega)]
theorem unw_eq {l l' : Nat} (hl : l ≤ l') {H H' : List Nat} {out out' : List Int32} (h : unw l' H out = unw l' H' out') : unw l H out = unw l H' out' := by
  rw [← unw_unw hl H out, h, unw_unw hl]
theorem unw_mem (l : Nat) {p : Nat → Prop} : ∀ (H : List Nat) (out : List Int32), (∀ x ∈ H, p x) → ∀ x ∈ (unw l H out).1, p x := by
  intro H
  induction H with
  | nil => intro out h; exact h
  | cons s H ih =>
    intro out h
    unfold unw
    by_cases q : rkN s < l
    · rw [if_pos q]; exact h
    · rw [if_neg q]; exact ih _ (fun x hx => h x (List.mem_cons_of_mem _ hx))
def cnt3 : List Nat → Nat
  | [] => 0
  | s :: H => (if s = 0 ∨ s = 13 ∨ s = 19 then 1 else 0) + cnt3 H
theorem cnt3_b : ∀ H : List Nat, cnt3 H ≤ H.length := by
  intro H
  induction H with
  | nil => exact Nat.le_refl _
  | cons s H ih =>
    show _ + cnt3 H ≤ H.length + 1
    split <;> omega
/-- the signs in the memory, the last first -/
def stkH (σ : St) : List Nat → Prop
  | [] => True
  | s :: H => gI σ 89 H.length = nI s ∧ stkH σ H
theorem stkH_fr {σ σ' : St} : ∀ H : List Nat, (∀ k, k < H.length → gI σ' 89 k = gI σ 89 k) → stkH σ H → stkH σ' H := by
  intro H
  induction H with
  | nil => intro _ _; exact trivial
  | cons s H ih =>
    intro h1 h2
    exact ⟨(h1 _ (Nat.lt_succ_self _)).trans h2.1, ih (fun k hk => h1 k (Nat.lt_succ_of_lt hk)) h2.2⟩
theorem cds_app (σ : St) (t : Nat) : ∀ n i, cds σ t i (n + 1) = cds σ t i n ++ [gI σ 80 (200 * t + (i + n))] := by
  intro n
  induction n with
  | zero => intro i; rfl
  | succ n ih =>
    intro i
    show gI σ 80 (200 * t + i) :: cds σ t (i + 1) (n + 1) = gI σ 80 (200 * t + i) :: (cds σ t (i + 1) n ++ _)
    rw [ih (i + 1), show i + 1 + n = i + (n + 1) by omega]
theorem cds_fr {σ σ' : St} (t : Nat) : ∀ n i, (∀ k, i ≤ k → k < i + n → gI σ' 80 (200 * t + k) = gI σ 80 (200 * t + k)) → cds σ' t i n = cds σ t i n := by
  intro n
  induction n with
  | zero => intro i _; rfl
  | succ n ih =>
    intro i h
    show _ :: _ = _ :: _
    rw [h i (by omega) (by omega), ih (i + 1) (fun k h1 h2 => h k (by omega) (by omega))]
/-- what the reference changes while it reads -/
def fU (t a k : Nat) : Prop := (a = 75 ∧ 24 ≤ k ∧ k ≤ 26) ∨ a = 89 ∨ (a = 80 ∧ 200 * t ≤ k ∧ k < 200 * t + 200)
/-- signs H, open ones o, codes out, at the reference -/
def RSx (t : Nat) (H : List Nat) (o : Nat) (out : List Int32) (σ : St) : Prop := (gI σ 75 9 = nI t ∧ t < 6) ∧ (gI σ 75 24 = nI H.length ∧ stkH σ H ∧ ∀ x ∈ H, x < 20) ∧ gI σ 75 25 = nI o ∧ gI σ 75 26 = nI out.length ∧ cds σ t 0 out.length = out
theorem RSx.fr {t : Nat} {H : List Nat} {o : Nat} {out : List Int32} {σ σ' : St} (h : RSx t H o out σ) (k : ∀ a b, (a = 75 ∧ (b = 9 ∨ (24 ≤ b ∧ b ≤ 26))) ∨ a = 89 ∨ a = 80 → gI σ' a b = gI σ a b) : RSx t H o out σ' := by
  obtain ⟨⟨h1, h2⟩, ⟨h3, h4, h5⟩, h6, h7, h8⟩ := h
  refine ⟨⟨(k 75 9 (by omega)).trans h1, h2⟩, ⟨(k 75 24 (by omega)).trans h3, stkH_fr H (fun j _ => k 89 j (by omega)) h4, h5⟩, (k 75 25 (by omega)).trans h6, (k 75 26 (by omega)).trans h7, ?_⟩
  rw [cds_eq t (fun j => k 80 j (by omega))]; exact h8
theorem puts9 {t o : Nat} {H : List Nat} {out : List Int32} {σ : St} (h : RSx t H o out σ) (hl : out.length < 200) (c : Int32) : ∃ σ', S9_puts c σ = some ((), σ') ∧ RSx t H o (out ++ [c]) σ' ∧ Fr (fU t) noR σ σ' := by
  obtain ⟨⟨h1, h2⟩, ⟨h3, h4, h5⟩, h6, h7, h8⟩ := h
  have ei : (200 : Int32) * nI t + nI out.length = nI (200 * t + out.length) := by rw [show (200 : Int32) = nI 200 from rfl, nI_mul, nI_add]
  unfold S9_puts
  rw [h1, h7, ei, if_pos (inb_nI (by omega) (by omega)), nI_clamp (by omega)]
  have hlen : (out ++ [c]).length = out.length + 1 := by simp
  refine ⟨_, rfl, ⟨⟨?_, h2⟩, ⟨?_, stkH_fr H (fun j _ => ?_) h4, h5⟩, ?_, ?_, ?_⟩, (Fr.rf.sI _ (by unfold fU; omega)).sI _ (by unfold fU; omega)⟩
  · rw [gI_sI, if_neg (by omega), gI_sI, if_neg (by omega)]; exact h1
  · rw [gI_sI, if_neg (by omega), gI_sI, if_neg (by omega)]; exact h3
  · rw [gI_sI, if_neg (by omega), gI_sI, if_neg (by omega)]
  · rw [gI_sI, if_neg (by omega), gI_sI, if_neg (by omega)]; exact h6
  · rw [gI_sI, if_pos ⟨rfl, rfl⟩, gI_sI, if_neg (by omega), h7, nI_1, hlen]
  · have e1 : cds (sI (sI σ 80 (200 * t + out.length) c) 75 26 (gI (sI σ 80 (200 * t + out.length) c) 75 26 + 1)) t 0 out.length = cds σ t 0 out.length := cds_fr t out.length 0 (fun k k1 k2 => by rw [gI_sI, if_neg (by omega), gI_sI, if_neg (by omega)])
    have e2 : gI (sI (sI σ 80 (200 * t + out.length) c) 75 26 (gI (sI σ 80 (200 * t + out.length) c) 75 26 + 1)) 80 (200 * t + (0 + out.length)) = c := by rw [gI_sI, if_neg (by omega), gI_sI, if_pos ⟨rfl, by omega⟩]
    rw [hlen, cds_app, e1, e2, h8]
theorem holds9 {t o : Nat} {H : List Nat} {out : List Int32} {σ : St} (h : RSx t H o out σ) (hl : H.length < 200) {c : Nat} (hc : c < 20) : ∃ σ', S9_holds (nI c) σ = some ((), σ') ∧ RSx t (c :: H) o out σ' ∧ Fr (fU t) noR σ σ' := by
  obtain ⟨⟨h1, h2⟩, ⟨h3, h4, h5⟩, h6, h7, h8⟩ := h
  unfold S9_holds
  rw [h3, if_pos (inb_nI hl (by omega)), nI_clamp (by omega)]
  refine ⟨_, rfl, ⟨⟨?_, h2⟩, ⟨?_, ⟨?_, stkH_fr H (fun j hj => ?_) h4⟩, fun x hx => ?_⟩, ?_, ?_, ?_⟩, (Fr.rf.sI _ (by unfold fU; omega)).sI _ (by unfold fU; omega)⟩
  · rw [gI_sI, if_neg (by omega), gI_sI, if_neg (by omega)]; exact h1
  · rw [gI_sI, if_pos ⟨rfl, rfl⟩, gI_sI, if_neg (by omega), h3, nI_1]; rfl
  · rw [gI_sI, if_neg (by omega), gI_sI, if_pos ⟨rfl, rfl⟩]
  · rw [gI_sI, if_neg (by omega), gI_sI, if_neg (by omega)]
  · rcases List.mem_cons.mp hx with rfl | y
    · exact hc
    · exact h5 x y
  · rw [gI_sI, if_neg (by omega), gI_sI, if_neg (by omega)]; exact h6
  · rw [gI_sI, if_neg (by omega), gI_sI, if_neg (by omega)]; exact h7
  · exact (cds_eq t (fun j => by rw [gI_sI, if_neg (by omega), gI_sI, if_neg (by omega)]) _ _).trans h8
/-- one sign comes off -/
theorem pop9 {t o c : Nat} {H : List Nat} {out : List Int32} {σ : St} (h : RSx t (c :: H) o out σ) (hl : H.length < 200) : gI σ 75 24 = nI (H.length + 1) ∧ gI σ 89 H.length = nI c ∧ RSx t H o out (sI σ 75 24 (nI H.length)) := by
  obtain ⟨⟨h1, h2⟩, ⟨h3, ⟨h4, h4'⟩, h5⟩, h6, h7, h8⟩ := h
  refine ⟨h3, h4, ⟨?_, h2⟩, ⟨?_, stkH_fr H (fun j hj => ?_) h4', fun x hx => h5 x (List.mem_cons_of_mem _ hx)⟩, ?_, ?_, ?_⟩
  · rw [gI_sI, if_neg (by omega)]; exact h1
  · rw [gI_sI, if_pos ⟨rfl, rfl⟩]
  · rw [gI_sI, if_neg (by omega)]
  · rw [gI_sI, if_neg (by omega)]; exact h6
  · rw [gI_sI, if_neg (by omega)]; exact h7
  · exact (cds_eq t (fun j => by rw [gI_sI, if_neg (by omega)]) _ _).trans h8
theorem RSx.opn {t o o' : Nat} {H : List Nat} {out : List Int32} {σ : St} (h : RSx t H o out σ) : RSx t H o' out (sI σ 75 25 (nI o')) := by
  obtain ⟨⟨h1, h2⟩, ⟨h3, h4, h5⟩, h6, h7, h8⟩ := h
  refine ⟨⟨?_, h2⟩, ⟨?_, stkH_fr H (fun j hj => ?_) h4, h5⟩, ?_, ?_, ?_⟩
  · rw [gI_sI, if_neg (by omega)]; exact h1
  · rw [gI_sI, if_neg (by omega)]; exact h3
  · rw [gI_sI, if_neg (by omega)]
  · rw [gI_sI, if_pos ⟨rfl, rfl⟩]
  · rw [gI_sI, if_neg (by omega)]; exact h7
  · exact (cds_eq t (fun j => by rw [gI_sI, if_neg (by omega)]) _ _).trans h8
theorem unwinds9 {t l : Nat} (hl1 : 1 ≤ l) (hl2 : l ≤ 7) : ∀ (H : List Nat) (out : List Int32) (f : Nat) (σ : St), RSx t H (cnt3 H) out σ → out.length + H.length ≤ 190 → H.length < f → ∃ σ', S9_unwinds_0 (nI l) f σ = some ((), σ') ∧ RSx t (unw l H out).1 (cnt3 (unw l H out).1) (unw l H out).2 σ' ∧ Fr (fU t) noR σ σ' := by
  intro H
  induction H with
  | nil =>
    intro out f σ h hlen hf
    obtain ⟨f, rfl⟩ : ∃ z, f = z + 1 := ⟨f - 1, by omega⟩
    refine ⟨σ, ?_, h, Fr.rf⟩
    show B9_unwinds_0 _ _ σ = _
    unfold B9_unwinds_0
    rw [show gI σ 75 24 = nI 0 from h.2.1.1, if_pos (by decide)]
  | cons c H ih =>
    intro out f σ h hlen hf
    obtain ⟨f, rfl⟩ : ∃ z, f = z + 1 := ⟨f - 1, by omega⟩
    have hlen' : out.length + (H.length + 1) ≤ 190 := hlen
    obtain ⟨p1, p2, p3⟩ := pop9 h (by omega)
    have hc := h.2.1.2.2 c (List.mem_cons_self ..)
    have em : nI (H.length + 1) - 1 = nI H.length := nI_pred _
    have ex : S9_unwinds_0 (nI l) (f + 1) σ = B9_unwinds_0 (nI l) (S9_unwinds_0 (nI l) f) σ := rfl
    rw [ex]
    unfold B9_unwinds_0
    rw [p1, if_neg (nI_nle (by omega) (by omega)), em]
    simp only [if_pos (inb_nI (show H.length < 200 by omega) (show 200 < 2 ^ 31 by omega)), nI_clamp (show H.length < 2 ^ 31 by omega), p2, rank9 c hc, bnd_s]
    by_cases q : rkN c < l
    · rw [if_pos (nI_lt q (by omega)), unw_id (l := l) (H := c :: H) q]
      exact ⟨σ, rfl, h, Fr.rf⟩
    · have hrk : rkN c ≤ 7 := rkN_b c hc
      rw [if_neg (nI_nlt (by omega) (by omega)), unw_pop (by omega)]
      rw [p1, em]
      have r24 : gI (sI σ 75 24 (nI H.length)) 75 24 = nI H.length := by rw [gI_sI, if_pos ⟨rfl, rfl⟩]
      have r89 : gI (sI σ 75 24 (nI H.length)) 89 H.length = nI c := by rw [gI_sI, if_neg (by omega)]; exact p2
      have r25 : gI (sI σ 75 24 (nI H.length)) 75 25 = nI (cnt3 (c :: H)) := by rw [gI_sI, if_neg (by omega)]; exact h.2.2.1
      have fr1 : Fr (fU t) noR σ (sI σ 75 24 (nI H.length)) := Fr.rf.sI _ (by unfold fU; omega)
      generalize sI σ 75 24 (nI H.length) = σ1 at p3 r24 r89 r25 fr1 ⊢
      rw [r24]
      simp only [if_pos (inb_nI (show H.length < 200 by omega) (show 200 < 2 ^ 31 by omega)), nI_clamp (show H.length < 2 ^ 31 by omega), r89, r25]
      have c0 : ¬ c = 0 := fun y => by
        rw [y] at q
        exact q (by show 0 < l; omega)
      have go : ∀ d : Int32, nI (cnt3 (c :: H)) - d = nI (cnt3 H) → ∃ σ', S9_unwinds_67 (nI l) (S9_unwinds_0 (nI l) f) (nI c) (nI (cnt3 (c :: H))) d σ1 = some ((), σ') ∧ RSx t (unw l H (out ++ [nI c])).1 (cnt3 (unw l H (out ++ [nI c])).1) (unw l H (out ++ [nI c])).2 σ' ∧ Fr (fU t) noR σ σ' := by
        intro d hd
        unfold S9_unwinds_67
        rw [hd]
        have p4 := p3.opn (o' := cnt3 H)
        have fr2 : Fr (fU t) noR σ1 (sI σ1 75 25 (nI (cnt3 H))) := Fr.rf.sI _ (by unfold fU; omega)
        obtain ⟨σ2, g2, p5, fr3⟩ := puts9 p4 (by omega) (nI c)
        rw [g2, bnd_s]
        obtain ⟨σ3, g3, p6, fr4⟩ := ih (out ++ [nI c]) f σ2 p5 (by simp only [List.length_append, List.length_cons, List.length_nil]; omega) (by have : (c :: H).length = H.length + 1 := rfl; omega)
        exact ⟨σ3, g3, p6, ((fr1.tr fr2).tr fr3).tr fr4⟩
      have hcn := cnt3_b H
      by_cases q13 : c = 13
      · subst q13
        rw [if_pos (show nI 13 = (13 : Int32) from rfl)]
        refine go 1 ?_
        show nI (1 + cnt3 H) - 1 = _
        rw [show 1 + cnt3 H = cnt3 H + 1 by omega, nI_pred]
      · rw [if_neg (show ¬ nI c = (13 : Int32) from fun y => q13 ((nI_inj (b := 13) (by omega) (by omega)).mp y))]
        by_cases q19 : c = 19
        · subst q19
          rw [if_pos (show nI 19 = (19 : Int32) from rfl)]
          refine go 1 ?_
          show nI (1 + cnt3 H) - 1 = _
          rw [show 1 + cnt3 H = cnt3 H + 1 by omega, nI_pred]
        · rw [if_neg (show ¬ nI c = (19 : Int32) from fun y => q19 ((nI_inj (b := 19) (by omega) (by omega)).mp y))]
          refine go 0 ?_
          show nI ((if c = 0 ∨ c = 13 ∨ c = 19 then 1 else 0) + cnt3 H) - 0 = _
          rw [if_neg (by omega), Nat.zero_add, Int32.sub_zero]
/-- the reference stands before token j -/
def RM (b : Nat → Nat) (s t : Nat) (H : List Nat) (out : List Int32) (j : Nat) (σ : St) : Prop := TR b s σ ∧ RSx t H (cnt3 H) out σ ∧ gI σ 75 18 = nI (pS b s j)
theorem unwinds9w {t l : Nat} (hl1 : 1 ≤ l) (hl2 : l ≤ 7) {H : List Nat} {out : List Int32} {σ : St} (h : RSx t H (cnt3 H) out σ) (hlen : out.length + H.length ≤ 190) : ∃ σ', S9_unwinds (nI l) σ = some ((), σ') ∧ RSx t (unw l H out).1 (cnt3 (unw l H out).1) (unw l H out).2 σ' ∧ Fr (fU t) noR σ σ' := unwinds9 hl1 hl2 H out 4096 σ h hlen (by omega)
