/-! Reading an E: the class's descent against the reference's machine. -/
def lev (w : Nat) : Nat := if w = 0 then 1 else if w = 1 then 2 else if w = 2 then 3 else if w = 3 then 5 else if w = 4 then 6 else 7
def prL (w : Nat) : Nat := if w = 0 then 1 else if w = 1 then 2 else if w = 2 then 4 else if w = 3 then 5 else if w = 4 then 6 else 8
def isop (w K : Nat) : Prop := (w = 0 ∧ K = 4) ∨ (w = 1 ∧ K = 5) ∨ (w = 3 ∧ (K = 43 ∨ K = 45)) ∨ (w = 4 ∧ K = 42)
def nc (w K : Nat) (Hx : List Nat) (outx : List Int32) : Prop := (w ≤ 4 → K ≠ 42) ∧ (w ≤ 3 → K ≠ 43 ∧ K ≠ 45) ∧ (w ≤ 2 → K = 60 ∨ K = 61 → ∃ x H', (unw 5 Hx outx).1 = x :: H' ∧ rkN x = 4) ∧ (w ≤ 1 → K ≠ 5) ∧ (w = 0 → K ≠ 4)
def GF (b : Nat → Nat) (s t : Nat) (ww mn : Int32) (j : Nat) (σ8 σ9 : St) (res : Option (Int32 × St)) : Prop := ∃ (j' : Nat) (σ8' σ9' : St), (j ≤ j' ∧ j' ≤ s) ∧ res = some (0, σ8') ∧ gI σ8' 26 2 = nI (pL b s j') ∧ Fr (fC t) noR σ8 σ8' ∧ (∀ f, S9_eRead_14 (f + (j' - j) + 1) ww mn σ9 = some (0, σ9')) ∧ gI σ9' 75 19 = nI (pL b s j') ∧ Fr (fE t) noR σ9 σ9'
def GK (b : Nat → Nat) (s t w : Nat) (ww mn : Int32) (H : List Nat) (out : List Int32) (j : Nat) (σ8 σ9 : St) (res : Option (Int32 × St)) : Prop := ∃ (j' : Nat) (cs : List Int32) (Hx : List Nat) (outx : List Int32) (mn' : Int32) (σ8' σ9' : St), (j ≤ j' ∧ res = some (1, σ8')) ∧ (CM b s t (out ++ cs) j' σ8' ∧ Fr (fC t) noR σ8 σ8') ∧ ((∀ f, S9_eRead_14 (f + (j' - j)) ww mn σ9 = S9_eRead_14 f 0 mn' σ9') ∧ RM b s t Hx outx j' σ9' ∧ Fr (fE t) noR σ9 σ9') ∧ (unw (lev w) Hx outx = unw (lev w) H (out ++ cs) ∧ VD cs) ∧ ((out ++ cs).length + H.length ≤ j' ∧ outx.length + Hx.length ≤ j' ∧ j' ≤ s) ∧ nc w (tK b s j') Hx outx
theorem lev_s : ∀ w, w < 5 → lev w ≤ lev (w + 1) ∧ prL w ≤ prL (w + 1) := by decide +kernel
theorem binF {w K : Nat} (h : isop w K) : (opK K ∧ K ≠ 0) ∧ (lvK K = lev w ∧ rkN (sgn K) = lev w ∧ ¬ rkN (sgn K) = 4) ∧ lev w < prL (w + 1) ∧ (w + 1 ≤ 2 → sgn K ≤ 12) ∧ (3 ≤ w + 1 → ¬ sgn K ≤ 12) := by
  rcases h with ⟨rfl, rfl⟩ | ⟨rfl, rfl⟩ | ⟨rfl, rfl | rfl⟩ | ⟨rfl, rfl⟩
  · exact ⟨⟨Or.inl rfl, by decide⟩, by decide, by decide, by decide, by decide⟩
  · exact ⟨⟨Or.inr (Or.inl rfl), by decide⟩, by decide, by decide, by decide, by decide⟩
  · exact ⟨⟨by unfold opK; omega, by decide⟩, by decide, by decide, by decide, by decide⟩
  · exact ⟨⟨by unfold opK; omega, by decide⟩, by decide, by decide, by decide, by decide⟩
  · exact ⟨⟨by unfold opK; omega, by decide⟩, by decide, by decide, by decide, by decide⟩
theorem nc_drop {w K : Nat} {Hx : List Nat} {outx : List Int32} (hw : w = 0 ∨ w = 1 ∨ w = 3 ∨ w = 4) (h : nc (w + 1) K Hx outx) (ho : ¬ isop w K) : nc w K Hx outx := by
  obtain ⟨h1, h2, h3, h4, h5⟩ := h
  unfold isop at ho
  refine ⟨fun hw4 => ?_, fun hw3 => ?_, fun hw2 => h3 (by clear h3; omega), fun hw1 => ?_, fun hw0 => ?_⟩
  · by_cases q : w = 4
    · exact fun y => ho (Or.inr (Or.inr (Or.inr ⟨q, y⟩)))
    · exact h1 (by omega)
  · by_cases q : w = 3
    · exact ⟨fun y => ho (Or.inr (Or.inr (Or.inl ⟨q, Or.inl y⟩))), fun y => ho (Or.inr (Or.inr (Or.inl ⟨q, Or.inr y⟩)))⟩
    · exact h2 (by omega)
  · by_cases q : w = 1
    · exact fun y => ho (Or.inr (Or.inl ⟨q, y⟩))
    · exact h4 (by omega)
  · exact fun y => ho (Or.inl ⟨hw0, y⟩)
theorem cnt3_sgn (K : Nat) (H : List Nat) : cnt3 (sgn K :: H) = cnt3 H := by
  obtain ⟨h1, h2, h3⟩ := sgn_b K
  show (if sgn K = 0 ∨ sgn K = 13 ∨ sgn K = 19 then 1 else 0) + cnt3 H = _
  rw [if_neg (by omega), Nat.zero_add]
section CLM
variable {b : Nat → Nat} {s t : Nat}
theorem GF.res {ww mn : Int32} {j : Nat} {σ8 σ9 : St} {r r' : Option (Int32 × St)} (h : GF b s t ww mn j σ8 σ9 r) (k : ∀ σ', r = some (0, σ') → r' = some (0, σ')) : GF b s t ww mn j σ8 σ9 r' := by
  obtain ⟨j', σ8', σ9', h1, h2, h3⟩ := h
  exact ⟨j', σ8', σ9', h1, k _ h2, h3⟩
theorem GF.pre {ww mn ww' mn' : Int32} {j j1 : Nat} {σ8 σ8a σ9 σ9a : St} {r : Option (Int32 × St)} (h : GF b s t ww' mn' j1 σ8a σ9a r) (hj : j ≤ j1) (k8 : Fr (fC t) noR σ8 σ8a) (k9 : Fr (fE t) noR σ9 σ9a) (e : ∀ f, S9_eRead_14 (f + (j1 - j)) ww mn σ9 = S9_eRead_14 f ww' mn' σ9a) : GF b s t ww mn j σ8 σ9 r := by
  obtain ⟨j', σ8', σ9', h1, h2, h3, h4, h5, h6, h7⟩ := h
  refine ⟨j', σ8', σ9', by omega, h2, h3, k8.tr h4, fun f => ?_, h6, k9.tr h7⟩
  rw [show f + (j' - j) + 1 = (f + (j' - j1) + 1) + (j1 - j) by omega, e]
  exact h5 f
theorem GK.pre {w : Nat} {H : List Nat} {out : List Int32} {ww mn ww' mn' : Int32} {j j1 : Nat} {σ8 σ8a σ9 σ9a : St} {r : Option (Int32 × St)} (h : GK b s t w ww' mn' H out j1 σ8a σ9a r) (hj : j ≤ j1) (k8 : Fr (fC t) noR σ8 σ8a) (k9 : Fr (fE t) noR σ9 σ9a) (e : ∀ f, S9_eRead_14 (f + (j1 - j)) ww mn σ9 = S9_eRead_14 f ww' mn' σ9a) : GK b s t w ww mn H out j σ8 σ9 r := by
  obtain ⟨j', cs, Hx, outx, mn1, σ8', σ9', ⟨h1, h2⟩, ⟨h3, h4⟩, ⟨h5, h6, h7⟩, h8⟩ := h
  refine ⟨j', cs, Hx, outx, mn1, σ8', σ9', ⟨by omega, h2⟩, ⟨h3, k8.tr h4⟩, ⟨fun f => ?_, h6, k9.tr h7⟩, h8⟩
  rw [show f + (j' - j) = (f + (j' - j1)) + (j1 - j) by omega, e]
  exact h5 f
def CLAIM (b : Nat → Nat) (s t d : Nat) : Prop := ∀ (w a j : Nat) (H : List Nat) (out : List Int32) (mn : Int32) (σ8 σ9 : St), w ≤ 5 → a ≤ 5 → a = cnt3 H → (5 - a) * 6 + (6 - w) ≤ d → CM b s t out j σ8 → RM b s t H out j σ9 → topR H (prL w) → (w ≤ 2 → mn = 1) → (3 ≤ w → tK b s j = 6 → mn = 0) → out.length + H.length ≤ j → j ≤ s → GF b s t 1 mn j σ8 σ9 (SG d w (nI a) σ8) ∨ GK b s t w 1 mn H out j σ8 σ9 (SG d w (nI a) σ8)
theorem binL (hs : s ≤ 160) (hb : ∀ k, k < s → b k ≤ 255) {d w a : Nat} {H : List Nat} {out : List Int32} (hC : CLAIM b s t d) (hw : w = 0 ∨ w = 1 ∨ w = 3 ∨ w = 4) (ha : a ≤ 5) (haH : a = cnt3 H) (hd : (5 - a) * 6 + (6 - (w + 1)) ≤ d) (htop : topR H (lev w)) (loop : Nat → Int32 → St → Option (Int32 × St))
    (LEt : ∀ (f i j : Nat) (σ : St), CL b s j σ → i < 160 → isop w (tK b s j) → loop (f + 1) (nI i) σ = bnd (S1_step σ) fun _ σ1 => bnd (SG d (w + 1) (nI a) σ1) fun r σ2 => if r = 0 then some (0, σ2) else if Ob 75 6 (gR σ2 26 6) then bnd (S6_add (gR σ2 26 6) (stp (nI (sgn (tK b s j)))) σ2) fun _ σ3 => loop f (nI i + 1) σ3 else none)
    (LEf : ∀ (f i j : Nat) (σ : St), CL b s j σ → ¬ isop w (tK b s j) → loop (f + 1) (nI i) σ = some (1, σ)) :
    ∀ (m j1 i f : Nat) (cs : List Int32) (Hx : List Nat) (outx : List Int32) (mn1 : Int32) (σ8 σ9 : St), s - j1 ≤ m → m < f → i ≤ j1 → CM b s t (out ++ cs) j1 σ8 → RM b s t Hx outx j1 σ9 → unw (lev w) Hx outx = unw (lev w) H (out ++ cs) → VD cs → (out ++ cs).length + H.length ≤ j1 → outx.length + Hx.length ≤ j1 → j1 ≤ s → nc (w + 1) (tK b s j1) Hx outx → GF b s t 0 mn1 j1 σ8 σ9 (loop f (nI i) σ8) ∨ GK b s t w 0 mn1 H out j1 σ8 σ9 (loop f (nI i) σ8) := by
  intro m
  induction m with
  | zero =>
    intro j1 i f cs Hx outx mn1 σ8 σ9 hm hf hi h8 h9 hu hV l1 l2 l3 hn
    obtain ⟨f, rfl⟩ : ∃ z, f = z + 1 := ⟨f - 1, by omega⟩
    by_cases hop : isop w (tK b s j1)
    · have := (tK_lt hb j1 (binF hop).1.2).2
      omega
    · exact Or.inr ⟨j1, cs, Hx, outx, mn1, σ8, σ9, ⟨Nat.le_refl _, LEf f i j1 σ8 h8.2.1 hop⟩, ⟨h8, Fr.rf⟩, ⟨fun f => by rw [Nat.sub_self]; rfl, h9, Fr.rf⟩, ⟨hu, hV⟩, ⟨l1, l2, l3⟩, nc_drop hw hn hop⟩
  | succ m ih =>
    intro j1 i f cs Hx outx mn1 σ8 σ9 hm hf hi h8 h9 hu hV l1 l2 l3 hn
    obtain ⟨f, rfl⟩ : ∃ z, f = z + 1 := ⟨f - 1, by omega⟩
    by_cases hop : isop w (tK b s j1)
    · obtain ⟨⟨p1, p2⟩, ⟨p3, p4, p5⟩, p6, p7, p8⟩ := binF hop
      have hlt := (tK_lt hb j1 p2).2
      obtain ⟨sg1, sg2, sg3⟩ := sgn_b (tK b s j1)
      -- the class steps over the sign
      obtain ⟨σ8a, g8a, c8a, f8a⟩ := stepM8 hs hb h8
      -- so does the reference
      obtain ⟨σ9a, g9a, r9a, f9a⟩ := (eN_op hs hb h9 (by omega) mn1 p1).2 (fun y => p5 y.1)
      rw [p3, hu, unw_id htop] at r9a
      have e1 : ∀ f, S9_eRead_14 (f + (j1 + 1 - j1)) 0 mn1 σ9 = S9_eRead_14 f 1 (if sgn (tK b s j1) ≤ 12 then 1 else 0) σ9a := fun f => by rw [show f + (j1 + 1 - j1) = f + 1 by omega]; exact g9a f
      have hres : loop (f + 1) (nI i) σ8 = bnd (SG d (w + 1) (nI a) σ8a) fun r σ2 => if r = 0 then some (0, σ2) else if Ob 75 6 (gR σ2 26 6) then bnd (S6_add (gR σ2 26 6) (stp (nI (sgn (tK b s j1)))) σ2) fun _ σ3 => loop f (nI i + 1) σ3 else none := by
        rw [LEt f i j1 σ8 h8.2.1 (by omega) hop, g8a, bnd_s]
      have hsub := hC (w + 1) a (j1 + 1) (sgn (tK b s j1) :: H) (out ++ cs) (if sgn (tK b s j1) ≤ 12 then 1 else 0) σ8a σ9a (by omega) ha (by rw [cnt3_sgn]; exact haH) hd c8a r9a (by show rkN (sgn (tK b s j1)) < _; rw [p4]; exact p6) (fun y => by rw [if_pos (p7 y)]) (fun y _ => by rw [if_neg (p8 y)]) (by show (out ++ cs).length + (H.length + 1) ≤ j1 + 1; omega) (by omega)
      rcases hsub with hF | hK
      · refine Or.inl ((hF.pre (by omega) f8a f9a e1).res (fun σ' y => ?_))
        rw [hres, y, bnd_s, if_pos rfl]
      · obtain ⟨j2, cs2, Hx2, outx2, mn2, σ8b, σ9b, ⟨k1, k2⟩, ⟨k3, k4⟩, ⟨k5, k6, k7⟩, ⟨k8, k9⟩, ⟨k10, k11, k12⟩, k13⟩ := hK
        have k10' : ((out ++ cs) ++ cs2).length + (H.length + 1) ≤ j2 := k10
        obtain ⟨σ8c, g8c, c8c, f8c⟩ := addM8 k3 (by omega) (c := nI (sgn (tK b s j1))) rfl
        have hassoc : ((out ++ cs) ++ cs2) ++ [nI (sgn (tK b s j1))] = out ++ (cs ++ cs2 ++ [nI (sgn (tK b s j1))]) := by simp only [List.append_assoc]
        rw [hassoc] at c8c
        have hu2 : unw (lev w) Hx2 outx2 = unw (lev w) H (out ++ (cs ++ cs2 ++ [nI (sgn (tK b s j1))])) := by
          rw [unw_eq (lev_s w (by omega)).1 k8, unw_pop (by omega), hassoc]
        have hlen : (out ++ (cs ++ cs2 ++ [nI (sgn (tK b s j1))])).length = ((out ++ cs) ++ cs2).length + 1 := by
          rw [← hassoc, List.length_append]; rfl
        have hrest := ih j2 (i + 1) f (cs ++ cs2 ++ [nI (sgn (tK b s j1))]) Hx2 outx2 mn2 σ8c σ9b (by omega) (by omega) (by omega) c8c k6 hu2 (VD_bin hV k9 sg1 sg2 sg3) (by omega) k11 k12 k13
        have hres2 : loop (f + 1) (nI i) σ8 = loop f (nI (i + 1)) σ8c := by
          rw [hres, k2, bnd_s, if_neg (by decide), k3.2.2.1.1, if_pos (obT k3.2.2.1.2), g8c, bnd_s, nI_1]
        have e2 : ∀ f, S9_eRead_14 (f + (j2 - j1)) 0 mn1 σ9 = S9_eRead_14 f 0 mn2 σ9b := fun f => by
          rw [show f + (j2 - j1) = (f + (j2 - (j1 + 1))) + (j1 + 1 - j1) by omega, e1]
          exact k5 f
        rw [hres2]
        rcases hrest with hF | hK
        · exact Or.inl (hF.pre (by omega) ((f8a.tr k4).tr f8c) (f9a.tr k7) e2)
        · exact Or.inr (hK.pre (by omega) ((f8a.tr k4).tr f8c) (f9a.tr k7) e2)
    · exact Or.inr ⟨j1, cs, Hx, outx, mn1, σ8, σ9, ⟨Nat.le_refl _, LEf f i j1 σ8 h8.2.1 hop⟩, ⟨h8, Fr.rf⟩, ⟨fun f => by rw [Nat.sub_self]; rfl, h9, Fr.rf⟩, ⟨hu, hV⟩, ⟨l1, l2, l3⟩, nc_drop hw hn hop⟩
/-- a level of signs between two -/
theorem levelL (hs : s ≤ 160) (hb : ∀ k, k < s → b k ≤ 255) {d w a j : Nat} {H : List Nat} {out : List Int32} {mn : Int32} {σ8 σ9 : St} (hC : CLAIM b s t d) (hw : w = 0 ∨ w = 1 ∨ w = 3 ∨ w = 4) (ha : a ≤ 5) (haH : a = cnt3 H) (hd : (5 - a) * 6 + (6 - (w + 1)) ≤ d) (h8 : CM b s t out j σ8) (h9 : RM b s t H out j σ9) (htop : topR H (prL w)) (m1 : w ≤ 2 → mn = 1) (m2 : 3 ≤ w → tK b s j = 6 → mn = 0) (hl : out.length + H.length ≤ j) (hj : j ≤ s) (loop : Nat → Int32 → St → Option (Int32 × St))
    (LEt : ∀ (f i j : Nat) (σ : St), CL b s j σ → i < 160 → isop w (tK b s j) → loop (f + 1) (nI i) σ = bnd (S1_step σ) fun _ σ1 => bnd (SG d (w + 1) (nI a) σ1) fun r σ2 => if r = 0 then some (0, σ2) else if Ob 75 6 (gR σ2 26 6) then bnd (S6_add (gR σ2 26 6) (stp (nI (sgn (tK b s j)))) σ2) fun _ σ3 => loop f (nI i + 1) σ3 else none)
    (LEf : ∀ (f i j : Nat) (σ : St), CL b s j σ → ¬ isop w (tK b s j) → loop (f + 1) (nI i) σ = some (1, σ)) :
    GF b s t 1 mn j σ8 σ9 (bnd (SG d (w + 1) (nI a) σ8) fun r σ => if r = 0 then some (0, σ) else loop 4096 0 σ) ∨ GK b s t w 1 mn H out j σ8 σ9 (bnd (SG d (w + 1) (nI a) σ8) fun r σ => if r = 0 then some (0, σ) else loop 4096 0 σ) := by
  have htl : topR H (lev w) := by
    have : prL w = lev w := by rcases hw with rfl | rfl | rfl | rfl <;> decide
    rw [← this]; exact htop
  have hsub := hC (w + 1) a j H out mn σ8 σ9 (by omega) ha haH hd h8 h9 (topR_mono htop (lev_s w (by omega)).2) (fun y => m1 (by omega)) (fun y z => m2 (by omega) z) hl hj
  rcases hsub with hF | hK
  · exact Or.inl (hF.res (fun σ' y => by rw [y, bnd_s, if_pos rfl]))
  · obtain ⟨j2, cs2, Hx2, outx2, mn2, σ8b, σ9b, ⟨k1, k2⟩, ⟨k3, k4⟩, ⟨k5, k6, k7⟩, ⟨k8, k9⟩, ⟨k10, k11, k12⟩, k13⟩ := hK
    have hrest := binL hs hb hC hw ha haH hd htl loop LEt LEf 160 j2 0 4096 cs2 Hx2 outx2 mn2 σ8b σ9b (by omega) (by omega) (by omega) k3 k6 (unw_eq (lev_s w (by omega)).1 k8) k9 k10 k11 k12 k13
    have hres : (bnd (SG d (w + 1) (nI a) σ8) fun r σ => if r = 0 then some (0, σ) else loop 4096 0 σ) = loop 4096 (nI 0) σ8b := by
      rw [k2, bnd_s, if_neg (by decide)]; rfl
    rw [hres]
    rcases hrest with hF | hK
    · exact Or.inl (hF.pre k1 k4 k7 k5)
    · exact Or.inr (hK.pre k1 k4 k7 k5)
end CLM
