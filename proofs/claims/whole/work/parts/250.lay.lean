/-! Parting: the model and the numbers are laid out -/
def rampc : Nat → Int := fun t => (t : Int)
def stepc (s : Nat) : Nat → Int := fun t => if s ≤ t then 1 else 0
def feastc (e : Nat → Bool) : Nat → Int := fun t => if (decide (t < 40) && e t) = true then 1 else 0
def stl (A : AR) (n : Nat) : List Nat := (List.range n).filter (aS A)
def rmp (A : AR) : List (Nat → Int) := if aL A = true then [rampc] else []
def fsl (A : AR) (n : Nat) : List (Nat → Int) := (List.range n).map (fun f => feastc (aE A f))
/-- the columns of the unknowns: slope, steps, feasts -/
def uc (A : AR) : List (Nat → Int) := rmp A ++ (stl A 40).map stepc ++ fsl A (aC A)
def plc (A : AR) : Nat := if aP A = 0 then 1 else aP A
def nU (A : AR) : Nat := (uc A).length
def lc (L : List (Nat → Int)) (i t : Nat) : Int := (L.getD i (fun _ => 0)) t
/-- the first columns hold the list L -/
def ColV (ad : Nat → Nat) (D : Dat) (L : List (Nat → Int)) : Prop := D.1 (ad 2) 11 = nI L.length ∧ L.length ≤ 6 ∧ ∀ i, i < L.length → ∀ t, t < 80 → (D.2 (ad (20 + i)) t).toInt = lc L i t
theorem lc_app {L : List (Nat → Int)} {f : Nat → Int} {i t : Nat} (h : i < L.length) : lc (L ++ [f]) i t = lc L i t := by
  unfold lc
  rw [List.getD_eq_getElem?_getD, List.getD_eq_getElem?_getD, List.getElem?_append_left h]
theorem lc_last {L : List (Nat → Int)} {f : Nat → Int} {t : Nat} : lc (L ++ [f]) L.length t = f t := by
  unfold lc
  rw [List.getD_eq_getElem?_getD, List.getElem?_append_right (Nat.le_refl _), Nat.sub_self]
  rfl
/-- the roles that laying out writes: the parting's own fields and its columns -/
def pC (q : Nat) : Prop := q = 2 ∨ (20 ≤ q ∧ q < 27)
theorem nI_nlt6 {n : Nat} (h : n < 6) : nI n < 6 := by rw [show (6 : Int32) = nI 6 by decide]; exact nI_lt h (by omega)
section LY
variable {G : Shp} {ad ro : Nat → Nat} {D : Dat}
/-- a column more: what the three loops share -/
theorem col_more (H : CS G ad ro) {L : List (Nat → Int)} {f : Nat → Int} {D E : Dat} (hL : ColV ad D L) (h6 : L.length < 6) (h1 : E.1 = D.1) (h2 : ∀ x, x ≠ ad (20 + L.length) → E.2 x = D.2 x) (h3 : ∀ t, t < 80 → (E.2 (ad (20 + L.length)) t).toInt = f t) : ColV ad (dI E (ad 2) 11 (nI (L.length + 1))) (L ++ [f]) ∧ FrP ro D (dI E (ad 2) 11 (nI (L.length + 1))) pC ∧ ∀ j, j ≠ 11 → (dI E (ad 2) 11 (nI (L.length + 1))).1 (ad 2) j = D.1 (ad 2) j := by
  refine ⟨⟨?_, by simp; omega, fun i hi t ht => ?_⟩, ?_, fun j hj => by rw [dI_o _ _ _ hj, h1]⟩
  · rw [dI_s]; simp
  · rw [dI_2]
    simp at hi
    by_cases q : i = L.length
    · subst q
      rw [lc_last]; exact h3 t ht
    · rw [h2 _ (H.ne (by omega) (by omega) (by omega)), lc_app (by omega)]
      exact hL.2.2 i (by omega) t ht
  · refine FrP.tr (D1 := E) (fun a ha => ⟨by rw [h1], h2 a (fun q => ha (by rw [q, H.inj_ _ (by omega)]; right; omega))⟩) (FrP.dI (by rw [H.inj_ _ (by omega)]; left; rfl))
theorem layRamp_sp (H : CS G ad ro) {L : List (Nat → Int)} (hL : ColV ad D L) (h6 : L.length < 6) {post : Dat → Prop} (k : ∀ D', ColV ad D' (L ++ [rampc]) → FrP ro D D' pC → (∀ j, j ≠ 11 → D'.1 (ad 2) j = D.1 (ad 2) j) → post D') : X2_layRamp_wp G D (ad 2) post := by
  refine ⟨H.p_, _, H.p1_, H.co_, ?_⟩
  have key := up_loop (L := fun m i (E : Dat) => X2_layRamp_l2 G post (ad 2) (ad 9) m (nI i) E) 80 (fun i E => E.1 = D.1 ∧ (∀ x, x ≠ ad (20 + L.length) → E.2 x = D.2 x) ∧ ∀ t, t < i → (E.2 (ad (20 + L.length)) t).toInt = rampc t) ?_ ?_ 0 D (by omega) ⟨rfl, fun _ _ => rfl, fun t ht => by omega⟩
  · exact ⟨_, key⟩
  · intro m E hE
    show X2_layRamp_l2_b G post (ad 2) (ad 9) _ _ _
    refine ⟨fun _ => ?_, fun q => absurd (by decide) q⟩
    rw [hE.1, hL.1, nI_1]
    obtain ⟨a1, a2, a3⟩ := col_more H (f := rampc) hL h6 hE.1 hE.2.1 hE.2.2
    exact k _ a1 a2 a3
  · intro m i E hi hE hk
    show X2_layRamp_l2_b G post (ad 2) (ad 9) _ _ _
    refine ⟨fun q => absurd q (by rw [show (80 : Int32) = nI 80 by decide]; exact nI_ge hi (by omega)), fun _ => ?_⟩
    rw [hE.1, hL.1]
    refine ⟨by rw [H.col_]; exact vp_in_nI (by omega) (by omega), ad (20 + L.length), by rw [nI_clamp (by omega)]; exact H.cor_ _ (by omega), H.ci_ _ (by omega), by rw [H.cil_ _ (by omega)]; exact vp_in_nI hi (by omega), ?_⟩
    rw [nI_1, nI_clamp (by omega)]
    refine hk _ ⟨hE.1, fun x hx => by rw [dJ_n _ _ _ hx]; exact hE.2.1 x hx, fun t ht => ?_⟩
    by_cases q : t = i
    · rw [q, dJ_s, L_i2l, nI_toInt (by omega)]; rfl
    · rw [dJ_o _ _ _ q]; exact hE.2.2 t (by omega)
theorem layStep_sp (H : CS G ad ro) {L : List (Nat → Int)} (hL : ColV ad D L) (h6 : L.length < 6) {s : Nat} (hs : s < 40) {post : Dat → Prop} (k : ∀ D', ColV ad D' (L ++ [stepc s]) → FrP ro D D' pC → (∀ j, j ≠ 11 → D'.1 (ad 2) j = D.1 (ad 2) j) → post D') : X2_layStep_wp G D (ad 2) (nI s) post := by
  refine ⟨H.p_, _, H.p1_, H.co_, ?_⟩
  rw [hL.1]
  refine ⟨fun _ => ?_, fun q => absurd (nI_nlt6 h6) q⟩
  have key := up_loop (L := fun m i (E : Dat) => X2_layStep_l12 G post (ad 2) (nI s) (ad 9) m (nI i) E) 80 (fun i E => E.1 = D.1 ∧ (∀ x, x ≠ ad (20 + L.length) → E.2 x = D.2 x) ∧ ∀ t, t < i → (E.2 (ad (20 + L.length)) t).toInt = stepc s t) ?_ ?_ 0 D (by omega) ⟨rfl, fun _ _ => rfl, fun t ht => by omega⟩
  · exact ⟨_, key⟩
  · intro m E hE
    show X2_layStep_l12_b G post (ad 2) (nI s) (ad 9) _ _ _
    refine ⟨fun _ => ?_, fun q => absurd (by decide) q⟩
    rw [hE.1, hL.1, nI_1]
    obtain ⟨a1, a2, a3⟩ := col_more H (f := stepc s) hL h6 hE.1 hE.2.1 hE.2.2
    exact k _ a1 a2 a3
  · intro m i E hi hE hk
    show X2_layStep_l12_b G post (ad 2) (nI s) (ad 9) _ _ _
    refine ⟨fun q => absurd q (by rw [show (80 : Int32) = nI 80 by decide]; exact nI_ge hi (by omega)), fun _ => ?_⟩
    rw [hE.1, hL.1]
    refine ⟨by rw [H.col_]; exact vp_in_nI (by omega) (by omega), ad (20 + L.length), by rw [nI_clamp (by omega)]; exact H.cor_ _ (by omega), H.ci_ _ (by omega), ?_⟩
    unfold X2_layStep_j38
    rw [nI_1, nI_clamp (show i < 2 ^ 31 by omega)]
    have main : ∀ v : Int64, v.toInt = stepc s i → isO G (ad (20 + L.length)) 12 ∧ vp_in (nI i) (G.2.2.1 (ad (20 + L.length))) ∧ X2_layStep_l12 G post (ad 2) (nI s) (ad 9) m (nI (i + 1)) (dJ E (ad (20 + L.length)) i v) := fun v hv => by
      refine ⟨H.ci_ _ (by omega), by rw [H.cil_ _ (by omega)]; exact vp_in_nI hi (by omega), hk _ ⟨hE.1, fun x hx => by rw [dJ_n _ _ _ hx]; exact hE.2.1 x hx, fun t ht => ?_⟩⟩
      by_cases q : t = i
      · rw [q, dJ_s]; exact hv
      · rw [dJ_o _ _ _ q]; exact hE.2.2 t (by omega)
    refine ⟨fun q => main 0 ?_, fun q => main 1 ?_⟩
    · have : i < s := (nI_ltI (by omega) (by omega)).mp q
      unfold stepc; rw [if_neg (by omega)]; rfl
    · have : ¬ i < s := fun e => q ((nI_ltI (by omega) (by omega)).mpr e)
      unfold stepc; rw [if_pos (by omega)]; rfl
theorem layFeast_sp (H : CS G ad ro) {L : List (Nat → Int)} (hL : ColV ad D L) (h6 : L.length < 6) {a : Nat} (ha : a + 1 < 440) (ha2 : 50 ≤ a) {e : Nat → Bool} (hG : SG G (ad a) (ad (a + 1))) (hs : SetV D (ad a) (ad (a + 1)) e) {post : Dat → Prop} (k : ∀ D', ColV ad D' (L ++ [feastc e]) → FrP ro D D' pC → (∀ j, j ≠ 11 → D'.1 (ad 2) j = D.1 (ad 2) j) → post D') : X2_layFeast_wp G D (ad 2) (ad a) post := by
  refine ⟨H.p_, hG.1, _, H.p1_, H.co_, ?_⟩
  rw [hL.1]
  refine ⟨fun _ => ?_, fun q => absurd (nI_nlt6 h6) q⟩
  have key := up_loop (L := fun m i (E : Dat) => X2_layFeast_l12 G post (ad 2) (ad a) (ad 9) m (nI i) E) 80 (fun i E => E.1 = D.1 ∧ (∀ x, x ≠ ad (20 + L.length) → E.2 x = D.2 x) ∧ ∀ t, t < i → (E.2 (ad (20 + L.length)) t).toInt = feastc e t) ?_ ?_ 0 D (by omega) ⟨rfl, fun _ _ => rfl, fun t ht => by omega⟩
  · exact ⟨_, key⟩
  · intro m E hE
    show X2_layFeast_l12_b G post (ad 2) (ad a) (ad 9) _ _ _
    refine ⟨fun _ => ?_, fun q => absurd (by decide) q⟩
    rw [hE.1, hL.1, nI_1]
    obtain ⟨a1, a2, a3⟩ := col_more H (f := feastc e) hL h6 hE.1 hE.2.1 hE.2.2
    exact k _ a1 a2 a3
  · intro m i E hi hE hk
    show X2_layFeast_l12_b G post (ad 2) (ad a) (ad 9) _ _ _
    refine ⟨fun q => absurd q (by rw [show (80 : Int32) = nI 80 by decide]; exact nI_ge hi (by omega)), fun _ => ?_⟩
    rw [hE.1, hL.1]
    refine ⟨by rw [H.col_]; exact vp_in_nI (by omega) (by omega), ad (20 + L.length), by rw [nI_clamp (by omega)]; exact H.cor_ _ (by omega), H.ci_ _ (by omega), ?_⟩
    refine has_sp hG (hs.kept (by rw [hE.1]) (by rw [hE.1])) (by omega) ?_
    unfold X2_layFeast_j41
    rw [nI_1, nI_clamp (show i < 2 ^ 31 by omega)]
    have main : ∀ v : Int64, v.toInt = feastc e i → isO G (ad (20 + L.length)) 12 ∧ vp_in (nI i) (G.2.2.1 (ad (20 + L.length))) ∧ X2_layFeast_l12 G post (ad 2) (ad a) (ad 9) m (nI (i + 1)) (dJ E (ad (20 + L.length)) i v) := fun v hv => by
      refine ⟨H.ci_ _ (by omega), by rw [H.cil_ _ (by omega)]; exact vp_in_nI hi (by omega), hk _ ⟨hE.1, fun x hx => by rw [dJ_n _ _ _ hx]; exact hE.2.1 x hx, fun t ht => ?_⟩⟩
      by_cases q : t = i
      · rw [q, dJ_s]; exact hv
      · rw [dJ_o _ _ _ q]; exact hE.2.2 t (by omega)
    refine ⟨fun q => main 0 ?_, fun q => main 1 ?_⟩
    · rw [bI_0] at q
      unfold feastc; rw [q]; rfl
    · rw [bI_n0] at q
      unfold feastc; rw [q]; rfl
theorem stl_succ (A : AR) (n : Nat) : stl A (n + 1) = stl A n ++ (if aS A n = true then [n] else []) := by
  unfold stl
  rw [List.range_succ, List.filter_append]
  congr 1
  cases h : aS A n <;> simp [h]
theorem stl_len (A : AR) : ∀ n, (stl A n).length = ct (aS A) n
  | 0 => rfl
  | n + 1 => by
    rw [stl_succ, List.length_append, stl_len A n]
    show _ = ct (aS A) n + _
    by_cases h : aS A n = true <;> simp [h]
theorem ct_mono (s : Nat → Bool) {m n : Nat} (h : m ≤ n) : ct s m ≤ ct s n := by
  induction n with
  | zero => have : m = 0 := by omega
            subst this; exact Nat.le_refl _
  | succ n ih =>
    by_cases q : m = n + 1
    · subst q; exact Nat.le_refl _
    · have := ih (by omega)
      show ct s m ≤ ct s n + _
      omega
theorem rmp_len (A : AR) : (rmp A).length = if aL A = true then 1 else 0 := by unfold rmp; split <;> rfl
theorem fsl_succ (A : AR) (n : Nat) : fsl A (n + 1) = fsl A n ++ [feastc (aE A n)] := by
  unfold fsl
  rw [List.range_succ, List.map_append]
  rfl
theorem fsl_len (A : AR) (n : Nat) : (fsl A n).length = n := by unfold fsl; simp
theorem nU_le {A : AR} (h : RowOK A) : nU A ≤ 6 := by
  unfold nU uc
  rw [List.length_append, List.length_append, rmp_len, List.length_map, stl_len, fsl_len]
  have := h.2.2.1
  have := h.2.2.2.2.2.1
  split <;> omega
/-- where the feasts' columns begin -/
def fFr (A : AR) : Nat := (rmp A ++ (stl A 40).map stepc).length
/-- the parting has the model of a row -/
def PmV (ad : Nat → Nat) (D : Dat) (A : AR) : Prop := ColV ad D (uc A) ∧ D.1 (ad 2) 10 = nI (plc A) ∧ D.1 (ad 2) 12 = nI (rmp A).length ∧ D.1 (ad 2) 13 = nI (fFr A)
theorem mx1 {p : Nat} (hp : p < 2 ^ 31) : mxI 1 (nI p) = nI (if p = 0 then 1 else p) := by
  rw [show (1 : Int32) = nI 1 by decide, mxI_nI (by omega) hp]
  congr 1
  by_cases h : p = 0
  · subst h; rfl
  · rw [if_neg h]; split <;> omega
theorem layModel_sp (H : CS G ad ro) {r : Nat} (hr : r < 4) {A : AR} (h : RowV ad D r A) (hA : RowOK A) {post : Dat → Prop} (k : ∀ D', PmV ad D' A → FrP ro D D' pC → post D') : X2_layModel_wp G D (ad 2) (ad (rb r)) post := by
  have s2 := H.set_ r hr 2 (by omega)
  have hP7 : aP A ≤ 7 := by rcases hA.2.2.2.2.2.2 with w | w <;> omega
  have hC2 := hA.2.2.2.2.2.1
  have hS3 := hA.2.2.1
  have hrow : ad (rb r) ≠ ad 2 := H.ne (by (try simp only [rS, rb, bg, pR, pB, pT, okb] at *) <;> omega) (by omega) (by (try simp only [rS, rb, bg, pR, pB, pT, okb] at *) <;> omega)
  have hpp : ∀ q, pR r q → ¬ pC q := fun q hq w => by unfold pC at w; simp only [pR, rb] at hq; omega
  refine ⟨H.p_, H.row_ r hr, _, H.row3_ r hr, s2.1, _, H.row4_ r hr, H.fa_ r hr, ?_⟩
  rw [h.2.2.2.2.2.2.2, mx1 (by omega), dI_n _ _ _ hrow, h.2.2.2.2.2.2.1]
  generalize hD1 : dI D (ad 2) 10 (nI (if aP A = 0 then 1 else aP A)) = D1
  have f1 : FrP ro D D1 pC := by rw [← hD1]; exact FrP.dI (by rw [H.inj_ _ (by omega)]; left; rfl)
  -- the two roads to the steps
  have main : ∀ s0 : Int32, s0 = nI (rmp A).length → X2_layModel_j25 G post (ad 2) (ad (rb r)) (ad (rS r 2)) (ad (rb r + 2)) s0 (ad 2) D1 := by
    intro s0 hs0
    refine ⟨H.p_, ?_⟩
    generalize hD2 : dI (dI D1 (ad 2) 12 s0) (ad 2) 11 0 = D2
    have f2 : FrP ro D D2 pC := by
      rw [← hD2]
      exact f1.tr ((FrP.dI (by rw [H.inj_ _ (by omega)]; left; rfl)).tr (FrP.dI (by rw [H.inj_ _ (by omega)]; left; rfl)))
    have e10 : D2.1 (ad 2) 10 = nI (plc A) := by rw [← hD2, dI_o _ _ _ (by decide), dI_o _ _ _ (by decide), ← hD1, dI_s]; rfl
    have e12 : D2.1 (ad 2) 12 = nI (rmp A).length := by rw [← hD2, dI_o _ _ _ (by decide), dI_s, hs0]
    have c0 : ColV ad D2 [] := ⟨by rw [← hD2, dI_s]; rfl, by decide, fun i hi => by cases hi⟩
    have r2 := h.fr H hr f2 hpp
    rw [r2.2.2.2.2.2.2.1]
    -- from the steps on
    have steps : ∀ E, ColV ad E (rmp A) → FrP ro D E pC → E.1 (ad 2) 10 = nI (plc A) → E.1 (ad 2) 12 = nI (rmp A).length → X2_layModel_j44 G post (ad 2) (ad (rb r)) (ad (rS r 2)) (ad (rb r + 2)) E := by
      intro E cE fE g10 g12
      have key := up_loop (L := fun m i (E : Dat) => X2_layModel_l46 G post (ad 2) (ad (rb r)) (ad (rS r 2)) (ad (rb r + 2)) m (nI i) E) 40 (fun i E => ColV ad E (rmp A ++ (stl A i).map stepc) ∧ FrP ro D E pC ∧ E.1 (ad 2) 10 = nI (plc A) ∧ E.1 (ad 2) 12 = nI (rmp A).length) ?_ ?_ 1 E (by omega) ⟨?_, fE, g10, g12⟩
      · exact ⟨_, key⟩
      · intro m E hE
        obtain ⟨cE, fE, g10, g12⟩ := hE
        show X2_layModel_l46_b G post (ad 2) (ad (rb r)) (ad (rS r 2)) (ad (rb r + 2)) _ _ _
        refine ⟨fun _ => ?_, fun q => absurd (by decide) q⟩
        rw [cE.1]
        generalize hE1 : dI E (ad 2) 13 (nI (rmp A ++ (stl A 40).map stepc).length) = E1
        have fE1 : FrP ro D E1 pC := by rw [← hE1]; exact fE.tr (FrP.dI (by rw [H.inj_ _ (by omega)]; left; rfl))
        have cE1 : ColV ad E1 (rmp A ++ (stl A 40).map stepc) := ⟨by rw [← hE1, dI_o _ _ _ (by decide)]; exact cE.1, cE.2.1, fun i hi t ht => by rw [← hE1, dI_2]; exact cE.2.2 i hi t ht⟩
        have key := up_loop (L := fun m i (E : Dat) => X2_layModel_l84 G post (ad 2) (ad (rb r)) (ad (rS r 2)) (ad (rb r + 2)) m (nI i) E) 2 (fun i E => ColV ad E (rmp A ++ (stl A 40).map stepc ++ fsl A (if i ≤ aC A then i else aC A)) ∧ FrP ro D E pC ∧ E.1 (ad 2) 10 = nI (plc A) ∧ E.1 (ad 2) 12 = nI (rmp A).length ∧ E.1 (ad 2) 13 = nI (fFr A)) ?_ ?_ 0 E1 (by omega) ⟨?_, fE1, ?_, ?_, ?_⟩
        · exact ⟨_, key⟩
        · intro m E hE
          show X2_layModel_l84_b G post (ad 2) (ad (rb r)) (ad (rS r 2)) (ad (rb r + 2)) _ _ _
          refine ⟨fun _ => k E ⟨?_, hE.2.2.1, hE.2.2.2.1, hE.2.2.2.2⟩ hE.2.1, fun q => absurd (by decide) q⟩
          have e : (if 2 ≤ aC A then 2 else aC A) = aC A := by split <;> omega
          have := hE.1
          rw [e] at this
          exact this
        · intro m i E hi hE hk
          obtain ⟨cE, fE, g10, g12, g13⟩ := hE
          have rE := h.fr H hr fE hpp
          show X2_layModel_l84_b G post (ad 2) (ad (rb r)) (ad (rS r 2)) (ad (rb r + 2)) _ _ _
          refine ⟨fun q => absurd q (by rw [show (2 : Int32) = nI 2 by decide]; exact nI_ge hi (by omega)), fun _ => hasFeast_sp H hr rE hC2 ?_⟩
          unfold X2_layModel_j107
          rw [nI_toInt (by omega), nI_1]
          by_cases q : i < aC A
          · rw [decide_eq_true (by omega)]
            refine ⟨fun w => absurd w (by decide), fun _ => ⟨by rw [H.fal_ r hr]; exact vp_in_nI hi (by omega), ad (rS r (3 + i)), by rw [nI_clamp (by omega)]; exact H.far_ r hr i hi, (H.set_ r hr (3 + i) (by omega)).1, ?_⟩⟩
            rw [if_pos (by omega)] at cE
            refine layFeast_sp H cE ?_ (by (try simp only [rS, rb, bg, pR, pB, pT, okb] at *) <;> omega) (by (try simp only [rS, rb, bg, pR, pB, pT, okb] at *) <;> omega) (H.set_ r hr (3 + i) (by omega)) (rE.2.2.2.2.1 i hi) (fun D' c' f' g' => hk D' ⟨?_, fE.tr f', by rw [g' _ (by decide)]; exact g10, by rw [g' _ (by decide)]; exact g12, by rw [g' _ (by decide)]; exact g13⟩)
            · rw [List.length_append, List.length_append, rmp_len, List.length_map, stl_len, fsl_len]
              split <;> omega
            · rw [if_pos (by omega), fsl_succ, ← List.append_assoc]
              exact c'
          · rw [decide_eq_false (by omega)]
            refine ⟨fun _ => hk E ⟨?_, fE, g10, g12, g13⟩, fun w => absurd rfl w⟩
            have e : (if i + 1 ≤ aC A then i + 1 else aC A) = if i ≤ aC A then i else aC A := by split <;> split <;> omega
            rw [e]; exact cE
        · show ColV ad E1 (rmp A ++ (stl A 40).map stepc ++ fsl A (if 0 ≤ aC A then 0 else aC A))
          rw [if_pos (by omega)]
          show ColV ad E1 (_ ++ [])
          rw [List.append_nil]; exact cE1
        · rw [← hE1, dI_o _ _ _ (by decide)]; exact g10
        · rw [← hE1, dI_o _ _ _ (by decide)]; exact g12
        · rw [← hE1, dI_s]; rfl
      · intro m i E hi hE hk
        obtain ⟨cE, fE, g10, g12⟩ := hE
        have rE := h.fr H hr fE hpp
        show X2_layModel_l46_b G post (ad 2) (ad (rb r)) (ad (rS r 2)) (ad (rb r + 2)) _ _ _
        refine ⟨fun q => absurd q (by rw [show (40 : Int32) = nI 40 by decide]; exact nI_ge hi (by omega)), fun _ => has_sp s2 rE.2.2.2.1 (by omega) ?_⟩
        unfold X2_layModel_j68
        rw [decide_eq_true hi, Bool.true_and, nI_1]
        cases hs : aS A i
        · refine ⟨fun _ => hk E ⟨?_, fE, g10, g12⟩, fun w => absurd rfl w⟩
          rw [stl_succ, hs]
          simpa using cE
        · refine ⟨fun w => absurd w (by decide), fun _ => layStep_sp H cE ?_ hi (fun D' c' f' g' => hk D' ⟨?_, fE.tr f', by rw [g' _ (by decide)]; exact g10, by rw [g' _ (by decide)]; exact g12⟩)⟩
          · rw [List.length_append, rmp_len, List.length_map, stl_len]
            have := ct_mono (aS A) (show i ≤ 40 by omega)
            split <;> omega
          · rw [stl_succ, hs, if_pos rfl, List.map_append, ← List.append_assoc]
            exact c'
      · have e : stl A 1 = [] := by
          unfold stl
          have : aS A 0 = false := hA.2.1
          simp [List.range_succ, this]
        rw [e]
        simpa using cE
    cases hl : aL A
    · refine ⟨fun _ => steps D2 ?_ f2 e10 e12, fun w => absurd rfl w⟩
      unfold rmp; rw [hl]; exact c0
    · refine ⟨fun w => absurd w (by decide), fun _ => layRamp_sp H c0 (by decide) (fun D' c' f' g' => steps D' ?_ (f2.tr f') (by rw [g' _ (by decide)]; exact e10) (by rw [g' _ (by decide)]; exact e12))⟩
      unfold rmp; rw [hl]; exact c'
  cases hl : aL A
  · refine ⟨fun _ => main 0 ?_, fun w => absurd rfl w⟩
    rw [rmp_len, hl]; rfl
  · refine ⟨fun w => absurd w (by decide), fun _ => main 1 ?_⟩
    rw [rmp_len, hl]; rfl
end LY
