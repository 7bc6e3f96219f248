/-! where -/
def whL (o : Option (Nat × Rat)) (q : Rat) : Bool := match o with
  | none => true
  | some p => decide (q < p.2)
def whB (A : AR) : Nat → Option (Nat × Rat)
  | 0 => none
  | n + 1 => if (1 ≤ n ∧ aS A n = false ∧ clB (stA A n) none = true) ∧ whL (whB A n) (cstR (stA A n) none) = true then some (n, cstR (stA A n) none) else whB A n
def sWhere (S : AS) (a : Int32) : Int32 × AS := if okR a then (if ct (aS (S.1 (tn a))) 40 < 3 then (match whB (S.1 (tn a)) 40 with
  | none => (-1, stS S 8)
  | some p => (nI p.1, stS S 0)) else (-1, stS S 8)) else (-1, stS S 1)
theorem whB_none {A : AR} {n : Nat} (h : ¬ (1 ≤ n ∧ aS A n = false ∧ clB (stA A n) none = true)) : whB A (n + 1) = whB A n := if_neg (fun w => h w.1)
theorem stA_ok {A : AR} (hA : RowOK A) (h3 : ct (aS A) 40 < 3) {n : Nat} (h1 : 1 ≤ n) (hn : n < 40) : RowOK (stA A n) := by
  refine hA.wS ?_ ?_
  · rw [ups_n (by omega)]; exact hA.2.1
  · have := ct_ups (s := aS A) (b := true) hn
    rw [if_pos rfl] at this
    split at this <;> omega
/-- a tick behind one that isn't counted changes nothing -/
theorem wh_skip {A : AR} (hA : RowOK A) (h3 : ct (aS A) 40 < 3) {n : Nat} (hn : n + 1 < 40) (h0 : aK A n = false) : whB A (n + 1 + 1) = whB A (n + 1) := by
  by_cases c : aS A (n + 1) = false ∧ clB (stA A (n + 1)) none = true
  rotate_left
  · exact whB_none (fun w => c w.2)
  obtain ⟨c1, c2⟩ := c
  have hok := stA_ok hA h3 (n := n + 1) (by omega) hn
  by_cases q0 : n = 0
  · subst q0
    rw [skip0 hok h0] at c2
    exact absurd c2 (by decide)
  by_cases q1 : aS A n = true
  · rw [skip1 hok hn h0 q1] at c2
    exact absurd c2 (by decide)
  have hs : aS A n = false := by cases h : aS A n; rfl; exact absurd h q1
  obtain ⟨e1, e2⟩ := skip2 hn h0 hs c1
  rw [e1] at c2
  have hL : whL (whB A (n + 1)) (cstR (stA A (n + 1)) none) = false := by
    rw [e2]
    have eB : whB A (n + 1) = if (1 ≤ n ∧ aS A n = false ∧ clB (stA A n) none = true) ∧ whL (whB A n) (cstR (stA A n) none) = true then some (n, cstR (stA A n) none) else whB A n := rfl
    by_cases q : whL (whB A n) (cstR (stA A n) none) = true
    · rw [eB, if_pos ⟨⟨by omega, hs, c2⟩, q⟩]
      show decide (_ < _) = false
      exact decide_eq_false (by grind)
    · rw [eB, if_neg (fun w => q w.2)]
      cases h : whL (whB A n) (cstR (stA A n) none)
      · rfl
      · exact absurd h q
  have eB : whB A (n + 1 + 1) = if (1 ≤ n + 1 ∧ aS A (n + 1) = false ∧ clB (stA A (n + 1)) none = true) ∧ whL (whB A (n + 1)) (cstR (stA A (n + 1)) none) = true then some (n + 1, cstR (stA A (n + 1)) none) else whB A (n + 1) := rfl
  rw [eB, if_neg (fun w => by rw [hL] at w; exact absurd w.2 (by decide))]
section WH
variable {G : Shp} {ad ro : Nat → Nat} {D : Dat} {S : AS} {Z : Dat} {r : Nat}
/-- the best so far, as the class holds it -/
def BstV (ad : Nat → Nat) (D : Dat) (o : Option (Nat × Rat)) (v : Int32) : Prop := match o with
  | none => v = -1
  | some p => v = nI p.1 ∧ p.1 < 40 ∧ ∃ x y : Int, BigR ad D 1 x ∧ BigR ad D 2 y ∧ (-72057594037927936000000000 ≤ x ∧ x ≤ 72057594037927936000000000) ∧ 1 ≤ y ∧ y < 18014398509481984 ∧ ((x : Int) : Rat) = (y : Int) * p.2
theorem ok1 : okb 1 := by unfold okb; omega
theorem ok2 : okb 2 := by unfold okb; omega
theorem BstV.fr (H : CS G ad ro) {D' : Dat} {P : Nat → Prop} {o : Option (Nat × Rat)} {v : Int32} (h : BstV ad D o v) (f : FrP ro D D' P) (hP : ∀ q, (pB 1 q ∨ pB 2 q) → ¬ P q) : BstV ad D' o v := by
  cases o with
  | none => exact h
  | some p =>
    obtain ⟨h1, h2, x, y, hx, hy, hr⟩ := h
    exact ⟨h1, h2, x, y, hx.fr H ok1 f (hP _ (by unfold pB; omega)) (hP _ (by unfold pB; omega)), hy.fr H ok2 f (hP _ (by unfold pB; omega)) (hP _ (by unfold pB; omega)), hr⟩
theorem ups_back {s : Nat → Bool} {n : Nat} (h : s n = false) : ups (ups s n true) n false = s := by
  funext i
  unfold ups
  by_cases q : i = n
  · rw [if_pos q, q, h]
  · rw [if_neg q, if_neg q]
theorem stR_2 (S : AS) (r : Nat) (A B : AR) : stR (stR S r A) r B = stR S r B := by
  refine Prod.ext ?_ rfl
  funext j
  show (if j = r then B else (if j = r then A else S.1 j)) = (if j = r then B else S.1 j)
  by_cases q : j = r
  · rw [if_pos q, if_pos q]
  · rw [if_neg q, if_neg q, if_neg q]
theorem wS_2 (A : AR) (x y : Nat → Bool) : wS (wS A x) y = wS A y := rfl
theorem wS_id {A : AR} : wS A (aS A) = A := rfl
theorem cheapest_sp (H : CS G ad ro) (hr : r < 4) (h : ClV ad ro Z D S) (h3 : ct (aS (S.1 r)) 40 < 3) {post : Int32 → Dat → Prop} (k : ∀ D' v, ClV ad ro Z D' S → BstV ad D' (whB (S.1 r) 40) v → post v D') : X8_cheapestStep_wp G D (ad 0) (ad (rb r)) post := by
  have s2 := H.set_ r hr 2 (by omega)
  refine ⟨H.x_, H.row_ r hr, _, H.row3_ r hr, s2.1, _, H.x1_, H.p_, _, H.x6_, (H.big_ 1 ok1).1, _, H.x7_, (H.big_ 2 ok2).1, _, H.p8_, (H.big_ 3 ok3).1, ?_⟩
  have hA := (h.1 r hr).2
  generalize hAA : S.1 r = A at *
  have key := up_loop (L := fun m n (x : Int32 × Dat) => X8_cheapestStep_l4 G post (ad 0) (ad (rb r)) (ad (rS r 2)) (ad 2) (ad (bg 1)) (ad (bg 2)) (ad (bg 3)) m x.1 (nI n) x.2) 40 (fun n x => 1 ≤ n ∧ ClV ad ro Z x.2 S ∧ BstV ad x.2 (whB A n) x.1) ?_ ?_ 1 (-1, D) (by omega) ⟨by omega, h, by rw [whB_none (by omega)]; rfl⟩
  · exact ⟨_, key⟩
  · intro m x hx
    show X8_cheapestStep_l4_b G post (ad 0) (ad (rb r)) (ad (rS r 2)) (ad 2) (ad (bg 1)) (ad (bg 2)) (ad (bg 3)) _ _ _ _
    exact ⟨fun _ => k x.2 x.1 hx.2.1 hx.2.2, fun q => absurd (by decide) q⟩
  · intro m n x hn hx hk
    obtain ⟨h1, cx, bx⟩ := hx
    obtain ⟨v, E⟩ := x
    dsimp only at cx bx
    obtain ⟨n', rfl⟩ := Nat.exists_eq_add_of_le' h1
    have rE := cx.1 r hr
    rw [hAA] at rE
    show X8_cheapestStep_l4_b G post (ad 0) (ad (rb r)) (ad (rS r 2)) (ad 2) (ad (bg 1)) (ad (bg 2)) (ad (bg 3)) _ v (nI (n' + 1)) E
    unfold X8_cheapestStep_l4_b X8_cheapestStep_j109
    refine ⟨fun q => absurd q (by rw [show (40 : Int32) = nI 40 by decide]; exact nI_ge hn (by omega)), fun _ => ?_⟩
    rw [nI_sub1 (by omega), Nat.add_sub_cancel, nI_1]
    refine counts_t H hr rE.1 (by omega) ?_
    cases hc : aK A n'
    · refine ⟨fun _ => hk (v, E) ⟨by omega, cx, ?_⟩, fun q => absurd rfl q⟩
      rw [wh_skip hA h3 hn hc]
      exact bx
    refine ⟨fun q => absurd q (by decide), fun _ => ?_⟩
    refine add_sp s2 rE.1.2.2.2.1 hn (fun D1 f1 a1 => ?_)
    have hrr : rS r 2 + 1 < 440 := rS_lt hr (by omega)
    have f1' := fr_S H hrr f1
    have r1 := rE.1.kS H hr f1' a1
    have nS : ∀ q, (pB 1 q ∨ pB 2 q) → ¬ (q = rS r 2 ∨ q = rS r 2 + 1) := fun q a b => by unfold pB bg at a; unfold rS at b; omega
    cases hs : aS A (n' + 1)
    rotate_left
    · refine ⟨fun q => absurd rfl q, fun _ => hk (v, D1) ⟨by omega, ?_, ?_⟩⟩
      · have c1 := cx.row H hr (f1'.up (fun q => pR_S (by omega))) r1 (by rw [ups_same hs]; exact hA)
        rw [ups_same hs, wS_id, ← hAA, stR_id rfl] at c1
        exact c1
      · rw [whB_none (fun w => by rw [hs] at w; exact absurd w.2.1 (by decide))]
        exact bx.fr H f1' nS
    refine ⟨fun _ => ?_, fun q => absurd q (by decide)⟩
    have hok := stA_ok hA h3 (n := n' + 1) (by omega) hn
    have c1 := cx.row H hr (f1'.up (fun q => pR_S (by omega))) r1 hok
    have b1 := bx.fr H f1' nS
    have eB : whB A (n' + 1 + 1) = if (1 ≤ n' + 1 ∧ aS A (n' + 1) = false ∧ clB (stA A (n' + 1)) none = true) ∧ whL (whB A (n' + 1)) (cstR (stA A (n' + 1)) none) = true then some (n' + 1, cstR (stA A (n' + 1)) none) else whB A (n' + 1) := rfl
    have e1 : (stR S r (stA A (n' + 1))).1 r = stA A (n' + 1) := if_pos rfl
    -- dropped again
    have back : ∀ (v' : Int32) (D2 : Dat), ClV ad ro Z D2 (stR S r (stA A (n' + 1))) → BstV ad D2 (whB A (n' + 1 + 1)) v' → X8_cheapestStep_j100 G post (ad 0) (ad (rb r)) (ad (rS r 2)) (ad 2) (ad (bg 1)) (ad (bg 2)) (ad (bg 3)) (X8_cheapestStep_l4 G post (ad 0) (ad (rb r)) (ad (rS r 2)) (ad 2) (ad (bg 1)) (ad (bg 2)) (ad (bg 3)) m) v' (nI (n' + 1)) D2 := by
      intro v' D2 c2 b2
      have r2 := c2.1 r hr
      rw [e1] at r2
      refine drop_sp s2 r2.1.2.2.2.1 hn (fun D3 f3 a3 => ?_)
      have f3' := fr_S H hrr f3
      have e3 : wS (stA A (n' + 1)) (ups (aS (stA A (n' + 1))) (n' + 1) false) = A := by
        show wS A (ups (ups (aS A) (n' + 1) true) (n' + 1) false) = A
        rw [ups_back hs]; rfl
      have r3 := r2.1.kS H hr f3' a3
      rw [e3] at r3
      have c3 := c2.row H hr (f3'.up (fun q => pR_S (by omega))) r3 hA
      rw [stR_2, ← hAA, stR_id rfl] at c3
      unfold X8_cheapestStep_j109
      rw [nI_1]
      exact hk (v', D3) ⟨by omega, c3, b2.fr H f3' nS⟩
    refine weigh_sp (u := none) H hr r1 hok (fun x e => (nomatch e)) (fun D2 f2 w2 => ⟨fun q => absurd q (by decide), fun _ => ?_⟩) (fun D2 f2 w2 => ⟨fun _ => ?_, fun q => absurd rfl q⟩)
    rotate_left
    · refine back v D2 (c1.fr H f2 (fun q => pP_pZ)) ?_
      rw [whB_none (fun w => w2 (clB_t.mp w.2.2))]
      exact b1.fr H f2 (fun q a b => by unfold pB bg at a; unfold pP at b; omega)
    have c2 := c1.fr H f2 (fun q => pP_pZ)
    have b2 := b1.fr H f2 (fun q a b => by unfold pB bg at a; unfold pP at b; omega)
    have hcl := clB_t.mpr w2.2.2.1
    have eBst : stA A (n' + 1) = wS A (ups (aS A) (n' + 1) true) := rfl
    rw [← eBst] at w2 hcl
    have d1 := zD_pos w2.2.2.1
    have d2 := zD_lt hok (Nat.le_refl _) w2.2.2.1
    have bb := Bz_b hok (u := none) (Nat.le_refl _) w2.2.2.1 (nU (stA A (n' + 1))) (nU (stA A (n' + 1)))
    have take : whL (whB A (n' + 1)) (cstR (stA A (n' + 1)) none) = true → ∀ D3, ClV ad ro Z D3 (stR S r (stA A (n' + 1))) → WgV ad D3 (stA A (n' + 1)) none → X8_cheapestStep_j73 G post (ad 0) (ad (rb r)) (ad (rS r 2)) (ad 2) (ad (bg 1)) (ad (bg 2)) (ad (bg 3)) (X8_cheapestStep_l4 G post (ad 0) (ad (rb r)) (ad (rS r 2)) (ad 2) (ad (bg 1)) (ad (bg 2)) (ad (bg 3)) m) (nI (n' + 1)) D3 := by
      intro hL D3 c3 w3
      have okI1 : okI 1 := by unfold okI; omega
      refine cost_sp H hok w3 okI1 (fun D4 f4 b4 => ?_)
      have w4 : WgV ad D4 (stA A (n' + 1)) none := w3.fr H hok f4 (fun q a b => by unfold pI pT pB bg at b; omega)
      refine copyR H ok2 ok3 (by omega) w4.2.2.2.2 (fun D5 f5 b5 => ?_)
      have c5 := (c3.fr H f4 (fun q => pI_pZ okI1)).fr H f5 (fun q a => by unfold pB bg at a; unfold pZ; omega)
      refine back _ D5 c5 ?_
      rw [eB, if_pos ⟨⟨by omega, hs, hcl⟩, hL⟩]
      refine ⟨rfl, hn, _, _, b4.fr H ok1 f5 (fun w => by unfold pB bg at w; omega) (fun w => by unfold pB bg at w; omega), b5, bb, by omega, d2, ?_⟩
      exact cst_R w2.2.2.1
    refine ⟨fun q => ?_, fun q => ?_⟩
    · refine take ?_ D2 c2 w2
      cases hw : whB A (n' + 1) with
      | none => rfl
      | some p =>
        rw [hw] at b2
        rw [b2.1] at q
        have hb := b2.2.1
        have : (nI p.1).toInt = (-1 : Int32).toInt := by rw [q]
        rw [nI_toInt (by omega)] at this
        have e : (-1 : Int32).toInt = -1 := rfl
        omega
    · cases hw : whB A (n' + 1) with
      | none =>
        rw [hw] at b2
        exact absurd b2 q
      | some p =>
        rw [hw] at b2
        obtain ⟨ev, hlt, x, y, hx, hy, hbx, hy1, hy2, hxy⟩ := b2
        refine costsLess_sp H hok w2 hx hy hbx ⟨by omega, hy2⟩ (fun D3 f3 => ?_)
        have c3 := c2.fr H f3 (fun q a => by unfold pT pB bg at a; unfold pZ; omega)
        have w3 : WgV ad D3 (stA A (n' + 1)) none := w2.fr H hok f3 (fun q a b => by unfold pT pB bg at b; omega)
        have hiff : (zz (Bq (stA A (n' + 1)) none (nU (stA A (n' + 1))) (nU (stA A (n' + 1))) (nU (stA A (n' + 1)))) * y - x * zD (stA A (n' + 1)) none < 0) ↔ cstR (stA A (n' + 1)) none < p.2 := by
          have e := cst_R w2.2.2.1
          have hz : (0 : Rat) < ((zD (stA A (n' + 1)) none : Int) : Rat) := by rw [← cast_0]; exact cast_lt.mpr d1
          have hyy : (0 : Rat) < ((y : Int) : Rat) := by rw [← cast_0]; exact cast_lt.mpr (by omega)
          rw [← cast_lt, cast_sub, cast_mul, cast_mul, e, hxy, cast_0]
          generalize ((zD (stA A (n' + 1)) none : Int) : Rat) = z at *
          generalize ((y : Int) : Rat) = yy at *
          generalize cstR (stA A (n' + 1)) none = c at *
          have e1 : z * c * yy - yy * p.2 * z = (z * yy) * c - (z * yy) * p.2 := by grind
          rw [e1]
          have := pos_lt (x := c) (y := p.2) (Rat.mul_pos hz hyy)
          grind
        have eL : whL (whB A (n' + 1)) (cstR (stA A (n' + 1)) none) = decide (cstR (stA A (n' + 1)) none < p.2) := by rw [hw]; rfl
        by_cases hlt2 : cstR (stA A (n' + 1)) none < p.2
        · rw [decide_eq_true (hiff.mpr hlt2)]
          exact ⟨fun q => absurd q (by decide), fun _ => take (by rw [eL, decide_eq_true hlt2]) D3 c3 w3⟩
        · rw [decide_eq_false (fun w => hlt2 (hiff.mp w))]
          refine ⟨fun _ => back v D3 c3 ?_, fun q => absurd rfl q⟩
          rw [eB, if_neg (fun w => by rw [eL, decide_eq_false hlt2] at w; exact absurd w.2 (by decide)), hw]
          exact ⟨ev, hlt, x, y, hx.fr H ok1 f3 (fun w => by unfold pT pB bg at w; omega) (fun w => by unfold pT pB bg at w; omega), hy.fr H ok2 f3 (fun w => by unfold pT pB bg at w; omega) (fun w => by unfold pT pB bg at w; omega), hbx, hy1, hy2, hxy⟩
theorem where_sp (H : CS G ad ro) (h : ClV ad ro Z D S) {a : Int32} {post : Int32 → Dat → Prop} (k : ∀ D', ClV ad ro Z D' (sWhere S a).2 → post (sWhere S a).1 D') : X8_where_wp G D (ad 0) a post := by
  unfold sWhere at k
  refine ⟨H.x_, rowOf_sp H (fun n0 => ?_) (fun r0 => ⟨fun q => (nomatch q), fun y q => ?_⟩)⟩
  · rw [if_neg n0] at k
    exact ⟨fun _ => giveNone_sp H h (fun D' c => k D' c), fun y q => (nomatch q)⟩
  cases q
  rw [if_pos r0] at k
  have hr := tn_R r0
  have hR := h.1 _ hr
  refine ⟨H.row_ _ hr, _, H.row3_ _ hr, (H.set_ _ hr 2 (by omega)).1, ?_⟩
  rw [hR.1.2.2.2.1.2]
  have hct := ct_le (aS (S.1 (tn a))) 40
  refine ⟨fun q => ?_, fun q => ?_⟩
  · have h3 : ¬ ct (aS (S.1 (tn a))) 40 < 3 := fun w => absurd q (by rw [show (3 : Int32) = nI 3 by decide]; exact nI_ge w (by omega))
    rw [if_neg h3] at k
    exact ⟨fun q => absurd rfl q, fun _ => giveNone_sp H h (fun D' c => k D' c)⟩
  · have h3 : ct (aS (S.1 (tn a))) 40 < 3 := by
      by_cases w : ct (aS (S.1 (tn a))) 40 < 3
      · exact w
      · exact absurd (by rw [show (3 : Int32) = nI 3 by decide]; exact nI_le (by omega) (by omega)) q
    rw [if_pos h3] at k
    refine cheapest_sp H hr h h3 (fun D1 v c1 b1 => ?_)
    cases hw : whB (S.1 (tn a)) 40 with
    | none =>
      rw [hw] at b1 k
      have b1 : v = -1 := b1
      subst b1
      exact ⟨fun q => absurd rfl q, fun _ => giveNone_sp H c1 (fun D' c => k D' c)⟩
    | some p =>
      rw [hw] at b1 k
      obtain ⟨ev, hlt, -⟩ := b1
      subst ev
      refine ⟨fun _ => give_sp H c1 (fun D' c => k D' c), fun q => ?_⟩
      have : (nI p.1).toInt = (-1 : Int32).toInt := by rw [q]
      rw [nI_toInt (by omega)] at this
      have e : (-1 : Int32).toInt = -1 := rfl
      omega
end WH
