/-! the reference: gather -/
theorem rcl_b {A : AR} : ∀ f, f ∈ rcl A → ∀ t, t < 40 → -39 ≤ f t ∧ f t ≤ 39 := by
  intro f hf t ht
  rw [rcl_eq] at hf
  rcases List.mem_cons.mp hf with h | h
  · rw [h]; show -39 ≤ (1 : Int) ∧ (1 : Int) ≤ 39; omega
  · rcases List.mem_append.mp h with h | h
    · exact uc_b f h t ht
    · obtain ⟨k, -, rfl⟩ := List.mem_map.mp h
      unfold seac
      split
      · omega
      · split <;> omega
theorem rc_b (A : AR) (i : Nat) {t : Nat} (ht : t < 40) : -39 ≤ lc (rcl A) i t ∧ lc (rcl A) i t ≤ 39 := by
  by_cases h : i < (rcl A).length
  · obtain ⟨f, hf, e⟩ := lc_mem h
    rw [e]
    exact rcl_b f hf t ht
  · unfold lc
    rw [List.getD_eq_getElem?_getD, List.getElem?_eq_none (by omega)]
    show -39 ≤ (0 : Int) ∧ (0 : Int) ≤ 39
    omega
def rgS (A : AR) (i j n : Nat) : Int := si (fun t => if aK A t = true then lc (rcl A) i t * lc (rcl A) j t else 0) n
def rrS (A : AR) (i n : Nat) : Int := si (fun t => if aK A t = true then aN A t * lc (rcl A) i t else 0) n
def roS (A : AR) (n : Nat) : Int := si (fun t => if aK A t = true then aN A t * aN A t else 0) n
theorem si_succ (f : Nat → Int) (n : Nat) : si f (n + 1) = si f n + f n := rfl
section GA
variable {A : AR}
theorem mul39 {x y : Int} (hx : -39 ≤ x ∧ x ≤ 39) (hy : -39 ≤ y ∧ y ≤ 39) : -1521 ≤ x * y ∧ x * y ≤ 1521 := mul_abs_le (X := 39) (Y := 39) hx.1 hx.2 hy.1 hy.2
theorem rg_b (i j : Nat) {n : Nat} (hn : n ≤ 40) : -60840 ≤ rgS A i j n ∧ rgS A i j n ≤ 60840 := by
  have h := si_abs (M := 1521) (f := fun t => if aK A t = true then lc (rcl A) i t * lc (rcl A) j t else 0) (by decide) (n := n) (fun t ht => by
    split
    · exact mul39 (rc_b A i (by omega)) (rc_b A j (by omega))
    · omega)
  have : rgS A i j n = si (fun t => if aK A t = true then lc (rcl A) i t * lc (rcl A) j t else 0) n := rfl
  rw [← this] at h
  omega
theorem rr_b (hA : RowOK A) (i : Nat) {n : Nat} (hn : n ≤ 40) : -15600000 ≤ rrS A i n ∧ rrS A i n ≤ 15600000 := by
  have h := si_abs (M := 390000) (f := fun t => if aK A t = true then aN A t * lc (rcl A) i t else 0) (by decide) (n := n) (fun t ht => by
    split
    · have h1 := hA.1 t
      have h2 := rc_b A i (t := t) (by omega)
      exact mul_abs_le (X := 10000) (Y := 39) h1.1 h1.2 h2.1 h2.2
    · omega)
  have : rrS A i n = si (fun t => if aK A t = true then aN A t * lc (rcl A) i t else 0) n := rfl
  rw [← this] at h
  omega
theorem ro_b (hA : RowOK A) {n : Nat} (hn : n ≤ 40) : -4000000000 ≤ roS A n ∧ roS A n ≤ 4000000000 := by
  have h := si_abs (M := 100000000) (f := fun t => if aK A t = true then aN A t * aN A t else 0) (by decide) (n := n) (fun t ht => by
    split
    · have h1 := hA.1 t
      exact mul_abs_le (X := 10000) (Y := 10000) h1.1 h1.2 h1.1 h1.2
    · omega)
  have : roS A n = si (fun t => if aK A t = true then aN A t * aN A t else 0) n := rfl
  rw [← this] at h
  omega
end GA
def GaF (ad ro : Nat → Nat) (D D' : Dat) : Prop := FrP ro D D' (fun q => q = 500 ∨ q = 519 ∨ q = 520 ∨ q = 522 ∨ q = 523) ∧ ∀ s, s ≠ 21 → D'.1 (ad 500) s = D.1 (ad 500) s
theorem GaF.rf {ad ro : Nat → Nat} {D : Dat} : GaF ad ro D D := ⟨FrP.rf, fun _ _ => rfl⟩
theorem GaF.tr {ad ro : Nat → Nat} {D D1 D2 : Dat} (h : GaF ad ro D D1) (h2 : GaF ad ro D1 D2) : GaF ad ro D D2 := ⟨h.1.tr h2.1, fun s hs => (h2.2 s hs).trans (h.2 s hs)⟩
def GaV (ad : Nat → Nat) (D : Dat) (A : AR) (n : Nat) : Prop := (∀ i j, i < NN A → j < NN A → (D.2 (ad 522) (19 * i + j)).toInt = rgS A i j n) ∧ (∀ i, i < NN A → (D.2 (ad 523) i).toInt = rrS A i n) ∧ (D.2 (ad 500) 25).toInt = roS A n
section GB
variable {G : Shp} {ad ro : Nat → Nat} {D D' : Dat} {r : Nat} {A : AR} {t : Nat} {post : Dat → Prop}
theorem GaF.lo (H : RG G ad ro) (h : LoF ad D D') : GaF ad ro D D' := ⟨(h.fr H).up (fun q hq => by omega), h.2.2⟩
theorem GaF.j (H : RG G ad ro) {q i : Nat} {v : Int64} (hq : q = 500 ∨ q = 522 ∨ q = 523) : GaF ad ro D (dJ D (ad q) i v) := ⟨FrP.dJ (by rw [H.inj_ q (by omega) (by omega)]; omega), fun _ _ => rfl⟩
theorem GaF.wk (h : GaF ad ro D D') : WkF ad ro D D' := ⟨h.1.up (fun q hq => by unfold pW; omega), h.2 0 (by omega), h.2 9 (by omega)⟩
theorem j_ne (H : RG G ad ro) {p q i j : Nat} {v : Int64} (hp : 500 ≤ p ∧ p < 530) (hq : 500 ≤ q ∧ q < 530) (h : p ≠ q ∨ j ≠ i) : (dJ D (ad q) i v).2 (ad p) j = D.2 (ad p) j := by
  by_cases e : p = q
  · subst e
    exact dJ_o _ _ _ (by omega)
  · rw [dJ_n _ _ _ (H.ne hp hq e)]
theorem LkL.len {L : List (Nat → Int)} (h : LkL ad D A t L) : D.1 (ad 500) 21 = nI L.length := h.1
/-- one tick's products -/
theorem gather_tick (H : RG G ad ro) (hA : RowOK A) (ht : t < 40) (hk : aK A t = true) (hl : LkL ad D A t (rcl A)) {x : Int64} (hx : x.toInt = aN A t) (h1 : ∀ i j, i < NN A → j < NN A → (D.2 (ad 522) (19 * i + j)).toInt = rgS A i j t) (h2 : ∀ i, i < NN A → (D.2 (ad 523) i).toInt = rrS A i t) {V1 : Int32} {K : Int32 → Dat → Prop} {v2 : Int32} (k : ∀ D', D'.1 = D.1 → GaF ad ro D D' → D'.2 (ad 500) = D.2 (ad 500) → (∀ i j, i < NN A → j < NN A → (D'.2 (ad 522) (19 * i + j)).toInt = rgS A i j (t + 1)) → (∀ i, i < NN A → (D'.2 (ad 523) i).toInt = rrS A i (t + 1)) → K (v2 + 1) D') : ∃ f, X9_gather_l115 G post (ad 500) V1 (ad 523) (ad 522) (ad 510) (ad 519) K f v2 x 0 D := by
  have hN := NN_le hA
  have n52 : ad 523 ≠ ad 522 := H.ne (by omega) (by omega) (by omega)
  have hlen : (rcl A).length = NN A := rfl
  have eg : ∀ i j, rgS A i j (t + 1) = rgS A i j t + lc (rcl A) i t * lc (rcl A) j t := fun i j => by unfold rgS; rw [si_succ, if_pos hk]
  have er : ∀ i, rrS A i (t + 1) = rrS A i t + aN A t * lc (rcl A) i t := fun i => by unfold rrS; rw [si_succ, if_pos hk]
  have hcol : ∀ (E : Dat), E.1 = D.1 → ∀ i, i < NN A → ((E.1 (ad 519) i).toInt64).toInt = lc (rcl A) i t := fun E e i hi => by rw [L_i2l, e]; exact (hl.2 i hi).1
  have key := up_loop (L := fun f i (E : Dat) => X9_gather_l115 G post (ad 500) V1 (ad 523) (ad 522) (ad 510) (ad 519) K f v2 x (nI i) E) (NN A) (fun i E => E.1 = D.1 ∧ GaF ad ro D E ∧ E.2 (ad 500) = D.2 (ad 500) ∧ (∀ a b, a < NN A → b < NN A → (E.2 (ad 522) (19 * a + b)).toInt = rgS A a b (if a < i then t + 1 else t)) ∧ ∀ a, a < NN A → (E.2 (ad 523) a).toInt = rrS A a (if a < i then t + 1 else t)) ?_ ?_ 0 D (by omega) ⟨rfl, GaF.rf, rfl, fun a b ha hb => by rw [if_neg (by omega)]; exact h1 a b ha hb, fun a ha => by rw [if_neg (by omega)]; exact h2 a ha⟩
  · exact ⟨_, key⟩
  · intro f E hE
    obtain ⟨e1, fE, e0, g1, g2⟩ := hE
    show X9_gather_l115_b G post (ad 500) V1 (ad 523) (ad 522) (ad 510) (ad 519) _ _ _ _ _ _
    unfold X9_gather_l115_b
    rw [e1, hl.1, hlen]
    exact ⟨fun _ => k E e1 fE e0 (fun i j hi hj => by have := g1 i j hi hj; rw [if_pos hi] at this; exact this) (fun i hi => by have := g2 i hi; rw [if_pos hi] at this; exact this), fun q => absurd (nI_le (Nat.le_refl _) (by omega)) q⟩
  · intro f i E hi hE hk'
    obtain ⟨e1, fE, e0, g1, g2⟩ := hE
    show X9_gather_l115_b G post (ad 500) V1 (ad 523) (ad 522) (ad 510) (ad 519) _ _ _ _ _ _
    unfold X9_gather_l115_b
    have ci := hcol E e1 i hi
    rw [e1] at ci ⊢
    rw [hl.1, hlen, nI_clamp (n := i) (by omega)]
    have bi := rc_b A i ht
    have bn := hA.1 t
    have bm := mul_abs_le (X := 10000) (Y := 39) bn.1 bn.2 bi.1 bi.2
    have br := rr_b hA i (n := t) (by omega)
    have gi := g2 i hi
    rw [if_neg (by omega)] at gi
    have m1 : (x * (D.1 (ad 519) i).toInt64).toInt = aN A t * lc (rcl A) i t := by rw [L_mul (by rw [hx, ci]; omega) (by rw [hx, ci]; omega), hx, ci]
    have m2 : (E.2 (ad 523) i + x * (D.1 (ad 519) i).toInt64).toInt = rrS A i (t + 1) := by rw [L_add (by rw [m1, gi]; omega) (by rw [m1, gi]; omega), m1, gi, er]
    generalize E.2 (ad 523) i + x * (D.1 (ad 519) i).toInt64 = v at *
    refine ⟨fun q => absurd q (nI_ge hi (by omega)), fun _ => ⟨ri_in H (by omega), by rw [H.ha0_.2.2]; exact vp_in_nI (by omega) (by omega), ri_in H (by omega), ?_⟩⟩
    have key2 := up_loop (L := fun f' j (F : Dat) => X9_gather_l147 G post (ad 500) V1 (ad 523) (ad 522) (ad 510) (ad 519) K (X9_gather_l115 G post (ad 500) V1 (ad 523) (ad 522) (ad 510) (ad 519) K f) f' v2 x (nI i) (nI j) F) (NN A) (fun j F => F.1 = D.1 ∧ GaF ad ro D F ∧ F.2 (ad 500) = D.2 (ad 500) ∧ (∀ a b, a < NN A → b < NN A → (F.2 (ad 522) (19 * a + b)).toInt = rgS A a b (if a < i ∨ (a = i ∧ b < j) then t + 1 else t)) ∧ ∀ a, a < NN A → (F.2 (ad 523) a).toInt = rrS A a (if a < i + 1 then t + 1 else t)) ?_ ?_ 0 (dJ E (ad 523) i v) (by omega) ⟨e1, fE.tr (GaF.j H (by omega)), by rw [dJ_n _ _ _ (H.ne (by omega) (by omega) (by omega))]; exact e0, fun a b ha hb => ?_, fun a ha => ?_⟩
    · exact ⟨_, key2⟩
    · intro f' F hF
      obtain ⟨q1, fF, q0, k1, k2⟩ := hF
      show X9_gather_l147_b G post (ad 500) V1 (ad 523) (ad 522) (ad 510) (ad 519) _ _ _ _ _ _ _ _
      unfold X9_gather_l147_b
      rw [q1, hl.1, hlen, nI_1 i]
      refine ⟨fun _ => hk' F ⟨q1, fF, q0, fun a b ha hb => ?_, k2⟩, fun q => absurd (nI_le (Nat.le_refl _) (by omega)) q⟩
      have := k1 a b ha hb
      by_cases u : a < i + 1
      · rw [if_pos u]
        rw [if_pos (by omega)] at this
        exact this
      · rw [if_neg u]
        rw [if_neg (by omega)] at this
        exact this
    · intro f' j F hj hF hk2
      obtain ⟨q1, fF, q0, k1, k2⟩ := hF
      show X9_gather_l147_b G post (ad 500) V1 (ad 523) (ad 522) (ad 510) (ad 519) _ _ _ _ _ _ _ _
      unfold X9_gather_l147_b
      rw [q1, hl.1, hlen, s_e, nI_clamp (n := 19 * i + j) (by omega), nI_clamp (n := i) (by omega), nI_clamp (n := j) (by omega), nI_1 j]
      have cj' := hcol D rfl j hj
      have bj := rc_b A j ht
      have b2 := mul39 bi bj
      have b3 := rg_b (A := A) i j (n := t) (by omega)
      have gij := k1 i j hi hj
      rw [if_neg (by omega)] at gij
      have m3 : ((D.1 (ad 519) i).toInt64 * (D.1 (ad 519) j).toInt64).toInt = lc (rcl A) i t * lc (rcl A) j t := by rw [L_mul (by rw [ci, cj']; omega) (by rw [ci, cj']; omega), ci, cj']
      have m4 : (F.2 (ad 522) (19 * i + j) + (D.1 (ad 519) i).toInt64 * (D.1 (ad 519) j).toInt64).toInt = rgS A i j (t + 1) := by rw [L_add (by rw [m3, gij]; omega) (by rw [m3, gij]; omega), m3, gij, eg]
      refine ⟨fun q => absurd q (nI_ge hj (by omega)), fun _ => ⟨sq_in H (by omega), by rw [H.ha0_.2.2]; exact vp_in_nI (by omega) (by omega), by rw [H.ha0_.2.2]; exact vp_in_nI (by omega) (by omega), sq_in H (by omega), hk2 _ ⟨q1, fF.tr (GaF.j H (by omega)), by rw [dJ_n _ _ _ (H.ne (by omega) (by omega) (by omega))]; exact q0, fun a b ha hb => ?_, fun a ha => by rw [j_ne H (by omega) (by omega) (Or.inl (by omega))]; exact k2 a ha⟩⟩⟩
      by_cases u : a = i ∧ b = j
      · rw [u.1, u.2, dJ_s, m4, if_pos (by omega)]
      · rw [dJ_o _ _ _ (by omega), k1 a b ha hb]
        congr 1
        by_cases y : a < i ∨ (a = i ∧ b < j)
        · rw [if_pos y, if_pos (by omega)]
        · rw [if_neg y, if_neg (by omega)]
    · rw [j_ne H (by omega) (by omega) (Or.inl (by omega)), g1 a b ha hb]
      congr 1
      by_cases u : a < i
      · rw [if_pos u, if_pos (Or.inl u)]
      · rw [if_neg u, if_neg (by omega)]
    · by_cases u : a = i
      · rw [u, dJ_s, m2, if_pos (by omega)]
      · rw [dJ_o _ _ _ u, g2 a ha]
        congr 1
        by_cases y : a < i
        · rw [if_pos y, if_pos (by omega)]
        · rw [if_neg y, if_neg (by omega)]
theorem gather_sp (H : RG G ad ro) (hr : r < 4) (h : RrV ad D r A) (hA : RowOK A) (k : ∀ D', GaF ad ro D D' → D'.1 (ad 500) 21 = nI (NN A) → GaV ad D' A 40 → post D') : X9_gather_wp G D (ad 500) (nI r) post := by
  have hN := NN_le hA
  have hlen : (rcl A).length = NN A := rfl
  have n02 : ad 500 ≠ ad 522 := H.ne (by omega) (by omega) (by omega)
  have n03 : ad 500 ≠ ad 523 := H.ne (by omega) (by omega) (by omega)
  refine ⟨H.x_, _, H.rig_.1, H.rig_.2.1, _, H.squ_.1, H.squ_.2.1, _, H.val_.1, H.val_.2.1, _, H.ha0_.1, H.ha0_.2.1, ?_⟩
  refine look_sp (t := 0) H hr h hA (by omega) (fun D1 f1 l1 => ?_)
  have g1 := GaF.lo (ro := ro) H f1
  -- the ticks
  have ticks : ∀ E : Dat, GaF ad ro D E → E.1 (ad 500) 21 = nI (NN A) → GaV ad E A 0 → ∃ n, X9_gather_l64 G post (ad 500) (nI r) (ad 523) (ad 522) (ad 510) (ad 519) n 0 E := by
    intro E gE e21 vE
    have key := up_loop (L := fun n i (F : Dat) => X9_gather_l64 G post (ad 500) (nI r) (ad 523) (ad 522) (ad 510) (ad 519) n (nI i) F) 40 (fun i F => GaF ad ro D F ∧ F.1 (ad 500) 21 = nI (NN A) ∧ GaV ad F A i) ?_ ?_ 0 E (by omega) ⟨gE, e21, vE⟩
    · exact ⟨_, key⟩
    · intro n F hF
      show X9_gather_l64_b G post (ad 500) (nI r) (ad 523) (ad 522) (ad 510) (ad 519) _ _ _
      exact ⟨fun _ => k F hF.1 hF.2.1 hF.2.2, fun q => absurd (by decide) q⟩
    · intro n i F hi hF hk
      obtain ⟨gF, q21, vF⟩ := hF
      have hR := h.wk H gF.wk
      show X9_gather_l64_b G post (ad 500) (nI r) (ad 523) (ad 522) (ad 510) (ad 519) _ _ _
      refine ⟨fun q => absurd q (by rw [show (40 : Int32) = nI 40 by decide]; exact nI_ge hi (by omega)), fun _ => counts9_sp H hr hR hi ⟨fun q => ?_, fun q => ?_⟩⟩
      · have hki := bI_n0.mp q
        refine look_sp H hr hR hA (by omega) (fun D2 f2 l2 => ?_)
        have hR2 := f2.rr H hR
        unfold X9_spot_wp
        rw [spot_e]
        dsimp only
        rw [nI_clamp (by omega)]
        have ev : ((D2.1 (ad 510) (40 * r + i)).toInt64).toInt = aN A i := by rw [L_i2l]; exact (hR2.1 i hi).1
        generalize (D2.1 (ad 510) (40 * r + i)).toInt64 = x at *
        have bn := hA.1 i
        have bm := mul_abs_le (X := 10000) (Y := 10000) bn.1 bn.2 bn.1 bn.2
        have bo := ro_b hA (n := i) (by omega)
        have e25 : (D2.2 (ad 500) 25).toInt = roS A i := by rw [f2.1]; exact vF.2.2
        have m1 : (x * x).toInt = aN A i * aN A i := by rw [L_mul (by rw [ev]; omega) (by rw [ev]; omega), ev]
        have m2 : (D2.2 (ad 500) 25 + x * x).toInt = roS A (i + 1) := by
          rw [L_add (by rw [m1, e25]; omega) (by rw [m1, e25]; omega), m1, e25]
          unfold roS
          rw [si_succ, if_pos hki]
        refine ⟨in160 H H.val_ hr hi, gather_tick H hA hi hki (D := dJ D2 (ad 500) 25 (D2.2 (ad 500) 25 + x * x)) l2 ev (fun a b ha hb => ?_) (fun a ha => ?_) (fun D' e1 f' e0 p1 p2 => ?_)⟩
        · rw [dJ_n _ _ _ (fun q => n02 q.symm), f2.1]; exact vF.1 a b ha hb
        · rw [dJ_n _ _ _ (fun q => n03 q.symm), f2.1]; exact vF.2.1 a ha
        · rw [nI_1]
          refine hk D' ⟨((gF.tr (GaF.lo H f2)).tr (GaF.j H (Or.inl rfl))).tr f', ?_, p1, p2, ?_⟩
          · rw [e1]; exact l2.1
          · rw [e0, dJ_s, m2]
      · have hki := bI_0.mp q
        unfold X9_gather_j201
        rw [nI_1]
        refine hk F ⟨gF, q21, fun a b ha hb => ?_, fun a ha => ?_, ?_⟩
        · rw [vF.1 a b ha hb]
          unfold rgS
          rw [si_succ, if_neg (by rw [hki]; decide)]
          omega
        · rw [vF.2.1 a ha]
          unfold rrS
          rw [si_succ, if_neg (by rw [hki]; decide)]
          omega
        · rw [vF.2.2]
          unfold roS
          rw [si_succ, if_neg (by rw [hki]; decide)]
          omega
  -- noughts
  have key := up_loop (L := fun n i (E : Dat) => X9_gather_l8 G post (ad 500) (nI r) (ad 523) (ad 522) (ad 510) (ad 519) n (nI i) E) (NN A) (fun i E => E.1 = D1.1 ∧ GaF ad ro D E ∧ (∀ a b, a < i → b < NN A → (E.2 (ad 522) (19 * a + b)).toInt = 0) ∧ ∀ a, a < i → (E.2 (ad 523) a).toInt = 0) ?_ ?_ 0 D1 (by omega) ⟨rfl, g1, fun a b ha _ => by omega, fun a ha => by omega⟩
  · exact ⟨_, key⟩
  · intro n E hE
    obtain ⟨e1, gE, p1, p2⟩ := hE
    show X9_gather_l8_b G post (ad 500) (nI r) (ad 523) (ad 522) (ad 510) (ad 519) _ _ _
    unfold X9_gather_l8_b
    rw [e1, l1.1, hlen]
    refine ⟨fun _ => ticks _ (gE.tr (GaF.j H (Or.inl rfl))) (by show E.1 (ad 500) 21 = _; rw [e1]; exact l1.1) ⟨fun a b ha hb => ?_, fun a ha => ?_, ?_⟩, fun q => absurd (nI_le (Nat.le_refl _) (by omega)) q⟩
    · rw [dJ_n _ _ _ (fun q => n02 q.symm)]; exact p1 a b ha hb
    · rw [dJ_n _ _ _ (fun q => n03 q.symm)]; exact p2 a ha
    · rw [dJ_s]; rfl
  · intro n i E hi hE hk
    obtain ⟨e1, gE, p1, p2⟩ := hE
    show X9_gather_l8_b G post (ad 500) (nI r) (ad 523) (ad 522) (ad 510) (ad 519) _ _ _
    unfold X9_gather_l8_b
    rw [e1, l1.1, hlen, nI_clamp (n := i) (by omega)]
    refine ⟨fun q => absurd q (nI_ge hi (by omega)), fun _ => ⟨ri_in H (by omega), ?_⟩⟩
    have key2 := up_loop (L := fun f' j (F : Dat) => X9_gather_l25 G post (ad 500) (nI r) (ad 523) (ad 522) (ad 510) (ad 519) (X9_gather_l8 G post (ad 500) (nI r) (ad 523) (ad 522) (ad 510) (ad 519) n) f' (nI i) (nI j) F) (NN A) (fun j F => F.1 = D1.1 ∧ GaF ad ro D F ∧ (∀ a b, (a < i ∨ (a = i ∧ b < j)) → b < NN A → (F.2 (ad 522) (19 * a + b)).toInt = 0) ∧ ∀ a, a < i + 1 → (F.2 (ad 523) a).toInt = 0) ?_ ?_ 0 (dJ E (ad 523) i 0) (by omega) ⟨e1, gE.tr (GaF.j H (by omega)), fun a b ha hb => by rw [j_ne H (by omega) (by omega) (Or.inl (by omega))]; exact p1 a b (by omega) hb, fun a ha => ?_⟩
    · exact ⟨_, key2⟩
    · intro f' F hF
      obtain ⟨q1, gF, k1, k2⟩ := hF
      show X9_gather_l25_b G post (ad 500) (nI r) (ad 523) (ad 522) (ad 510) (ad 519) _ _ _ _ _
      unfold X9_gather_l25_b
      rw [q1, l1.1, hlen, nI_1 i]
      exact ⟨fun _ => hk F ⟨q1, gF, fun a b ha hb => k1 a b (by omega) hb, k2⟩, fun q => absurd (nI_le (Nat.le_refl _) (by omega)) q⟩
    · intro f' j F hj hF hk2
      obtain ⟨q1, gF, k1, k2⟩ := hF
      show X9_gather_l25_b G post (ad 500) (nI r) (ad 523) (ad 522) (ad 510) (ad 519) _ _ _ _ _
      unfold X9_gather_l25_b
      rw [q1, l1.1, hlen, s_e, nI_clamp (n := 19 * i + j) (by omega), nI_1 j]
      refine ⟨fun q => absurd q (nI_ge hj (by omega)), fun _ => ⟨sq_in H (by omega), hk2 _ ⟨q1, gF.tr (GaF.j H (by omega)), fun a b ha hb => ?_, fun a ha => by rw [j_ne H (by omega) (by omega) (Or.inl (by omega))]; exact k2 a ha⟩⟩⟩
      by_cases u : a = i ∧ b = j
      · rw [u.1, u.2, dJ_s]; rfl
      · rw [dJ_o _ _ _ (by omega)]; exact k1 a b (by omega) hb
    · by_cases u : a = i
      · rw [u, dJ_s]; rfl
      · rw [dJ_o _ _ _ u]; exact p2 a (by omega)
end GB
