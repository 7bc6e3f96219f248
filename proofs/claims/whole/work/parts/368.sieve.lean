/-! Sieve -/
def rab (q : Rat) : Rat := if q < 0 then -q else q
def szR (A : AR) (t : Nat) : Rat := rab ((aN A t : Int) - foR A none t)
def cgR (A : AR) (s : Nat → Rat) (x : Rat) : Nat := ct (fun u => aK A u && decide (x ≤ s u)) 40
def mdR (A : AR) (s : Nat → Rat) : Nat → Rat
  | 0 => 0
  | n + 1 => if aK A n = true ∧ mdR A s n < s n ∧ ct (aK A) 40 ≤ 2 * cgR A s (s n) then s n else mdR A s n
def nwX (A : AR) (n d : Int) (t : Nat) : Bool := aX A t || (aK A t && decide ((n : Rat) * mdR A (szR A) 40 < (d : Rat) * szR A t))
def rnS (n d : Int) : Nat → AR → Option AR
  | 0, A => some A
  | k + 1, A => if clB A none = true then (if ct (aX A) 40 < ct (nwX A n d) 40 then rnS n d k (wX A (nwX A n d)) else some (wX A (nwX A n d))) else none
abbrev okSh (v : Int32) : Prop := 1 ≤ v.toInt ∧ v.toInt ≤ 1000
def sRounds (S : AS) (a n d : Int32) : Int32 × AS := if okR a then (if okSh n ∧ okSh d then (if ct (aF (S.1 (tn a))) 40 = 0 then (-1, stS S 8) else match rnS n.toInt d.toInt 5 (wX (S.1 (tn a)) (fun _ => false)) with
  | none => (-1, stS S 6)
  | some A => (nI (ct (aX A) 40), stS (stR S (tn a) A) 0)) else (-1, stS S 2)) else (-1, stS S 1)
/-- in whole numbers -/
def szI (A : AR) (t : Nat) : Int := az (zD A none * aN A t - foS A none t)
def cgI (A : AR) (x : Int) (n : Nat) : Nat := ct (fun u => aK A u && decide (x ≤ szI A u)) n
def mdI (A : AR) : Nat → Int
  | 0 => 0
  | n + 1 => if aK A n = true ∧ mdI A n < szI A n ∧ ct (aK A) 40 ≤ 2 * cgI A (szI A n) 40 then szI A n else mdI A n
theorem az_nn (z : Int) : 0 ≤ az z := by unfold az; split <;> omega
theorem az_id {z : Int} (h : 0 ≤ z) : az z = z := by unfold az; rw [if_neg (by omega)]
section SV
variable {A : AR}
theorem pos_lt {x y z : Rat} (hz : 0 < z) : z * x < z * y ↔ x < y := by
  constructor
  · intro h
    by_cases q : x < y
    · exact q
    · have : z * y ≤ z * x := Rat.mul_le_mul_of_nonneg_left (by grind) (by grind)
      grind
  · intro h
    have := Rat.mul_pos hz (show 0 < y - x by grind)
    grind
theorem pos_le {x y z : Rat} (hz : 0 < z) : z * x ≤ z * y ↔ x ≤ y := by
  have := pos_lt (x := y) (y := x) hz
  grind
theorem zD_Rp (hp : Pv A none (nU A)) : (0 : Rat) < ((zD A none : Int) : Rat) := by
  rw [← cast_0]
  exact cast_lt.mpr (zD_pos hp)
theorem szI_R (hA : RowOK A) (hp : Pv A none (nU A)) (t : Nat) : ((szI A t : Int) : Rat) = (zD A none : Int) * szR A t := by
  have h := left_R (u := none) hA hp t
  have hz := zD_Rp hp
  unfold szI szR rab az
  have e : zD A none * yv A none t - foS A none t = zD A none * aN A t - foS A none t := rfl
  rw [e] at h
  have e2 : ((yv A none t : Int) : Rat) = ((aN A t : Int) : Rat) := rfl
  rw [e2] at h
  generalize zD A none * aN A t - foS A none t = z at *
  generalize ((aN A t : Int) : Rat) - foR A none t = x at *
  generalize ((zD A none : Int) : Rat) = y at *
  by_cases q : z < 0
  · have q2 : ((z : Int) : Rat) < ((0 : Int) : Rat) := cast_lt.mpr q
    rw [h, cast_0] at q2
    have q3 : x < 0 := (pos_lt hz).mp (by grind)
    rw [if_pos q, if_pos q3, Rat.intCast_neg, h]; grind
  · have q2 : ((0 : Int) : Rat) ≤ ((z : Int) : Rat) := cast_le.mpr (by omega)
    rw [h, cast_0] at q2
    have q3 : ¬ x < 0 := fun w => by
      have := (pos_lt (x := x) (y := 0) hz).mpr w
      grind
    rw [if_neg q, if_neg q3, h]
theorem szI_le (hA : RowOK A) (hp : Pv A none (nU A)) (t u : Nat) : szI A t ≤ szI A u ↔ szR A t ≤ szR A u := by
  rw [← cast_le, szI_R hA hp, szI_R hA hp, pos_le (zD_Rp hp)]
theorem cgI_R (hA : RowOK A) (hp : Pv A none (nU A)) (t : Nat) : cgI A (szI A t) 40 = cgR A (szR A) (szR A t) := by
  unfold cgI cgR
  refine ct_congr (fun u _ => ?_)
  have := szI_le hA hp t u
  by_cases q : szI A t ≤ szI A u
  · rw [decide_eq_true q, decide_eq_true (this.mp q)]
  · rw [decide_eq_false q, decide_eq_false (fun w => q (this.mpr w))]
theorem mdI_R (hA : RowOK A) (hp : Pv A none (nU A)) : ∀ n, ((mdI A n : Int) : Rat) = (zD A none : Int) * mdR A (szR A) n
  | 0 => by show ((0 : Int) : Rat) = _ * (0 : Rat); rw [cast_0]; grind
  | n + 1 => by
    have ih := mdI_R hA hp n
    have e : (mdI A n < szI A n) ↔ (mdR A (szR A) n < szR A n) := by
      rw [← cast_lt, ih, szI_R hA hp, pos_lt (zD_Rp hp)]
    unfold mdI mdR
    rw [cgI_R hA hp]
    by_cases q : aK A n = true ∧ mdI A n < szI A n ∧ ct (aK A) 40 ≤ 2 * cgR A (szR A) (szR A n)
    · rw [if_pos q, if_pos ⟨q.1, e.mp q.2.1, q.2.2⟩, szI_R hA hp]
    · rw [if_neg q, if_neg (fun w => q ⟨w.1, e.mpr w.2.1, w.2.2⟩), ih]
theorem above_R (hA : RowOK A) (hp : Pv A none (nU A)) (n d : Int) (t : Nat) : (n * mdI A 40 < d * szI A t) ↔ ((n : Rat) * mdR A (szR A) 40 < (d : Rat) * szR A t) := by
  rw [← cast_lt, cast_mul, cast_mul, mdI_R hA hp, szI_R hA hp]
  have e1 : (n : Rat) * ((zD A none : Int) * mdR A (szR A) 40) = (zD A none : Int) * ((n : Rat) * mdR A (szR A) 40) := by grind
  have e2 : (d : Rat) * ((zD A none : Int) * szR A t) = (zD A none : Int) * ((d : Rat) * szR A t) := by grind
  rw [e1, e2, pos_lt (zD_Rp hp)]
theorem szI_b (hA : RowOK A) (hp : Pv A none (nU A)) {t : Nat} (ht : t < 40) : 0 ≤ szI A t ∧ szI A t ≤ 50000000000000000000000000000000000000000000 := by
  have h := leftOver_b hA hp ht
  have e : zD A none * yv A none t - foS A none t = zD A none * aN A t - foS A none t := rfl
  rw [e] at h
  refine ⟨az_nn _, ?_⟩
  unfold szI az
  split <;> omega
theorem mdI_b (hA : RowOK A) (hp : Pv A none (nU A)) : ∀ n, n ≤ 40 → 0 ≤ mdI A n ∧ mdI A n ≤ 50000000000000000000000000000000000000000000
  | 0, _ => by show 0 ≤ (0 : Int) ∧ (0 : Int) ≤ _; omega
  | n + 1, hn => by
    have ih := mdI_b hA hp n (by omega)
    have := szI_b hA hp (t := n) (by omega)
    unfold mdI
    split <;> omega
end SV
/-- the size alone is left -/
theorem BigV.abs {D : Dat} {a la : Nat} {z : Int} (h : BigV D a la z) : BigV (dI D a 2 0) a la (az z) := by
  obtain ⟨n, hn, h1, hd, ht, hb, h0, rfl⟩ := h
  have hp := pv_nn (B := 134217728) (by decide) (n := n) (f := lm D la) (fun i hi => (hd i hi).1)
  have el : lm (dI D a 2 0) la = lm D la := rfl
  refine ⟨n, hn, by rw [dI_o _ _ _ (by decide)]; exact h1, by rw [el]; exact hd, by rw [el]; exact ht, by rw [dI_s]; exact isB_0, fun _ => dI_s _ _ _ _, ?_⟩
  rw [dI_s, el, sg_0, Int.one_mul]
  rcases hb with e | e <;> rw [e]
  · rw [sg_0, Int.one_mul, az_id hp]
  · rw [sg_1]
    unfold az
    split <;> omega
theorem cmp_le {x y : Int} : cmp3 x y ≤ 0 ↔ x ≤ y := by
  unfold cmp3
  by_cases h : x < y
  · rw [if_pos h]; exact ⟨fun _ => by omega, fun _ => by decide⟩
  · rw [if_neg h]
    by_cases h2 : x = y
    · rw [if_pos h2]; exact ⟨fun _ => by omega, fun _ => by decide⟩
    · rw [if_neg h2]; exact ⟨fun q => absurd q (by decide), fun q => by omega⟩
theorem cmp_lt {x y : Int} : cmp3 x y < 0 ↔ x < y := by
  unfold cmp3
  by_cases h : x < y
  · rw [if_pos h]; exact ⟨fun _ => h, fun _ => by decide⟩
  · rw [if_neg h]
    by_cases h2 : x = y
    · rw [if_pos h2]; exact ⟨fun q => absurd q (by decide), fun q => absurd q h⟩
    · rw [if_neg h2]; exact ⟨fun q => absurd q (by decide), fun q => absurd q h⟩
theorem SetV.same {D : Dat} {a ma : Nat} {s s' : Nat → Bool} (h : SetV D a ma s) (e : ∀ t, t < 40 → s t = s' t) : SetV D a ma s' := ⟨fun t ht => by rw [h.1 t ht, e t ht], by rw [h.2, ct_congr e]⟩
def pM (q : Nat) : Prop := pT q ∨ (360 ≤ q ∧ q < 440)
theorem ok80 {t : Nat} (h : t < 40) : okb (80 + t) := by unfold okb; omega
theorem okI80 {t : Nat} (h : t < 40) : okI (80 + t) := by unfold okI; omega
theorem ok5 : okb 5 := by unfold okb; omega
theorem ok6 : okb 6 := by unfold okb; omega
section SW
variable {G : Shp} {ad ro : Nat → Nat} {D : Dat} {r : Nat} {A : AR}
theorem measure_sp (H : CS G ad ro) (hr : r < 4) (h : RowV ad D r A) (hA : RowOK A) (hf : FdV ad D A none) {post : Dat → Prop} (k : ∀ D', FrP ro D D' pM → (∀ t, t < 40 → aK A t = true → BigR ad D' (80 + t) (szI A t)) → post D') : X5_measure_wp G D (ad 3) (ad (rb r)) post := by
  refine ⟨H.v_, H.row_ r hr, _, H.v0_, H.p_, _, H.v2_, H.sz_, ?_⟩
  have nR : ∀ q, pR r q → ¬ pM q := fun q a b => by unfold pR rb at a; unfold pM pT at b; omega
  have key := up_loop (L := fun n i (E : Dat) => X5_measure_l2 G post (ad 3) (ad (rb r)) (ad 2) (ad 16) n (nI i) E) 40 (fun i E => FrP ro D E pM ∧ ∀ t, t < i → aK A t = true → BigR ad E (80 + t) (szI A t)) ?_ ?_ 0 D (by omega) ⟨FrP.rf, fun t ht => by omega⟩
  · exact ⟨_, key⟩
  · intro n E hE
    show X5_measure_l2_b G post (ad 3) (ad (rb r)) (ad 2) (ad 16) _ _ _
    exact ⟨fun _ => k E hE.1 hE.2, fun q => absurd (by decide) q⟩
  · intro n i E hi hE hk
    obtain ⟨fE, sE⟩ := hE
    have rE := h.fr H hr fE nR
    have dE := hf.fr H hA fE (fun q a b => by unfold pM pT at b; omega)
    show X5_measure_l2_b G post (ad 3) (ad (rb r)) (ad 2) (ad 16) _ _ _
    refine ⟨fun q => absurd q (by rw [show (40 : Int32) = nI 40 by decide]; exact nI_ge hi (by omega)), fun _ => counts_t H hr rE hi ?_⟩
    unfold X5_measure_j40
    rw [nI_1]
    cases hs : aK A i
    · refine ⟨fun _ => hk E ⟨fE, fun t ht hk2 => ?_⟩, fun q => absurd rfl q⟩
      by_cases q : t = i
      · rw [q, hs] at hk2; exact absurd hk2 (by decide)
      · exact sE t (by omega) hk2
    · refine ⟨fun q => absurd q (by decide), fun _ => ⟨by rw [H.szl_]; exact vp_in_nI hi (by omega), _, by rw [nI_clamp (by omega)]; exact H.szr_ i hi, (H.big_ _ (ok80 hi)).1, ?_⟩⟩
      refine leftOver_sp H hA dE hi (okI80 hi) (fun D1 f1 b1 => ⟨by rw [H.szl_]; exact vp_in_nI hi (by omega), _, by rw [nI_clamp (by omega)]; exact H.szr_ i hi, (H.big_ _ (ok80 hi)).1, isB_0, ?_⟩)
      have f2 : FrP ro D1 (dI D1 (ad (bg (80 + i))) 2 0) (pB (80 + i)) := FrP.dI (Or.inl (H.inj_ _ (by have := okb_lt (ok80 hi); omega)))
      have F2 : FrP ro E (dI D1 (ad (bg (80 + i))) 2 0) (pI (80 + i)) := f1.tr (f2.up (fun q => pI_B))
      refine hk _ ⟨fE.tr (F2.up (fun q a => by unfold pI pB bg at a; unfold pM; rcases a with a | a; exact Or.inl a; right; omega)), fun t ht hk2 => ?_⟩
      by_cases q : t = i
      · rw [q]
        exact BigV.abs b1
      · exact (sE t (by omega) hk2).fr H (ok80 (by omega)) F2 (fun w => by unfold pI pT pB bg at w; omega) (fun w => by unfold pI pT pB bg at w; omega)
theorem asGreat_sp (H : CS G ad ro) (hr : r < 4) (h : RowV ad D r A) (hz : ∀ t, t < 40 → aK A t = true → BigR ad D (80 + t) (szI A t)) {i : Nat} (hi : i < 40) (hki : aK A i = true) {post : Int32 → Dat → Prop} (k : post (nI (cgI A (szI A i) 40)) D) : X5_asGreat_wp G D (ad 3) (ad (rb r)) (ad (bg (80 + i))) post := by
  refine ⟨H.v_, H.row_ r hr, (H.big_ _ (ok80 hi)).1, _, H.v2_, H.sz_, ?_⟩
  have nn : ∀ t, 0 ≤ szI A t := fun t => az_nn _
  have key := up_loop (L := fun n j (v : Int32) => X5_asGreat_l5 G post (ad 3) (ad (rb r)) (ad (bg (80 + i))) (ad 16) n v (nI j) D) 40 (fun j v => v = nI (cgI A (szI A i) j)) ?_ ?_ 0 0 (by omega) rfl
  · exact ⟨_, key⟩
  · intro n v hv
    subst hv
    show X5_asGreat_l5_b G post (ad 3) (ad (rb r)) (ad (bg (80 + i))) (ad 16) _ _ _ _
    exact ⟨fun _ => k, fun q => absurd (by decide) q⟩
  · intro n j v hj hv hk
    subst hv
    show X5_asGreat_l5_b G post (ad 3) (ad (rb r)) (ad (bg (80 + i))) (ad 16) _ _ _ _
    refine ⟨fun q => absurd q (by rw [show (40 : Int32) = nI 40 by decide]; exact nI_ge hj (by omega)), fun _ => counts_t H hr h hj ?_⟩
    unfold X5_asGreat_j38
    rw [nI_1, nI_1]
    have e : cgI A (szI A i) (j + 1) = cgI A (szI A i) j + (if (aK A j && decide (szI A i ≤ szI A j)) = true then 1 else 0) := rfl
    cases hs : aK A j
    · refine ⟨fun _ => hk _ ?_, fun q => absurd rfl q⟩
      rw [e, hs]; rfl
    · refine ⟨fun q => absurd q (by decide), fun _ => ⟨by rw [H.szl_]; exact vp_in_nI hj (by omega), _, by rw [nI_clamp (by omega)]; exact H.szr_ j hj, (H.big_ _ (ok80 hj)).1, ?_⟩⟩
      refine compareR H (ok80 hj) (ok80 hi) (hz j hj hs) (hz i hi hki) ?_
      rw [az_id (nn j), az_id (nn i), cmp_lt]
      refine ⟨fun q => hk _ ?_, fun q => hk _ ?_⟩
      · rw [e, hs, decide_eq_false (by omega)]; rfl
      · rw [e, hs, decide_eq_true (by omega)]; rfl
theorem findMiddle_sp (H : CS G ad ro) (hr : r < 4) (h : RowV ad D r A) (hz : ∀ t, t < 40 → aK A t = true → BigR ad D (80 + t) (szI A t)) {post : Dat → Prop} (k : ∀ D', FrP ro D D' (pB 5) → BigR ad D' 5 (mdI A 40) → post D') : X5_findMiddle_wp G D (ad 3) (ad (rb r)) post := by
  refine ⟨H.v_, H.row_ r hr, _, H.v4_, (H.big_ 5 ok5).1, _, H.v2_, H.sz_, counted_sp H hr h (setToR H ok5 (by decide) (fun D1 f1 b1 => ?_))⟩
  have nn : ∀ t, 0 ≤ szI A t := fun t => az_nn _
  have nR : ∀ q, pR r q → ¬ pB 5 q := fun q a b => by unfold pR rb at a; unfold pB bg at b; omega
  have hct := ct_le (aK A) 40
  have mn : ∀ n, 0 ≤ mdI A n := by
    intro n
    induction n with
    | zero => exact Int.le_refl 0
    | succ n ih => unfold mdI; split; exact nn n; exact ih
  have key := up_loop (L := fun n i (E : Dat) => X5_findMiddle_l15 G post (ad 3) (ad (rb r)) (ad (bg 5)) (ad 16) n (nI (ct (aK A) 40)) (nI i) E) 40 (fun i E => FrP ro D E (pB 5) ∧ BigR ad E 5 (mdI A i)) ?_ ?_ 0 D1 (by omega) ⟨f1, b1⟩
  · exact ⟨_, key⟩
  · intro n E hE
    show X5_findMiddle_l15_b G post (ad 3) (ad (rb r)) (ad (bg 5)) (ad 16) _ _ _ _
    exact ⟨fun _ => k E hE.1 hE.2, fun q => absurd (by decide) q⟩
  · intro n i E hi hE hk
    obtain ⟨fE, bE⟩ := hE
    have rE := h.fr H hr fE nR
    have zE : ∀ t, t < 40 → aK A t = true → BigR ad E (80 + t) (szI A t) := fun t ht hkt => (hz t ht hkt).fr H (ok80 ht) fE (fun w => by unfold pB bg at w; omega) (fun w => by unfold pB bg at w; omega)
    have em : mdI A (i + 1) = if aK A i = true ∧ mdI A i < szI A i ∧ ct (aK A) 40 ≤ 2 * cgI A (szI A i) 40 then szI A i else mdI A i := rfl
    show X5_findMiddle_l15_b G post (ad 3) (ad (rb r)) (ad (bg 5)) (ad 16) _ _ _ _
    unfold X5_findMiddle_l15_b X5_findMiddle_j49 X5_findMiddle_j50 X5_findMiddle_j87
    rw [nI_1]
    have stay : ¬ (aK A i = true ∧ mdI A i < szI A i ∧ ct (aK A) 40 ≤ 2 * cgI A (szI A i) 40) → X5_findMiddle_l15 G post (ad 3) (ad (rb r)) (ad (bg 5)) (ad 16) n (nI (ct (aK A) 40)) (nI (i + 1)) E := fun q => hk E ⟨fE, by rw [em, if_neg q]; exact bE⟩
    refine ⟨fun q => absurd q (by rw [show (40 : Int32) = nI 40 by decide]; exact nI_ge hi (by omega)), fun _ => counts_t H hr rE hi ?_⟩
    cases hs : aK A i
    · exact ⟨fun _ => ⟨fun _ => stay (fun w => by rw [hs] at w; exact absurd w.1 (by decide)), fun q => absurd rfl q⟩, fun q => absurd rfl q⟩
    · refine ⟨fun q => absurd q (by decide), fun _ => ⟨by rw [H.szl_]; exact vp_in_nI hi (by omega), _, by rw [nI_clamp (by omega)]; exact H.szr_ i hi, (H.big_ _ (ok80 hi)).1, ?_⟩⟩
      refine compareR H (ok80 hi) ok5 (zE i hi hs) bE ?_
      rw [az_id (nn i), az_id (mn i), cmp_le]
      refine ⟨fun q => ⟨fun _ => stay (fun w => by omega), fun q => absurd rfl q⟩, fun q => ⟨fun q => absurd q (by decide), fun _ => ?_⟩⟩
      refine ⟨by rw [H.szl_]; exact vp_in_nI hi (by omega), _, by rw [nI_clamp (by omega)]; exact H.szr_ i hi, (H.big_ _ (ok80 hi)).1, ?_⟩
      refine asGreat_sp H hr rE zE hi hs ?_
      have hcg := ct_le (fun u => aK A u && decide (szI A i ≤ szI A u)) 40
      have hcg : cgI A (szI A i) 40 ≤ 40 := hcg
      have e2 : 2 * nI (cgI A (szI A i) 40) = nI (2 * cgI A (szI A i) 40) := by rw [show (2 : Int32) = nI 2 by decide, pk_mul]
      rw [e2]
      refine ⟨fun q2 => stay (fun w => absurd q2 (nI_nlt w.2.2 (by omega))), fun q2 => ⟨by rw [H.szl_]; exact vp_in_nI hi (by omega), _, by rw [nI_clamp (by omega)]; exact H.szr_ i hi, (H.big_ _ (ok80 hi)).1, ?_⟩⟩
      have h2 : ct (aK A) 40 ≤ 2 * cgI A (szI A i) 40 := by
        by_cases w : ct (aK A) 40 ≤ 2 * cgI A (szI A i) 40
        · exact w
        · exact absurd (nI_lt (by omega) (by omega)) q2
      refine copyR H ok5 (ok80 hi) (by omega) (zE i hi hs) (fun D2 f2 b2 => hk D2 ⟨fE.tr f2, ?_⟩)
      rw [em, if_pos ⟨hs, by omega, h2⟩]
      exact b2
theorem isAbove_sp (H : CS G ad ro) (hA : RowOK A) (hp : Pv A none (nU A)) {i : Nat} (hi : i < 40) (hz : BigR ad D (80 + i) (szI A i)) (hm : BigR ad D 5 (mdI A 40)) {n d : Int32} (hn : okSh n) (hd : okSh d) {post : Int32 → Dat → Prop} (k : ∀ D', FrP ro D D' (fun q => pT q ∨ pB 6 q) → post (bI (decide (n.toInt * mdI A 40 < d.toInt * szI A i))) D') : X5_isAbove_wp G D (ad 3) (ad (bg (80 + i))) n d post := by
  have nT : ∀ b, ¬ pT (bg b) ∧ ¬ pT (bg b + 1) := fun b => by unfold pT bg; omega
  unfold okSh at hn hd
  have en : (-d).toInt = -d.toInt := I_neg (by omega)
  refine ⟨H.v_, (H.big_ _ (ok80 hi)).1, _, H.v1_, H.tal_.1, _, H.v4_, (H.big_ 5 ok5).1, _, H.v5_, (H.big_ 6 ok6).1, tclearR H (fun D1 f1 t1 => ?_)⟩
  refine addTimesR H ok5 t1 (by omega) (hm.fr H ok5 f1 (nT 5).1 (nT 5).2) (by rw [L_i2l]; omega) (by rw [L_i2l]; omega) (fun D2 f2 t2 => ?_)
  have F2 := f1.tr f2
  refine addTimesR H (ok80 hi) t2 (by omega) (hz.fr H (ok80 hi) F2 (nT _).1 (nT _).2) (by rw [L_i2l, en]; omega) (by rw [L_i2l, en]; omega) (fun D3 f3 t3 => ?_)
  rw [L_i2l, L_i2l, en] at t3
  have e : 0 + n.toInt * mdI A 40 + -d.toInt * szI A i = n.toInt * mdI A 40 - d.toInt * szI A i := by
    rw [Int.neg_mul]; omega
  rw [e] at t3
  have b1 := szI_b hA hp hi
  have b2 := mdI_b hA hp 40 (Nat.le_refl _)
  have m1 := mul_abs_le (X := 1000) (Y := 50000000000000000000000000000000000000000000) (x := n.toInt) (y := mdI A 40) (by omega) (by omega) (by omega) (by omega)
  have m2 := mul_abs_le (X := 1000) (Y := 50000000000000000000000000000000000000000000) (x := d.toInt) (y := szI A i) (by omega) (by omega) (by omega) (by omega)
  have pw : (1000 * 50000000000000000000000000000000000000000000 * 2 : Int) < 134217728 ^ 12 := by decide +kernel
  refine settleR H ok6 t3 (by omega) (by omega) (by omega) (fun D4 f4 b4 => ?_)
  rw [BigV.below b4]
  have e2 : (if n.toInt * mdI A 40 - d.toInt * szI A i < 0 then (1 : Int32) else 0) = bI (decide (n.toInt * mdI A 40 < d.toInt * szI A i)) := by
    by_cases q : n.toInt * mdI A 40 < d.toInt * szI A i
    · rw [if_pos (by omega), decide_eq_true q]; rfl
    · rw [if_neg (by omega), decide_eq_false q]; rfl
  rw [e2]
  exact ⟨bI_B _, k D4 (((F2.tr f3).up (fun q a => Or.inl a)).tr (f4.up (fun q a => Or.inr a)))⟩
theorem leaveOut_sp (H : CS G ad ro) (hr : r < 4) (h : RowV ad D r A) (hA : RowOK A) (hp : Pv A none (nU A)) (hz : ∀ t, t < 40 → aK A t = true → BigR ad D (80 + t) (szI A t)) (hm : BigR ad D 5 (mdI A 40)) {n d : Int32} (hn : okSh n) (hd : okSh d) {post : Int32 → Dat → Prop} (k : ∀ D', FrP ro D D' (fun q => pT q ∨ pB 6 q ∨ q = rS r 1 ∨ q = rS r 1 + 1) → RowV ad D' r (wX A (nwX A n.toInt d.toInt)) → post (bI (decide (ct (aX A) 40 < ct (nwX A n.toInt d.toInt) 40))) D') : X5_leaveOut_wp G D (ad 3) (ad (rb r)) n d post := by
  have s1 := H.set_ r hr 1 (by omega)
  refine ⟨H.v_, H.row_ r hr, _, H.row2_ r hr, s1.1, _, H.v2_, H.sz_, ?_⟩
  rw [h.2.2.1.2]
  have hct := ct_le (aX A) 40
  have hct2 := ct_le (nwX A n.toInt d.toInt) 40
  have key := up_loop (L := fun m i (E : Dat) => X5_leaveOut_l12 G post (ad 3) (ad (rb r)) n d (ad (rS r 1)) (ad 16) m (nI (ct (aX A) 40)) (nI i) E) 40 (fun i E => FrP ro D E (fun q => pT q ∨ pB 6 q ∨ q = rS r 1 ∨ q = rS r 1 + 1) ∧ RowV ad E r (wX A (fun t => if t < i then nwX A n.toInt d.toInt t else aX A t))) ?_ ?_ 0 D (by omega) ⟨FrP.rf, ?_⟩
  · exact ⟨_, key⟩
  · intro m E hE
    obtain ⟨fE, rE⟩ := hE
    show X5_leaveOut_l12_b G post (ad 3) (ad (rb r)) n d (ad (rS r 1)) (ad 16) _ _ _ _
    unfold X5_leaveOut_l12_b X5_leaveOut_j77
    have rF : RowV ad E r (wX A (nwX A n.toInt d.toInt)) := ⟨rE.1, rE.2.1, rE.2.2.1.same (fun t ht => if_pos ht), rE.2.2.2⟩
    have ea : aX (wX A (nwX A n.toInt d.toInt)) = nwX A n.toInt d.toInt := rfl
    rw [rF.2.2.1.2, ea]
    refine ⟨fun _ => ⟨fun q => ⟨isB_0, ?_⟩, fun q => ⟨isB_1, ?_⟩⟩, fun q => absurd (by decide) q⟩
    · have : ¬ ct (aX A) 40 < ct (nwX A n.toInt d.toInt) 40 := fun w => absurd q (nI_ge w (by omega))
      have := k E fE rF
      rw [decide_eq_false ‹_›] at this
      exact this
    · have : ct (aX A) 40 < ct (nwX A n.toInt d.toInt) 40 := by
        by_cases w : ct (aX A) 40 < ct (nwX A n.toInt d.toInt) 40
        · exact w
        · exact absurd (nI_le (by show ct (nwX A n.toInt d.toInt) 40 ≤ _; omega) (by omega)) q
      have := k E fE rF
      rw [decide_eq_true ‹_›] at this
      exact this
  · intro m i E hi hE hk
    obtain ⟨fE, rE⟩ := hE
    show X5_leaveOut_l12_b G post (ad 3) (ad (rb r)) n d (ad (rS r 1)) (ad 16) _ _ _ _
    unfold X5_leaveOut_l12_b X5_leaveOut_j54
    rw [nI_1]
    have rlt : rb r + 20 ≤ 440 := by unfold rb; omega
    have nz : ∀ t, t < 40 → ¬ (pT (bg (80 + t)) ∨ pB 6 (bg (80 + t)) ∨ bg (80 + t) = rS r 1 ∨ bg (80 + t) = rS r 1 + 1) ∧ ¬ (pT (bg (80 + t) + 1) ∨ pB 6 (bg (80 + t) + 1) ∨ bg (80 + t) + 1 = rS r 1 ∨ bg (80 + t) + 1 = rS r 1 + 1) := fun t ht => by unfold pT pB bg rS; omega
    have nm : ¬ (pT (bg 5) ∨ pB 6 (bg 5) ∨ bg 5 = rS r 1 ∨ bg 5 = rS r 1 + 1) ∧ ¬ (pT (bg 5 + 1) ∨ pB 6 (bg 5 + 1) ∨ bg 5 + 1 = rS r 1 ∨ bg 5 + 1 = rS r 1 + 1) := by unfold pT pB bg rS; omega
    have ak : aK (wX A (fun t => if t < i then nwX A n.toInt d.toInt t else aX A t)) i = aK A i := by
      show (aF A i && !(if i < i then nwX A n.toInt d.toInt i else aX A i)) = _
      rw [if_neg (by omega)]; rfl
    have stay : nwX A n.toInt d.toInt i = aX A i → ∀ E', FrP ro D E' (fun q => pT q ∨ pB 6 q ∨ q = rS r 1 ∨ q = rS r 1 + 1) → RowV ad E' r (wX A (fun t => if t < i then nwX A n.toInt d.toInt t else aX A t)) → X5_leaveOut_l12 G post (ad 3) (ad (rb r)) n d (ad (rS r 1)) (ad 16) m (nI (ct (aX A) 40)) (nI (i + 1)) E' := fun e E' fE' rE' => hk E' ⟨fE', rE'.1, rE'.2.1, rE'.2.2.1.same (fun t ht => by
      show (if t < i then nwX A n.toInt d.toInt t else aX A t) = (if t < i + 1 then nwX A n.toInt d.toInt t else aX A t)
      by_cases q : t < i
      · rw [if_pos q, if_pos (by omega)]
      · rw [if_neg q]
        by_cases q2 : t = i
        · rw [if_pos (by omega), q2, e]
        · rw [if_neg (by omega)]), rE'.2.2.2⟩
    refine ⟨fun q => absurd q (by rw [show (40 : Int32) = nI 40 by decide]; exact nI_ge hi (by omega)), fun _ => counts_t H hr rE hi ?_⟩
    rw [ak]
    cases hs : aK A i
    · refine ⟨fun _ => stay ?_ E fE rE, fun q => absurd rfl q⟩
      unfold nwX; rw [hs]; simp
    · refine ⟨fun q => absurd q (by decide), fun _ => ⟨by rw [H.szl_]; exact vp_in_nI hi (by omega), _, by rw [nI_clamp (by omega)]; exact H.szr_ i hi, (H.big_ _ (ok80 hi)).1, ?_⟩⟩
      refine isAbove_sp H hA hp hi ((hz i hi hs).fr H (ok80 hi) fE (nz i hi).1 (nz i hi).2) (hm.fr H ok5 fE nm.1 nm.2) hn hd (fun D1 f1 => ?_)
      have nR : ∀ q, pR r q → ¬ (pT q ∨ pB 6 q) := fun q a b => by unfold pR rb at a; unfold pT pB bg at b; omega
      have r1 := rE.fr H hr f1 nR
      have F1 := fE.tr (f1.up (fun q a => a.elim Or.inl (fun a => Or.inr (Or.inl a))))
      have ev : nwX A n.toInt d.toInt i = (aX A i || decide (n.toInt * mdI A 40 < d.toInt * szI A i)) := by
        unfold nwX
        rw [hs, Bool.true_and]
        have := above_R hA hp n.toInt d.toInt i
        by_cases q : n.toInt * mdI A 40 < d.toInt * szI A i
        · rw [decide_eq_true q, decide_eq_true (this.mp q)]
        · rw [decide_eq_false q, decide_eq_false (fun w => q (this.mpr w))]
      by_cases q : n.toInt * mdI A 40 < d.toInt * szI A i
      · rw [decide_eq_true q] at ev ⊢
        refine ⟨fun q => absurd q (by decide), fun _ => ?_⟩
        refine add_sp s1 r1.2.2.1 hi (fun D2 f2 c2 => ?_)
        have f2' := fr_S H (rS_lt hr (by omega)) f2
        have r2 := r1.kX H hr f2' c2
        refine hk D2 ⟨F1.tr (f2'.up (fun q a => Or.inr (Or.inr a))), r2.1, r2.2.1, r2.2.2.1.same (fun t ht => ?_), r2.2.2.2⟩
        show ups (fun t => if t < i then nwX A n.toInt d.toInt t else aX A t) i true t = (if t < i + 1 then nwX A n.toInt d.toInt t else aX A t)
        by_cases w : t = i
        · rw [w, ups_s, if_pos (by omega), ev, Bool.or_true]
        · rw [ups_n w]
          by_cases w2 : t < i
          · rw [if_pos w2, if_pos (by omega)]
          · rw [if_neg w2, if_neg (by omega)]
      · rw [decide_eq_false q] at ev ⊢
        exact ⟨fun _ => stay (by rw [ev, Bool.or_false]) D1 F1 r1, fun q => absurd rfl q⟩
  · exact ⟨h.1, h.2.1, h.2.2.1.same (fun t ht => by show aX A t = if t < 0 then nwX A n.toInt d.toInt t else aX A t; rw [if_neg (by omega)]), h.2.2.2⟩
end SW
