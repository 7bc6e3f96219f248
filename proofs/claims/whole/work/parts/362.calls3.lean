/-! the calls that tell a fraction -/
def sTell (S : AS) (q : Rat) : Int32 × AS := (nI (outR q).length, stO S (outR q))
def sCl (S : AS) (A : AR) (u : Option Nat) (q : Rat) : Int32 × AS := if clB A u = true then sTell S q else (-1, stS S 6)
def partR (A : AR) (w : Int) : Rat := if w = 0 then levR A none else if w = 1 then (if aL A = true then Xq A none (plc A) else 0) else cstR A none
def sPart (S : AS) (a w : Int32) : Int32 × AS := if okR a then (if 0 ≤ w.toInt ∧ w.toInt ≤ 2 then sCl S (S.1 (tn a)) none (partR (S.1 (tn a)) w.toInt) else (-1, stS S 2)) else (-1, stS S 1)
def sStepBy (S : AS) (a j : Int32) : Int32 × AS := if okR a then (if 0 ≤ j.toInt ∧ j.toInt < ct (aS (S.1 (tn a))) 40 then sCl S (S.1 (tn a)) none (Xq (S.1 (tn a)) none (plc (S.1 (tn a)) + ((rmp (S.1 (tn a))).length + tn j))) else (-1, stS S 5)) else (-1, stS S 1)
def sFeastBy (S : AS) (a f : Int32) : Int32 × AS := if okR a then (if 0 ≤ f.toInt ∧ f.toInt < aC (S.1 (tn a)) then sCl S (S.1 (tn a)) none (Xq (S.1 (tn a)) none (plc (S.1 (tn a)) + (fFr (S.1 (tn a)) + tn f))) else (-1, stS S 5)) else (-1, stS S 1)
def sSeason (S : AS) (a p : Int32) : Int32 × AS := if okR a then (if 0 ≤ p.toInt ∧ p.toInt < aP (S.1 (tn a)) then sCl S (S.1 (tn a)) none (Xq (S.1 (tn a)) none (tn p) - levR (S.1 (tn a)) none) else (-1, stS S 5)) else (-1, stS S 1)
def atR (A : AR) (t : Nat) (w : Int) : Rat := if w = 0 then levR A none + unR A none t 0 (fFr A) else if w = 1 then Xq A none (t % plc A) - levR A none else if w = 2 then unR A none t (fFr A) (nU A) else foR A none t
def sAt (S : AS) (a t w : Int32) : Int32 × AS := if okR a ∧ okF t then (if 0 ≤ w.toInt ∧ w.toInt ≤ 3 then sCl S (S.1 (tn a)) none (atR (S.1 (tn a)) (tn t) w.toInt) else (-1, stS S 2)) else (-1, stS S 1)
def sRest (S : AS) (a t : Int32) : Int32 × AS := if okR a ∧ okT t then (if aF (S.1 (tn a)) (tn t) = true then sCl S (S.1 (tn a)) none ((aN (S.1 (tn a)) (tn t) : Int) - foR (S.1 (tn a)) none (tn t)) else (-1, stS S 7)) else (-1, stS S 1)
def sPull (S : AS) (a u t : Int32) : Int32 × AS := if okR a ∧ okT u ∧ okF t then (if aK (S.1 (tn a)) (tn u) = true then sCl S (S.1 (tn a)) (some (tn u)) (foR (S.1 (tn a)) (some (tn u)) (tn t)) else (-1, stS S 7)) else (-1, stS S 1)
theorem div1 {x y z : Rat} (hy : y ≠ 0) (h : x = y * z) : x / y / ((1 : Nat) : Int) = z := by
  have e : (((1 : Nat) : Int) : Rat) = 1 := rfl
  rw [e, h]
  grind
theorem divp {x y z w : Rat} (hy : y ≠ 0) (hw : w ≠ 0) (h : x = y * w * z) : x / y / w = z := by
  rw [h]
  grind
section C3
variable {G : Shp} {ad ro : Nat → Nat} {D : Dat} {S : AS} {Z : Dat} {post : Int32 → Dat → Prop} {A : AR} {u : Option Nat}
theorem nU_eq (A : AR) : nU A = (rmp A).length + ct (aS A) 40 + aC A := by
  unfold nU uc
  rw [List.length_append, List.length_append, List.length_map, stl_len, fsl_len]
theorem fFr_eq (A : AR) : fFr A = (rmp A).length + ct (aS A) 40 := by
  unfold fFr
  rw [List.length_append, List.length_map, stl_len]
theorem pP_pZ {q : Nat} (h : pP q) : pZ q := by unfold pP at h; unfold pZ; omega
theorem pI_pZ {b q : Nat} (hb : okI b) (h : pI b q) : pZ q := by unfold pI pT pB bg at h; unfold okI at hb; unfold pZ; omega
theorem ok_0 : okI 0 := by unfold okI; omega
/-- the find of a call -/
theorem find_c (H : CS G ad ro) {r : Nat} (hr : r < 4) (h : ClV ad ro Z D S) (hA : S.1 r = A) (hu : uOK u) {W : Int32 → Dat → Prop} (k1 : ∀ D', ClV ad ro Z D' S → FdV ad D' A u → clB A u = true → W 1 D') (k0 : ∀ D', ClV ad ro Z D' S → clB A u = false → W 0 D') : X2_find_wp G D (ad 2) (ad (rb r)) (uI u) W := by
  subst hA
  refine find_sp H hr (h.1 r hr).1 (h.1 r hr).2 hu (fun D1 f1 w1 => k1 D1 (h.fr H f1 (fun q => pP_pZ)) w1 (clB_t.mpr w1.pv)) (fun D1 f1 w1 => k0 D1 (h.fr H f1 (fun q => pP_pZ)) (clB_f.mpr w1))
/-- a part is told, behind the work on it -/
theorem tell_c (H : CS G ad ro) (hA : RowOK A) {D0 : Dat} (h0 : ClV ad ro Z D0 S) (hf : FdV ad D0 A u) (f : FrP ro D0 D (pI 0)) {T : Int} (hT : BigR ad D 0 T) (bT : -1000000000000000000000000000000000000000000000 ≤ T ∧ T ≤ 1000000000000000000000000000000000000000000000) {d : Nat} (hd1 : 1 ≤ d) (hd : d ≤ 7) {q : Rat} (hq : (T : Rat) / (zD A u : Int) / ((d : Int) : Rat) = q) (k : ∀ D', ClV ad ro Z D' (sTell S q).2 → post (sTell S q).1 D') : X8_tell_wp G D (ad 0) (nI d) post := by
  subst hq
  have h1 := h0.fr H f (fun q => pI_pZ ok_0)
  have w1 := hf.fI H hA ok_0 f
  have d1 := zD_pos hf.pv
  have d2 := zD_lt hA (Nat.le_refl _) hf.pv
  exact tell_sp H h1 hT w1.1.2.2.2.2 bT ⟨d1, d2⟩ hd1 hd k
theorem plc_R0 (hA : RowOK A) : (((plc A : Nat) : Int) : Rat) ≠ 0 := cast_pos (by have := plc_b hA; omega)
theorem lev_top (hA : RowOK A) (hp : Pv A u (nU A)) : ((lvS A u (plc A) : Int) : Rat) = (zD A u : Int) * ((plc A : Nat) : Int) * levR A u := by
  have h1 := plc_R0 hA
  rw [lvS_R hp]
  unfold levR
  generalize (((plc A : Nat) : Int) : Rat) = x at *
  generalize su (fun p => Xq A u p) (plc A) = y
  grind
theorem part_sp (H : CS G ad ro) (h : ClV ad ro Z D S) {a w : Int32} (k : ∀ D', ClV ad ro Z D' (sPart S a w).2 → post (sPart S a w).1 D') : X8_part_wp G D (ad 0) a w post := by
  unfold sPart sCl at k
  have ok0 : okb 0 := by unfold okb; omega
  refine ⟨H.x_, _, H.x1_, H.p_, _, H.x5_, (H.big_ 0 ok0).1, rowOf_sp H (fun n0 => ?_) (fun r0 => ⟨fun q => (nomatch q), fun y q => ?_⟩)⟩
  · rw [if_neg n0] at k
    exact ⟨fun _ => giveNone_sp H h (fun D' c => k D' c), fun y q => (nomatch q)⟩
  cases q
  rw [if_pos r0] at k
  have hr := tn_R r0
  have hA := (h.1 _ hr).2
  have e0 : (0 : Int32).toInt = 0 := rfl
  have e1 : (1 : Int32).toInt = 1 := rfl
  have e2 : (2 : Int32).toInt = 2 := rfl
  refine ⟨fun q => ?_, fun q => ⟨fun q2 => ?_, fun q2 => ?_⟩⟩
  · have := (I_lt _ _).mp q
    rw [if_neg (by omega)] at k
    exact giveNone_sp H h (fun D' c => k D' c)
  rotate_left
  · have : ¬ w.toInt ≤ (2 : Int32).toInt := fun z => q2 ((I_le _ _).mpr z)
    rw [if_neg (by omega)] at k
    exact giveNone_sp H h (fun D' c => k D' c)
  have h1 : ¬ w.toInt < (0 : Int32).toInt := fun z => q ((I_lt _ _).mpr z)
  have h2 := (I_le _ _).mp q2
  rw [if_pos (by omega)] at k
  refine find_c (u := none) H hr h rfl (fun x e => (nomatch e)) (fun D1 c1 w1 cl => ⟨fun _ => ?_, fun q => absurd q (by decide)⟩) (fun D1 c1 cl => ⟨fun q => absurd rfl q, fun _ => ?_⟩)
  rotate_left
  · rw [if_neg (by rw [cl]; decide)] at k
    exact giveNone_sp H c1 (fun D' c => k D' c)
  rw [if_pos cl] at k
  generalize S.1 (tn a) = A at *
  unfold partR at k
  have z0 := zD_R0 w1.pv
  have hpl := plc_b hA
  refine ⟨fun q3 => ?_, fun q3 => ?_⟩
  · have w0 : w.toInt ≠ 0 := fun z => q3 ((I_eq _ _).mpr z)
    rw [if_neg w0] at k
    refine ⟨fun q4 => ?_, fun q4 => ?_⟩
    · have w1' : w.toInt ≠ 1 := fun z => q4 ((I_eq _ _).mpr z)
      rw [if_neg w1'] at k
      have hb := Bz_b hA (u := none) (Nat.le_refl _) w1.pv (nU A) (nU A)
      refine cost_sp H hA w1.1 ok_0 (fun D2 f2 b2 => tell_c (d := 1) H hA c1 w1 f2 b2 ⟨by omega, by omega⟩ (by omega) (by omega) (div1 z0 (cst_R w1.pv)) k)
    · rw [if_pos (by rw [q4]; rfl)] at k
      refine slope_sp H hA w1 ok_0 (fun D2 f2 b2 => ?_)
      by_cases hl : aL A = true
      · have hn : 0 < nU A := by
          rw [nU_eq, rmp_len, if_pos hl]; omega
        have ht := Tz_b hA w1.pv (i := 0) hn
        rw [Nat.add_zero] at ht
        rw [if_pos hl] at k b2
        refine tell_c (d := 1) H hA c1 w1 f2 b2 ⟨by unfold zT; omega, by unfold zT; omega⟩ (by omega) (by omega) (div1 z0 (zT_R w1.pv (by omega))) k
      · rw [if_neg hl] at k b2
        refine tell_c (d := 1) H hA c1 w1 f2 b2 ⟨by omega, by omega⟩ (by omega) (by omega) (div1 z0 (by rw [cast_0]; grind)) k
  · rw [if_pos (by rw [q3]; rfl)] at k
    refine level_sp H hA w1 ok_0 (fun D2 f2 b2 => ?_)
    have hb := lvS_bb hA w1.pv
    rw [(w1.fI H hA ok_0 f2).1.pl]
    exact tell_c H hA c1 w1 f2 b2 ⟨by omega, by omega⟩ (by omega) (by omega) (divp z0 (plc_R0 hA) (lev_top hA w1.pv)) k
theorem stepBy_sp (H : CS G ad ro) (h : ClV ad ro Z D S) {a j : Int32} (k : ∀ D', ClV ad ro Z D' (sStepBy S a j).2 → post (sStepBy S a j).1 D') : X8_stepBy_wp G D (ad 0) a j post := by
  unfold sStepBy sCl at k
  have ok0 : okb 0 := by unfold okb; omega
  refine ⟨H.x_, _, H.x1_, H.p_, _, H.x5_, (H.big_ 0 ok0).1, rowOf_sp H (fun n0 => ?_) (fun r0 => ⟨fun q => (nomatch q), fun y q => ?_⟩)⟩
  · rw [if_neg n0] at k
    exact ⟨fun _ => giveNone_sp H h (fun D' c => k D' c), fun y q => (nomatch q)⟩
  cases q
  rw [if_pos r0] at k
  have hr := tn_R r0
  have hA := (h.1 _ hr).2
  have e0 : (0 : Int32).toInt = 0 := rfl
  have hct := ct_le (aS (S.1 (tn a))) 40
  refine ⟨fun q => ?_, fun q => ⟨H.row_ _ hr, _, H.row3_ _ hr, (H.set_ _ hr 2 (by omega)).1, ?_⟩⟩
  · have := (I_lt _ _).mp q
    rw [if_neg (by omega)] at k
    exact giveNone_sp H h (fun D' c => k D' c)
  have h1 : ¬ j.toInt < (0 : Int32).toInt := fun z => q ((I_lt _ _).mpr z)
  rw [(h.1 _ hr).1.2.2.2.1.2]
  have ec : (nI (ct (aS (S.1 (tn a))) 40)).toInt = (ct (aS (S.1 (tn a))) 40 : Int) := nI_toInt (by omega)
  refine ⟨fun q2 => ?_, fun q2 => ?_⟩
  rotate_left
  · have : ¬ j.toInt < (nI (ct (aS (S.1 (tn a))) 40)).toInt := fun z => q2 ((I_lt _ _).mpr z)
    rw [if_neg (by omega)] at k
    exact giveNone_sp H h (fun D' c => k D' c)
  have h2 := (I_lt _ _).mp q2
  rw [if_pos (by omega)] at k
  have tj := tn_c (v := j) (by omega)
  have ej := tn_nI (v := j) (by omega)
  refine find_c (u := none) H hr h rfl (fun x e => (nomatch e)) (fun D1 c1 w1 cl => ⟨fun _ => ?_, fun q => absurd q (by decide)⟩) (fun D1 c1 cl => ⟨fun q => absurd rfl q, fun _ => ?_⟩)
  rotate_left
  · rw [if_neg (by rw [cl]; decide)] at k
    exact giveNone_sp H c1 (fun D' c => k D' c)
  rw [if_pos cl] at k
  generalize S.1 (tn a) = A at *
  have z0 := zD_R0 w1.pv
  have hn := nU_eq A
  have h6 := nU_le hA
  have en : D1.1 (ad 2) 12 + j = nI ((rmp A).length + tn j) := by
    have : D1.1 (ad 2) 12 = nI (rmp A).length := w1.1.1.1.2.2.1
    generalize tn j = x at *
    subst ej
    rw [this, nI_add]
  rw [en]
  have hi : (rmp A).length + tn j < nU A := by omega
  have ht := Tz_b hA w1.pv hi
  refine unknown_sp H hA w1 hi ok_0 (fun D2 f2 b2 => ?_)
  exact tell_c (d := 1) H hA c1 w1 f2 b2 ⟨by unfold zT; omega, by unfold zT; omega⟩ (by omega) (by omega) (div1 z0 (zT_R w1.pv (by omega))) k
theorem feastBy_sp (H : CS G ad ro) (h : ClV ad ro Z D S) {a f : Int32} (k : ∀ D', ClV ad ro Z D' (sFeastBy S a f).2 → post (sFeastBy S a f).1 D') : X8_feastBy_wp G D (ad 0) a f post := by
  unfold sFeastBy sCl at k
  have ok0 : okb 0 := by unfold okb; omega
  refine ⟨H.x_, _, H.x1_, H.p_, _, H.x5_, (H.big_ 0 ok0).1, rowOf_sp H (fun n0 => ?_) (fun r0 => ⟨fun q => (nomatch q), fun y q => ?_⟩)⟩
  · rw [if_neg n0] at k
    exact ⟨fun _ => giveNone_sp H h (fun D' c => k D' c), fun y q => (nomatch q)⟩
  cases q
  rw [if_pos r0] at k
  have hr := tn_R r0
  have hR := h.1 _ hr
  have hA := hR.2
  refine ⟨H.row_ _ hr, hasFeast_sp H hr hR.1 hR.2.2.2.2.2.2.1 ?_⟩
  by_cases hf : 0 ≤ f.toInt ∧ f.toInt < aC (S.1 (tn a))
  rotate_left
  · rw [decide_eq_false hf]
    rw [if_neg hf] at k
    exact ⟨fun q => absurd rfl q, fun _ => giveNone_sp H h (fun D' c => k D' c)⟩
  rw [decide_eq_true hf]
  rw [if_pos hf] at k
  have tj := tn_c hf.1
  have ej := tn_nI hf.1
  refine ⟨fun _ => ?_, fun q => absurd q (by decide)⟩
  refine find_c (u := none) H hr h rfl (fun x e => (nomatch e)) (fun D1 c1 w1 cl => ⟨fun _ => ?_, fun q => absurd q (by decide)⟩) (fun D1 c1 cl => ⟨fun q => absurd rfl q, fun _ => ?_⟩)
  rotate_left
  · rw [if_neg (by rw [cl]; decide)] at k
    exact giveNone_sp H c1 (fun D' c => k D' c)
  rw [if_pos cl] at k
  generalize S.1 (tn a) = A at *
  have z0 := zD_R0 w1.pv
  have hn := nU_eq A
  have hn2 := fFr_eq A
  have h6 := nU_le hA
  have en : D1.1 (ad 2) 13 + f = nI (fFr A + tn f) := by
    have : D1.1 (ad 2) 13 = nI (fFr A) := w1.1.1.1.2.2.2
    generalize tn f = x at *
    subst ej
    rw [this, nI_add]
  rw [en]
  have hi : fFr A + tn f < nU A := by omega
  have ht := Tz_b hA w1.pv hi
  refine unknown_sp H hA w1 hi ok_0 (fun D2 f2 b2 => ?_)
  exact tell_c (d := 1) H hA c1 w1 f2 b2 ⟨by unfold zT; omega, by unfold zT; omega⟩ (by omega) (by omega) (div1 z0 (zT_R w1.pv (by omega))) k
theorem season_b (hA : RowOK A) (hp : Pv A u (nU A)) {p : Nat} (hpl : p < plc A) : -1000000000000000000000000000000000000000000000 ≤ plc A * zT A u p - lvS A u (plc A) ∧ plc A * zT A u p - lvS A u (plc A) ≤ 1000000000000000000000000000000000000000000000 := by
  have h7 := plc_b hA
  have hB := lvS_bb hA hp
  have hU := Tp_b hA hp hpl
  have hM := mul_abs_le (X := 7) (x := (plc A : Int)) (y := zz (Tq A u p)) (by omega) (by omega) hU.1 hU.2
  unfold zT
  omega
theorem season_R (hA : RowOK A) (hp : Pv A u (nU A)) {p : Nat} (hpl : p < plc A) : ((plc A * zT A u p - lvS A u (plc A) : Int) : Rat) = (zD A u : Int) * ((plc A : Nat) : Int) * (Xq A u p - levR A u) := by
  rw [cast_sub, cast_mul, zT_R hp (by omega), lev_top hA hp]
  generalize (((plc A : Nat) : Int) : Rat) = x
  generalize levR A u = y
  generalize Xq A u p = z
  grind
theorem season_sp (H : CS G ad ro) (h : ClV ad ro Z D S) {a p : Int32} (k : ∀ D', ClV ad ro Z D' (sSeason S a p).2 → post (sSeason S a p).1 D') : X8_season_wp G D (ad 0) a p post := by
  unfold sSeason sCl at k
  have ok0 : okb 0 := by unfold okb; omega
  refine ⟨H.x_, _, H.x1_, H.p_, _, H.x5_, (H.big_ 0 ok0).1, rowOf_sp H (fun n0 => ?_) (fun r0 => ⟨fun q => (nomatch q), fun y q => ?_⟩)⟩
  · rw [if_neg n0] at k
    exact ⟨fun _ => giveNone_sp H h (fun D' c => k D' c), fun y q => (nomatch q)⟩
  cases q
  rw [if_pos r0] at k
  have hr := tn_R r0
  have hA := (h.1 _ hr).2
  have e0 : (0 : Int32).toInt = 0 := rfl
  have hper := hA.2.2.2.2.2.2
  refine ⟨fun q => ?_, fun q => ⟨H.row_ _ hr, ?_⟩⟩
  · have := (I_lt _ _).mp q
    rw [if_neg (by omega)] at k
    exact giveNone_sp H h (fun D' c => k D' c)
  have h1 : ¬ p.toInt < (0 : Int32).toInt := fun z => q ((I_lt _ _).mpr z)
  rw [(h.1 _ hr).1.2.2.2.2.2.2.2]
  have ec : (nI (aP (S.1 (tn a)))).toInt = (aP (S.1 (tn a)) : Int) := nI_toInt (by omega)
  refine ⟨fun q2 => ?_, fun q2 => ?_⟩
  rotate_left
  · have : ¬ p.toInt < (nI (aP (S.1 (tn a)))).toInt := fun z => q2 ((I_lt _ _).mpr z)
    rw [if_neg (by omega)] at k
    exact giveNone_sp H h (fun D' c => k D' c)
  have h2 := (I_lt _ _).mp q2
  rw [if_pos (by omega)] at k
  have tj := tn_c (v := p) (by omega)
  have ej := tn_nI (v := p) (by omega)
  refine find_c (u := none) H hr h rfl (fun x e => (nomatch e)) (fun D1 c1 w1 cl => ⟨fun _ => ?_, fun q => absurd q (by decide)⟩) (fun D1 c1 cl => ⟨fun q => absurd rfl q, fun _ => ?_⟩)
  rotate_left
  · rw [if_neg (by rw [cl]; decide)] at k
    exact giveNone_sp H c1 (fun D' c => k D' c)
  rw [if_pos cl] at k
  generalize S.1 (tn a) = A at *
  have z0 := zD_R0 w1.pv
  have hpl : tn p < plc A := by unfold plc; rw [if_neg (by omega)]; omega
  have h7 := plc_b hA
  generalize tn p = x at *
  subst ej
  refine seasonOf_sp H hA w1 hpl ok_0 (fun D2 f2 b2 => ?_)
  rw [(w1.fI H hA ok_0 f2).1.pl]
  exact tell_c H hA c1 w1 f2 b2 (season_b hA w1.pv hpl) (by omega) (by omega) (divp z0 (plc_R0 hA) (season_R hA w1.pv hpl)) k
theorem at_sp (H : CS G ad ro) (h : ClV ad ro Z D S) {a t w : Int32} (k : ∀ D', ClV ad ro Z D' (sAt S a t w).2 → post (sAt S a t w).1 D') : X8_at_wp G D (ad 0) a t w post := by
  unfold sAt sCl at k
  have ok0 : okb 0 := by unfold okb; omega
  refine ⟨H.x_, _, H.x1_, H.p_, _, H.x5_, (H.big_ 0 ok0).1, rowOf_sp H (fun n0 => ?_) (fun r0 => ⟨fun q => (nomatch q), fun y q => ?_⟩)⟩
  · rw [if_neg (fun w => n0 w.1)] at k
    exact ⟨fun _ => giveNone_sp H h (fun D' c => k D' c), fun y q => (nomatch q)⟩
  cases q
  refine isFar_if (fun n0 => ⟨fun q => absurd rfl q, fun _ => ?_⟩) (fun t0 => ⟨fun _ => ?_, fun q => absurd q (by decide)⟩)
  · rw [if_neg (fun w => n0 w.2)] at k
    exact giveNone_sp H h (fun D' c => k D' c)
  rw [if_pos ⟨r0, t0⟩] at k
  have hr := tn_R r0
  have ht := tn_F t0
  have et := tn_nI t0.1
  have hA := (h.1 _ hr).2
  have e0 : (0 : Int32).toInt = 0 := rfl
  have e3 : (3 : Int32).toInt = 3 := rfl
  refine ⟨fun q => ?_, fun q => ⟨fun q2 => ?_, fun q2 => ?_⟩⟩
  · have := (I_lt _ _).mp q
    rw [if_neg (by omega)] at k
    exact giveNone_sp H h (fun D' c => k D' c)
  rotate_left
  · have : ¬ w.toInt ≤ (3 : Int32).toInt := fun z => q2 ((I_le _ _).mpr z)
    rw [if_neg (by omega)] at k
    exact giveNone_sp H h (fun D' c => k D' c)
  have h1 : ¬ w.toInt < (0 : Int32).toInt := fun z => q ((I_lt _ _).mpr z)
  have h2 := (I_le _ _).mp q2
  rw [if_pos (by omega)] at k
  refine find_c (u := none) H hr h rfl (fun x e => (nomatch e)) (fun D1 c1 w1 cl => ⟨fun _ => ?_, fun q => absurd q (by decide)⟩) (fun D1 c1 cl => ⟨fun q => absurd rfl q, fun _ => ?_⟩)
  rotate_left
  · rw [if_neg (by rw [cl]; decide)] at k
    exact giveNone_sp H c1 (fun D' c => k D' c)
  rw [if_pos cl] at k
  generalize S.1 (tn a) = A at *
  unfold atR at k
  generalize tn t = x at *
  subst et
  have z0 := zD_R0 w1.pv
  have hpl := plc_b hA
  have hU := unS_bb hA w1.pv ht 0 (fFr_le (A := A))
  have hU2 := unS_bb hA w1.pv ht (fFr A) (Nat.le_refl (nU A))
  have hB := lvS_bb hA w1.pv
  have hF := foS_b hA w1.pv ht
  refine ⟨fun q3 => ?_, fun q3 => ?_, fun q3 => ?_, fun q3 => ?_⟩
  · rw [if_neg (by omega), if_neg (by omega), if_neg (by omega)] at k
    exact foretold_sp H hA w1 ht ok_0 (fun D2 f2 b2 => tell_c (d := 1) H hA c1 w1 f2 b2 ⟨by omega, by omega⟩ (by omega) (by omega) (div1 z0 (foS_R hA w1.pv x)) k)
  · rw [if_pos q3] at k
    refine trend_sp H hA w1 ht ok_0 (fun D2 f2 b2 => ?_)
    have hM := mul_abs_le (X := 7) (x := (plc A : Int)) (y := unS A none x 0 (fFr A)) (by omega) (by omega) hU.1 hU.2
    rw [(w1.fI H hA ok_0 f2).1.pl]
    refine tell_c H hA c1 w1 f2 b2 ⟨by omega, by omega⟩ (by omega) (by omega) (divp z0 (plc_R0 hA) ?_) k
    rw [cast_add, cast_mul, lev_top hA w1.pv, unS_R w1.pv x 0 fFr_le]
    generalize (((plc A : Nat) : Int) : Rat) = y
    generalize levR A none = z
    generalize unR A none x 0 (fFr A) = v
    grind
  · rw [if_neg (by omega), if_pos q3] at k
    have hm : x % plc A < plc A := Nat.mod_lt _ (by omega)
    refine placeOf_sp H hA w1.1.pl (by omega) (seasonOf_sp H hA w1 hm ok_0 (fun D2 f2 b2 => ?_))
    rw [(w1.fI H hA ok_0 f2).1.pl]
    exact tell_c H hA c1 w1 f2 b2 (season_b hA w1.pv hm) (by omega) (by omega) (divp z0 (plc_R0 hA) (season_R hA w1.pv hm)) k
  · rw [if_neg (by omega), if_neg (by omega), if_pos q3] at k
    exact feastsOn_sp H hA w1 ht ok_0 (fun D2 f2 b2 => tell_c (d := 1) H hA c1 w1 f2 b2 ⟨by omega, by omega⟩ (by omega) (by omega) (div1 z0 (unS_R w1.pv x (fFr A) (Nat.le_refl _))) k)
theorem left_R (hA : RowOK A) (hp : Pv A u (nU A)) (t : Nat) : ((zD A u * yv A u t - foS A u t : Int) : Rat) = (zD A u : Int) * ((yv A u t : Int) - foR A u t) := by
  rw [cast_sub, cast_mul, foS_R hA hp]
  grind
theorem rest_sp (H : CS G ad ro) (h : ClV ad ro Z D S) {a t : Int32} (k : ∀ D', ClV ad ro Z D' (sRest S a t).2 → post (sRest S a t).1 D') : X8_rest_wp G D (ad 0) a t post := by
  unfold sRest sCl at k
  have ok0 : okb 0 := by unfold okb; omega
  refine ⟨H.x_, _, H.x1_, H.p_, _, H.x5_, (H.big_ 0 ok0).1, rowOf_sp H (fun n0 => ?_) (fun r0 => ⟨fun q => (nomatch q), fun y q => ?_⟩)⟩
  · rw [if_neg (fun w => n0 w.1)] at k
    exact ⟨fun _ => giveNone_sp H h (fun D' c => k D' c), fun y q => (nomatch q)⟩
  cases q
  refine isTick_if (fun n0 => ⟨fun q => absurd rfl q, fun _ => ?_⟩) (fun t0 => ⟨fun _ => ?_, fun q => absurd q (by decide)⟩)
  · rw [if_neg (fun w => n0 w.2)] at k
    exact giveNone_sp H h (fun D' c => k D' c)
  rw [if_pos ⟨r0, t0⟩] at k
  have hr := tn_R r0
  have ht := tn_T t0
  have et := tn_nI t0.1
  have hA := (h.1 _ hr).2
  generalize tn t = x at *
  subst et
  have s0 := H.set_ _ hr 0 (by omega)
  refine ⟨H.row_ _ hr, _, H.row1_ _ hr, s0.1, has_sp s0 (h.1 _ hr).1.2.1 (by omega) ?_⟩
  rw [decide_eq_true ht, Bool.true_and]
  cases hs : aF (S.1 (tn a)) x
  · rw [hs, if_neg (by decide)] at k
    exact ⟨fun q => absurd rfl q, fun _ => giveNone_sp H h (fun D' c => k D' c)⟩
  rw [hs, if_pos rfl] at k
  refine ⟨fun _ => ?_, fun q => absurd q (by decide)⟩
  refine find_c (u := none) H hr h rfl (fun x e => (nomatch e)) (fun D1 c1 w1 cl => ⟨fun _ => ?_, fun q => absurd q (by decide)⟩) (fun D1 c1 cl => ⟨fun q => absurd rfl q, fun _ => ?_⟩)
  rotate_left
  · rw [if_neg (by rw [cl]; decide)] at k
    exact giveNone_sp H c1 (fun D' c => k D' c)
  rw [if_pos cl] at k
  generalize S.1 (tn a) = A at *
  have z0 := zD_R0 w1.pv
  have hb := leftOver_b hA w1.pv ht
  exact leftOver_sp H hA w1 ht ok_0 (fun D2 f2 b2 => tell_c (d := 1) H hA c1 w1 f2 b2 ⟨by omega, by omega⟩ (by omega) (by omega) (div1 z0 (left_R hA w1.pv x)) k)
theorem pull_sp (H : CS G ad ro) (h : ClV ad ro Z D S) {a u t : Int32} (k : ∀ D', ClV ad ro Z D' (sPull S a u t).2 → post (sPull S a u t).1 D') : X8_pull_wp G D (ad 0) a u t post := by
  unfold sPull sCl at k
  have ok0 : okb 0 := by unfold okb; omega
  refine ⟨H.x_, _, H.x1_, H.p_, _, H.x5_, (H.big_ 0 ok0).1, rowOf_sp H (fun n0 => ?_) (fun r0 => ⟨fun q => (nomatch q), fun y q => ?_⟩)⟩
  · rw [if_neg (fun w => n0 w.1)] at k
    exact ⟨fun _ => giveNone_sp H h (fun D' c => k D' c), fun y q => (nomatch q)⟩
  cases q
  refine isTick_if (fun n0 => ⟨fun _ => ?_, fun q => absurd rfl q⟩) (fun u0 => ⟨fun q => absurd q (by decide), fun _ => ?_⟩)
  · rw [if_neg (fun w => n0 w.2.1)] at k
    exact giveNone_sp H h (fun D' c => k D' c)
  refine isFar_if (fun n0 => ⟨fun q => absurd rfl q, fun _ => ?_⟩) (fun t0 => ⟨fun _ => ?_, fun q => absurd q (by decide)⟩)
  · rw [if_neg (fun w => n0 w.2.2)] at k
    exact giveNone_sp H h (fun D' c => k D' c)
  rw [if_pos ⟨r0, u0, t0⟩] at k
  have hr := tn_R r0
  have ht := tn_F t0
  have et := tn_nI t0.1
  have hu := tn_T u0
  have eu := tn_nI u0.1
  have hA := (h.1 _ hr).2
  generalize tn t = x at *
  subst et
  generalize tn u = z at *
  subst eu
  refine ⟨H.row_ _ hr, counts_t H hr (h.1 _ hr).1 hu ?_⟩
  cases hs : aK (S.1 (tn a)) z
  · rw [hs, if_neg (by decide)] at k
    exact ⟨fun q => absurd rfl q, fun _ => giveNone_sp H h (fun D' c => k D' c)⟩
  rw [hs, if_pos rfl] at k
  refine ⟨fun _ => ?_, fun q => absurd q (by decide)⟩
  refine find_c (u := some z) H hr h rfl (fun x e => by cases e; exact hu) (fun D1 c1 w1 cl => ⟨fun _ => ?_, fun q => absurd q (by decide)⟩) (fun D1 c1 cl => ⟨fun q => absurd rfl q, fun _ => ?_⟩)
  rotate_left
  · rw [if_neg (by rw [cl]; decide)] at k
    exact giveNone_sp H c1 (fun D' c => k D' c)
  rw [if_pos cl] at k
  generalize S.1 (tn a) = A at *
  have z0 := zD_R0 w1.pv
  have hF := foS_b hA w1.pv ht
  exact foretold_sp H hA w1 ht ok_0 (fun D2 f2 b2 => tell_c (d := 1) H hA c1 w1 f2 b2 ⟨by omega, by omega⟩ (by omega) (by omega) (div1 z0 (foS_R hA w1.pv x)) k)
end C3
