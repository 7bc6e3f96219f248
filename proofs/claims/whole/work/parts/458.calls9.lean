/-! the reference: the calls that tell a fraction -/
section Q9
variable {A : AR} {u : Option Nat}
theorem nab_lt {T : Int} (h : -1000000000000000000000000000000000000000000000 ≤ T ∧ T ≤ 1000000000000000000000000000000000000000000000) : T.natAbs < 10 ^ 100 := by
  have : (1000000000000000000000000000000000000000000000 : Nat) < 10 ^ 100 := by decide +kernel
  generalize (10 ^ 100 : Nat) = x at *
  omega
theorem sm1 (hA : RowOK A) (hp : Pv A u (nU A)) {T : Int} {q : Rat} (h : (T : Rat) = (zD A u : Int) * q) (bT : -1000000000000000000000000000000000000000000000 ≤ T ∧ T ≤ 1000000000000000000000000000000000000000000000) : smQ q := by
  have d1 := zD_pos hp
  have d2 := zD_lt hA (Nat.le_refl _) hp
  have d3 := zD_R0 hp
  refine smQ_of (T := T) (B := zD A u) d1 ?_ (nab_lt bT) ?_
  · rw [h]
    generalize ((zD A u : Int) : Rat) = x at *
    grind
  · have h9 : (18014398509481984 : Int) < ((10 ^ 100 : Nat) : Int) := by decide +kernel
    generalize ((10 ^ 100 : Nat) : Int) = x at *
    unfold zD
    omega
theorem smp (hA : RowOK A) (hp : Pv A u (nU A)) {T : Int} {q : Rat} (h : (T : Rat) = (zD A u : Int) * ((plc A : Nat) : Int) * q) (bT : -1000000000000000000000000000000000000000000000 ≤ T ∧ T ≤ 1000000000000000000000000000000000000000000000) : smQ q := by
  have d1 := zD_pos hp
  have d2 := zD_lt hA (Nat.le_refl _) hp
  have d3 := zD_R0 hp
  have d4 := plc_R0 hA
  have d5 := plc_b hA
  have e : zD A u = zz (Dq A u (nU A)) := rfl
  rw [← e] at d1 d2
  have m1 : 1 * 1 ≤ zD A u * (plc A : Int) := Int.mul_le_mul d1 (by omega) (by omega) (by omega)
  have m2 : zD A u * (plc A : Int) ≤ 18014398509481984 * 7 := Int.mul_le_mul (by omega) (by omega) (by omega) (by omega)
  refine smQ_of (T := T) (B := zD A u * (plc A : Int)) (by omega) ?_ (nab_lt bT) ?_
  · rw [h, cast_mul]
    generalize ((zD A u : Int) : Rat) = x at *
    generalize (((plc A : Nat) : Int) : Rat) = y at *
    grind
  · have h9 : (18014398509481984 * 7 : Int) < ((10 ^ 100 : Nat) : Int) := by decide +kernel
    generalize ((10 ^ 100 : Nat) : Int) = x at *
    omega
theorem sm_0 : smQ 0 := smQ_of (T := 0) (B := 1) (by omega) (by rw [cast_0, cast_1]; grind) (by decide +kernel) (by decide +kernel)
theorem sm_lev (hA : RowOK A) (hp : Pv A u (nU A)) : smQ (levR A u) := smp hA hp (lev_top hA hp) (by have := lvS_bb hA hp; omega)
theorem sm_cst (hA : RowOK A) (hp : Pv A u (nU A)) : smQ (cstR A u) := sm1 hA hp (cst_R hp) (by have := Bz_b hA (u := u) (Nat.le_refl _) hp (nU A) (nU A); omega)
theorem sm_un (hA : RowOK A) (hp : Pv A u (nU A)) {i : Nat} (hi : i < nU A) : smQ (Xq A u (plc A + i)) := sm1 hA hp (zT_R hp (by omega)) (by have := Tz_b hA hp hi; unfold zT; omega)
theorem sm_sea (hA : RowOK A) (hp : Pv A u (nU A)) {p : Nat} (hpl : p < plc A) : smQ (Xq A u p - levR A u) := smp hA hp (season_R hA hp hpl) (season_b hA hp hpl)
theorem sm_fo (hA : RowOK A) (hp : Pv A u (nU A)) {t : Nat} (ht : t < 80) : smQ (foR A u t) := sm1 hA hp (foS_R hA hp t) (by have := foS_b hA hp ht; omega)
theorem sm_left (hA : RowOK A) (hp : Pv A none (nU A)) {t : Nat} (ht : t < 40) : smQ ((aN A t : Int) - foR A none t) := sm1 hA hp (left_R hA hp t) (by have := leftOver_b hA hp ht; omega)
theorem sm_tr (hA : RowOK A) (hp : Pv A u (nU A)) {t : Nat} (ht : t < 80) : smQ (levR A u + unR A u t 0 (fFr A)) := by
  have hpl := plc_b hA
  have hU := unS_bb hA hp ht 0 (fFr_le (A := A))
  have hB := lvS_bb hA hp
  have hM := mul_abs_le (X := 7) (x := (plc A : Int)) (y := unS A u t 0 (fFr A)) (by omega) (by omega) hU.1 hU.2
  refine smp (T := lvS A u (plc A) + (plc A : Int) * unS A u t 0 (fFr A)) hA hp ?_ (by omega)
  rw [cast_add, cast_mul, lev_top hA hp, unS_R hp t 0 fFr_le]
  generalize (((plc A : Nat) : Int) : Rat) = y
  generalize levR A u = z
  generalize unR A u t 0 (fFr A) = v
  grind
theorem sm_fe (hA : RowOK A) (hp : Pv A u (nU A)) {t : Nat} (ht : t < 80) : smQ (unR A u t (fFr A) (nU A)) := sm1 hA hp (unS_R hp t (fFr A) (Nat.le_refl _)) (by have := unS_bb hA hp ht (fFr A) (Nat.le_refl (nU A)); omega)
end Q9
section C9
variable {G : Shp} {ad ro : Nat → Nat} {D D' : Dat} {S : AS} {Z : Dat} {r t T : Nat} {A : AR} {u : Option Nat} {post : Int32 → Dat → Prop}
/-- the solve of a call -/
theorem solve_c (H : RG G ad ro) (hr : r < 4) (h : RfV ad ro Z D S) (hA : RowOK (S.1 r)) {W : Int32 → Dat → Prop} (k1 : ∀ D', RfV ad ro Z D' S → TopV ad D' 0 → SlV ad D' (S.1 r) none → clB (S.1 r) none = true → (D'.2 (ad 500) 25).toInt = arS (S.1 r) none (NN (S.1 r)) (NN (S.1 r)) → (∀ i, i < NN (S.1 r) → (D'.2 (ad 523) i).toInt = arS (S.1 r) none i (NN (S.1 r))) → W 1 D') (k0 : ∀ D', RfV ad ro Z D' S → clB (S.1 r) none = false → W 0 D') : X9_solve_wp G D (ad 500) (nI r) W :=
  solve_sp H hr (h.1 r hr) hA (fun D1 f1 t1 s1 o1 o2 => k1 D1 (h.wk H f1.1) t1 s1 (clB_t.mpr s1.1) o1 o2) (fun D1 f1 n1 => k0 D1 (h.wk H f1.1) (clB_f.mpr n1))
/-- what is given at a tick is told -/
theorem givenT (H : RG G ad ro) (hr : r < 4) (h : RfV ad ro Z D S) (hA : RowOK (S.1 r)) (hs : SlV ad D (S.1 r) u) (hTop : TopV ad D 0) (ht : t < 80) {w : Nat} (hw : w ≤ 3) {q : Rat} (hq : giR (S.1 r) u t w = q) (sm : smQ q) (k : ∀ D', RfV ad ro Z D' (sTell S q).2 → post (sTell S q).1 D') {v : Int32} (hv : v = nI w) : X9_given_wp G D (ad 500) (nI r) (nI t) v (fun r1 D1 => X9_held_wp G D1 (ad 500) 19 (fun r2 D2 => X9_tells_wp G D2 (ad 500) r1 r2 (fun r3 D3 => post r3 D3))) := by
  subst hv
  refine given_sp H hr (h.1 r hr) hA hs.1 ht (by omega) hTop hs.2.1 hw (fun D1 p n T' h1 h2 h3 f1 t1 w1 e1 => ?_)
  refine tell9 H (h.wk H f1.wk) hA ⟨hs.1, hs.2.1.wn H f1, e1⟩ (by omega) t1 (by omega) w1 ?_ sm k (fun r2 D2 x => x)
  rw [gz_R hA hs.1, hq]
theorem NN_p (A : AR) : 0 < NN A := by rw [NN_1]; omega
theorem part9_sp (H : RG G ad ro) (hK : OKS S) (h : RfV ad ro Z D S) {a w : Int32} (k : ∀ D', RfV ad ro Z D' (sPart S a w).2 → post (sPart S a w).1 D') : X9_part_wp G D (ad 500) a w post := by
  unfold sPart sCl at k
  refine ⟨H.x_, _, H.lin_.1, H.lin_.2.1, isRow_if (fun n0 => ⟨fun q => absurd rfl q, fun _ => ?_⟩) (fun r0 => ⟨fun _ => ?_, fun q => absurd q (by decide)⟩)⟩
  · rw [if_neg n0] at k
    exact refuse9_sp H h (fun D' c => k D' c)
  rw [if_pos r0] at k
  have hr := tn_R r0
  have er := tn_nI r0.1
  have hA := hK _ hr
  generalize tn a = r at *
  subst er
  have e0 : (0 : Int32).toInt = 0 := rfl
  have e1 : (1 : Int32).toInt = 1 := rfl
  have e2 : (2 : Int32).toInt = 2 := rfl
  refine ⟨fun q => ?_, fun q => ⟨fun q2 => ?_, fun q2 => ?_⟩⟩
  · have := (I_lt _ _).mp q
    rw [if_neg (by omega)] at k
    exact refuse9_sp H h (fun D' c => k D' c)
  rotate_left
  · have : ¬ w.toInt ≤ (2 : Int32).toInt := fun z => q2 ((I_le _ _).mpr z)
    rw [if_neg (by omega)] at k
    exact refuse9_sp H h (fun D' c => k D' c)
  have h1 : ¬ w.toInt < (0 : Int32).toInt := fun z => q ((I_lt _ _).mpr z)
  have h2 := (I_le _ _).mp q2
  rw [if_pos (by omega)] at k
  refine solve_c H hr h hA (fun D1 c1 t1 s1 cl o1 o2 => ⟨fun _ => ?_, fun q => absurd q (by decide)⟩) (fun D1 c1 cl => ⟨fun q => absurd rfl q, fun _ => ?_⟩)
  rotate_left
  · rw [if_neg (by rw [cl]; decide)] at k
    exact refuse9_sp H c1 (fun D' c => k D' c)
  rw [if_pos cl] at k
  have hlin : D1.1 (ad 517) r = bI (aL (S.1 r)) := (c1.1 r hr).2.2.2.2.2.1
  generalize S.1 r = A at *
  unfold partR at k
  have hp := s1.1
  have hN := NN_p A
  refine ⟨fun q3 => ?_, fun q3 => ?_⟩
  · have w2 : w.toInt ≠ 2 := fun z => q3 ((I_eq _ _).mpr z)
    refine ⟨fun q4 => ?_, fun q4 => ?_⟩
    · have w1 : w.toInt ≠ 1 := fun z => q4 ((I_eq _ _).mpr z)
      have w0 : w.toInt = 0 := by omega
      rw [if_pos w0] at k
      have ew : w = nI 0 := (I_eq _ _).mpr w0
      subst ew
      exact tellK H c1 hA s1 t1 (by omega) hN (lev_r hA hp).symm (sm_lev hA hp) k (fun r1 r2 D2 x => x)
    · subst q4
      rw [if_neg (by decide), if_pos (show Int32.toInt 1 = 1 from rfl)] at k
      rw [nI_clamp (n := r) (by omega), hlin]
      refine ⟨in4 H H.lin_ hr, fun q5 => ?_, fun q5 => ?_⟩
      · have hl := bI_n0.mp q5
        rw [if_pos hl] at k
        have hn : 0 < nU A := by
          rw [nU_eq, rmp_len, if_pos hl]; omega
        have e : Xq A none (plc A) = Xr A none 1 := Xq_u (i := 0) hA hp hn
        exact tellK (i := 1) H c1 hA s1 t1 (by omega) (by rw [NN_1]; omega) e.symm (sm_un (i := 0) hA hp hn) k (fun r1 r2 D2 x => x)
      · rw [if_neg (by rw [bI_0.mp q5]; decide)] at k
        refine whole_sp H t1 (by omega) (by decide) (fun D2 n2 hn2 f2 t2 z2 => ?_)
        refine whole_sp H t2 (by omega) (by decide) (fun D3 n3 hn3 f3 t3 z3 => ?_)
        have hmx : mxN n2 n3 ≤ 20 := by unfold mxN; split <;> omega
        exact tells_sp H ((c1.wk H f2.wk).wk H f3.wk) t3 (z2.fr f3 (by omega)) z3 (by omega) (by omega) (by decide) (q := 0) (by show (0 : Rat) = ((0 : Int) : Rat) / ((1 : Int) : Rat); rw [cast_0, cast_1]; grind) sm_0 k
  · subst q3
    rw [if_neg (by decide), if_neg (by decide)] at k
    refine cost9_sp H hA hp (by omega) t1 s1.2.1 s1.2.2 o1 o2 (fun D2 p n T' h1 h2 h3 f2 t2 w2 => ?_)
    refine tell9 H (c1.wk H f2.wk) hA ⟨hp, s1.2.1.wn H f2.wn, by rw [f2.2.2.1 21 (by decide) (by decide) (by decide)]; exact s1.2.2⟩ (by omega) t2 (by omega) w2 (co_R hA hp) (sm_cst hA hp) k (fun r1 D1 x => x)
theorem stepBy9_sp (H : RG G ad ro) (hK : OKS S) (h : RfV ad ro Z D S) {a j : Int32} (k : ∀ D', RfV ad ro Z D' (sStepBy S a j).2 → post (sStepBy S a j).1 D') : X9_stepBy_wp G D (ad 500) a j post := by
  unfold sStepBy sCl at k
  refine ⟨H.x_, _, H.stp_.1, H.stp_.2.1, _, H.lin_.1, H.lin_.2.1, isRow_if (fun n0 => ⟨fun q => absurd rfl q, fun _ => ?_⟩) (fun r0 => ⟨fun _ => ?_, fun q => absurd q (by decide)⟩)⟩
  · rw [if_neg n0] at k
    exact refuse9_sp H h (fun D' c => k D' c)
  rw [if_pos r0] at k
  have hr := tn_R r0
  have er := tn_nI r0.1
  have hA := hK _ hr
  generalize tn a = r at *
  subst er
  have e0 : (0 : Int32).toInt = 0 := rfl
  have hct := ct_le (aS (S.1 r)) 40
  have ec : (nI (ct (aS (S.1 r)) 40)).toInt = (ct (aS (S.1 r)) 40 : Int) := nI_toInt (by omega)
  rw [nI_clamp (n := r) (by omega), (h.1 r hr).2.2.1]
  refine ⟨fun q => ?_, fun q => ⟨in4 H H.stp_ hr, fun q2 => ?_, fun q2 => ?_⟩⟩
  · have := (I_lt _ _).mp q
    rw [if_neg (by omega)] at k
    exact refuse9_sp H h (fun D' c => k D' c)
  rotate_left
  · have : ¬ j.toInt < (nI (ct (aS (S.1 r)) 40)).toInt := fun z => q2 ((I_lt _ _).mpr z)
    rw [if_neg (by omega)] at k
    exact refuse9_sp H h (fun D' c => k D' c)
  have h1 : ¬ j.toInt < (0 : Int32).toInt := fun z => q ((I_lt _ _).mpr z)
  have h2 := (I_lt _ _).mp q2
  rw [if_pos (by omega)] at k
  have tj := tn_c (v := j) (by omega)
  have ej := tn_nI (v := j) (by omega)
  refine solve_c H hr h hA (fun D1 c1 t1 s1 cl o1 o2 => ⟨fun _ => ?_, fun q => absurd q (by decide)⟩) (fun D1 c1 cl => ⟨fun q => absurd rfl q, fun _ => ?_⟩)
  rotate_left
  · rw [if_neg (by rw [cl]; decide)] at k
    exact refuse9_sp H c1 (fun D' c => k D' c)
  rw [if_pos cl] at k
  have hlin : D1.1 (ad 517) r = bI (aL (S.1 r)) := (c1.1 r hr).2.2.2.2.2.1
  generalize S.1 r = A at *
  have hp := s1.1
  have hn := nU_eq A
  have hl := rmp_len A
  generalize tn j = x at *
  subst ej
  have hi : (rmp A).length + x < nU A := by omega
  have fin : ∀ s0 : Int32, s0 + nI x = nI (1 + ((rmp A).length + x)) → X9_stepBy_j64 G post (ad 500) (nI r) (nI x) (ad 512) (ad 517) s0 (ad 500) (ad 500) D1 := fun s0 e => by
    unfold X9_stepBy_j64
    rw [e]
    exact ⟨H.x_, tellK H c1 hA s1 t1 (by omega) (by rw [NN_1]; omega) (Xq_u hA hp hi).symm (sm_un hA hp hi) k (fun r1 r2 D2 x => ⟨H.x_, x⟩)⟩
  rw [hlin]
  refine ⟨in4 H H.lin_ hr, fun q5 => fin _ ?_, fun q5 => fin _ ?_⟩
  · rw [hl, if_neg (by rw [bI_0.mp q5]; decide), show (1 : Int32) = nI 1 by decide, nI_add, Nat.zero_add]
  · rw [hl, if_pos (bI_n0.mp q5), show (2 : Int32) = nI 2 by decide, nI_add]
    exact congrArg nI (by omega)
theorem feastBy9_sp (H : RG G ad ro) (hK : OKS S) (h : RfV ad ro Z D S) {a f : Int32} (k : ∀ D', RfV ad ro Z D' (sFeastBy S a f).2 → post (sFeastBy S a f).1 D') : X9_feastBy_wp G D (ad 500) a f post := by
  unfold sFeastBy sCl at k
  refine ⟨H.x_, _, H.fea_.1, H.fea_.2.1, _, H.lin_.1, H.lin_.2.1, _, H.stp_.1, H.stp_.2.1, isRow_if (fun n0 => ⟨fun q => absurd rfl q, fun _ => ?_⟩) (fun r0 => ⟨fun _ => ?_, fun q => absurd q (by decide)⟩)⟩
  · rw [if_neg n0] at k
    exact refuse9_sp H h (fun D' c => k D' c)
  rw [if_pos r0] at k
  have hr := tn_R r0
  have er := tn_nI r0.1
  have hA := hK _ hr
  generalize tn a = r at *
  subst er
  have e0 : (0 : Int32).toInt = 0 := rfl
  have hC := hA.2.2.2.2.2.1
  have ec : (nI (aC (S.1 r))).toInt = (aC (S.1 r) : Int) := nI_toInt (by omega)
  rw [nI_clamp (n := r) (by omega), (h.1 r hr).2.2.2.2.1]
  refine ⟨fun q => ?_, fun q => ⟨in4 H H.fea_ hr, fun q2 => ?_, fun q2 => ?_⟩⟩
  · have := (I_lt _ _).mp q
    rw [if_neg (by omega)] at k
    exact refuse9_sp H h (fun D' c => k D' c)
  rotate_left
  · have : ¬ f.toInt < (nI (aC (S.1 r))).toInt := fun z => q2 ((I_lt _ _).mpr z)
    rw [if_neg (by omega)] at k
    exact refuse9_sp H h (fun D' c => k D' c)
  have h1 : ¬ f.toInt < (0 : Int32).toInt := fun z => q ((I_lt _ _).mpr z)
  have h2 := (I_lt _ _).mp q2
  rw [if_pos (by omega)] at k
  have tj := tn_c (v := f) (by omega)
  have ej := tn_nI (v := f) (by omega)
  refine solve_c H hr h hA (fun D1 c1 t1 s1 cl o1 o2 => ⟨fun _ => ?_, fun q => absurd q (by decide)⟩) (fun D1 c1 cl => ⟨fun q => absurd rfl q, fun _ => ?_⟩)
  rotate_left
  · rw [if_neg (by rw [cl]; decide)] at k
    exact refuse9_sp H c1 (fun D' c => k D' c)
  rw [if_pos cl] at k
  have hlin : D1.1 (ad 517) r = bI (aL (S.1 r)) := (c1.1 r hr).2.2.2.2.2.1
  have hstp : D1.1 (ad 512) r = nI (ct (aS (S.1 r)) 40) := (c1.1 r hr).2.2.1
  generalize S.1 r = A at *
  have hp := s1.1
  have hn := nU_eq A
  have hn2 := fFr_eq A
  have hl := rmp_len A
  generalize tn f = x at *
  subst ej
  have hi : fFr A + x < nU A := by omega
  have fin : ∀ s0 : Int32, s0 + nI (ct (aS A) 40) + nI x = nI (1 + (fFr A + x)) → X9_feastBy_j64 G post (ad 500) (nI r) (nI x) (ad 514) (ad 517) (ad 512) s0 (ad 500) (ad 500) D1 := fun s0 e => by
    unfold X9_feastBy_j64
    rw [nI_clamp (n := r) (by omega), hstp, e]
    exact ⟨in4 H H.stp_ hr, H.x_, tellK H c1 hA s1 t1 (by omega) (by rw [NN_1]; omega) (Xq_u hA hp hi).symm (sm_un hA hp hi) k (fun r1 r2 D2 x => ⟨H.x_, x⟩)⟩
  rw [hlin]
  refine ⟨in4 H H.lin_ hr, fun q5 => fin _ ?_, fun q5 => fin _ ?_⟩
  · rw [if_neg (by rw [bI_0.mp q5]; decide)] at hl
    rw [show (1 : Int32) = nI 1 by decide, nI_add, nI_add]
    exact congrArg nI (by omega)
  · rw [if_pos (bI_n0.mp q5)] at hl
    rw [show (2 : Int32) = nI 2 by decide, nI_add, nI_add]
    exact congrArg nI (by omega)
theorem season9_sp (H : RG G ad ro) (hK : OKS S) (h : RfV ad ro Z D S) {a p : Int32} (k : ∀ D', RfV ad ro Z D' (sSeason S a p).2 → post (sSeason S a p).1 D') : X9_season_wp G D (ad 500) a p post := by
  unfold sSeason sCl at k
  refine ⟨H.x_, _, H.per_.1, H.per_.2.1, isRow_if (fun n0 => ⟨fun q => absurd rfl q, fun _ => ?_⟩) (fun r0 => ⟨fun _ => ?_, fun q => absurd q (by decide)⟩)⟩
  · rw [if_neg n0] at k
    exact refuse9_sp H h (fun D' c => k D' c)
  rw [if_pos r0] at k
  have hr := tn_R r0
  have er := tn_nI r0.1
  have hA := hK _ hr
  generalize tn a = r at *
  subst er
  have e0 : (0 : Int32).toInt = 0 := rfl
  have hper := hA.2.2.2.2.2.2
  have ec : (nI (aP (S.1 r))).toInt = (aP (S.1 r) : Int) := nI_toInt (by omega)
  rw [nI_clamp (n := r) (by omega), (h.1 r hr).2.1]
  refine ⟨fun q => ?_, fun q => ⟨in4 H H.per_ hr, fun q2 => ?_, fun q2 => ?_⟩⟩
  · have := (I_lt _ _).mp q
    rw [if_neg (by omega)] at k
    exact refuse9_sp H h (fun D' c => k D' c)
  rotate_left
  · have : ¬ p.toInt < (nI (aP (S.1 r))).toInt := fun z => q2 ((I_lt _ _).mpr z)
    rw [if_neg (by omega)] at k
    exact refuse9_sp H h (fun D' c => k D' c)
  have h1 : ¬ p.toInt < (0 : Int32).toInt := fun z => q ((I_lt _ _).mpr z)
  have h2 := (I_lt _ _).mp q2
  rw [if_pos (by omega)] at k
  have tj := tn_c (v := p) (by omega)
  have ej := tn_nI (v := p) (by omega)
  refine solve_c H hr h hA (fun D1 c1 t1 s1 cl o1 o2 => ⟨fun _ => ?_, fun q => absurd q (by decide)⟩) (fun D1 c1 cl => ⟨fun q => absurd rfl q, fun _ => ?_⟩)
  rotate_left
  · rw [if_neg (by rw [cl]; decide)] at k
    exact refuse9_sp H c1 (fun D' c => k D' c)
  rw [if_pos cl] at k
  have hp := s1.1
  have hpl : tn p < plc (S.1 r) := by unfold plc; rw [if_neg (by omega)]; omega
  generalize tn p = x at *
  subst ej
  refine givenT H hr c1 hA s1 t1 (by omega) (w := 1) (by omega) ?_ (sm_sea hA hp hpl) k rfl
  rw [gi_1 hA hp, Nat.mod_eq_of_lt hpl]
theorem at9_sp (H : RG G ad ro) (hK : OKS S) (h : RfV ad ro Z D S) {a t w : Int32} (k : ∀ D', RfV ad ro Z D' (sAt S a t w).2 → post (sAt S a t w).1 D') : X9_at_wp G D (ad 500) a t w post := by
  unfold sAt sCl at k
  refine ⟨H.x_, isRow_if (fun n0 => ⟨fun _ => ?_, fun q => absurd rfl q⟩) (fun r0 => ⟨fun q => absurd q (by decide), fun _ => ?_⟩)⟩
  · rw [if_neg (fun w => n0 w.1)] at k
    exact refuse9_sp H h (fun D' c => k D' c)
  refine isFar9_if (fun n0 => ⟨fun q => absurd rfl q, fun _ => ?_⟩) (fun t0 => ⟨fun _ => ?_, fun q => absurd q (by decide)⟩)
  · rw [if_neg (fun w => n0 w.2)] at k
    exact refuse9_sp H h (fun D' c => k D' c)
  rw [if_pos ⟨r0, t0⟩] at k
  have hr := tn_R r0
  have er := tn_nI r0.1
  have ht := tn_F t0
  have et := tn_nI t0.1
  have hA := hK _ hr
  generalize tn a = r at *
  generalize tn t = x at *
  subst er et
  have e0 : (0 : Int32).toInt = 0 := rfl
  have e3 : (3 : Int32).toInt = 3 := rfl
  refine ⟨fun q => ?_, fun q => ⟨fun q2 => ?_, fun q2 => ?_⟩⟩
  · have := (I_lt _ _).mp q
    rw [if_neg (by omega)] at k
    exact refuse9_sp H h (fun D' c => k D' c)
  rotate_left
  · have : ¬ w.toInt ≤ (3 : Int32).toInt := fun z => q2 ((I_le _ _).mpr z)
    rw [if_neg (by omega)] at k
    exact refuse9_sp H h (fun D' c => k D' c)
  have h1 : ¬ w.toInt < (0 : Int32).toInt := fun z => q ((I_lt _ _).mpr z)
  have h2 := (I_le _ _).mp q2
  rw [if_pos (by omega)] at k
  refine solve_c H hr h hA (fun D1 c1 t1 s1 cl o1 o2 => ⟨fun _ => ?_, fun q => absurd q (by decide)⟩) (fun D1 c1 cl => ⟨fun q => absurd rfl q, fun _ => ?_⟩)
  rotate_left
  · rw [if_neg (by rw [cl]; decide)] at k
    exact refuse9_sp H c1 (fun D' c => k D' c)
  rw [if_pos cl] at k
  have hp := s1.1
  unfold atR at k
  have tw := tn_c (v := w) (by omega)
  have ew := tn_nI (v := w) (by omega)
  have hpl := plc_b hA
  have hm : x % plc (S.1 r) < plc (S.1 r) := Nat.mod_lt _ (by omega)
  rcases (show tn w = 0 ∨ tn w = 1 ∨ tn w = 2 ∨ tn w = 3 by omega) with hw | hw | hw | hw <;> rw [hw] at ew tw
  · rw [if_pos (by omega)] at k
    exact givenT H hr c1 hA s1 t1 ht (w := 0) (by omega) (gi_0 hA hp x) (sm_tr hA hp ht) k ew
  · rw [if_neg (by omega), if_pos (by omega)] at k
    exact givenT H hr c1 hA s1 t1 ht (w := 1) (by omega) (gi_1 hA hp x) (sm_sea hA hp hm) k ew
  · rw [if_neg (by omega), if_neg (by omega), if_pos (by omega)] at k
    exact givenT H hr c1 hA s1 t1 ht (w := 2) (by omega) (gi_2 hA hp x) (sm_fe hA hp ht) k ew
  · rw [if_neg (by omega), if_neg (by omega), if_neg (by omega)] at k
    exact givenT H hr c1 hA s1 t1 ht (w := 3) (by omega) (gi_3 hA hp x) (sm_fo hA hp ht) k ew
theorem rest9_R {A : AR} (hA : RowOK A) (hp : Pv A none (nU A)) (t : Nat) : ((aN A t * dr A none - gzI A none t 3 (NN A) : Int) : Rat) = (dr A none : Int) * ((aN A t : Int) - foR A none t) := by
  rw [cast_sub, cast_mul, gz_R hA hp, gi_3 hA hp]
  grind
theorem rest9_sp (H : RG G ad ro) (hK : OKS S) (h : RfV ad ro Z D S) {a t : Int32} (k : ∀ D', RfV ad ro Z D' (sRest S a t).2 → post (sRest S a t).1 D') : X9_rest_wp G D (ad 500) a t post := by
  unfold sRest sCl at k
  refine ⟨H.x_, _, H.has_.1, H.has_.2.1, isRow_if (fun n0 => ⟨fun _ => ?_, fun q => absurd rfl q⟩) (fun r0 => ⟨fun q => absurd q (by decide), fun _ => ?_⟩)⟩
  · rw [if_neg (fun w => n0 w.1)] at k
    exact refuse9_sp H h (fun D' c => k D' c)
  refine isTick9_if (fun n0 => ⟨fun q => absurd rfl q, fun _ => ?_⟩) (fun t0 => ⟨fun _ => ?_, fun q => absurd q (by decide)⟩)
  · rw [if_neg (fun w => n0 w.2)] at k
    exact refuse9_sp H h (fun D' c => k D' c)
  rw [if_pos ⟨r0, t0⟩] at k
  have hr := tn_R r0
  have er := tn_nI r0.1
  have ht := tn_T t0
  have et := tn_nI t0.1
  have hA := hK _ hr
  generalize tn a = r at *
  generalize tn t = x at *
  subst er et
  unfold X9_spot_wp
  rw [spot_e]
  dsimp only
  rw [nI_clamp (by omega), ((h.1 r hr).1 x ht).2.1]
  refine ⟨in160 H H.has_ hr ht, fun q => ?_, fun q => ?_⟩
  rotate_left
  · rw [if_neg (by rw [bI_0.mp q]; decide)] at k
    exact refuse9_sp H h (fun D' c => k D' c)
  rw [if_pos (bI_n0.mp q)] at k
  refine solve_c H hr h hA (fun D1 c1 t1 s1 cl o1 o2 => ⟨fun _ => ?_, fun q => absurd q (by decide)⟩) (fun D1 c1 cl => ⟨fun q => absurd rfl q, fun _ => ?_⟩)
  rotate_left
  · rw [if_neg (by rw [cl]; decide)] at k
    exact refuse9_sp H c1 (fun D' c => k D' c)
  rw [if_pos cl] at k
  have hp := s1.1
  refine restOf_sp H hr (c1.1 r hr) hA hp ht (by omega) t1 s1.2.1 (fun D2 p n T' h1 h2 h3 f2 t2 w2 e2 => ?_)
  exact tell9 H (c1.wk H f2.wk) hA ⟨hp, s1.2.1.wn H f2, e2⟩ (by omega) t2 (by omega) w2 (rest9_R hA hp x) (sm_left hA hp ht) k (fun r1 D1 x => x)
end C9
