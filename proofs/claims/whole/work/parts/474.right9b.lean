/-! the reference: right, the call -/
def mif (k i p : Int) : Int := if k = i then p - 1 else -1
theorem rcf_m (k i p : Int) : rcf k i p = ((mif k i p : Int) : Rat) := by
  unfold rcf mif
  split <;> rfl
theorem mif_b (k i : Int) {p : Int} (hp : 2 ≤ p ∧ p ≤ 3) : -2 ≤ mif k i p ∧ mif k i p ≤ 2 := by
  unfold mif
  split <;> omega
section RJ9
variable {G : Shp} {ad ro : Nat → Nat} {D D' : Dat} {S : AS} {Z : Dat} {t T : Nat} {post : Int32 → Dat → Prop}
theorem right2_e {fa fb fw : Rat} {j : Nat} (hj : j < 2) {F : Nat → Rat} (f0 : F 0 = fa) (f1 : F 1 = fb) (f2 : F 2 = fw) : F j + (F 2 - sfo F 2) / (((2 : Nat) : Int) : Rat) = (rcf j 0 2 * fa + rcf j 1 2 * fb + fw) / ((2 : Int) : Rat) := by
  show F j + (F 2 - ((0 + F 0) + F 1)) / ((2 : Int) : Rat) = _
  rw [f0, f1, f2]
  have c2 : ((2 : Int) : Rat) = 2 := rfl
  rcases (show j = 0 ∨ j = 1 by omega) with rfl | rfl
  · rw [f0, rcf_t (by rfl), rcf_f (by decide)]
    have c1 : ((2 - 1 : Int) : Rat) = 1 := rfl
    have cm : ((-1 : Int) : Rat) = -1 := rfl
    rw [c2, c1, cm]
    grind
  · rw [f1, rcf_f (by decide), rcf_t (by rfl)]
    have c1 : ((2 - 1 : Int) : Rat) = 1 := rfl
    have cm : ((-1 : Int) : Rat) = -1 := rfl
    rw [c2, c1, cm]
    grind
theorem right3_e {fa fb fc fw : Rat} {j : Nat} (hj : j < 3) {F : Nat → Rat} (f0 : F 0 = fa) (f1 : F 1 = fb) (f2 : F 2 = fc) (f3 : F 3 = fw) : F j + (F 3 - sfo F 3) / (((3 : Nat) : Int) : Rat) = (rcf j 0 3 * fa + rcf j 1 3 * fb + rcf j 2 3 * fc + fw) / ((3 : Int) : Rat) := by
  show F j + (F 3 - (((0 + F 0) + F 1) + F 2)) / ((3 : Int) : Rat) = _
  rw [f0, f1, f2, f3]
  have c2 : ((3 : Int) : Rat) = 3 := rfl
  have c1 : ((3 - 1 : Int) : Rat) = 2 := rfl
  have cm : ((-1 : Int) : Rat) = -1 := rfl
  rcases (show j = 0 ∨ j = 1 ∨ j = 2 by omega) with rfl | rfl | rfl
  · rw [f0, rcf_t (by rfl), rcf_f (by decide), rcf_f (by decide), c2, c1, cm]
    grind
  · rw [f1, rcf_f (by decide), rcf_t (by rfl), rcf_f (by decide), c2, c1, cm]
    grind
  · rw [f2, rcf_f (by decide), rcf_f (by decide), rcf_t (by rfl), c2, c1, cm]
    grind
theorem sm_r2 {A B W : AR} (hA : RowOK A) (hB : RowOK B) (hW : RowOK W) (pA : Pv A none (nU A)) (pB : Pv B none (nU B)) (pW : Pv W none (nU W)) {x : Nat} (hx : x < 80) (k : Int) : smQ ((rcf k 0 2 * foR A none x + rcf k 1 2 * foR B none x + foR W none x) / ((2 : Int) : Rat)) := by
  have h := bq_add hW pW hx (m := 1) (by omega) (bq_add hB pB hx (mif_b k 1 (p := 2) (by omega)) (bq_add hA pA hx (mif_b k 0 (p := 2) (by omega)) bq_0))
  have e : 0 + ((mif k 0 2 : Int) : Rat) * foR A none x + ((mif k 1 2 : Int) : Rat) * foR B none x + ((1 : Int) : Rat) * foR W none x = rcf k 0 2 * foR A none x + rcf k 1 2 * foR B none x + foR W none x := by
    rw [rcf_m, rcf_m, cast_1]
    grind
  rw [e] at h
  exact bq_sm h (by omega) (by decide +kernel) (by decide +kernel)
theorem sm_r3 {A B C W : AR} (hA : RowOK A) (hB : RowOK B) (hC : RowOK C) (hW : RowOK W) (pA : Pv A none (nU A)) (pB : Pv B none (nU B)) (pC : Pv C none (nU C)) (pW : Pv W none (nU W)) {x : Nat} (hx : x < 80) (k : Int) : smQ ((rcf k 0 3 * foR A none x + rcf k 1 3 * foR B none x + rcf k 2 3 * foR C none x + foR W none x) / ((3 : Int) : Rat)) := by
  have h := bq_add hW pW hx (m := 1) (by omega) (bq_add hC pC hx (mif_b k 2 (p := 3) (by omega)) (bq_add hB pB hx (mif_b k 1 (p := 3) (by omega)) (bq_add hA pA hx (mif_b k 0 (p := 3) (by omega)) bq_0)))
  have e : 0 + ((mif k 0 3 : Int) : Rat) * foR A none x + ((mif k 1 3 : Int) : Rat) * foR B none x + ((mif k 2 3 : Int) : Rat) * foR C none x + ((1 : Int) : Rat) * foR W none x = rcf k 0 3 * foR A none x + rcf k 1 3 * foR B none x + rcf k 2 3 * foR C none x + foR W none x := by
    rw [rcf_m, rcf_m, rcf_m, cast_1]
    grind
  rw [e] at h
  exact bq_sm h (by omega) (by decide +kernel) (by decide +kernel)
theorem right9_sp (H : RG G ad ro) (hK : OKS S) (h : RfV ad ro Z D S) {a b c w k t : Int32} (kk : ∀ D', RfV ad ro Z D' (sRight S a b c w k t).2 → post (sRight S a b c w k t).1 D') : X9_right_wp G D (ad 500) a b c w k t post := by
  have e0 : (0 : Int32).toInt = 0 := rfl
  have e2 : (2 : Int32).toInt = 2 := rfl
  have e3 : (3 : Int32).toInt = 3 := rfl
  have b128 : ∀ v7, ¬ (okFour a b c w ∧ 0 ≤ k.toInt ∧ k.toInt < rPts c ∧ okF t) → X9_right_j128 G post (ad 500) a b c w k t v7 D := fun v7 n0 => ⟨fun q => absurd rfl q, fun _ => by
    unfold sRight at kk
    rw [if_neg n0] at kk
    exact refuse9_sp H h (fun D' c => kk D' c)⟩
  have b78 : ∀ v7, ¬ (okFour a b c w ∧ 0 ≤ k.toInt ∧ k.toInt < rPts c ∧ okF t) → X9_right_j78 G post (ad 500) a b c w k t v7 D := fun v7 n0 => ⟨fun _ => b128 v7 n0, fun q => absurd rfl q⟩
  /- two parts -/
  have t2 : c = -1 → okFour a b c w → 0 ≤ k.toInt → k.toInt < 2 → okF t → X9_right_j152 G post (ad 500) a b c w k t 2 D := fun hc f0 hk1 hk2 t0 => by
    obtain ⟨a0, b0, w0, -⟩ := id f0
    unfold sRight at kk
    have hp : rPts c = 2 := by unfold rPts; rw [if_pos hc]
    rw [if_pos ⟨f0, hk1, by rw [hp]; exact hk2, t0⟩] at kk
    have ea := tn_nI a0.1
    have eb := tn_nI b0.1
    have ew := tn_nI w0.1
    have et := tn_nI t0.1
    have ek := tn_nI hk1
    have tk := tn_c hk1
    have ha := tn_R a0
    have hb := tn_R b0
    have hw := tn_R w0
    have ht := tn_F t0
    have r0 : rwf 2 (tn a) (tn b) 0 (tn w) 0 = tn a := rfl
    have r1 : rwf 2 (tn a) (tn b) 0 (tn w) 1 = tn b := rfl
    have r2 : rwf 2 (tn a) (tn b) 0 (tn w) 2 = tn w := rfl
    have hrw : ∀ i, i ≤ 2 → rwf 2 (tn a) (tn b) 0 (tn w) i < 4 := fun i hi => by
      rcases (show i = 0 ∨ i = 1 ∨ i = 2 by omega) with rfl | rfl | rfl
      · exact ha
      · exact hb
      · exact hw
    have hgo := right_rows (post := post) (kk := k) (c := c) H hK h (Or.inl rfl) hrw ea eb ew (fun q => absurd q (by decide)) ht (fun D' h' pv kt => ?_) (fun D' j hj cl h' => ?_)
    · rw [← et] at hgo
      exact hgo
    · have pa := pv 0 (by omega)
      have pb := pv 1 (by omega)
      have pw := pv 2 (by omega)
      rw [r0] at pa
      rw [r1] at pb
      rw [r2] at pw
      rw [if_pos ⟨clB_t.mpr pa, clB_t.mpr pb, Or.inl hc, clB_t.mpr pw⟩] at kk
      have hj : tn k < 2 := by omega
      have hq := right2_e (fa := foR (S.1 (tn a)) none (tn t)) (fb := foR (S.1 (tn b)) none (tn t)) (fw := foR (S.1 (tn w)) none (tn t)) hj (F := fun i => foR (S.1 (rwf 2 (tn a) (tn b) 0 (tn w) i)) none (tn t)) rfl rfl rfl
      have sm := sm_r2 (hK _ ha) (hK _ hb) (hK _ hw) pa pb pw ht (tn k : Int)
      have eR : rightR S a b c w k (tn t) = (rcf (tn k : Int) 0 2 * foR (S.1 (tn a)) none (tn t) + rcf (tn k : Int) 1 2 * foR (S.1 (tn b)) none (tn t) + foR (S.1 (tn w)) none (tn t)) / ((2 : Int) : Rat) := by unfold rightR; rw [if_pos hc, tk]
      rw [← eR] at hq sm
      have hT := right_told (post := post) (a := a) (b := b) (c := c) (w := w) (tt := nI (tn t)) H h' (many := 2) (Or.inl rfl) hj kt hq sm kk
      rw [← ek] at hT
      exact hT
    · rw [if_neg (fun z => ?_)] at kk
      · exact kk D' h'
      · rcases (show j = 0 ∨ j = 1 ∨ j = 2 by omega) with rfl | rfl | rfl
        · rw [r0, z.1] at cl; cases cl
        · rw [r1, z.2.1] at cl; cases cl
        · rw [r2, z.2.2.2] at cl; cases cl
  /- three parts -/
  have t3 : ¬ c = -1 → okFour a b c w → 0 ≤ k.toInt → k.toInt < 3 → okF t → X9_right_j152 G post (ad 500) a b c w k t 3 D := fun hc f0 hk1 hk2 t0 => by
    obtain ⟨a0, b0, w0, c0, -⟩ := id f0
    have c0 := c0.resolve_left hc
    unfold sRight at kk
    have hp : rPts c = 3 := by unfold rPts; rw [if_neg hc]
    rw [if_pos ⟨f0, hk1, by rw [hp]; exact hk2, t0⟩] at kk
    have ea := tn_nI a0.1
    have eb := tn_nI b0.1
    have ec := tn_nI c0.1
    have ew := tn_nI w0.1
    have et := tn_nI t0.1
    have ek := tn_nI hk1
    have tk := tn_c hk1
    have ha := tn_R a0
    have hb := tn_R b0
    have hc' := tn_R c0
    have hw := tn_R w0
    have ht := tn_F t0
    have r0 : rwf 3 (tn a) (tn b) (tn c) (tn w) 0 = tn a := rfl
    have r1 : rwf 3 (tn a) (tn b) (tn c) (tn w) 1 = tn b := rfl
    have r2 : rwf 3 (tn a) (tn b) (tn c) (tn w) 2 = tn c := rfl
    have r3 : rwf 3 (tn a) (tn b) (tn c) (tn w) 3 = tn w := rfl
    have hrw : ∀ i, i ≤ 3 → rwf 3 (tn a) (tn b) (tn c) (tn w) i < 4 := fun i hi => by
      rcases (show i = 0 ∨ i = 1 ∨ i = 2 ∨ i = 3 by omega) with rfl | rfl | rfl | rfl
      · exact ha
      · exact hb
      · exact hc'
      · exact hw
    have hgo := right_rows (post := post) (kk := k) (c := c) H hK h (Or.inr rfl) hrw ea eb ew (fun _ => ec) ht (fun D' h' pv kt => ?_) (fun D' j hj cl h' => ?_)
    · rw [← et] at hgo
      exact hgo
    · have pa := pv 0 (by omega)
      have pb := pv 1 (by omega)
      have pc := pv 2 (by omega)
      have pw := pv 3 (by omega)
      rw [r0] at pa
      rw [r1] at pb
      rw [r2] at pc
      rw [r3] at pw
      rw [if_pos ⟨clB_t.mpr pa, clB_t.mpr pb, Or.inr (clB_t.mpr pc), clB_t.mpr pw⟩] at kk
      have hj : tn k < 3 := by omega
      have hq := right3_e (fa := foR (S.1 (tn a)) none (tn t)) (fb := foR (S.1 (tn b)) none (tn t)) (fc := foR (S.1 (tn c)) none (tn t)) (fw := foR (S.1 (tn w)) none (tn t)) hj (F := fun i => foR (S.1 (rwf 3 (tn a) (tn b) (tn c) (tn w) i)) none (tn t)) rfl rfl rfl rfl
      have sm := sm_r3 (hK _ ha) (hK _ hb) (hK _ hc') (hK _ hw) pa pb pc pw ht (tn k : Int)
      have eR : rightR S a b c w k (tn t) = (rcf (tn k : Int) 0 3 * foR (S.1 (tn a)) none (tn t) + rcf (tn k : Int) 1 3 * foR (S.1 (tn b)) none (tn t) + rcf (tn k : Int) 2 3 * foR (S.1 (tn c)) none (tn t) + foR (S.1 (tn w)) none (tn t)) / ((3 : Int) : Rat) := by unfold rightR; rw [if_neg hc, tk]
      rw [← eR] at hq sm
      have hT := right_told (post := post) (a := a) (b := b) (c := c) (w := w) (tt := nI (tn t)) H h' (many := 3) (Or.inr rfl) hj kt hq sm kk
      rw [← ek] at hT
      exact hT
    · rw [if_neg (fun z => ?_)] at kk
      · exact kk D' h'
      · rcases (show j = 0 ∨ j = 1 ∨ j = 2 ∨ j = 3 by omega) with rfl | rfl | rfl | rfl
        · rw [r0, z.1] at cl; cases cl
        · rw [r1, z.2.1] at cl; cases cl
        · rw [r2, z.2.2.1.resolve_left hc] at cl; cases cl
        · rw [r3, z.2.2.2] at cl; cases cl
  have j38 : ∀ v7 : Int32, ((v7 = 0 ∧ c = -1) ∨ (¬ v7 = 0 ∧ ¬ c = -1 ∧ okR c)) → okR a → okR b → X9_right_j38 G post (ad 500) a b c w k t v7 D := fun v7 h7 a0 b0 => by
    refine isRow_if (fun n0 => ⟨fun _ => b78 v7 (fun z => n0 z.1.2.2.1), fun q => absurd rfl q⟩) (fun w0 => ⟨fun q => absurd q (by decide), fun _ => ?_⟩)
    refine isFar9_if (fun n0 => ⟨fun _ => b78 v7 (fun z => n0 z.2.2.2), fun q => absurd rfl q⟩) (fun t0 => ⟨fun q => absurd q (by decide), fun _ => ⟨fun q => b78 v7 (fun z => ?_), fun q => ?_⟩⟩)
    · have := (I_lt _ _).mp q
      have := z.2.1
      omega
    have hk1 : ¬ k.toInt < (0 : Int32).toInt := fun z => q ((I_lt _ _).mpr z)
    rcases h7 with ⟨h7, hc⟩ | ⟨h7, hc, c0⟩
    · have hp : rPts c = 2 := by unfold rPts; rw [if_pos hc]
      refine ⟨fun _ => ⟨fun q2 => b78 v7 (fun z => ?_), fun q2 => ?_⟩, fun q => absurd h7 q⟩
      · have := (I_le _ _).mp q2
        have := z.2.2.1
        omega
      have hk2 : ¬ (2 : Int32).toInt ≤ k.toInt := fun z => q2 ((I_le _ _).mpr z)
      refine ⟨fun q => absurd q (by decide), fun _ => ⟨fun q => b128 v7 (fun z => z.1.2.2.2.2.1 q), fun n1 => ⟨fun q => b128 v7 (fun z => z.1.2.2.2.2.2.2.1 q), fun n2 => ⟨fun q => b128 v7 (fun z => z.1.2.2.2.2.2.2.2.2.1 q), fun n3 => ⟨fun _ => ⟨fun _ => ⟨fun _ => ?_, fun q => absurd h7 q⟩, fun q => absurd q (by decide)⟩, fun q => absurd h7 q⟩⟩⟩⟩⟩
      have nm : ∀ {v : Int32}, okR v → v ≠ c := fun {v} hv e => by
        have := hv.1
        rw [e, hc] at this
        exact absurd this (by decide)
      exact t2 hc ⟨a0, b0, w0, Or.inl hc, n1, nm a0, n2, nm b0, n3, (nm w0).symm⟩ (by omega) (by omega) t0
    · have hp : rPts c = 3 := by unfold rPts; rw [if_neg hc]
      refine ⟨fun q => absurd q h7, fun _ => ⟨fun q2 => b78 v7 (fun z => ?_), fun q2 => ?_⟩⟩
      · have := (I_le _ _).mp q2
        have := z.2.2.1
        omega
      have hk2 : ¬ (3 : Int32).toInt ≤ k.toInt := fun z => q2 ((I_le _ _).mpr z)
      refine ⟨fun q => absurd q (by decide), fun _ => ⟨fun q => b128 v7 (fun z => z.1.2.2.2.2.1 q), fun n1 => ⟨fun q => b128 v7 (fun z => z.1.2.2.2.2.2.2.1 q), fun n2 => ⟨fun q => b128 v7 (fun z => z.1.2.2.2.2.2.2.2.2.1 q), fun n3 => ⟨fun q => absurd q h7, fun _ => ⟨fun q => b128 v7 (fun z => z.1.2.2.2.2.2.1 q.symm), fun n4 => ⟨fun q => b128 v7 (fun z => z.1.2.2.2.2.2.2.2.1 q.symm), fun n5 => ⟨fun q => b128 v7 (fun z => z.1.2.2.2.2.2.2.2.2.2 q), fun n6 => ⟨fun _ => ⟨fun q => absurd q h7, fun _ => ?_⟩, fun q => absurd q (by decide)⟩⟩⟩⟩⟩⟩⟩⟩⟩
      exact t3 hc ⟨a0, b0, w0, Or.inr c0, n1, fun e => n4 e.symm, n2, fun e => n5 e.symm, n3, n6⟩ (by omega) (by omega) t0
  refine ⟨H.x_, fun hc => ?_, fun hc => ?_⟩
  · refine isRow_if (fun n0 => ⟨fun _ => b78 0 (fun z => n0 z.1.1), fun q => absurd rfl q⟩) (fun a0 => ⟨fun q => absurd q (by decide), fun _ => ?_⟩)
    refine isRow_if (fun n0 => ⟨fun _ => b78 0 (fun z => n0 z.1.2.1), fun q => absurd rfl q⟩) (fun b0 => ⟨fun q => absurd q (by decide), fun _ => ⟨fun _ => j38 0 (Or.inl ⟨rfl, hc⟩) a0 b0, fun q => absurd rfl q⟩⟩)
  · refine isRow_if (fun n0 => ⟨fun _ => b78 1 (fun z => n0 z.1.1), fun q => absurd rfl q⟩) (fun a0 => ⟨fun q => absurd q (by decide), fun _ => ?_⟩)
    refine isRow_if (fun n0 => ⟨fun _ => b78 1 (fun z => n0 z.1.2.1), fun q => absurd rfl q⟩) (fun b0 => ⟨fun q => absurd q (by decide), fun _ => ⟨fun q => absurd q (by decide), fun _ => ?_⟩⟩)
    exact isRow_if (fun n0 => ⟨fun _ => b78 1 (fun z => z.1.2.2.2.1.elim hc n0), fun q => absurd rfl q⟩) (fun c0 => ⟨fun q => absurd q (by decide), fun _ => j38 1 (Or.inr ⟨by decide, hc, c0⟩) a0 b0⟩)
end RJ9
