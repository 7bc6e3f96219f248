/-! what the calls answer: the row's parts as fractions, the state -/
def clB (A : AR) (u : Option Nat) : Bool := decide (∀ l, l < plc A + nU A → Sk (wq A) (Cq A u) l l l ≠ 0)
theorem clB_t {A : AR} {u : Option Nat} : clB A u = true ↔ Pv A u (nU A) := by
  unfold clB
  exact decide_eq_true_iff
theorem clB_f {A : AR} {u : Option Nat} : clB A u = false ↔ ¬ Pv A u (nU A) := by
  unfold clB
  exact decide_eq_false_iff_not
def levR (A : AR) (u : Option Nat) : Rat := su (fun p => Xq A u p) (plc A) / (plc A : Int)
def unR (A : AR) (u : Option Nat) (t a b : Nat) : Rat := su (fun i => if a ≤ i then Xq A u (plc A + i) * (lc (uc A) i t : Int) else 0) b
def foR (A : AR) (u : Option Nat) (t : Nat) : Rat := Xq A u (t % plc A) + unR A u t 0 (nU A)
def cstR (A : AR) (u : Option Nat) : Rat := Sk (wq A) (Cq A u) (plc A + nU A) (plc A + nU A) (plc A + nU A)
def outR (q : Rat) : List Nat := frB q.num q.den
theorem outR_red {z : Int} {d : Nat} (hd : 0 < d) (hc : Nat.gcd z.natAbs d = 1) : outR ((z : Rat) / ((d : Int) : Rat)) = frB z d := by
  have e : (z : Rat) / ((d : Int) : Rat) = ⟨z, d, by omega, hc⟩ := by
    rw [Rat.mk_eq_divInt, Rat.divInt_eq_div]
  unfold outR
  rw [e]
section ZT
variable {A : AR} {u : Option Nat}
theorem zD_R (hp : Pv A u (nU A)) : ((zD A u : Int) : Rat) = Dq A u (nU A) := zz_of (Dq_Z hp)
theorem zD_R0 (hp : Pv A u (nU A)) : ((zD A u : Int) : Rat) ≠ 0 := fun q => by
  have h := zD_pos hp
  have : zD A u = 0 := cast_eq.mp (by rw [q, cast_0])
  unfold zD at this
  omega
theorem zT_R (hp : Pv A u (nU A)) {l : Nat} (hl : l < plc A + nU A) : ((zT A u l : Int) : Rat) = (zD A u : Int) * Xq A u l := by
  unfold zT
  rw [zz_of (Tq_Z hp hl), zD_R hp]
  rfl
theorem lvS_R (hp : Pv A u (nU A)) : ((lvS A u (plc A) : Int) : Rat) = (zD A u : Int) * su (fun p => Xq A u p) (plc A) := by
  unfold lvS
  rw [← su_cast, ← su_mul]
  exact su_congr (fun i hi => zT_R hp (by omega))
theorem unS_R (hp : Pv A u (nU A)) (t a : Nat) {b : Nat} (hb : b ≤ nU A) : ((unS A u t a b : Int) : Rat) = (zD A u : Int) * unR A u t a b := by
  unfold unS unR
  rw [← su_cast, ← su_mul]
  refine su_congr (fun i hi => ?_)
  by_cases q : a ≤ i
  · rw [if_pos q, if_pos q, cast_mul, zT_R hp (by omega)]; grind
  · rw [if_neg q, if_neg q, cast_0]; grind
theorem foS_R (hA : RowOK A) (hp : Pv A u (nU A)) (t : Nat) : ((foS A u t : Int) : Rat) = (zD A u : Int) * foR A u t := by
  unfold foS foR
  have : t % plc A < plc A := Nat.mod_lt _ (by have := plc_b hA; omega)
  rw [cast_add, zT_R hp (by omega), unS_R hp t 0 (Nat.le_refl _)]
  grind
theorem cst_R (hp : Pv A u (nU A)) : ((zz (Bq A u (nU A) (nU A) (nU A)) : Int) : Rat) = (zD A u : Int) * cstR A u := by
  rw [zz_of (Bq_Z hp _ _), zD_R hp]
  rfl
end ZT
abbrev AS : Type := (Nat → AR) × List Nat × Int32
/-- nothing else has changed -/
def OutV (ro : Nat → Nat) (Z D : Dat) : Prop := ∀ a, 440 ≤ ro a → D.1 a = Z.1 a ∧ D.2 a = Z.2 a
theorem OutV.fr {ro : Nat → Nat} {Z D D' : Dat} {P : Nat → Prop} (h : OutV ro Z D) (f : FrP ro D D' P) (hP : ∀ q, P q → q < 440) : OutV ro Z D' := fun a ha => by
  have := f a (fun w => by have := hP _ w; omega)
  rw [this.1, this.2]
  exact h a ha
def ClV (ad ro : Nat → Nat) (Z D : Dat) (S : AS) : Prop := (∀ r, r < 4 → RowV ad D r (S.1 r) ∧ RowOK (S.1 r)) ∧ SheetV ad D S.2.1 ∧ D.1 (ad 0) 8 = S.2.2 ∧ OutV ro Z D
/-- the roles that no state lies in -/
def pZ (q : Nat) : Prop := q ≠ 0 ∧ q ≠ 5 ∧ q ≠ 7 ∧ ¬ (50 ≤ q ∧ q < 130) ∧ q < 440
def stS (S : AS) (w : Int32) : AS := (S.1, S.2.1, w)
def stR (S : AS) (r : Nat) (A : AR) : AS := (fun i => if i = r then A else S.1 i, S.2)
def stO (S : AS) (L : List Nat) : AS := (S.1, L, 0)
section CL
variable {G : Shp} {ad ro : Nat → Nat} {D : Dat} {S : AS} {Z : Dat}
theorem ClV.fr (H : CS G ad ro) {D' : Dat} {P : Nat → Prop} (h : ClV ad ro Z D S) (f : FrP ro D D' P) (hP : ∀ q, P q → pZ q) : ClV ad ro Z D' S := by
  refine ⟨fun r hr => ⟨(h.1 r hr).1.fr H hr f (fun q a b => ?_), (h.1 r hr).2⟩, h.2.1.fr H f (fun q a b => ?_), ?_, h.2.2.2.fr f (fun q a => by have := hP q a; unfold pZ at this; omega)⟩
  · have := hP q b
    unfold pZ at this
    unfold pR rb at a
    omega
  · have := hP q b
    unfold pZ at this
    unfold pS at a
    omega
  · rw [f.i H (by omega) (fun b => by have := hP 0 b; unfold pZ at this; omega)]
    exact h.2.2.1
theorem ClV.st (H : CS G ad ro) (h : ClV ad ro Z D S) (w : Int32) : ClV ad ro Z (dI D (ad 0) 8 w) (stS S w) := by
  have f : FrP ro D (dI D (ad 0) 8 w) (fun q => q = 0) := FrP.dI (H.inj_ 0 (by omega))
  refine ⟨fun r hr => ⟨(h.1 r hr).1.fr H hr f (fun q a b => ?_), (h.1 r hr).2⟩, h.2.1.fr H f (fun q a b => ?_), dI_s _ _ _ _, h.2.2.2.fr f (fun q a => by omega)⟩
  · unfold pR rb at a; omega
  · unfold pS at a; omega
theorem ClV.row (H : CS G ad ro) (h : ClV ad ro Z D S) {r : Nat} (hr : r < 4) {A : AR} {D' : Dat} (f : FrP ro D D' (pR r)) (hA : RowV ad D' r A) (hk : RowOK A) : ClV ad ro Z D' (stR S r A) := by
  refine ⟨fun i hi => ?_, h.2.1.fr H f (fun q a b => ?_), ?_, h.2.2.2.fr f (fun q a => by unfold pR rb at a; omega)⟩
  · show RowV ad D' i (if i = r then A else S.1 i) ∧ RowOK (if i = r then A else S.1 i)
    by_cases q : i = r
    · rw [if_pos q, q]; exact ⟨hA, hk⟩
    · rw [if_neg q]
      exact ⟨(h.1 i hi).1.fr H hi f (fun x a b => by unfold pR rb at a b; omega), (h.1 i hi).2⟩
  · unfold pS at a; unfold pR rb at b; omega
  · rw [f.i H (by omega) (fun b => by unfold pR rb at b; omega)]
    exact h.2.2.1
theorem done_sp (H : CS G ad ro) (h : ClV ad ro Z D S) {post : Int32 → Dat → Prop} (k : ∀ D', ClV ad ro Z D' (stS S 0) → post 1 D') : X8_done_wp G D (ad 0) post := ⟨H.x_, isB_1, k _ (h.st H 0)⟩
theorem refuse_sp (H : CS G ad ro) (h : ClV ad ro Z D S) {w : Int32} {post : Int32 → Dat → Prop} (k : ∀ D', ClV ad ro Z D' (stS S w) → post 0 D') : X8_refuse_wp G D (ad 0) w post := ⟨H.x_, isB_0, k _ (h.st H w)⟩
theorem give_sp (H : CS G ad ro) (h : ClV ad ro Z D S) {w : Int32} {post : Int32 → Dat → Prop} (k : ∀ D', ClV ad ro Z D' (stS S 0) → post w D') : X8_give_wp G D (ad 0) w post := ⟨H.x_, k _ (h.st H 0)⟩
theorem giveNone_sp (H : CS G ad ro) (h : ClV ad ro Z D S) {w : Int32} {post : Int32 → Dat → Prop} (k : ∀ D', ClV ad ro Z D' (stS S w) → post (-1) D') : X8_giveNone_wp G D (ad 0) w post := ⟨H.x_, k _ (h.st H w)⟩
abbrev okR (v : Int32) : Prop := 0 ≤ v.toInt ∧ v.toInt < 4
abbrev okT (v : Int32) : Prop := 0 ≤ v.toInt ∧ v.toInt < 40
abbrev okF (v : Int32) : Prop := 0 ≤ v.toInt ∧ v.toInt < 80
def tn (v : Int32) : Nat := v.toInt.toNat
theorem tn_nI {v : Int32} (h : 0 ≤ v.toInt) : v = nI (tn v) := nI_of_int (by unfold tn; omega) (by unfold tn; have := I_rng v; omega)
theorem tn_R {v : Int32} (h : okR v) : tn v < 4 := by unfold okR at h; unfold tn; omega
theorem tn_T {v : Int32} (h : okT v) : tn v < 40 := by unfold okT at h; unfold tn; omega
theorem tn_F {v : Int32} (h : okF v) : tn v < 80 := by unfold okF at h; unfold tn; omega
theorem rowOf_sp (H : CS G ad ro) {v : Int32} {post : Option Nat → Dat → Prop} (k0 : ¬ okR v → post none D) (k1 : okR v → post (some (ad (rb (tn v)))) D) : X8_rowOf_wp G D (ad 0) v post := by
  have e0 : (0 : Int32).toInt = 0 := rfl
  have e4 : (4 : Int32).toInt = 4 := rfl
  refine ⟨H.x_, _, H.x0_, H.ra_, fun q => ?_, fun q => ⟨fun q2 => ?_, fun q2 => ?_⟩⟩
  · have := (I_lt _ _).mp q
    exact k0 (fun w => by unfold okR at w; omega)
  · have := (I_le _ _).mp q2
    exact k0 (fun w => by unfold okR at w; omega)
  · have h1 : ¬ v.toInt < (0 : Int32).toInt := fun w => q ((I_lt _ _).mpr w)
    have h2 : ¬ (4 : Int32).toInt ≤ v.toInt := fun w => q2 ((I_le _ _).mpr w)
    have hv : okR v := by unfold okR; omega
    have ev := tn_nI hv.1
    have ht := tn_R hv
    have c : v.toNatClampNeg = tn v := by
      generalize hx : tn v = x at *
      rw [ev, nI_clamp (by omega)]
    rw [c]
    refine ⟨by rw [H.ral_, ev]; exact vp_in_nI (by omega) (by omega), _, H.rar_ _ ht, H.row_ _ ht, k1 hv⟩
theorem isTick_if {v : Int32} {post : Int32 → Dat → Prop} (k0 : ¬ okT v → post 0 D) (k1 : okT v → post 1 D) : X8_isTick_wp G D v post := by
  refine isTick_sp ?_
  by_cases h : okT v
  · rw [decide_eq_true h]; exact k1 h
  · rw [decide_eq_false h]; exact k0 h
theorem isFar_if {v : Int32} {post : Int32 → Dat → Prop} (k0 : ¬ okF v → post 0 D) (k1 : okF v → post 1 D) : X8_isFarTick_wp G D v post := by
  refine isFar_sp ?_
  by_cases h : okF v
  · rw [decide_eq_true h]; exact k1 h
  · rw [decide_eq_false h]; exact k0 h
theorem cast_pos {d : Int} (h : 1 ≤ d) : ((d : Int) : Rat) ≠ 0 := fun q => by
  have : d = 0 := cast_eq.mp (by rw [q, cast_0])
  omega
theorem tellAnswer_sp (H : CS G ad ro) (h : ClV ad ro Z D S) {T B : Int} {ds : List Int} (hf : FrV ad D T B ds) (hB : B = lpd ds) (hB1 : 1 ≤ B) (hd : ∀ i, i < ds.length → 1 ≤ ds.getD i 0 ∧ ds.getD i 0 < 18014398509481984) {post : Int32 → Dat → Prop} (k : ∀ D', ClV ad ro Z D' (stO S (outR ((T : Rat) / (B : Rat)))) → post (nI (outR ((T : Rat) / (B : Rat))).length) D') : X8_tellAnswer_wp G D (ad 0) post := by
  refine ⟨H.x_, _, H.x3_, H.a_, _, H.x4_, H.sh_, ?_⟩
  refine reduce_sp H hf hB hd (fun D1 T' B' c f1 b7 b8 hc eT eB hco => ?_)
  have hB' : 1 ≤ B' := by
    by_cases q : 1 ≤ B'
    · exact q
    · have : B' * c ≤ 0 := Int.mul_nonpos_of_nonpos_of_nonneg (by omega) (by omega)
      omega
  obtain ⟨d, rfl⟩ := Int.eq_ofNat_of_zero_le (by omega : 0 ≤ B')
  have hco' : Nat.gcd T'.natAbs d = 1 := hco
  have eR : (T : Rat) / (B : Rat) = (T' : Rat) / ((d : Int) : Rat) := by
    have h1 := cast_pos hc
    have h2 := cast_pos hB'
    rw [eT, eB, cast_mul, cast_mul]
    generalize ((T' : Int) : Rat) = x
    generalize ((c : Int) : Rat) = y at *
    generalize ((d : Int) : Rat) = z at *
    grind
  rw [eR, outR_red (by omega) hco'] at k
  refine write_sp H b7 b8 (fun D2 f2 s2 => ?_)
  have h1 : ClV ad ro Z D1 S := h.fr H f1 (fun q a => by unfold pF pT pB bg at a; unfold pZ; omega)
  refine length_sp H s2 ⟨H.x_, ?_⟩
  refine k _ ?_
  have f3 : FrP ro D2 (dI D2 (ad 0) 8 0) (fun q => q = 0) := FrP.dI (H.inj_ 0 (by omega))
  refine ⟨fun r hr => ⟨?_, (h.1 r hr).2⟩, s2.fr H f3 (fun q a b => by unfold pS at a; omega), dI_s _ _ _ _, (h1.2.2.2.fr f2 (fun q a => by unfold pS pB bg at a; omega)).fr f3 (fun q a => by omega)⟩
  exact ((h1.1 r hr).1.fr H hr f2 (fun q a b => by unfold pR rb at a; unfold pS pB bg at b; omega)).fr H hr f3 (fun q a b => by unfold pR rb at a; omega)
theorem tell_sp (H : CS G ad ro) (h : ClV ad ro Z D S) {T B : Int} (hT : BigR ad D 0 T) (hB : BigR ad D 3 B) (bT : -1000000000000000000000000000000000000000000000 ≤ T ∧ T ≤ 1000000000000000000000000000000000000000000000) (bB : 1 ≤ B ∧ B < 18014398509481984) {d : Nat} (hd1 : 1 ≤ d) (hd : d ≤ 7) {post : Int32 → Dat → Prop} (k : ∀ D', ClV ad ro Z D' (stO S (outR ((T : Rat) / (B : Rat) / ((d : Int) : Rat)))) → post (nI (outR ((T : Rat) / (B : Rat) / ((d : Int) : Rat))).length) D') : X8_tell_wp G D (ad 0) (nI d) post := by
  have ok0 : okb 0 := by unfold okb; omega
  refine ⟨H.x_, _, H.x3_, H.a_, _, H.x5_, (H.big_ 0 ok0).1, _, H.x1_, H.p_, _, H.p8_, (H.big_ 3 ok3).1, ?_⟩
  refine start_sp H (fun D1 f1 r1 => ?_)
  have nF : ∀ b, (b = 0 ∨ b = 3) → ¬ pF (bg b) ∧ ¬ pF (bg b + 1) := fun b hb => by unfold pF pT pB bg; omega
  have e1 : (1 : Int32).toInt = 1 := rfl
  have eT : (0 : Int) * B + (1 : Int32).toInt * T * 1 = T := by rw [e1]; omega
  have := p12
  refine fadd_sp H r1 (by simp) (hT.fr H ok0 f1 (nF 0 (Or.inl rfl)).1 (nF 0 (Or.inl rfl)).2) (hB.fr H ok3 f1 (nF 3 (Or.inr rfl)).1 (nF 3 (Or.inr rfl)).2) (by decide +kernel) bT ⟨by omega, by decide +kernel⟩ ⟨by omega, bB.2⟩ ⟨by rw [e1]; omega, by rw [e1]; omega⟩ (by rw [eT]; omega) (fun D2 f2 r2 => ?_)
  rw [eT, Int.one_mul] at r2
  have p8 : (18014398509481984 : Int) < 134217728 ^ 8 := by decide +kernel
  refine divideBy_sp H r2 (by simp) ⟨by omega, by omega⟩ hd (fun D3 f3 r3 => ?_)
  have h3 : ClV ad ro Z D3 S := h.fr H ((f1.tr f2).tr f3) (fun q a => by unfold pF pT pB bg at a; unfold pZ; omega)
  have eq : (T : Rat) / ((B * (d : Int) : Int) : Rat) = (T : Rat) / (B : Rat) / ((d : Int) : Rat) := by
    have h1 := cast_pos (d := (d : Int)) (by omega)
    have h2 := cast_pos bB.1
    rw [cast_mul]
    generalize ((T : Int) : Rat) = x
    generalize ((B : Int) : Rat) = y at *
    generalize ((d : Int) : Rat) = z at *
    grind
  refine tellAnswer_sp H h3 r3 ?_ ?_ ?_ (by rw [eq]; exact k)
  · show _ = B * ((d : Int) * 1)
    rw [Int.mul_one]
  · have : 1 * 1 ≤ B * (d : Int) := Int.mul_le_mul bB.1 (by omega) (by omega) (by omega)
    omega
  · intro i hi
    have hi2 : i < 2 := by simpa using hi
    rcases (show i = 0 ∨ i = 1 by omega) with rfl | rfl
    · show 1 ≤ B ∧ B < _
      exact bB
    · show 1 ≤ (d : Int) ∧ (d : Int) < _
      omega
end CL
