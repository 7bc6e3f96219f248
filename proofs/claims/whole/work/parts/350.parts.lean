/-! Parting: the parts -/
def zT (A : AR) (u : Option Nat) (l : Nat) : Int := zz (Tq A u l)
def lvS (A : AR) (u : Option Nat) (p : Nat) : Int := si (fun p => zT A u p) p
def unS (A : AR) (u : Option Nat) (t a b : Nat) : Int := si (fun i => if a ≤ i then zT A u (plc A + i) * lc (uc A) i t else 0) b
def zD (A : AR) (u : Option Nat) : Int := zz (Dq A u (nU A))
def foS (A : AR) (u : Option Nat) (t : Nat) : Int := zT A u (t % plc A) + unS A u t 0 (nU A)
/-- where a part may be written -/
def okI (b : Nat) : Prop := b < 3 ∨ (80 ≤ b ∧ b < 120)
def pI (b q : Nat) : Prop := pT q ∨ pB b q
theorem okI_okb {b : Nat} (h : okI b) : okb b := by unfold okI at h; unfold okb; omega
theorem uc_b80 {A : AR} : ∀ f, f ∈ uc A → ∀ t, t < 80 → -79 ≤ f t ∧ f t ≤ 79 := by
  intro f hf t ht
  unfold uc at hf
  rcases List.mem_append.mp hf with hf | hf
  · rcases List.mem_append.mp hf with hf | hf
    · unfold rmp at hf
      split at hf
      · rw [List.mem_singleton.mp hf]; unfold rampc; omega
      · cases hf
    · obtain ⟨s, -, rfl⟩ := List.mem_map.mp hf
      unfold stepc; split <;> omega
  · obtain ⟨s, -, rfl⟩ := List.mem_map.mp hf
    unfold feastc; split <;> omega
theorem lc_b {A : AR} {i t : Nat} (hi : i < nU A) (ht : t < 80) : -79 ≤ lc (uc A) i t ∧ lc (uc A) i t ≤ 79 := by
  obtain ⟨f, hf, e⟩ := lc_mem hi
  rw [e]
  exact uc_b80 f hf t ht
theorem fFr_le {A : AR} : fFr A ≤ nU A := by
  unfold fFr nU uc
  rw [List.length_append (as := _ ++ _)]
  omega
section PT
variable {G : Shp} {ad ro : Nat → Nat} {D : Dat} {r : Nat} {A : AR} {u : Option Nat}
theorem lvS_b (hA : RowOK A) (hp : Pv A u (nU A)) {j : Nat} (hj : j ≤ plc A) : -(j * 30000000000000000000000000000000000000000000 : Int) ≤ lvS A u j ∧ lvS A u j ≤ j * 30000000000000000000000000000000000000000000 := si_abs (by decide) (fun i hi => Tp_b hA hp (by omega))
theorem unS_b (hA : RowOK A) (hp : Pv A u (nU A)) {t : Nat} (ht : t < 80) (a : Nat) {j : Nat} (hj : j ≤ nU A) : -(j * 790000000000000000000000000000000000000 : Int) ≤ unS A u t a j ∧ unS A u t a j ≤ j * 790000000000000000000000000000000000000 := si_abs (by decide) (fun i hi => by
  have h1 := Tz_b hA hp (i := i) (by omega)
  have h2 := lc_b (A := A) (i := i) (by omega) ht
  have := mul_abs_le (X := 10000000000000000000000000000000000000) (Y := 79) (y := lc (uc A) i t) h1.1 h1.2 h2.1 h2.2
  unfold zT
  split <;> omega)
theorem unS_bb (hA : RowOK A) (hp : Pv A u (nU A)) {t : Nat} (ht : t < 80) (a : Nat) {j : Nat} (hj : j ≤ nU A) : -5000000000000000000000000000000000000000 ≤ unS A u t a j ∧ unS A u t a j ≤ 5000000000000000000000000000000000000000 := by
  have := unS_b hA hp ht a hj
  have := nU_le hA
  omega
theorem lvS_bb (hA : RowOK A) (hp : Pv A u (nU A)) : -210000000000000000000000000000000000000000000 ≤ lvS A u (plc A) ∧ lvS A u (plc A) ≤ 210000000000000000000000000000000000000000000 := by
  have := lvS_b hA hp (Nat.le_refl (plc A))
  have := plc_b hA
  omega
theorem foS_b (hA : RowOK A) (hp : Pv A u (nU A)) {t : Nat} (ht : t < 80) : -40000000000000000000000000000000000000000000 ≤ foS A u t ∧ foS A u t ≤ 40000000000000000000000000000000000000000000 := by
  have h1 := unS_bb hA hp ht 0 (Nat.le_refl (nU A))
  have h2 := Tp_b hA hp (p := t % plc A) (Nat.mod_lt _ (by have := plc_b hA; omega))
  unfold foS zT
  omega
theorem FdV.pv (h : FdV ad D A u) : Pv A u (nU A) := h.1.2.2.1
theorem FdV.fT (H : CS G ad ro) (hA : RowOK A) {D' : Dat} (h : FdV ad D A u) (f : FrP ro D D' pT) : FdV ad D' A u := h.fr H hA f (fun q a b => by unfold pT at b; omega)
theorem FdV.fI (H : CS G ad ro) (hA : RowOK A) {D' : Dat} {b : Nat} (hb : okI b) (h : FdV ad D A u) (f : FrP ro D D' (pI b)) : FdV ad D' A u := h.fr H hA f (fun q a c => by unfold pI pT pB bg at c; unfold okI at hb; omega)
theorem addPlaceTops_sp (H : CS G ad ro) (hA : RowOK A) (h : FdV ad D A u) {z : Int} {m : Nat} (ht : TalR ad D z m) (hm : m ≤ 2) {v : Int64} (hv1 : -2147483648 ≤ v.toInt) (hv2 : v.toInt ≤ 2147483648) {post : Dat → Prop} (k : ∀ D', FrP ro D D' pT → TalR ad D' (z + v.toInt * lvS A u (plc A)) (m + plc A) → post D') : X2_addPlaceTops_wp G D (ad 2) v post := by
  have h7 := plc_b hA
  refine ⟨H.p_, _, H.p0_, H.tal_.1, _, H.p7_, H.pt_, ?_⟩
  have key := up_loop (L := fun n p (E : Dat) => X2_addPlaceTops_l2 G post (ad 2) v (ad 6) (ad 15) n (nI p) E) (plc A) (fun p E => FrP ro D E pT ∧ TalR ad E (z + v.toInt * lvS A u p) (m + p)) ?_ ?_ 0 D (by omega) ⟨FrP.rf, by rw [show lvS A u 0 = 0 from rfl, Int.mul_zero, Int.add_zero]; exact ht⟩
  · exact ⟨_, key⟩
  · intro n E hE
    have hF := h.fT H hA hE.1
    show X2_addPlaceTops_l2_b G post (ad 2) v (ad 6) (ad 15) _ _ _
    exact ⟨fun _ => k E hE.1 hE.2, fun q => absurd (by rw [hF.1.pl]; exact nI_le (Nat.le_refl _) (by omega)) q⟩
  · intro n p E hp hE hk
    have hF := h.fT H hA hE.1
    show X2_addPlaceTops_l2_b G post (ad 2) v (ad 6) (ad 15) _ _ _
    refine ⟨fun q => absurd q (by rw [hF.1.pl]; exact nI_ge hp (by omega)), fun _ => ⟨by rw [H.ptl_]; exact vp_in_nI (by omega) (by omega), _, by rw [nI_clamp (by omega)]; exact H.ptr_ p (by omega), (H.big_ _ (ok70 (by omega))).1, ?_⟩⟩
    refine addTimesR H (ok70 (by omega)) hE.2 (by omega) (hF.2.2 p hp) hv1 hv2 (fun D1 f1 t1 => ?_)
    rw [nI_1]
    refine hk D1 ⟨hE.1.tr f1, ?_⟩
    have e : z + v.toInt * lvS A u p + v.toInt * zz (Tq A u p) = z + v.toInt * lvS A u (p + 1) := by
      show _ = z + v.toInt * (lvS A u p + zz (Tq A u p))
      rw [Int.mul_add]; omega
    rw [e, show m + p + 1 = m + (p + 1) by omega] at t1
    exact t1
theorem addUnknowns_sp (H : CS G ad ro) (hA : RowOK A) (h : FdV ad D A u) {z : Int} {m : Nat} (ht : TalR ad D z m) (hm : m ≤ 8) {t a b : Nat} (htt : t < 80) (hab : a ≤ b) (hb : b ≤ nU A) {v : Int64} (hv1 : -7 ≤ v.toInt) (hv2 : v.toInt ≤ 7) {post : Dat → Prop} (k : ∀ D', FrP ro D D' pT → TalR ad D' (z + v.toInt * unS A u t a b) (m + (b - a)) → post D') : X2_addUnknowns_wp G D (ad 2) (nI a) (nI b) (nI t) v post := by
  have h6 := nU_le hA
  refine ⟨H.p_, _, H.p0_, H.tal_.1, _, H.p6_, H.to_, _, H.p1_, H.co_, ?_⟩
  refine isFar_sp ?_
  have et : decide (0 ≤ (nI t).toInt ∧ (nI t).toInt < 80) = true := by
    rw [nI_toInt (by omega)]
    exact decide_eq_true (by omega)
  rw [et]
  refine ⟨fun _ => ?_, fun q => absurd q (by decide)⟩
  have z0 : ∀ n, n ≤ a → unS A u t a n = 0 := by
    intro n
    induction n with
    | zero => intro _; rfl
    | succ n ihn =>
      intro hn
      show unS A u t a n + (if a ≤ n then zT A u (plc A + n) * lc (uc A) n t else 0) = 0
      rw [ihn (by omega), if_neg (by omega)]; rfl
  have key := up_loop (L := fun n i (E : Dat) => X2_addUnknowns_l11 G post (ad 2) (nI a) (nI b) (nI t) v (ad 6) (ad 14) (ad 9) n (nI i) E) b (fun i E => a ≤ i ∧ FrP ro D E pT ∧ TalR ad E (z + v.toInt * unS A u t a i) (m + (i - a))) ?_ ?_ a D hab ⟨Nat.le_refl _, FrP.rf, by rw [z0 a (Nat.le_refl _), Int.mul_zero, Int.add_zero, Nat.sub_self]; exact ht⟩
  · exact ⟨_, key⟩
  · intro n E hE
    show X2_addUnknowns_l11_b G post (ad 2) (nI a) (nI b) (nI t) v (ad 6) (ad 14) (ad 9) _ _ _
    exact ⟨fun _ => k E hE.2.1 hE.2.2, fun q => absurd (nI_le (Nat.le_refl _) (by omega)) q⟩
  · intro n i E hi hE hk
    obtain ⟨hai, fE, tE⟩ := hE
    have hF := h.fT H hA fE
    show X2_addUnknowns_l11_b G post (ad 2) (nI a) (nI b) (nI t) v (ad 6) (ad 14) (ad 9) _ _ _
    refine ⟨fun q => absurd q (nI_ge hi (by omega)), fun _ => ⟨by rw [H.tol_]; exact vp_in_nI (by omega) (by omega), _, by rw [nI_clamp (by omega)]; exact H.tor_ i (by omega), (H.big_ _ (ok60 (by omega))).1, by rw [H.col_]; exact vp_in_nI (by omega) (by omega), _, by rw [nI_clamp (by omega)]; exact H.cor_ i (by omega), H.ci_ i (by omega), by rw [H.cil_ i (by omega)]; exact vp_in_nI (by omega) (by omega), ?_⟩⟩
    rw [nI_clamp (n := t) (by omega)]
    have ec : (E.2 (ad (20 + i)) t).toInt = lc (uc A) i t := hF.1.1.1.1.2.2 i (by have : i < nU A := by omega
                                                                                  exact this) t htt
    have bc := lc_b (A := A) (i := i) (by omega) htt
    have bm := mul_abs_le (X := 79) (Y := 7) (x := lc (uc A) i t) (y := v.toInt) bc.1 bc.2 hv1 hv2
    have em : (E.2 (ad (20 + i)) t * v).toInt = lc (uc A) i t * v.toInt := by
      rw [L_mul (by rw [ec]; omega) (by rw [ec]; omega), ec]
    refine addTimesR H (ok60 (by omega)) tE (by omega) (hF.2.1 i (by omega)) (by rw [em]; omega) (by rw [em]; omega) (fun D1 f1 t1 => ?_)
    rw [nI_1]
    refine hk D1 ⟨by omega, fE.tr f1, ?_⟩
    have e : z + v.toInt * unS A u t a i + lc (uc A) i t * v.toInt * zz (Tq A u (plc A + i)) = z + v.toInt * unS A u t a (i + 1) := by
      show _ = z + v.toInt * (unS A u t a i + (if a ≤ i then zz (Tq A u (plc A + i)) * lc (uc A) i t else 0))
      rw [if_pos hai]
      grind
    rw [em, e, show m + (i - a) + 1 = m + (i + 1 - a) by omega] at t1
    exact t1
theorem addAllParts_sp (H : CS G ad ro) (hA : RowOK A) (h : FdV ad D A u) {z : Int} {m : Nat} (ht : TalR ad D z m) (hm : m ≤ 7) {t : Nat} (htt : t < 80) {v : Int64} (hv1 : -7 ≤ v.toInt) (hv2 : v.toInt ≤ 7) {post : Dat → Prop} (k : ∀ D', FrP ro D D' pT → TalR ad D' (z + v.toInt * foS A u t) (m + 1 + nU A) → post D') : X2_addAllParts_wp G D (ad 2) (nI t) v post := by
  have h6 := nU_le hA
  have h7 := plc_b hA
  refine ⟨H.p_, _, H.p0_, H.tal_.1, _, H.p7_, H.pt_, ?_⟩
  have hml : t % plc A < plc A := Nat.mod_lt _ (by omega)
  refine placeOf_sp H hA h.1.pl (by omega) ⟨by rw [H.ptl_]; exact vp_in_nI (by omega) (by omega), _, by rw [nI_clamp (by omega)]; exact H.ptr_ _ (by omega), (H.big_ _ (ok70 (by omega))).1, ?_⟩
  refine addTimesR H (ok70 (by omega)) ht (by omega) (h.2.2 _ hml) (by omega) (by omega) (fun D1 f1 t1 => ?_)
  have h1 := h.fT H hA f1
  rw [h1.1.un]
  refine addUnknowns_sp (a := 0) H hA h1 t1 (by omega) htt (by omega) (Nat.le_refl _) hv1 hv2 (fun D2 f2 t2 => k D2 (f1.tr f2) ?_)
  have e : z + v.toInt * zz (Tq A u (t % plc A)) + v.toInt * unS A u t 0 (nU A) = z + v.toInt * foS A u t := by
    unfold foS zT
    rw [Int.mul_add]; omega
  rw [e] at t2
  exact t2
theorem p12 : (1000000000000000000000000000000000000000000000 : Int) < 134217728 ^ 12 := by decide +kernel
theorem pI_B {b q : Nat} (h : pB b q) : pI b q := Or.inr h
theorem pI_T {b q : Nat} (h : pT q) : pI b q := Or.inl h
theorem level_sp (H : CS G ad ro) (hA : RowOK A) (h : FdV ad D A u) {b : Nat} (hb : okI b) {post : Dat → Prop} (k : ∀ D', FrP ro D D' (pI b) → BigR ad D' b (lvS A u (plc A)) → post D') : X2_level_wp G D (ad 2) (ad (bg b)) post := by
  have h7 := plc_b hA
  refine ⟨H.p_, (H.big_ _ (okI_okb hb)).1, _, H.p0_, H.tal_.1, tclearR H (fun D1 f1 t1 => ?_)⟩
  refine addPlaceTops_sp H hA (h.fT H hA f1) t1 (by omega) (by decide) (by decide) (fun D2 f2 t2 => ?_)
  have e1 : (1 : Int64).toInt = 1 := rfl
  rw [e1, Int.one_mul, Int.zero_add] at t2
  have hB := lvS_bb hA h.pv
  have := p12
  refine settleR H (okI_okb hb) t2 (by omega) (by omega) (by omega) (fun D3 f3 b3 => k D3 ((f1.tr f2).up (fun q => pI_T) |>.tr (f3.up (fun q => pI_B))) b3)
theorem slope_sp (H : CS G ad ro) (hA : RowOK A) (h : FdV ad D A u) {b : Nat} (hb : okI b) {post : Dat → Prop} (k : ∀ D', FrP ro D D' (pI b) → BigR ad D' b (if aL A = true then zT A u (plc A) else 0) → post D') : X2_slope_wp G D (ad 2) (ad (bg b)) post := by
  refine ⟨H.p_, (H.big_ _ (okI_okb hb)).1, _, H.p6_, H.to_, ?_⟩
  have e : D.1 (ad 2) 12 = nI (rmp A).length := h.1.1.1.2.2.1
  rw [e, rmp_len]
  by_cases q : aL A = true
  · rw [if_pos q] at k ⊢
    refine ⟨fun w => absurd w (by decide), fun _ => ⟨by rw [H.tol_]; unfold vp_in; decide, _, H.tor_ 0 (by omega), (H.big_ _ (ok60 (by omega))).1, ?_⟩⟩
    have hn : 0 < nU A := by
      have : (rmp A).length = 1 := by rw [rmp_len, if_pos q]
      unfold nU uc
      rw [List.length_append, List.length_append]
      omega
    exact copyR H (okI_okb hb) (ok60 (by omega)) (by unfold okI at hb; omega) (h.2.1 0 hn) (fun D1 f1 b1 => k D1 (f1.up (fun q => pI_B)) b1)
  · rw [if_neg q] at k ⊢
    exact ⟨fun _ => setToR H (okI_okb hb) (by decide) (fun D1 f1 b1 => k D1 (f1.up (fun q => pI_B)) b1), fun w => absurd (by decide) w⟩
theorem cost_sp (H : CS G ad ro) (hA : RowOK A) (h : WgV ad D A u) {b : Nat} (hb : okI b) {post : Dat → Prop} (k : ∀ D', FrP ro D D' (pI b) → BigR ad D' b (zz (Bq A u (nU A) (nU A) (nU A))) → post D') : X2_cost_wp G D (ad 2) (ad (bg b)) post := by
  have h6 := nU_le hA
  refine ⟨H.p_, (H.big_ _ (okI_okb hb)).1, ?_⟩
  rw [h.un]
  refine cell_sp H h6 h6 ⟨_, rfl, ?_⟩
  have c := h.2.2.2.1 (nU A) (nU A) (Nat.le_refl _) (Nat.le_refl _)
  rw [if_neg (by omega)] at c
  exact copyR H (okI_okb hb) (cb_ok h6 h6) (by unfold okI at hb; unfold cb; omega) c (fun D1 f1 b1 => k D1 (f1.up (fun q => pI_B)) b1)
theorem unknown_sp (H : CS G ad ro) (hA : RowOK A) (h : FdV ad D A u) {i : Nat} (hi : i < nU A) {b : Nat} (hb : okI b) {post : Dat → Prop} (k : ∀ D', FrP ro D D' (pI b) → BigR ad D' b (zT A u (plc A + i)) → post D') : X2_unknown_wp G D (ad 2) (nI i) (ad (bg b)) post := by
  have h6 := nU_le hA
  refine ⟨H.p_, (H.big_ _ (okI_okb hb)).1, _, H.p6_, H.to_, fun q => absurd q (nI_nneg (by omega)), fun _ => ?_⟩
  rw [h.1.un]
  refine ⟨fun q => absurd q (nI_ge hi (by omega)), fun _ => ⟨by rw [H.tol_]; exact vp_in_nI (by omega) (by omega), _, by rw [nI_clamp (by omega)]; exact H.tor_ i (by omega), (H.big_ _ (ok60 (by omega))).1, ?_⟩⟩
  exact copyR H (okI_okb hb) (ok60 (by omega)) (by unfold okI at hb; omega) (h.2.1 i hi) (fun D1 f1 b1 => k D1 (f1.up (fun q => pI_B)) b1)
theorem plc64 (hA : RowOK A) : (nI (plc A)).toInt64.toInt = (plc A : Int) := by
  have h7 := plc_b hA
  rw [L_i2l, nI_toInt (by omega)]
theorem trend_sp (H : CS G ad ro) (hA : RowOK A) (h : FdV ad D A u) {t : Nat} (ht : t < 80) {b : Nat} (hb : okI b) {post : Dat → Prop} (k : ∀ D', FrP ro D D' (pI b) → BigR ad D' b (lvS A u (plc A) + plc A * unS A u t 0 (fFr A)) → post D') : X2_trend_wp G D (ad 2) (nI t) (ad (bg b)) post := by
  have h7 := plc_b hA
  have h6 := nU_le hA
  have hf := fFr_le (A := A)
  refine ⟨H.p_, (H.big_ _ (okI_okb hb)).1, _, H.p0_, H.tal_.1, tclearR H (fun D1 f1 t1 => ?_)⟩
  refine addPlaceTops_sp H hA (h.fT H hA f1) t1 (by omega) (by decide) (by decide) (fun D2 f2 t2 => ?_)
  have h2 := h.fT H hA (f1.tr f2)
  rw [h2.1.1.1.2.2.2, h2.1.pl]
  refine addUnknowns_sp (a := 0) H hA h2 t2 (by omega) ht (by omega) hf (by rw [plc64 hA]; omega) (by rw [plc64 hA]; omega) (fun D3 f3 t3 => ?_)
  have e1 : (1 : Int64).toInt = 1 := rfl
  rw [e1, Int.one_mul, Int.zero_add, plc64 hA] at t3
  have hB := lvS_bb hA h.pv
  have hU := unS_bb hA h.pv ht 0 hf
  have hM := mul_abs_le (X := 7) (x := (plc A : Int)) (y := unS A u t 0 (fFr A)) (by omega) (by omega) hU.1 hU.2
  have := p12
  exact settleR H (okI_okb hb) t3 (by omega) (by omega) (by omega) (fun D4 f4 b4 => k D4 (((f1.tr f2).tr f3).up (fun q => pI_T) |>.tr (f4.up (fun q => pI_B))) b4)
theorem seasonOf_sp (H : CS G ad ro) (hA : RowOK A) (h : FdV ad D A u) {p : Nat} (hp : p < plc A) {b : Nat} (hb : okI b) {post : Dat → Prop} (k : ∀ D', FrP ro D D' (pI b) → BigR ad D' b (plc A * zT A u p - lvS A u (plc A)) → post D') : X2_seasonOf_wp G D (ad 2) (nI p) (ad (bg b)) post := by
  have h7 := plc_b hA
  refine ⟨H.p_, (H.big_ _ (okI_okb hb)).1, _, H.p0_, H.tal_.1, _, H.p7_, H.pt_, tclearR H (fun D1 f1 t1 => ?_)⟩
  have h1 := h.fT H hA f1
  refine ⟨fun q => absurd q (nI_nneg (by omega)), fun _ => ?_⟩
  rw [h1.1.pl]
  refine ⟨fun q => absurd q (nI_ge hp (by omega)), fun _ => ⟨by rw [H.ptl_]; exact vp_in_nI (by omega) (by omega), _, by rw [nI_clamp (by omega)]; exact H.ptr_ _ (by omega), (H.big_ _ (ok70 (by omega))).1, ?_⟩⟩
  refine addTimesR H (ok70 (by omega)) t1 (by omega) (h1.2.2 p hp) (by rw [plc64 hA]; omega) (by rw [plc64 hA]; omega) (fun D2 f2 t2 => ?_)
  refine addPlaceTops_sp H hA (h1.fT H hA f2) t2 (by omega) (by decide) (by decide) (fun D3 f3 t3 => ?_)
  have e1 : (-1 : Int64).toInt = -1 := rfl
  rw [e1, plc64 hA] at t3
  have hB := lvS_bb hA h.pv
  have hU := Tp_b hA h.pv hp
  have hM := mul_abs_le (X := 7) (x := (plc A : Int)) (y := zz (Tq A u p)) (by omega) (by omega) hU.1 hU.2
  have := p12
  have e : 0 + (plc A : Int) * zz (Tq A u p) + -1 * lvS A u (plc A) = plc A * zT A u p - lvS A u (plc A) := by unfold zT; omega
  rw [e] at t3
  unfold zT at t3 k
  exact settleR H (okI_okb hb) t3 (by omega) (by omega) (by omega) (fun D4 f4 b4 => k D4 (((f1.tr f2).tr f3).up (fun q => pI_T) |>.tr (f4.up (fun q => pI_B))) b4)
theorem feastsOn_sp (H : CS G ad ro) (hA : RowOK A) (h : FdV ad D A u) {t : Nat} (ht : t < 80) {b : Nat} (hb : okI b) {post : Dat → Prop} (k : ∀ D', FrP ro D D' (pI b) → BigR ad D' b (unS A u t (fFr A) (nU A)) → post D') : X2_feastsOn_wp G D (ad 2) (nI t) (ad (bg b)) post := by
  have h6 := nU_le hA
  refine ⟨H.p_, (H.big_ _ (okI_okb hb)).1, _, H.p0_, H.tal_.1, tclearR H (fun D1 f1 t1 => ?_)⟩
  have h2 := h.fT H hA f1
  rw [h2.1.1.1.2.2.2, h2.1.un]
  refine addUnknowns_sp H hA h2 t1 (by omega) ht fFr_le (Nat.le_refl _) (by decide) (by decide) (fun D3 f3 t3 => ?_)
  have e1 : (1 : Int64).toInt = 1 := rfl
  rw [e1, Int.one_mul, Int.zero_add] at t3
  have hU := unS_bb hA h.pv ht (fFr A) (Nat.le_refl _)
  have := p12
  exact settleR H (okI_okb hb) t3 (by omega) (by omega) (by omega) (fun D4 f4 b4 => k D4 ((f1.tr f3).up (fun q => pI_T) |>.tr (f4.up (fun q => pI_B))) b4)
theorem foretold_sp (H : CS G ad ro) (hA : RowOK A) (h : FdV ad D A u) {t : Nat} (ht : t < 80) {b : Nat} (hb : okI b) {post : Dat → Prop} (k : ∀ D', FrP ro D D' (pI b) → BigR ad D' b (foS A u t) → post D') : X2_foretold_wp G D (ad 2) (nI t) (ad (bg b)) post := by
  have h6 := nU_le hA
  refine ⟨H.p_, (H.big_ _ (okI_okb hb)).1, _, H.p0_, H.tal_.1, tclearR H (fun D1 f1 t1 => ?_)⟩
  refine addAllParts_sp H hA (h.fT H hA f1) t1 (by omega) ht (by decide) (by decide) (fun D3 f3 t3 => ?_)
  have e1 : (1 : Int64).toInt = 1 := rfl
  rw [e1, Int.one_mul, Int.zero_add] at t3
  have hU := foS_b hA h.pv ht
  have := p12
  exact settleR H (okI_okb hb) t3 (by omega) (by omega) (by omega) (fun D4 f4 b4 => k D4 ((f1.tr f3).up (fun q => pI_T) |>.tr (f4.up (fun q => pI_B))) b4)
theorem leftOver_b (hA : RowOK A) (hp : Pv A u (nU A)) {t : Nat} (ht : t < 40) : -50000000000000000000000000000000000000000000 ≤ zD A u * yv A u t - foS A u t ∧ zD A u * yv A u t - foS A u t ≤ 50000000000000000000000000000000000000000000 := by
  have hU := foS_b hA hp (t := t) (by omega)
  have d1 := zD_pos hp
  have d2 := zD_lt hA (Nat.le_refl _) hp
  have hy := cf_b hA u (i := nU A) ht
  rw [cf_def, if_neg (by omega)] at hy
  have hM := mul_abs_le (X := 18014398509481984) (x := zz (Dq A u (nU A))) (by omega) (by omega) hy.1 hy.2
  unfold zD
  omega
theorem leftOver_sp (H : CS G ad ro) (hA : RowOK A) (h : FdV ad D A u) {t : Nat} (ht : t < 40) {b : Nat} (hb : okI b) {post : Dat → Prop} (k : ∀ D', FrP ro D D' (pI b) → BigR ad D' b (zD A u * yv A u t - foS A u t) → post D') : X2_leftOver_wp G D (ad 2) (nI t) (ad (bg b)) post := by
  have h6 := nU_le hA
  refine ⟨H.p_, (H.big_ _ (okI_okb hb)).1, _, H.p0_, H.tal_.1, _, H.p8_, (H.big_ 3 ok3).1, _, H.p1_, H.co_, tclearR H (fun D1 f1 t1 => isTick_sp ?_)⟩
  have et : decide (0 ≤ (nI t).toInt ∧ (nI t).toInt < 40) = true := by
    rw [nI_toInt (by omega)]
    exact decide_eq_true (by omega)
  rw [et]
  have h1 := h.fT H hA f1
  refine ⟨fun q => absurd q (by decide), fun _ => ?_⟩
  rw [h1.1.un]
  refine ⟨by rw [H.col_]; exact vp_in_nI (by omega) (by omega), _, by rw [nI_clamp (by omega)]; exact H.cor_ _ (by omega), H.ci_ _ (by omega), by rw [H.cil_ _ (by omega)]; exact vp_in_nI (by omega) (by omega), ?_⟩
  rw [nI_clamp (n := t) (by omega)]
  have ec := h1.1.1.2 t ht
  have hy := cf_b hA u (i := nU A) ht
  rw [cf_def, if_neg (by omega)] at hy
  refine addTimesR H ok3 t1 (by omega) h1.1.2.2.2.2 (by rw [ec]; omega) (by rw [ec]; omega) (fun D2 f2 t2 => ?_)
  refine addAllParts_sp H hA (h1.fT H hA f2) t2 (by omega) (by omega) (by decide) (by decide) (fun D3 f3 t3 => ?_)
  have e1 : (-1 : Int64).toInt = -1 := rfl
  have e : 0 + yv A u t * zz (Dq A u (nU A)) + -1 * foS A u t = zD A u * yv A u t - foS A u t := by
    unfold zD
    rw [Int.mul_comm (yv A u t)]; omega
  rw [e1, ec, e] at t3
  have hU := leftOver_b hA h.pv ht
  have := p12
  exact settleR H (okI_okb hb) t3 (by omega) (by omega) (by omega) (fun D4 f4 b4 => k D4 (((f1.tr f2).tr f3).up (fun q => pI_T) |>.tr (f4.up (fun q => pI_B))) b4)
/-- two costs compared: against a cost and a bottom that were kept -/
theorem costsLess_sp (H : CS G ad ro) (hA : RowOK A) (h : WgV ad D A u) {x y : Int} (hx : BigR ad D 1 x) (hy : BigR ad D 2 y) (bx : -72057594037927936000000000 ≤ x ∧ x ≤ 72057594037927936000000000) (byy : 0 ≤ y ∧ y < 18014398509481984) {post : Int32 → Dat → Prop} (k : ∀ D', FrP ro D D' (fun q => pT q ∨ pB 4 q) → post (bI (decide (zz (Bq A u (nU A) (nU A) (nU A)) * y - x * zD A u < 0))) D') : X2_costsLessThan_wp G D (ad 2) (ad (bg 1)) (ad (bg 2)) post := by
  have h6 := nU_le hA
  have ok1 : okb 1 := by unfold okb; omega
  have ok2 : okb 2 := by unfold okb; omega
  have ok4 : okb 4 := by unfold okb; omega
  have nT : ∀ b, okb b → ¬ pT (bg b) ∧ ¬ pT (bg b + 1) := fun b _ => by unfold pT bg; omega
  refine ⟨H.p_, (H.big_ _ ok1).1, (H.big_ _ ok2).1, _, H.p0_, H.tal_.1, _, H.p8_, (H.big_ 3 ok3).1, _, H.p9_, (H.big_ 4 ok4).1, tclearR H (fun D1 f1 t1 => ?_)⟩
  have h1 : WgV ad D1 A u := h.fr H hA f1 (fun q a b => by unfold pT at b; omega)
  rw [h1.un]
  refine cell_sp H h6 h6 ⟨_, rfl, ?_⟩
  have c := h1.2.2.2.1 (nU A) (nU A) (Nat.le_refl _) (Nat.le_refl _)
  rw [if_neg (by omega)] at c
  have hb := Bz_b hA (u := u) (Nat.le_refl _) h.2.2.1 (nU A) (nU A)
  have hz := Bz_az hA (u := u) (Nat.le_refl _) h.2.2.1 (nU A) (nU A)
  have y1 := hy.fr H ok2 f1 (nT 2 ok2).1 (nT 2 ok2).2
  have d1 := zD_pos h.2.2.1
  have d2 := zD_lt hA (Nat.le_refl _) h.2.2.1
  refine addProductR H (cb_ok h6 h6) ok2 t1 (by omega) c y1 hz (q := 2) (by unfold az; rw [if_neg (by omega)]; exact byy.2) (by omega) isB_0 (fun D2 f2 t2 => ?_)
  have F2 := f1.tr f2
  have h2 : WgV ad D2 A u := h.fr H hA F2 (fun q a b => by unfold pT at b; omega)
  refine addProductR H ok1 ok3 t2 (by omega) (hx.fr H ok1 F2 (nT 1 ok1).1 (nT 1 ok1).2) h2.2.2.2.2 (p := 4) (q := 2) (az_lt bx (by decide +kernel)) (by unfold az; rw [if_neg (by omega)]; exact d2) (by omega) isB_1 (fun D3 f3 t3 => ?_)
  have e : 0 + sg 0 * (zz (Bq A u (nU A) (nU A) (nU A)) * y) + sg 1 * (x * zz (Dq A u (nU A))) = zz (Bq A u (nU A) (nU A) (nU A)) * y - x * zD A u := by
    rw [sg_0, sg_1]; unfold zD; omega
  rw [e] at t3
  have m1 := mul_abs_le (Y := 18014398509481984) (y := y) hb.1 hb.2 (by omega) (by omega)
  have m2 := mul_abs_le (Y := 18014398509481984) (y := zD A u) bx.1 bx.2 (by unfold zD; omega) (by unfold zD; omega)
  have pw : (2 * (72057594037927936000000000 * 18014398509481984) : Int) < 134217728 ^ 12 := by decide +kernel
  refine settleR H ok4 t3 (by omega) (by omega) (by omega) (fun D4 f4 b4 => ?_)
  have eb := BigV.below b4
  rw [eb]
  have e2 : (if zz (Bq A u (nU A) (nU A) (nU A)) * y - x * zD A u < 0 then (1 : Int32) else 0) = bI (decide (zz (Bq A u (nU A) (nU A) (nU A)) * y - x * zD A u < 0)) := by
    unfold bI
    by_cases q : zz (Bq A u (nU A) (nU A) (nU A)) * y - x * zD A u < 0
    · rw [if_pos q, decide_eq_true q]; rfl
    · rw [if_neg q, decide_eq_false q]; rfl
  rw [e2]
  exact ⟨bI_B _, k D4 (((F2.tr f3).up (fun q a => Or.inl a)).tr (f4.up (fun q a => Or.inr a)))⟩
end PT
