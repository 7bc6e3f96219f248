/-! the reference: a round -/
def anB (f : Nat → Bool) : Nat → Bool
  | 0 => false
  | n + 1 => anB f n || f n
theorem anB_ct (f : Nat → Bool) : ∀ n, anB f n = decide (0 < ct f n)
  | 0 => rfl
  | n + 1 => by
    show (anB f n || f n) = _
    rw [anB_ct f n, ct_succ]
    cases f n
    · rw [Bool.or_false, if_neg (by decide)]; rfl
    · rw [Bool.or_true, if_pos rfl, decide_eq_true (by omega)]
def bec (A : AR) (n d : Int) (t : Nat) : Bool := aK A t && decide ((n : Rat) * mdR A (szR A) 40 < (d : Rat) * szR A t)
theorem nwX_ct (A : AR) (n d : Int) : ∀ m, ct (nwX A n d) m = ct (aX A) m + ct (bec A n d) m
  | 0 => rfl
  | m + 1 => by
    rw [ct_succ, ct_succ, ct_succ, nwX_ct A n d m]
    have e : nwX A n d m = (aX A m || bec A n d m) := rfl
    have e2 : bec A n d m = (aF A m && !aX A m && decide ((n : Rat) * mdR A (szR A) 40 < (d : Rat) * szR A m)) := rfl
    rw [e]
    cases hx : aX A m
    · rw [Bool.false_or]
      cases bec A n d m
      · rw [if_neg (by decide)]; omega
      · rw [if_pos rfl, if_neg (by decide)]; omega
    · have : bec A n d m = false := by rw [e2, hx]; cases aF A m <;> rfl
      rw [this, Bool.or_false, if_pos rfl, if_neg (by decide)]
      omega
theorem more_e (A : AR) (n d : Int) : anB (bec A n d) 40 = decide (ct (aX A) 40 < ct (nwX A n d) 40) := by
  rw [anB_ct, nwX_ct]
  by_cases q : 0 < ct (bec A n d) 40
  · rw [decide_eq_true q, decide_eq_true (by omega)]
  · rw [decide_eq_false q, decide_eq_false (by omega)]
section RD
variable {G : Shp} {ad ro : Nat → Nat} {D D' : Dat} {S : AS} {Z : Dat} {r t T : Nat} {A : AR} {post : Int32 → Dat → Prop}
theorem RrV.xc (h : RrV ad D r A) {x : Nat → Bool} (e : ∀ t, t < 40 → aX A t = x t) : RrV ad D r (wX A x) := ⟨fun t ht => ⟨(h.1 t ht).1, (h.1 t ht).2.1, by rw [(h.1 t ht).2.2, e t ht]; rfl⟩, h.2⟩
theorem above9_R (hA : RowOK A) (hp : Pv A none (nU A)) {M : Int} (hM : ((M : Int) : Rat) = (dr A none : Int) * mdR A (szR A) 40) (n d : Int) (t : Nat) : (n * M < d * szr A t) ↔ ((n : Rat) * mdR A (szR A) 40 < (d : Rat) * szR A t) := by
  rw [← cast_lt, cast_mul, cast_mul, hM, szr_R hA hp]
  have e1 : (n : Rat) * ((dr A none : Int) * mdR A (szR A) 40) = (dr A none : Int) * ((n : Rat) * mdR A (szR A) 40) := by grind
  have e2 : (d : Rat) * ((dr A none : Int) * szR A t) = (dr A none : Int) * ((d : Rat) * szR A t) := by grind
  rw [e1, e2, pos_lt (dr_Rp hA hp)]
theorem b28_in (H : RG G ad ro) {i : Nat} (hi : i < 40) : vp_in (nI i) (G.2.2.1 (ad 528)) := by rw [H.bec_.2.2]; exact vp_in_nI hi (by omega)
theorem b27_in (H : RG G ad ro) {i : Nat} (hi : i < 40) : vp_in (nI i) (G.2.2.1 (ad 527)) := by rw [H.bef_.2.2]; exact vp_in_nI hi (by omega)
theorem wk28 (H : RG G ad ro) {i : Nat} {v : Int32} : WkF ad ro D (dI D (ad 528) i v) := ⟨FrP.dI (by rw [H.inj_ 528 (by omega) (by omega)]; unfold pW; omega), by rw [dI_n _ _ _ (H.ne (by omega) (by omega) (by omega))], by rw [dI_n _ _ _ (H.ne (by omega) (by omega) (by omega))]⟩
theorem wk27 (H : RG G ad ro) {i : Nat} {v : Int32} : WkF ad ro D (dI D (ad 527) i v) := ⟨FrP.dI (by rw [H.inj_ 527 (by omega) (by omega)]; unfold pW; omega), by rw [dI_n _ _ _ (H.ne (by omega) (by omega) (by omega))], by rw [dI_n _ _ _ (H.ne (by omega) (by omega) (by omega))]⟩
theorem sgI_le0 {z : Int} : sgI z ≤ 0 ↔ z ≤ 0 := by
  unfold sgI
  by_cases h : z < 0
  · rw [if_pos h]; exact ⟨fun _ => by omega, fun _ => by decide⟩
  · rw [if_neg h]
    by_cases h2 : z = 0
    · rw [if_pos h2]; exact ⟨fun _ => by omega, fun _ => by decide⟩
    · rw [if_neg h2]; exact ⟨fun q => absurd q (by decide), fun q => by omega⟩
/-- the new strangers are marked -/
def mkX (A : AR) (f : Nat → Bool) (i t : Nat) : Bool := aX A t || (decide (t < i) && f t)
theorem round_mark (H : RG G ad ro) (hr : r < 4) (hKs : OKS S) (h : RfV ad ro Z D S) {f : Nat → Bool} (hb : ∀ t, t < 40 → D.1 (ad 528) t = bI (f t)) {v5 n d : Int32} (h5 : isB v5) (k : ∀ D', RfV ad ro Z D' (stR S r (wX (S.1 r) (fun t => aX (S.1 r) t || f t))) → D'.1 (ad 527) = D.1 (ad 527) → post v5 D') : ∃ m, X9_round_l113 G post (ad 500) (nI r) n d (ad 528) (ad 529) (ad 516) m v5 0 D := by
  have key := up_loop (L := fun m i (E : Dat) => X9_round_l113 G post (ad 500) (nI r) n d (ad 528) (ad 529) (ad 516) m v5 (nI i) E) 40 (fun i E => RcF ad ro D E r ∧ RrV ad E r (wX (S.1 r) (mkX (S.1 r) f i)) ∧ (∀ t, t < 40 → E.1 (ad 528) t = bI (f t)) ∧ E.1 (ad 527) = D.1 (ad 527)) ?_ ?_ 0 D (by omega) ⟨RcF.rf, (h.1 r hr).xc (fun t ht => by unfold mkX; rw [decide_eq_false (by omega), Bool.false_and, Bool.or_false]), hb, rfl⟩
  · exact ⟨_, key⟩
  · intro m E hE
    obtain ⟨fE, rE, bE, eE⟩ := hE
    show X9_round_l113_b G post (ad 500) (nI r) n d (ad 528) (ad 529) (ad 516) _ _ _ _
    unfold X9_round_l113_b
    refine ⟨fun _ => ⟨h5, ?_⟩, fun q => absurd (by decide) q⟩
    refine k E (h.rc H hKs fE ?_) eE
    exact rE.xc (x := fun t => aX (S.1 r) t || f t) (fun t ht => by
      show mkX (S.1 r) f 40 t = _
      unfold mkX
      rw [decide_eq_true ht, Bool.true_and])
  · intro m i E hi hE hk
    obtain ⟨fE, rE, bE, eE⟩ := hE
    show X9_round_l113_b G post (ad 500) (nI r) n d (ad 528) (ad 529) (ad 516) _ _ _ _
    unfold X9_round_l113_b X9_round_j142 X9_spot_wp
    rw [spot_e]
    dsimp only
    rw [nI_clamp (n := i) (by omega), nI_clamp (n := 40 * r + i) (by omega), bE i hi, nI_1 i]
    refine ⟨fun q => absurd q (by rw [show (40 : Int32) = nI 40 by decide]; exact nI_ge hi (by omega)), fun _ => ⟨b28_in H hi, fun q => ?_, fun q => ⟨in160 H H.isx_ hr hi, ?_⟩⟩⟩
    · refine hk E ⟨fE, rE.xc (fun t ht => ?_), bE, eE⟩
      show mkX (S.1 r) f i t = mkX (S.1 r) f (i + 1) t
      unfold mkX
      by_cases e : t = i
      · subst e
        rw [bI_0.mp q, Bool.and_false, Bool.and_false]
      · by_cases l : t < i
        · rw [decide_eq_true l, decide_eq_true (by omega)]
        · rw [decide_eq_false l, decide_eq_false (by omega)]
    · have ft := bI_n0.mp q
      have e1 : vp_nar .boolean 1 = bI true := rfl
      rw [e1]
      refine hk _ ⟨fE.tr (RcF.w H (by unfold inR; omega)), (rE.mX H hr hi (b := true)).xc (x := mkX (S.1 r) f (i + 1)) (fun t ht => ?_), fun t ht => ?_, ?_⟩
      · show ups (mkX (S.1 r) f i) i true t = mkX (S.1 r) f (i + 1) t
        by_cases e : t = i
        · subst e
          rw [show ups (mkX (S.1 r) f t) t true t = true from if_pos rfl]
          unfold mkX
          rw [decide_eq_true (by omega), ft, Bool.true_and, Bool.or_true]
        · rw [ups_n e]
          unfold mkX
          by_cases l : t < i
          · rw [decide_eq_true l, decide_eq_true (by omega)]
          · rw [decide_eq_false l, decide_eq_false (by omega)]
      · rw [dI_n _ _ _ (H.ne (by omega) (by omega) (by omega))]
        exact bE t ht
      · rw [dI_n _ _ _ (H.ne (by omega) (by omega) (by omega))]
        exact eE
theorem round9_sp (H : RG G ad ro) (hr : r < 4) (hKs : OKS S) (h : RfV ad ro Z D S) (hs : SlV ad D (S.1 r) none) (hTop : TopV ad D 0) {n d : Int32} (hn : okSh n) (hd : okSh d) (k : ∀ D', RfV ad ro Z D' (stR S r (wX (S.1 r) (nwX (S.1 r) n.toInt d.toInt))) → D'.1 (ad 527) = D.1 (ad 527) → post (bI (decide (ct (aX (S.1 r)) 40 < ct (nwX (S.1 r) n.toInt d.toInt) 40))) D') : X9_round_wp G D (ad 500) (nI r) n d post := by
  have hA := hKs r hr
  have hp := hs.1
  refine ⟨H.x_, _, H.bec_.1, H.bec_.2.1, _, H.sz0_.1, H.sz0_.2.1, _, H.isx_.1, H.isx_.2.1, ?_⟩
  have en : (n.toInt64).toInt = n.toInt := L_i2l n
  have ed : (d.toInt64).toInt = d.toInt := L_i2l d
  refine whole_sp H hTop (by omega) (by rw [en]; omega) (fun D1 n1 hn1 f1 t1 w1 => ?_)
  rw [en] at w1
  refine middle9_sp H hr ((h.1 r hr).wk H f1.wk) hA hp (by omega) t1 (hs.2.1.wn H f1.wn) (fun D2 p2 n2 T2 M a1 a2 a3 f2 t2 s2 w2 hM hM0 => ?_)
  refine times_sp H t2 (f2.nm w1 a1) w2 (by omega) (fun D3 n3 hn3 f3 t3 w3 => ?_)
  have e27 : D3.1 (ad 527) = D.1 (ad 527) := by
    rw [f3.1.mi H (by omega) (by unfold pG; omega), f2.1.mi H (by omega) (by unfold pG; omega), f1.1.mi H (by omega) (by unfold pG; omega)]
  have h3 : RfV ad ro Z D3 S := ((h.wk H f1.wk).wk H f2.wk).wk H f3.wk
  have s3 := s2.bg H f3 (T' := T2 + n3 + 1) (by omega)
  generalize hTB : T2 + n3 + 1 = TB at *
  have hTB2 : TB ≤ 130000 := by omega
  have key := up_loop2 (L := fun f i (U : Nat) (E : Dat) => X9_round_l23 G post (ad 500) (nI r) n d (ad 528) (ad 529) (ad 516) f (nI T2) (bI (anB (bec (S.1 r) n.toInt d.toInt) i)) (nI i) E) 40 (fun i U E => TB ≤ U ∧ U ≤ TB + 80 * i ∧ WkF ad ro D3 E ∧ (∀ j, j < TB → E.1 (ad 501) j = D3.1 (ad 501) j) ∧ E.1 (ad 529) = D3.1 (ad 529) ∧ E.1 (ad 527) = D3.1 (ad 527) ∧ TopV ad E U ∧ ∀ t, t < i → E.1 (ad 528) t = bI (bec (S.1 r) n.toInt d.toInt t)) ?_ ?_ 0 TB D3 (by omega) ⟨by omega, by omega, WkF.rf, fun _ _ => rfl, rfl, rfl, t3, fun t ht => absurd ht (Nat.not_lt_zero t)⟩
  · exact ⟨_, key⟩
  · intro f U E hE
    obtain ⟨g1, g2, fE, mE, e9, e7, tE, bE⟩ := hE
    show X9_round_l23_b G post (ad 500) (nI r) n d (ad 528) (ad 529) (ad 516) _ _ _ _ _
    unfold X9_round_l23_b
    refine ⟨fun _ => ?_, fun q => absurd (by decide) q⟩
    rw [more_e]
    refine round_mark H hr hKs (h3.wk H fE) bE (bI_B _) (fun E2 h2 e2 => k E2 h2 ?_)
    rw [e2, e7, e27]
  · intro f i U E hi hE hk
    obtain ⟨g1, g2, fE, mE, e9, e7, tE, bE⟩ := hE
    show X9_round_l23_b G post (ad 500) (nI r) n d (ad 528) (ad 529) (ad 516) _ _ _ _ _
    unfold X9_round_l23_b X9_round_j80
    have eA : anB (bec (S.1 r) n.toInt d.toInt) (i + 1) = (anB (bec (S.1 r) n.toInt d.toInt) i || bec (S.1 r) n.toInt d.toInt i) := rfl
    have hE3 := h3.wk H fE
    /- the mark is put -/
    have put : ∀ E2 U2 b, bec (S.1 r) n.toInt d.toInt i = b → U ≤ U2 → U2 ≤ U + 80 → BgF ad ro E E2 U → TopV ad E2 U2 → X9_round_j81 G post (ad 500) (nI r) n d (ad 528) (ad 529) (ad 516) (X9_round_l23 G post (ad 500) (nI r) n d (ad 528) (ad 529) (ad 516) f) (nI T2) (bI (anB (bec (S.1 r) n.toInt d.toInt) i)) (nI i) (bI b) (nI i) (ad 528) E2 := fun E2 U2 b hb c1 c2 c3 c4 => by
      unfold X9_round_j81 X9_round_j97 X9_round_j102
      rw [nI_clamp (n := i) (by omega), nar_bI, nI_1 i, dI_s]
      have go : X9_round_l23 G post (ad 500) (nI r) n d (ad 528) (ad 529) (ad 516) f (nI T2) (bI (anB (bec (S.1 r) n.toInt d.toInt) (i + 1))) (nI (i + 1)) (dI E2 (ad 528) i (bI b)) := by
        refine hk U2 _ ⟨by omega, tb3 g2 c2, (fE.tr c3.wk).tr (wk28 H), fun j hj => ?_, ?_, ?_, ⟨?_, c4.2⟩, fun t ht => ?_⟩
        · rw [dI_n _ _ _ (H.ne (by omega) (by omega) (by omega)), c3.2.1 j (by omega)]
          exact mE j hj
        · rw [dI_n _ _ _ (H.ne (by omega) (by omega) (by omega)), c3.1.mi H (by omega) (by unfold pG; omega)]
          exact e9
        · rw [dI_n _ _ _ (H.ne (by omega) (by omega) (by omega)), c3.1.mi H (by omega) (by unfold pG; omega)]
          exact e7
        · rw [dI_n _ _ _ (H.ne (by omega) (by omega) (by omega))]
          exact c4.1
        · by_cases q : t = i
          · subst q
            rw [dI_s, hb]
          · rw [dI_o _ _ _ q, c3.1.mi H (by omega) (by unfold pG; omega)]
            exact bE t (by omega)
      rw [eA, hb] at go
      refine ⟨H.bec_.2.1, b28_in H hi, fun q => ?_, fun q => ⟨b28_in H hi, fun q2 => ?_, fun q2 => ?_⟩⟩
      · rw [bI_n0.mp q, Bool.true_or] at go
        exact go
      · rw [bI_0.mp q, bI_0.mp q2] at go
        rw [bI_0.mp q2]
        exact go
      · rw [bI_0.mp q, bI_n0.mp q2] at go
        rw [bI_n0.mp q2]
        exact go
    refine ⟨fun q => absurd q (by rw [show (40 : Int32) = nI 40 by decide]; exact nI_ge hi (by omega)), fun _ => counts9_sp H hr (hE3.1 r hr) hi ?_⟩
    cases hki : aK (S.1 r) i
    · have hb : bec (S.1 r) n.toInt d.toInt i = false := by unfold bec; rw [hki, Bool.false_and]
      exact ⟨fun _ => put E U false hb (by omega) (by omega) BgF.rf tE, fun q => absurd rfl q⟩
    refine ⟨fun q => absurd q (by decide), fun _ => ?_⟩
    refine whole_sp H tE (by omega) (by rw [ed]; omega) (fun E2 n5 hn5 f5 t5 w5 => ⟨z_in H hi, ?_⟩)
    rw [ed] at w5
    obtain ⟨pi, mi, hmi, ei, wi⟩ := s3 i hi hki
    rw [nI_clamp (n := i) (by omega), f5.1.mi H (r := 529) (by omega) (by unfold pG; omega), e9, ei]
    have wiE : Nm ad E U pi (szr (S.1 r) i) mi := wi.cells (fun j hj => mE _ (by have := wi.1; omega)) (by have := wi.1; omega)
    have w3E : Nm ad E U T2 (n.toInt * M) n3 := w3.cells (fun j hj => mE _ (by have := w3.1; omega)) (by have := w3.1; omega)
    refine times_sp H t5 w5 (wiE.fr f5 (by omega)) (by omega) (fun E4 n6 hn6 f6 t6 w6 => ?_)
    have hmx : mxN n6 n3 ≤ 24 := by unfold mxN; split <;> omega
    have f56 := f5.tr f6 (by omega)
    refine less_sp H t6 w6 (w3E.fr f56 (by omega)) (by omega) (fun E5 n7 hn7 f7 t7 w7 => ?_)
    have f57 := f56.tr f7 (by omega)
    refine sign_sp H w7 t7.2 ?_
    have hab := above9_R hA hp hM n.toInt d.toInt i
    have hb : bec (S.1 r) n.toInt d.toInt i = decide ((n.toInt : Rat) * mdR (S.1 r) (szR (S.1 r)) 40 < (d.toInt : Rat) * szR (S.1 r) i) := by unfold bec; rw [hki, Bool.true_and]
    refine ⟨fun q => ?_, fun q => ?_⟩
    · have hz := sgI_le0.mp q
      rw [decide_eq_false (fun w => by have := hab.mpr w; omega)] at hb
      exact put E5 _ false hb (by omega) (by omega) f57 t7
    · have hz : ¬ d.toInt * szr (S.1 r) i - n.toInt * M ≤ 0 := fun w => q (sgI_le0.mpr w)
      rw [decide_eq_true (hab.mp (by omega))] at hb
      exact put E5 _ true hb (by omega) (by omega) f57 t7
end RD
