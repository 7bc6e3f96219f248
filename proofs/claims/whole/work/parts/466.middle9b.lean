/-! the reference: the middle is found -/
theorem tb3 {U V V2 i c : Nat} (h : V ≤ U + c * i) (h2 : V2 ≤ V + c) : V2 ≤ U + c * (i + 1) := by
  rw [Nat.mul_succ]
  omega
section MK
variable {G : Shp} {ad ro : Nat → Nat} {D D' : Dat} {r T t : Nat} {A : AR} {post : Int32 → Dat → Prop}
/-- the best so far -/
def BmV (ad : Nat → Nat) (D : Dat) (T : Nat) (A : AR) (o : Option Nat) (v : Int32) : Prop := match o with
  | none => v = -1
  | some m => ∃ p n, n ≤ 19 ∧ v = nI p ∧ Nm ad D T p (szr A m) n
theorem BmV.bg {T' : Nat} {o : Option Nat} {v : Int32} (h : BmV ad D T A o v) (f : BgF ad ro D D' T) (hT : T ≤ T') : BmV ad D' T' A o v := by
  cases o with
  | none => exact h
  | some m =>
    obtain ⟨p, n, hn, e, w⟩ := h
    exact ⟨p, n, hn, e, w.fr f hT⟩
theorem nI_ne {p : Nat} (h : p < 690000) : ¬ nI p = -1 := fun q => by
  have := congrArg Int32.toInt q
  rw [nI_toInt (by omega)] at this
  have e1 : (-1 : Int32).toInt = -1 := rfl
  omega
def cgn (A : AR) (t i : Nat) : Nat := ct (fun u => aK A u && decide (szR A t ≤ szR A u)) i
theorem cgn_40 (A : AR) (t : Nat) : cgn A t 40 = cgR A (szR A) (szR A t) := rfl
theorem cgn_le (A : AR) (t i : Nat) : cgn A t i ≤ i := ct_le _ _
theorem cgn_s (A : AR) (t i : Nat) : cgn A t (i + 1) = cgn A t i + (if (aK A i && decide (szR A t ≤ szR A i)) = true then 1 else 0) := rfl
/-- one tick is held against the others -/
theorem mid_turn (H : RG G ad ro) (hr : r < 4) (h : RrV ad D r A) (hA : RowOK A) (hp : Pv A none (nU A)) (ht : t < 40) (hkt : aK A t = true) (hS : SzV ad D T A 40) (hT : T ≤ 600000) (hTop : TopV ad D T) {v3 : Int32} (hB : BmV ad D T A (mdo A t) v3) {k70 : Int32 → Int32 → Int32 → Dat → Prop} (k : ∀ D' T' v', T ≤ T' → T' ≤ T + 1760 → BgF ad ro D D' T → TopV ad D' T' → BmV ad D' T' A (mdo A (t + 1)) v' → k70 (nI (ct (aK A) 40)) v' (nI (t + 1)) D') : ∃ f, X9_middle_l96 G post (ad 500) (nI r) (ad 529) k70 f (nI (ct (aK A) 40)) v3 (nI t) 0 0 D := by
  have hct := ct_le (aK A) 40
  obtain ⟨pt, mt, hmt, et, wt⟩ := hS t ht hkt
  have key := up_loop2 (L := fun f i (U : Nat) (E : Dat) => X9_middle_l96 G post (ad 500) (nI r) (ad 529) k70 f (nI (ct (aK A) 40)) v3 (nI t) (nI (cgn A t i)) (nI i) E) 40 (fun i U E => T ≤ U ∧ U ≤ T + 42 * i ∧ BgF ad ro D E T ∧ TopV ad E U) ?_ ?_ 0 T D (by omega) ⟨by omega, by omega, BgF.rf, hTop⟩
  · exact ⟨_, key⟩
  · intro f U E hE
    obtain ⟨h1, h2, fE, tE⟩ := hE
    show X9_middle_l96_b G post (ad 500) (nI r) (ad 529) k70 _ _ _ _ _ _ _
    unfold X9_middle_l96_b X9_middle_j179 X9_middle_j187
    have hc := cgn_le A t 40
    rw [two_e, nI_1 t, nI_clamp (n := t) (by omega), nI_ltI (by omega) (by omega)]
    have e29 : E.1 (ad 529) t = nI pt := by rw [fE.1.mi H (by omega) (by unfold pG; omega)]; exact et
    have wtE := wt.fr fE h1
    have bE := hB.bg fE h1
    have stay : mdo A (t + 1) = mdo A t → ∀ E' U', T ≤ U' → U' ≤ T + 1760 → BgF ad ro D E' T → TopV ad E' U' → k70 (nI (ct (aK A) 40)) v3 (nI (t + 1)) E' := fun e E' U' a1 a2 a3 a4 => k E' U' v3 a1 a2 a3 a4 (by rw [e]; exact hB.bg a3 a1)
    have take : mdo A (t + 1) = some t → ∀ E' U', T ≤ U' → U' ≤ T + 1760 → BgF ad ro D E' T → TopV ad E' U' → vp_in (nI t) (G.2.2.1 (ad 529)) ∧ k70 (nI (ct (aK A) 40)) (E'.1 (ad 529) t) (nI (t + 1)) E' := fun e E' U' a1 a2 a3 a4 => ⟨z_in H ht, by
      rw [a3.1.mi H (by omega) (by unfold pG; omega), et]
      exact k E' U' (nI pt) a1 a2 a3 a4 (by rw [e]; exact ⟨pt, mt, hmt, rfl, wt.fr a3 a1⟩)⟩
    have eM : mdo A (t + 1) = match mdo A t with
      | none => if aK A t = true ∧ ct (aK A) 40 ≤ 2 * cgR A (szR A) (szR A t) then some t else none
      | some m => if (aK A t = true ∧ ct (aK A) 40 ≤ 2 * cgR A (szR A) (szR A t)) ∧ szR A m < szR A t then some t else some m := rfl
    rw [← cgn_40] at eM
    refine ⟨fun _ => ⟨fun q => ?_, fun q => ?_⟩, fun q => absurd (by decide) q⟩
    · refine stay ?_ E U h1 (by omega) fE tE
      rw [eM]
      cases hm : mdo A t with
      | none => dsimp only; rw [if_neg (fun w => by have := w.2; omega)]
      | some m => dsimp only; rw [if_neg (fun w => by have := w.1.2; omega)]
    cases hm : mdo A t with
    | none =>
      rw [hm] at bE eM
      dsimp only at eM
      rw [if_pos ⟨hkt, by omega⟩] at eM
      have ev : v3 = -1 := bE
      exact ⟨fun _ => take eM E U h1 (by omega) fE tE, fun w => absurd ev w⟩
    | some m =>
      rw [hm] at bE eM
      obtain ⟨p, n, hn, ev, w⟩ := bE
      refine ⟨fun q2 => ?_, fun _ => ⟨z_in H ht, ?_⟩⟩
      · rw [ev] at q2
        exact absurd q2 (nI_ne (by have := w.1; have := tE.2; omega))
      rw [e29, ev]
      have hmx : mxN mt n ≤ 19 := by unfold mxN; split <;> omega
      refine less_sp H tE wtE w (by omega) (fun E2 n2 hn2 f2 t2 w2 => ?_)
      refine sign_sp H w2 t2.2 ?_
      have f02 := fE.tr f2 h1
      have hl := szr_lt hA hp m t
      dsimp only at eM
      refine ⟨fun q2 => ?_, fun q2 => ?_⟩
      · rw [if_neg (fun z => ?_), ← hm] at eM
        · rw [← ev]
          exact stay eM E2 _ (by omega) (by omega) f02 t2
        · have h3 := hl.mpr z.2
          have : ¬ sgI (szr A t - szr A m) ≤ 0 := by
            unfold sgI
            rw [if_neg (by omega), if_neg (by omega)]
            decide
          exact this q2
      · have h3 : szr A m < szr A t := by
          by_cases z : szr A m < szr A t
          · exact z
          · refine absurd ?_ q2
            unfold sgI
            by_cases z1 : szr A t - szr A m < 0
            · rw [if_pos z1]; decide
            · rw [if_neg z1, if_pos (by omega)]; decide
        rw [if_pos ⟨⟨hkt, by omega⟩, hl.mp h3⟩] at eM
        exact take eM E2 _ (by omega) (by omega) f02 t2
  · intro f i U E hi hE hk
    obtain ⟨h1, h2, fE, tE⟩ := hE
    show X9_middle_l96_b G post (ad 500) (nI r) (ad 529) k70 _ _ _ _ _ _ _
    unfold X9_middle_l96_b X9_middle_j141
    have hc := cgn_le A t i
    have e := cgn_s A t i
    rw [nI_clamp (n := i) (by omega), nI_clamp (n := t) (by omega), nI_1 i, nI_1 (cgn A t i)]
    refine ⟨fun q => absurd q (by rw [show (40 : Int32) = nI 40 by decide]; exact nI_ge hi (by omega)), fun _ => counts9_sp H hr (h.wk H fE.wk) hi ?_⟩
    cases hki : aK A i
    · rw [hki, Bool.false_and, if_neg (by decide)] at e
      have e : cgn A t (i + 1) = cgn A t i := e
      refine ⟨fun _ => ?_, fun q => absurd rfl q⟩
      rw [← e]
      exact hk U E ⟨h1, by omega, fE, tE⟩
    rw [hki, Bool.true_and] at e
    refine ⟨fun q => absurd q (by decide), fun _ => ⟨z_in H hi, z_in H ht, ?_⟩⟩
    obtain ⟨pi, mi, hmi, ei, wi⟩ := hS i hi hki
    rw [fE.1.mi H (r := 529) (by omega) (by unfold pG; omega), ei, et]
    have hmx : mxN mi mt ≤ 19 := by unfold mxN; split <;> omega
    refine less_sp H tE (wi.fr fE h1) (wt.fr fE h1) (by omega) (fun E2 n2 hn2 f2 t2 w2 => ?_)
    refine sign_sp H w2 t2.2 ?_
    have f02 := fE.tr f2 h1
    have hl := szr_le hA hp t i
    have hg := sgI_lt (z := szr A i - szr A t)
    refine ⟨fun q => ?_, fun q => ?_⟩
    · have h3 := hg.mp q
      rw [decide_eq_false (fun z => by have := hl.mpr z; omega), if_neg (by decide)] at e
      have e : cgn A t (i + 1) = cgn A t i := e
      rw [← e]
      exact hk _ E2 ⟨by omega, by omega, f02, t2⟩
    · have h3 : ¬ szr A i - szr A t < 0 := fun z => q (hg.mpr z)
      rw [decide_eq_true (hl.mp (by omega)), if_pos rfl] at e
      rw [← e]
      exact hk _ E2 ⟨by omega, by omega, f02, t2⟩
theorem middle9_sp (H : RG G ad ro) (hr : r < 4) (h : RrV ad D r A) (hA : RowOK A) (hp : Pv A none (nU A)) (hT : T ≤ 1000) (hTop : TopV ad D T) (hK : KzV ad D A none) (k : ∀ D' p n T' (M : Int), T ≤ T' → T' ≤ T + 120000 → n ≤ 19 → MiF ad ro D D' T → TopV ad D' T' → SzV ad D' T' A 40 → Nm ad D' T' p M n → ((M : Int) : Rat) = (dr A none : Int) * mdR A (szR A) 40 → 0 ≤ M → post (nI p) D') : X9_middle_wp G D (ad 500) (nI r) post := by
  have hct := ct_le (aK A) 40
  refine ⟨H.x_, _, H.sz0_.1, H.sz0_.2.1, ?_⟩
  have key := up_loop2 (L := fun f i (U : Nat) (E : Dat) => X9_middle_l4 G post (ad 500) (nI r) (ad 529) f (nI (ct (aK A) i)) (nI i) E) 40 (fun i U E => T ≤ U ∧ U ≤ T + 972 * i ∧ MiF ad ro D E T ∧ TopV ad E U ∧ SzV ad E U A i) ?_ ?_ 0 T D (by omega) ⟨by omega, by omega, MiF.rf, hTop, fun t ht => absurd ht (Nat.not_lt_zero t)⟩
  · exact ⟨_, key⟩
  · intro f U E hE
    obtain ⟨h1, h2, fE, tE, sE⟩ := hE
    show X9_middle_l4_b G post (ad 500) (nI r) (ad 529) _ _ _ _
    unfold X9_middle_l4_b
    refine ⟨fun _ => ?_, fun q => absurd (by decide) q⟩
    have rE := h.wk H fE.wk
    have key := up_loop2 (L := fun f i (P : Int32 × Nat) (F : Dat) => X9_middle_l70 G post (ad 500) (nI r) (ad 529) f (nI (ct (aK A) 40)) P.1 (nI i) F) 40 (fun i P F => U ≤ P.2 ∧ P.2 ≤ U + 1760 * i ∧ BgF ad ro E F U ∧ TopV ad F P.2 ∧ BmV ad F P.2 A (mdo A i) P.1) ?_ ?_ 0 (-1, U) E (by omega) ⟨by dsimp only; omega, by dsimp only; omega, BgF.rf, tE, rfl⟩
    · exact ⟨_, key⟩
    · intro f P F hF
      obtain ⟨v, V⟩ := P
      obtain ⟨g1, g2, fF, tF, bF⟩ := hF
      dsimp only at *
      show X9_middle_l70_b G post (ad 500) (nI r) (ad 529) _ _ _ _ _
      unfold X9_middle_l70_b
      refine ⟨fun _ => ?_, fun q => absurd (by decide) q⟩
      obtain ⟨m, em⟩ := mdo_some hA hp
      rw [em] at bF
      obtain ⟨p, n, hn, ev, w⟩ := bF
      rw [ev]
      refine k F p n V (szr A m) (by omega) (by omega) hn (fE.tr fF.mi h1) tF (sE.bg H fF g1) w ?_ (az_nn _)
      rw [szr_R hA hp, mdo_R, em]
      rfl
    · intro f i P F hi hF hk
      obtain ⟨v, V⟩ := P
      obtain ⟨g1, g2, fF, tF, bF⟩ := hF
      dsimp only at *
      show X9_middle_l70_b G post (ad 500) (nI r) (ad 529) _ _ _ _ _
      unfold X9_middle_l70_b
      refine ⟨fun q => absurd q (by rw [show (40 : Int32) = nI 40 by decide]; exact nI_ge hi (by omega)), fun _ => counts9_sp H hr (rE.wk H fF.wk) hi ?_⟩
      cases hki : aK A i
      · refine ⟨fun q => absurd rfl q, fun _ => ?_⟩
        unfold X9_middle_j187
        rw [nI_1 i]
        refine hk (v, V) F ⟨g1, by dsimp only; omega, fF, tF, ?_⟩
        have e : mdo A (i + 1) = mdo A i := by
          show (match mdo A i with
            | none => if aK A i = true ∧ ct (aK A) 40 ≤ 2 * cgR A (szR A) (szR A i) then some i else none
            | some m => if (aK A i = true ∧ ct (aK A) 40 ≤ 2 * cgR A (szR A) (szR A i)) ∧ szR A m < szR A i then some i else some m) = _
          rw [hki]
          cases mdo A i with
          | none => dsimp only; rw [if_neg (fun w => by cases w.1)]
          | some m => dsimp only; rw [if_neg (fun w => by cases w.1.1)]
        rw [e]
        exact bF
      · refine ⟨fun _ => ?_, fun q => absurd q (by decide)⟩
        refine mid_turn H hr (rE.wk H fF.wk) hA hp hi hki (sE.bg H fF g1) (by omega) tF bF (fun F2 V2 v2 a1 a2 a3 a4 a5 => ?_)
        exact hk (v2, V2) F2 ⟨by dsimp only; omega, tb3 g2 a2, fF.tr a3 g1, a4, a5⟩
  · intro f i U E hi hE hk
    obtain ⟨h1, h2, fE, tE, sE⟩ := hE
    show X9_middle_l4_b G post (ad 500) (nI r) (ad 529) _ _ _ _
    unfold X9_middle_l4_b
    have rE := h.wk H fE.wk
    have e := ct_succ (aK A) i
    have hci := ct_le (aK A) i
    refine ⟨fun q => absurd q (by rw [show (40 : Int32) = nI 40 by decide]; exact nI_ge hi (by omega)), fun _ => counts9_sp H hr rE hi ?_⟩
    cases hki : aK A i
    · rw [hki, if_neg (by decide)] at e
      have e : ct (aK A) (i + 1) = ct (aK A) i := e
      refine ⟨fun q => absurd rfl q, fun _ => ?_⟩
      unfold X9_middle_j59
      rw [nI_1 i, ← e]
      refine hk U E ⟨h1, by omega, fE, tE, fun t ht hk2 => ?_⟩
      by_cases q : t = i
      · subst q; rw [hki] at hk2; cases hk2
      · exact sE t (by omega) hk2
    rw [hki, if_pos rfl] at e
    refine ⟨fun _ => ?_, fun q => absurd q (by decide)⟩
    refine restOf_sp H hr rE hA hp hi (by omega) tE (hK.mi H fE) (fun E2 p n T2 a1 a2 a3 f2 t2 w2 e2 => ?_)
    refine sign_sp H w2 t2.2 ?_
    unfold X9_middle_j55 X9_middle_j59
    rw [nI_clamp (n := i) (by omega), nI_1 i, nI_1 (ct (aK A) i), ← e]
    have s2 := sE.wn H f2 a1
    have put : ∀ E3 T3 p3 n3, T2 ≤ T3 → T3 ≤ U + 972 → n3 ≤ 19 → BgF ad ro E2 E3 T2 → TopV ad E3 T3 → Nm ad E3 T3 p3 (szr A i) n3 → isO G (ad 529) 11 ∧ vp_in (nI i) (G.2.2.1 (ad 529)) ∧ X9_middle_l4 G post (ad 500) (nI r) (ad 529) f (nI (ct (aK A) (i + 1))) (nI (i + 1)) (dI E3 (ad 529) i (nI p3)) := fun E3 T3 p3 n3 b1 b2 b3 b4 b5 b6 => ⟨H.sz0_.2.1, z_in H hi, by
      have s3 := s2.bg H b4 b1
      refine hk T3 _ ⟨by omega, tb3 h2 b2, ((fE.tr f2.mi h1).tr b4.mi (by omega)).tr (mi29 H) (Nat.le_refl T), b5.mi29 H, fun t ht hk2 => ?_⟩
      by_cases q : t = i
      · subst q
        exact ⟨p3, n3, b3, dI_s _ _ _ _, b6.cells (fun j _ => by rw [dI_n _ _ _ (H.ne (by omega) (by omega) (by omega))]) b6.1⟩
      · obtain ⟨p4, n4, c1, c2, c3⟩ := s3 t (by omega) hk2
        exact ⟨p4, n4, c1, by rw [dI_o _ _ _ q]; exact c2, c3.cells (fun j _ => by rw [dI_n _ _ _ (H.ne (by omega) (by omega) (by omega))]) c3.1⟩⟩
    refine ⟨fun q => ?_, fun q => ?_⟩
    · have hz := sgI_ge.mp q
      have ez : szr A i = aN A i * dr A none - gzI A none i 3 (NN A) := az_id hz
      exact put E2 T2 p n (Nat.le_refl _) (by omega) a3 BgF.rf t2 (by rw [ez]; exact w2)
    · have hz : ¬ 0 ≤ aN A i * dr A none - gzI A none i 3 (NN A) := fun z => q (sgI_ge.mpr z)
      have ez : szr A i = -(aN A i * dr A none - gzI A none i 3 (NN A)) := by unfold szr az; rw [if_pos (by omega)]
      refine turned_sp H t2 w2 (by omega) (fun E3 f3 t3 w3 => ?_)
      exact put E3 _ T2 n (by omega) (by omega) a3 f3 t3 (by rw [ez]; exact w3)
end MK
