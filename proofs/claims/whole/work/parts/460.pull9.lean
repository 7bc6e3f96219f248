/-! the reference: pull -/
theorem si_pick {x : Int} {u : Nat} : ∀ n, si (fun t => if t = u then x else 0) n = if u < n then x else 0
  | 0 => by rw [if_neg (by omega)]; rfl
  | n + 1 => by
    rw [si_succ, si_pick n]
    by_cases h : u < n
    · rw [if_pos h, if_neg (by omega), if_pos (by omega), Int.add_zero]
    · rw [if_neg h]
      by_cases e : n = u
      · rw [if_pos e, if_pos (by omega), Int.zero_add]
      · rw [if_neg e, if_neg (by omega), Int.zero_add]
theorem ru_ar {A : AR} {u i : Nat} (hk : aK A u = true) (hu : u < 40) (hi : i < NN A) : arS A (some u) i (NN A) = lc (rcl A) i u := by
  have e := si_pick (x := lc (rcl A) i u) (u := u) 40
  rw [if_pos hu] at e
  rw [← e]
  refine si_congr (fun t ht => ?_)
  unfold crI
  rw [if_pos hi, if_neg (Nat.lt_irrefl (NN A))]
  show (if aK A t = true then lc (rcl A) i t * (if t = u then 1 else 0) else 0) = _
  by_cases q : t = u
  · subst q
    rw [if_pos hk, if_pos rfl, if_pos rfl, Int.mul_one]
  · rw [if_neg q, if_neg q, Int.mul_zero]
    split <;> rfl
section PU
variable {G : Shp} {ad ro : Nat → Nat} {D D' : Dat} {S : AS} {Z : Dat} {r t T : Nat} {A : AR} {post : Int32 → Dat → Prop}
theorem pull9_sp (H : RG G ad ro) (hK : OKS S) (h : RfV ad ro Z D S) {a u t : Int32} (k : ∀ D', RfV ad ro Z D' (sPull S a u t).2 → post (sPull S a u t).1 D') : X9_pull_wp G D (ad 500) a u t post := by
  unfold sPull sCl at k
  refine ⟨H.x_, _, H.rig_.1, H.rig_.2.1, _, H.ha0_.1, H.ha0_.2.1, isRow_if (fun n0 => ⟨fun _ => ?_, fun q => absurd rfl q⟩) (fun r0 => ⟨fun q => absurd q (by decide), fun _ => ?_⟩)⟩
  · rw [if_neg (fun w => n0 w.1)] at k
    exact refuse9_sp H h (fun D' c => k D' c)
  refine isTick9_if (fun n0 => ⟨fun _ => ?_, fun q => absurd rfl q⟩) (fun u0 => ⟨fun q => absurd q (by decide), fun _ => ?_⟩)
  · rw [if_neg (fun w => n0 w.2.1)] at k
    exact refuse9_sp H h (fun D' c => k D' c)
  refine isFar9_if (fun n0 => ⟨fun q => absurd rfl q, fun _ => ?_⟩) (fun t0 => ⟨fun _ => ?_, fun q => absurd q (by decide)⟩)
  · rw [if_neg (fun w => n0 w.2.2)] at k
    exact refuse9_sp H h (fun D' c => k D' c)
  rw [if_pos ⟨r0, u0, t0⟩] at k
  have hr := tn_R r0
  have er := tn_nI r0.1
  have ht := tn_F t0
  have et := tn_nI t0.1
  have hu := tn_T u0
  have eu := tn_nI u0.1
  have hA := hK _ hr
  generalize tn a = r at *
  generalize tn t = x at *
  generalize tn u = z at *
  subst er et eu
  refine counts9_sp H hr (h.1 r hr) hu ?_
  cases hs : aK (S.1 r) z
  · rw [hs, if_neg (by decide)] at k
    exact ⟨fun q => absurd rfl q, fun _ => refuse9_sp H h (fun D' c => k D' c)⟩
  rw [hs, if_pos rfl] at k
  refine ⟨fun _ => ?_, fun q => absurd q (by decide)⟩
  have hN := NN_le hA
  refine gather_sp H hr (h.1 r hr) hA (fun D1 f1 e1 g1 => ?_)
  have h1 := h.wk H f1.wk
  refine look_sp H hr (h1.1 r hr) hA (by omega) (fun D2 f2 l2 => ?_)
  have h2 := h1.wk H (f2.wk H)
  have sq2 : ∀ i j, i < NN (S.1 r) → j < NN (S.1 r) → (D2.2 (ad 522) (19 * i + j)).toInt = rgS (S.1 r) i j 40 := fun i j hi hj => by rw [f2.1]; exact g1.1 i j hi hj
  have key := up_loop (L := fun f i (E : Dat) => X9_pull_l57 G post (ad 500) (nI r) (nI z) (nI x) (ad 523) (ad 519) f (nI i) E) (NN (S.1 r)) (fun i E => E.1 = D2.1 ∧ GaF ad ro D2 E ∧ (∀ i j, i < NN (S.1 r) → j < NN (S.1 r) → (E.2 (ad 522) (19 * i + j)).toInt = rgS (S.1 r) i j 40) ∧ ∀ j, j < i → (E.2 (ad 523) j).toInt = lc (rcl (S.1 r)) j z) ?_ ?_ 0 D2 (by omega) ⟨rfl, GaF.rf, sq2, fun j hj => absurd hj (Nat.not_lt_zero j)⟩
  · exact ⟨_, key⟩
  · intro f E hE
    obtain ⟨eE, fE, sE, rE⟩ := hE
    show X9_pull_l57_b G post (ad 500) (nI r) (nI z) (nI x) (ad 523) (ad 519) _ _ _
    unfold X9_pull_l57_b
    have e21 : E.1 (ad 500) 21 = nI (NN (S.1 r)) := by rw [eE]; exact l2.1
    rw [e21]
    refine ⟨fun _ => ?_, fun q => absurd (nI_le (Nat.le_refl _) (by omega)) q⟩
    have hE := h2.wk H fE.wk
    refine clear9_sp (w := wq (S.1 r)) (C := Cr (S.1 r) (some z)) H hN (wq_W _) (Ar_Z _ _) (Ar_bd hA _) e21 (fun i j hi hj => ?_) (fun i hi => ?_) (fun hp D3 f3 t3 p1 p2 => ⟨fun _ => ?_, fun q => absurd q (by decide)⟩) (fun hp D3 f3 => ⟨fun q => absurd rfl q, fun _ => ?_⟩)
    · rw [sE i j hi hj, Am_r, rg_ar hi hj]
    · rw [rE i hi, Am_r, ru_ar hs hu hi]
    · have hpv := (piv_r hA).mp hp
      rw [if_pos (clB_t.mpr hpv)] at k
      have h3 := hE.wk H f3.so.1
      refine givenT H hr h3 hA ⟨hpv, ⟨p1, p2⟩, ?_⟩ t3 ht (w := 3) (by omega) (gi_3 hA hpv x) (sm_fo hA hpv ht) k rfl
      rw [f3.2.1 21 (by decide) (by decide) (by decide)]
      exact e21
    · have hpv : ¬ Pv (S.1 r) (some z) (nU (S.1 r)) := fun q => hp ((piv_r hA).mpr q)
      rw [if_neg (by rw [clB_f.mpr hpv]; decide)] at k
      exact refuse9_sp H (hE.wk H f3.so.1) (fun D' c => k D' c)
  · intro f i E hi hE hk
    obtain ⟨eE, fE, sE, rE⟩ := hE
    show X9_pull_l57_b G post (ad 500) (nI r) (nI z) (nI x) (ad 523) (ad 519) _ _ _
    unfold X9_pull_l57_b
    have e21 : E.1 (ad 500) 21 = nI (NN (S.1 r)) := by rw [eE]; exact l2.1
    rw [e21, nI_clamp (n := i) (by omega)]
    refine ⟨fun q => absurd q (nI_ge hi (by omega)), fun _ => ⟨by rw [H.ha0_.2.2]; exact vp_in_nI (by omega) (by omega), ri_in H (by omega), ?_⟩⟩
    rw [nI_1 i]
    refine hk _ ⟨eE, fE.tr (GaF.j H (Or.inr (Or.inr rfl))), fun a b ha hb => ?_, fun j hj => ?_⟩
    · rw [j_ne H (by omega) (by omega) (Or.inl (by omega))]
      exact sE a b ha hb
    · by_cases q : j = i
      · subst q
        rw [dJ_s, L_i2l, eE]
        exact (l2.2 j hi).1
      · rw [j_ne H (by omega) (by omega) (Or.inr q)]
        exact rE j (by omega)
end PU
