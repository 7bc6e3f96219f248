/-! the reference: tellsNumber, tells -/
section TL
variable {G : Shp} {ad ro : Nat → Nat} {D : Dat} {T a b n m : Nat} {x y z : Int} {L : List Nat}
/-- the digits that are still to come -/
theorem dgf_pos {f V : Nat} (h : V < 10 ^ (f + 1)) : dgf (f + 1) V = (48 + V % 10) :: (if V / 10 = 0 then [] else dgf f (V / 10)) := rfl
theorem dgf_ok (h : OupV ad D L) (hz : 0 < n) : True := trivial
theorem tellsNumber_sp (H : RG G ad ro) (ha : Nm ad D T a z n) (hT : T ≤ 690000) (hn : n ≤ 599) (h : OupV ad D L) (hL : L.length + 101 ≤ 1000) (hz : z.natAbs < 10 ^ 100) {post : Dat → Prop} (k : ∀ D', ToF ad ro D D' → OupV ad D' (L ++ ((if z < 0 then [45] else []) ++ (dgf 100 z.natAbs).reverse)) → post D') : X9_tellsNumber_wp G D (ad 500) (nI a) post := by
  have ha1 := ha.1
  have n03 : ad 500 ≠ ad 503 := H.ne (by omega) (by omega) (by omega)
  have n13 : ad 501 ≠ ad 503 := H.ne (by omega) (by omega) (by omega)
  have n10 : ad 501 ≠ ad 500 := H.ne (by omega) (by omega) (by omega)
  have n83 : ad 508 ≠ ad 503 := H.ne (by omega) (by omega) (by omega)
  have n80 : ad 508 ≠ ad 500 := H.ne (by omega) (by omega) (by omega)
  -- the digits
  have digs : ∀ (M : List Nat) (E : Dat), ToF ad ro D E → OupV ad E M → M.length + 100 ≤ 1000 → z ≠ 0 → (∀ D', ToF ad ro D D' → OupV ad D' (M ++ (dgf 100 z.natAbs).reverse) → post D') → X9_tellsNumber_j28 G post (ad 500) (nI a) (ad 503) (ad 501) (ad 508) E := by
    intro M E fE oE hM hz0 kk
    unfold X9_tellsNumber_j28
    rw [oE.1]
    have aE := fE.nm ha
    have loop : ∀ (f : Nat) (V N : Nat) (P : List Nat) (F : Dat), V < 10 ^ f → f + P.length ≤ 100 → N ≤ 599 → ToF ad ro D F → F.1 (ad 500) 6 = nI N → dg30 (af ad F 503) N → (0 < N → af ad F 503 (N - 1) ≠ 0) → pv 1073741824 (af ad F 503) N = (V : Int) → OupV ad F (M ++ P) → (P ++ (if V = 0 then [] else dgf f V)) = dgf 100 z.natAbs → X9_tellsNumber_l75 G post (ad 500) (nI a) (ad 503) (ad 501) (ad 508) (f + 1) (nI M.length) F := by
      intro f
      induction f with
      | zero =>
        intro V N P F hV hP hN fF g6 dF tF pF oF hd
        show X9_tellsNumber_l75_b G post (ad 500) (nI a) (ad 503) (ad 501) (ad 508) _ _ _
        unfold X9_tellsNumber_l75_b
        rw [g6]
        have hV0 : V = 0 := by rw [Nat.pow_zero] at hV; omega
        have hN0 : N = 0 := by
          by_cases w : N = 0
          · exact w
          · have p := pv_pos (B := 1073741824) (by decide) (by omega) dF (tF (by omega))
            have p2 : (0 : Int) < 1073741824 ^ (N - 1) := Int.pow_pos (by decide)
            omega
        rw [if_pos hV0, List.append_nil] at hd
        refine ⟨fun _ => ?_, fun q => absurd (by rw [hN0]; decide) q⟩
        rw [oF.1]
        exact rev_sp H oF (fun D' f' o' => kk D' (fF.tr f') (by rw [← hd]; exact o'))
      | succ f ih =>
        intro V N P F hV hP hN fF g6 dF tF pF oF hd
        show X9_tellsNumber_l75_b G post (ad 500) (nI a) (ad 503) (ad 501) (ad 508) _ _ _
        unfold X9_tellsNumber_l75_b
        rw [g6]
        by_cases hV0 : V = 0
        · have hN0 : N = 0 := by
            by_cases w : N = 0
            · exact w
            · have p := pv_pos (B := 1073741824) (by decide) (by omega) dF (tF (by omega))
              have p2 : (0 : Int) < 1073741824 ^ (N - 1) := Int.pow_pos (by decide)
              omega
          rw [if_pos hV0, List.append_nil] at hd
          refine ⟨fun _ => ?_, fun q => absurd (by rw [hN0]; decide) q⟩
          rw [oF.1]
          exact rev_sp H oF (fun D' f' o' => kk D' (fF.tr f') (by rw [← hd]; exact o'))
        · have hN0 : N ≠ 0 := fun w => by
            rw [w] at pF
            have : pv 1073741824 (af ad F 503) 0 = 0 := rfl
            omega
          refine ⟨fun q => absurd q (nI_nle (by omega) (by omega)), fun _ => ?_⟩
          refine ten_sp H (by omega) hN g6 dF oF (by rw [List.length_append]; omega) pF (fun D' N' hN' f' g6' d' t' p' o' => ?_)
          refine ih (V / 10) N' (P ++ [48 + V % 10]) D' (by rw [Nat.pow_succ] at hV; omega) (by rw [List.length_append]; show f + (P.length + 1) ≤ 100; omega) (by omega) (fF.tr f') g6' d' t' p' (by rw [← List.append_assoc]; exact o') ?_
          rw [if_neg hV0, dgf_pos hV] at hd
          rw [← hd, List.append_assoc]
          rfl
    have cp := up_loop (L := fun f i (F : Dat) => X9_tellsNumber_l35 G post (ad 500) (nI a) (ad 503) (ad 501) (ad 508) f (nI M.length) (nI i) F) n (fun i F => ToF ad ro D F ∧ OupV ad F M ∧ ∀ j, j < i → af ad F 503 j = lmm ad D a j) ?_ ?_ 0 E (by omega) ⟨fE, oE, fun j hj => by omega⟩
    · exact ⟨_, cp⟩
    · intro f F hF
      obtain ⟨fF, oF, hF3⟩ := hF
      have aF := fF.nm ha
      show X9_tellsNumber_l35_b G post (ad 500) (nI a) (ad 503) (ad 501) (ad 508) _ _ _ _
      refine size_sp H aF hT ⟨fun _ => size_sp H aF hT ?_, fun q => absurd (nI_le (Nat.le_refl _) (by omega)) q⟩
      have q3 : ∀ j, af ad (dI F (ad 500) 6 (nI n)) 503 j = af ad F 503 j := fun j => af_n H (by omega) (by omega) (by omega)
      refine ⟨_, loop 100 z.natAbs n [] _ hz (by show 100 + 0 ≤ 100; omega) hn (fF.tr ((bkF H (Or.inl rfl)).to (by rw [dI_n _ _ _ n10]))) (dI_s _ _ _ _) (fun i hi => by rw [q3, hF3 i hi]; exact ha.2.2.1 i hi) (fun w => by rw [q3, hF3 _ (by omega)]; exact ha.2.2.2.1 w) ?_ ?_ ?_⟩
      · rw [pv_congr (fun i _ => q3 i), pv_congr hF3, ← ha.2.2.2.2, az_abs]
      · rw [List.append_nil]
        exact ⟨by rw [dI_o _ _ _ (by decide)]; exact oF.1, oF.2.1, fun j hj => by rw [dI_n _ _ _ n80]; exact oF.2.2 j hj⟩
      · rw [if_neg (by omega)]; rfl
    · intro f i F hi hF hk
      obtain ⟨fF, oF, hF3⟩ := hF
      have aF := fF.nm ha
      show X9_tellsNumber_l35_b G post (ad 500) (nI a) (ad 503) (ad 501) (ad 508) _ _ _ _
      refine size_sp H aF hT ⟨fun w => absurd w (nI_ge hi (by omega)), fun _ => ?_⟩
      rw [show nI a + 1 + nI i = nI (a + 1 + i) by rw [nI_1, nI_add], nI_1, nI_clamp (by omega), nI_clamp (by omega)]
      refine ⟨m_in H (by omega), l_in H (by omega), hk _ ⟨fF.tr ((bkA H (Or.inl rfl)).to (by rw [dI_n _ _ _ n13])), ⟨by rw [dI_n _ _ _ n03]; exact oF.1, oF.2.1, fun j hj => by rw [dI_n _ _ _ n83]; exact oF.2.2 j hj⟩, fun j hj => ?_⟩⟩
      by_cases w : j = i
      · rw [w, af_at]
        unfold lmm
        rw [fF.2.1]
      · rw [af_o w]; exact hF3 j (by omega)
  have rest : ∀ (M : List Nat) (E : Dat), ToF ad ro D E → OupV ad E M → M.length + 100 ≤ 1000 → (∀ D', ToF ad ro D D' → OupV ad D' (M ++ (dgf 100 z.natAbs).reverse) → post D') → X9_tellsNumber_j14 G post (ad 500) (nI a) (ad 503) (ad 501) (ad 508) E := by
    intro M E fE oE hM kk
    refine sign_sp H (fE.nm ha) hT ⟨fun q => digs M E fE oE hM (fun w => q (sgI_0.mpr w)) kk, fun q => ?_⟩
    have hz0 := sgI_0.mp q
    refine tells0_sp (c := 48) H oE (by omega) (by decide) (fun F f1 f3 f6 oF => ?_)
    -- nought: nothing more comes
    unfold X9_tellsNumber_j28
    rw [oF.1]
    have n0 : n = 0 := ha.z0.mp hz0
    have aF := (fE.tr f1).nm ha
    refine ⟨1, ?_⟩
    show X9_tellsNumber_l35_b G post (ad 500) (nI a) (ad 503) (ad 501) (ad 508) _ _ _ _
    rw [n0] at aF
    refine size_sp H aF hT ⟨fun _ => size_sp H aF hT ⟨1, ?_⟩, fun q => absurd (by decide) q⟩
    show X9_tellsNumber_l75_b G post (ad 500) (nI a) (ad 503) (ad 501) (ad 508) _ _ _
    unfold X9_tellsNumber_l75_b
    rw [dI_s, dI_o _ _ _ (by decide), oF.1]
    refine ⟨fun _ => ?_, fun q => absurd (by decide) q⟩
    have oF2 : OupV ad (dI F (ad 500) 6 (nI 0)) ((M ++ [48]) ++ []) := by
      rw [List.append_nil]
      exact ⟨by rw [dI_o _ _ _ (by decide)]; exact oF.1, oF.2.1, fun j hj => by rw [dI_n _ _ _ n80]; exact oF.2.2 j hj⟩
    have := rev_sp (A1 := nI a) (post := post) H oF2 (fun D' f' o' => kk D' (((fE.tr f1).tr ((bkF H (Or.inl rfl)).to (by rw [dI_n _ _ _ n10]))).tr f') (by rw [hz0]; rw [List.reverse_nil, List.append_nil] at o'; exact o'))
    rw [List.append_nil] at this
    exact this
  refine ⟨H.x_, _, H.left_.1, H.left_.2.1, _, H.mem_.1, H.mem_.2.1, _, H.out_.1, H.out_.2.1, sign_sp H ha hT ⟨fun q => ?_, fun q => ?_⟩⟩
  · have hz0 := sgI_ge.mp q
    refine rest L D ToF.rf h (by omega) (fun D' f' o' => k D' f' ?_)
    rw [if_neg (by omega)]
    exact o'
  · have hz0 : z < 0 := by
      by_cases w : z < 0
      · exact w
      · exact absurd (sgI_ge.mpr (by omega)) q
    refine tells0_sp (c := 45) H h (by omega) (by decide) (fun D1 f1 f3 f6 o1 => ?_)
    refine rest (L ++ [45]) D1 f1 o1 (by rw [List.length_append]; show L.length + 1 + 100 ≤ 1000; omega) (fun D' f' o' => k D' f' ?_)
    rw [if_pos hz0, ← List.append_assoc]
    exact o'
end TL
