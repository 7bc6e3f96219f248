section CS3
variable {G : Shp} {ad ro : Nat → Nat} {D D' : Dat} {T T' a b N : Nat} {z : Int} {w : Nat → Rat} {C : Nat → Nat → Rat} {post : Int32 → Dat → Prop}
theorem sq_in (H : RG G ad ro) {i : Nat} (hi : i < 361) : vp_in (nI i) (G.2.2.1 (ad 522)) := by rw [H.squ_.2.2]; exact vp_in_nI hi (by omega)
theorem ri_in (H : RG G ad ro) {i : Nat} (hi : i < 19) : vp_in (nI i) (G.2.2.1 (ad 523)) := by rw [H.rig_.2.2]; exact vp_in_nI hi (by omega)
theorem s_e {i j : Nat} : (19 : Int32) * nI i + nI j = nI (19 * i + j) := by rw [show (19 : Int32) = nI 19 by decide, nI_mul', nI_add]
theorem L_gt {v : Int64} {q : Rat} (h : ((v.toInt : Int) : Rat) = q) (hb : bd q MB) : -9223372036854775808 < v.toInt := by
  rw [← h] at hb
  have h1 := hb.1
  unfold MB at h1
  have e : (-((8589934592 : Int) : Rat)) = ((-8589934592 : Int) : Rat) := by rw [Rat.intCast_neg]
  rw [e] at h1
  have := cast_le.mp h1
  omega
/-- the eliminations, turn by turn -/
theorem clear_main (H : RG G ad ro) (hN : N ≤ 13) (hw : isW w) (hA : ∀ i j, isZ (Am w C i j)) (hB : ∀ i j, bd (Am w C i j) MB) (e21 : D.1 (ad 500) 21 = nI N) (hT : T ≤ 1000) (h : TopV ad D T) {pl nl : Nat} (hnl : nl ≤ 17) (hl : Nm ad D T pl 1 nl) (eK : ∀ a b, a < N → okc N b → Ent ad D T a b (zz (Am w C a (colN N b)))) (k1 : Piv w C N → ∀ D', CrF ad ro D D' → TopV ad D' 0 → (∀ i, i < N → ∃ m, m ≤ 17 ∧ KpV ad D' i (zz (Dk w C N * xs w C N N i)) m) → (∃ m, m ≤ 17 ∧ KpV ad D' 19 (zz (Dk w C N)) m) → post 1 D') (k0 : ¬ Piv w C N → ∀ D', CrF ad ro D D' → post 0 D') : ∃ f, X9_clear_l93 G post (ad 500) (ad 524) (ad 523) (ad 522) f (nI pl) 0 D := by
  have key : ∀ (d k : Nat) (T pl nl : Nat) (E : Dat), k + d = N → T ≤ 1000 + 28938 * k → CrF ad ro D E → TopV ad E T → nl ≤ 17 → Nm ad E T pl (zz (Dk w C k)) nl → Piv w C k → (∀ a b, a < N → okc N b → k ≤ b → Ent ad E T a b (zz (Vk w C k a (colN N b)))) → X9_clear_l93 G post (ad 500) (ad 524) (ad 523) (ad 522) (d + 1) (nI pl) (nI k) E := by
    intro d
    induction d with
    | zero =>
      intro k T pl nl E hkd hT fE tE hnl lE hp eE
      have hkN : k = N := by omega
      subst hkN
      have e21E : E.1 (ad 500) 21 = nI k := by rw [fE.2.1 21 (by omega) (by omega) (by omega)]; exact e21
      show X9_clear_l93_b G post (ad 500) (ad 524) (ad 523) (ad 522) _ _ _ _
      unfold X9_clear_l93_b
      rw [e21E]
      refine ⟨fun _ => clear_keep H hN e21E (by omega) (Vx := fun i => zz (Dk w C k * xs w C k k i)) (fun i hi => ?_) hnl lE (fun D' f' t' g1 g2 => k1 hp D' (fE.tr f') t' g1 g2), fun q => absurd (nI_le (Nat.le_refl _) (by omega)) q⟩
      have := eE i 19 hi (Or.inr rfl) (by omega)
      have e : colN k 19 = k := if_pos rfl
      have e2 : Vk w C k i k = Dk w C k * xs w C k k i := if_pos hi
      rw [e, e2] at this
      exact this
    | succ d ih =>
      intro k T pl nl E hkd hT fE tE hnl lE hp eE
      have hk : k < N := by omega
      have e21E : E.1 (ad 500) 21 = nI N := by rw [fE.2.1 21 (by omega) (by omega) (by omega)]; exact e21
      show X9_clear_l93_b G post (ad 500) (ad 524) (ad 523) (ad 522) _ _ _ _
      unfold X9_clear_l93_b
      obtain ⟨h1, nh, hnh, hph, hNh⟩ := eE k k hk (Or.inl hk) (Nat.le_refl k)
      have ec : colN N k = k := by unfold colN; rw [if_neg (by omega)]
      rw [ec] at hNh
      rw [e21E, r_e, nI_clamp (n := 20 * k + k) (by omega), hph]
      have hDp := Dk_pos hw hp
      have hD0 : zz (Dk w C k) ≠ 0 := fun u => by
        have := zz_of (Dk_isZ hA hp)
        rw [u, cast_0] at this
        rw [← this] at hDp
        exact absurd hDp (by decide)
      refine ⟨fun q => absurd q (nI_ge hk (by omega)), fun _ => ⟨r_in H (by omega), sign_sp H hNh (by omega) ⟨fun q => ?_, fun q => ?_⟩⟩⟩
      · have hV : zz (Vk w C k k k) ≠ 0 := fun u => q (sgI_0.mpr u)
        have hs : Sk w C k k k ≠ 0 := fun u => by
          apply hV
          have : Vk w C k k k = 0 := by
            unfold Vk
            rw [if_neg (by omega), u]
            grind
          rw [this]
          exact zz_eq cast_0.symm
        have hp1 : Piv w C (k + 1) := fun l hl => by
          by_cases u : l = k
          · rw [u]; exact hs
          · exact hp l (by omega)
        refine clear_turn H hN hA hB hk hp1 hD0 e21E hT tE hnh hNh hnl lE eE (fun D' T' hT' f' t' h' e' => ?_)
        rw [Vk_kk] at h'
        exact ih (k + 1) T' h1 nh D' (by omega) hT' (fE.tr f') t' hnh h' hp1 e'
      · have hV := sgI_0.mp q
        refine ⟨isB_0, k0 (fun hpN => ?_) E fE⟩
        have hs := hpN k hk
        have h3 := zz_of (Vk_Z hA hp k k)
        rw [hV, cast_0] at h3
        have h4 : Vk w C k k k = Dk w C k * Sk w C k k k := if_neg (by omega)
        rw [h4] at h3
        generalize Sk w C k k k = s at *
        generalize Dk w C k = d at *
        grind
  refine ⟨_, key N 0 T pl nl D (by omega) (by omega) CrF.rf h hnl ?_ (fun l hl => by omega) (fun a b h1 h2 _ => ?_)⟩
  · have e : zz (Dk w C 0) = 1 := zz_eq cast_1.symm
    rw [e]; exact hl
  · rw [Vk_0]; exact eK a b h1 h2
theorem clear9_sp (H : RG G ad ro) (hN : N ≤ 13) (hw : isW w) (hA : ∀ i j, isZ (Am w C i j)) (hB : ∀ i j, bd (Am w C i j) MB) (e21 : D.1 (ad 500) 21 = nI N) (hsq : ∀ i j, i < N → j < N → (((D.2 (ad 522) (19 * i + j)).toInt : Int) : Rat) = Am w C i j) (hri : ∀ i, i < N → (((D.2 (ad 523) i).toInt : Int) : Rat) = Am w C i N) (k1 : Piv w C N → ∀ D', CrF ad ro D D' → TopV ad D' 0 → (∀ i, i < N → ∃ m, m ≤ 17 ∧ KpV ad D' i (zz (Dk w C N * xs w C N N i)) m) → (∃ m, m ≤ 17 ∧ KpV ad D' 19 (zz (Dk w C N)) m) → post 1 D') (k0 : ¬ Piv w C N → ∀ D', CrF ad ro D D' → post 0 D') : X9_clear_wp G D (ad 500) post := by
  refine ⟨H.x_, _, H.row_.1, H.row_.2.1, _, H.rig_.1, H.rig_.2.1, _, H.squ_.1, H.squ_.2.1, ?_⟩
  have f0 : CrF ad ro D (dI D (ad 500) 2 0) := (bgT H).cr H
  have t0 : TopV ad (dI D (ad 500) 2 0) 0 := ⟨dI_s _ _ _ _, by omega⟩
  generalize dI D (ad 500) 2 0 = D0 at *
  have l2 : ∀ {E : Dat}, CrF ad ro D E → E.2 (ad 522) = D.2 (ad 522) ∧ E.2 (ad 523) = D.2 (ad 523) ∧ E.1 (ad 500) 21 = nI N := fun fE => ⟨fE.1.ml H (by omega) (by unfold pG; omega), fE.1.ml H (by omega) (by unfold pG; omega), by rw [fE.2.1 21 (by omega) (by omega) (by omega)]; exact e21⟩
  have key := up_loop2 (L := fun f i (U : Nat) (E : Dat) => X9_clear_l7 G post (ad 500) (ad 524) (ad 523) (ad 522) f (nI i) E) N (fun i U E => U ≤ 60 * i ∧ CrF ad ro D E ∧ TopV ad E U ∧ ∀ a b, a < i → okc N b → Ent ad E U a b (zz (Am w C a (colN N b)))) ?_ ?_ 0 0 D0 (by omega) ⟨by omega, f0, t0, fun a b h1 _ => by omega⟩
  · exact ⟨_, key⟩
  · intro f U E hE
    obtain ⟨hU, fE, tE, eE⟩ := hE
    show X9_clear_l7_b G post (ad 500) (ad 524) (ad 523) (ad 522) _ _ _
    unfold X9_clear_l7_b
    rw [(l2 fE).2.2]
    refine ⟨fun _ => whole_sp H tE (by omega) (by decide) (fun D' n hn f' t' w' => ?_), fun q => absurd (nI_le (Nat.le_refl _) (by omega)) q⟩
    exact clear_main H hN hw hA hB (l2 (fE.tr (f'.cr H))).2.2 (by omega) t' (by omega) w' (fun a b h1 h2 => (eE a b h1 h2).fr H f' (by omega)) (fun hp D'' f'' => k1 hp D'' ((fE.tr (f'.cr H)).tr f'')) (fun hp D'' f'' => k0 hp D'' ((fE.tr (f'.cr H)).tr f''))
  · intro f i U E hi hE hk
    obtain ⟨hU, fE, tE, eE⟩ := hE
    show X9_clear_l7_b G post (ad 500) (ad 524) (ad 523) (ad 522) _ _ _
    unfold X9_clear_l7_b
    rw [(l2 fE).2.2]
    refine ⟨fun q => absurd q (nI_ge hi (by omega)), fun _ => ?_⟩
    have key2 := up_loop2 (L := fun f' j (V : Nat) (F : Dat) => X9_clear_l17 G post (ad 500) (ad 524) (ad 523) (ad 522) (X9_clear_l7 G post (ad 500) (ad 524) (ad 523) (ad 522) f) f' (nI i) (nI j) F) N (fun j V F => V ≤ 60 * i + 4 * j ∧ CrF ad ro D F ∧ TopV ad F V ∧ (∀ a b, a < i → okc N b → Ent ad F V a b (zz (Am w C a (colN N b)))) ∧ ∀ b, b < j → Ent ad F V i b (zz (Am w C i b))) ?_ ?_ 0 U E (by omega) ⟨by omega, fE, tE, eE, fun b hb => by omega⟩
    · exact ⟨_, key2⟩
    · intro f' V F hF
      obtain ⟨hV, fF, tF, eF, rF⟩ := hF
      show X9_clear_l17_b G post (ad 500) (ad 524) (ad 523) (ad 522) _ _ _ _ _
      unfold X9_clear_l17_b
      rw [(l2 fF).2.2, (l2 fF).2.1, r_19, nI_clamp (n := i) (by omega), nI_clamp (n := 20 * i + 19) (by omega), nI_1 i]
      have hz := hri i hi
      refine ⟨fun _ => ⟨ri_in H (by omega), whole_sp H tF (by omega) (L_gt hz (hB _ _)) (fun D' n hn f'' t' w' => ⟨r_in H (by omega), hk (V + n + 1) _ ⟨by omega, (fF.tr (f''.cr H)).tr (crR H), t'.row H, fun a b h1 h2 => ?_⟩⟩)⟩, fun q => absurd (nI_le (Nat.le_refl _) (by omega)) q⟩
      have hb : b < 20 := by unfold okc at h2; omega
      by_cases u : a = i
      · rw [u]
        by_cases v : b = 19
        · rw [v]
          have ec : colN N 19 = N := if_pos rfl
          rw [ec, ← hz, zz_eq rfl]
          exact Ent.set H (by omega) w'
        · have ec : colN N b = b := if_neg v
          rw [ec]
          exact ((rF b (by unfold okc at h2; omega)).fr H f'' (by omega)).row H (by omega)
      · exact ((eF a b (by omega) h2).fr H f'' (by omega)).row H (by omega)
    · intro f' j V F hj hF hk2
      obtain ⟨hV, fF, tF, eF, rF⟩ := hF
      show X9_clear_l17_b G post (ad 500) (ad 524) (ad 523) (ad 522) _ _ _ _ _
      unfold X9_clear_l17_b
      rw [(l2 fF).2.2, (l2 fF).1, s_e, r_e, nI_clamp (n := 19 * i + j) (by omega), nI_clamp (n := 20 * i + j) (by omega), nI_1 j]
      have hz := hsq i j hi hj
      refine ⟨fun q => absurd q (nI_ge hj (by omega)), fun _ => ⟨sq_in H (by omega), whole_sp H tF (by omega) (L_gt hz (hB _ _)) (fun D' n hn f'' t' w' => ⟨r_in H (by omega), hk2 (V + n + 1) _ ⟨by omega, (fF.tr (f''.cr H)).tr (crR H), t'.row H, fun a b h1 h2 => ?_, fun b hb => ?_⟩⟩)⟩⟩
      · have hb : b < 20 := by unfold okc at h2; omega
        exact ((eF a b h1 h2).fr H f'' (by omega)).row H (by omega)
      · by_cases u : b = j
        · rw [u, ← hz, zz_eq rfl]
          exact Ent.set H (by omega) w'
        · exact ((rF b (by omega)).fr H f'' (by omega)).row H (by omega)
end CS3
