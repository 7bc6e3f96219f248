theorem tb2 {TB k i T' : Nat} (h : TB = 1000 + 28938 * k + 2226 * i) (h2 : T' ≤ TB + 2226) : T' ≤ 1000 + 28938 * k + 2226 * (i + 1) := by
  rw [Nat.mul_succ, ← Nat.add_assoc, ← h]
  exact h2
section CS2
variable {G : Shp} {ad ro : Nat → Nat} {D D' : Dat} {T T' a b N : Nat} {z : Int} {w : Nat → Rat} {C : Nat → Nat → Rat} {post : Int32 → Dat → Prop}
theorem colN_lt {N k b : Nat} (hk : k < N) (hb : okc N b) (h : k < b) : k < colN N b := by
  unfold colN
  split
  · exact hk
  · exact h
/-- a row of a turn -/
theorem clear_row (H : RG G ad ro) (hN : N ≤ 13) (hA : ∀ i j, isZ (Am w C i j)) (hB : ∀ i j, bd (Am w C i j) MB) {k i : Nat} (hk : k < N) (hi : i < N) (hik : i ≠ k) (hp : Piv w C (k + 1)) (hD0 : zz (Dk w C k) ≠ 0) (e21 : D.1 (ad 500) 21 = nI N) {TB : Nat} (hTB : TB + 2226 ≤ 600000) (hT : T ≤ TB) (h : TopV ad D T) {h1 nh pl nl pi ni : Nat} (hnh : nh ≤ 17) (hh : Nm ad D T h1 (zz (Vk w C k k k)) nh) (hnl : nl ≤ 17) (hl : Nm ad D T pl (zz (Dk w C k)) nl) (hni : ni ≤ 17) (hi' : Nm ad D T pi (zz (Vk w C k i k)) ni) (eK : EntK ad D T w C N k i 0) (eC : EntC ad D T w C N k (i + 1)) {k93 : Int32 → Int32 → Dat → Prop} {k126 : Int32 → Int32 → Int32 → Int32 → Dat → Prop} (kk : ∀ D' T', T' ≤ TB + 2226 → CrF ad ro D D' → TopV ad D' T' → Nm ad D' T' h1 (zz (Vk w C k k k)) nh → Nm ad D' T' pl (zz (Dk w C k)) nl → EntK ad D' T' w C N k (i + 1) 0 → EntC ad D' T' w C N k (i + 1) → k126 (nI pl) (nI k) (nI h1) (nI (i + 1)) D') : ∃ f, X9_clear_l163 G post (ad 500) (ad 524) (ad 523) (ad 522) k93 k126 f (nI pl) (nI k) (nI h1) (nI i) (nI pi) (nI k + 1) D := by
  have hp' : Piv w C k := fun l hl => hp l (by omega)
  have hs := hp k (by omega)
  rw [nI_1]
  have key := up_loop2 (L := fun f j (U : Nat) (E : Dat) => X9_clear_l163 G post (ad 500) (ad 524) (ad 523) (ad 522) k93 k126 f (nI pl) (nI k) (nI h1) (nI i) (nI pi) (nI j) E) 20 (fun j U E => k < j ∧ U ≤ TB + 159 * cj N j ∧ CrF ad ro D E ∧ TopV ad E U ∧ Nm ad E U h1 (zz (Vk w C k k k)) nh ∧ Nm ad E U pl (zz (Dk w C k)) nl ∧ Nm ad E U pi (zz (Vk w C k i k)) ni ∧ EntK ad E U w C N k i j ∧ EntC ad E U w C N k (i + 1)) ?_ ?_ (k + 1) T D (by omega) ⟨by omega, by omega, CrF.rf, h, hh, hl, hi', fun a b h1 h2 h3 => ?_, eC⟩
  · exact ⟨_, key⟩
  · intro f U E hE
    obtain ⟨-, hU, fE, tE, hE1, lE, iE, kE, cE⟩ := hE
    show X9_clear_l163_b G post (ad 500) (ad 524) (ad 523) (ad 522) k93 k126 _ _ _ _ _ _ _ _
    unfold X9_clear_l163_b X9_clear_j250
    rw [nI_1 i]
    refine ⟨fun _ => kk E U ?_ fE tE hE1 lE (fun a b h1 h2 h3 => ?_) cE, fun q => absurd (by decide) q⟩
    · have : cj N 20 ≤ 14 := by unfold cj; split <;> (try split) <;> omega
      have : 159 * cj N 20 ≤ 2226 := Nat.mul_le_mul_left _ this
      omega
    · have := kE a b h1 h2 h3
      have e : stg k i 20 a b = stg k (i + 1) 0 a b := by
        have hb : b < 20 := by unfold okc at h2; omega
        unfold stg
        by_cases u : a < i + 1
        · rw [if_pos (by omega), if_pos (Or.inl u)]
        · rw [if_neg (by omega), if_neg (by omega)]
      rw [← e]; exact this
  · intro f j U E hj hE hk'
    obtain ⟨hkj, hU, fE, tE, hE1, lE, iE, kE, cE⟩ := hE
    show X9_clear_l163_b G post (ad 500) (ad 524) (ad 523) (ad 522) k93 k126 _ _ _ _ _ _ _ _
    have e21E : E.1 (ad 500) 21 = nI N := by rw [fE.2.1 21 (by omega) (by omega) (by omega)]; exact e21
    have hcj : cj N (j + 1) ≤ 14 ∧ cj N j ≤ cj N (j + 1) ∧ (okc N j → cj N (j + 1) = cj N j + 1) := by
      unfold cj okc
      refine ⟨?_, ?_, fun h => ?_⟩
      · split <;> (try split) <;> omega
      · split <;> split <;> (try split) <;> (try split) <;> omega
      · split <;> split <;> (try split) <;> (try split) <;> omega
    have h159 : 159 * cj N j ≤ 2226 := by
      have q1 := hcj.1
      have q2 := hcj.2.1
      omega
    -- a cell that is made
    have cell : okc N j → X9_clear_j186 G post (ad 500) (ad 524) (ad 523) (ad 522) k93 k126 (X9_clear_l163 G post (ad 500) (ad 524) (ad 523) (ad 522) k93 k126 f) (nI pl) (nI k) (nI h1) (nI i) (nI pi) (nI j) E := by
      intro hoc
      obtain ⟨pe, ne, hne, hpe, hNe⟩ := kE i j hi hoc hkj
      obtain ⟨pk, nk, hnk, hpk, hNk⟩ := kE k j hk hoc hkj
      have es : stg k i j i j = k := by unfold stg; rw [if_neg (by omega)]
      rw [es] at hNe
      have ek : zz (Vk w C (stg k i j k j) k (colN N j)) = zz (Vk w C k k (colN N j)) := by
        unfold stg
        split
        · rw [Vk_row hs]
        · rfl
      rw [ek] at hNk
      have hVb := az_bd (Vk_Z hA hp i (colN N j)) (Vk_bd hB (by omega) hp i (colN N j))
      refine clear_cell H (by omega) tE hnh hE1 lE hni iE hne hpe hNe hnk hpk hNk (by omega) (by omega) (by omega) hD0 (jordanZ hA hp hik (colN N j)) hVb (fun D' T' p n hT1 hT2 f' t' hn w' => ?_)
      refine hk' T' _ ⟨by omega, ?_, (fE.tr (f'.cr H)).tr (crR H), t'.row H, (hE1.fr f' hT1).row H, (lE.fr f' hT1).row H, (iE.fr f' hT1).row H, fun a b h1 h2 h3 => ?_, fun a h1 h2 => ((cE a h1 h2).fr H f' hT1).row H (by omega)⟩
      · rw [hcj.2.2 hoc]; omega
      · have hb : b < 20 := by unfold okc at h2; omega
        by_cases u : a = i ∧ b = j
        · rw [u.1, u.2]
          have e2 : stg k i (j + 1) i j = k + 1 := by unfold stg; rw [if_pos (by omega)]
          rw [e2]
          exact Ent.set H hn w'
        · have e2 : stg k i (j + 1) a b = stg k i j a b := by
            unfold stg
            by_cases v : a < i ∨ (a = i ∧ b < j)
            · rw [if_pos v, if_pos (by omega)]
            · rw [if_neg v, if_neg (by omega)]
          rw [e2]
          exact ((kE a b h1 h2 h3).fr H f' hT1).row H (by omega)
    unfold X9_clear_l163_b
    rw [e21E]
    refine ⟨fun q => absurd q (by rw [show (20 : Int32) = nI 20 by decide]; exact nI_ge hj (by omega)), fun _ => ⟨fun q => cell (Or.inl ?_), fun q => ⟨fun q2 => ?_, fun q2 => cell (Or.inr ?_)⟩⟩⟩
    · have := (I_lt _ _).mp q
      rw [nI_toInt (by omega), nI_toInt (by omega)] at this
      omega
    · have hjN : ¬ j < N := fun u => q (nI_lt u (by omega))
      have hj19 : j ≠ 19 := fun u => q2 (by rw [u]; rfl)
      unfold X9_clear_j244
      rw [nI_1 j]
      refine hk' U E ⟨by omega, ?_, fE, tE, hE1, lE, iE, fun a b h1 h2 h3 => ?_, cE⟩
      · have := hcj.2.1
        have : 159 * cj N j ≤ 159 * cj N (j + 1) := Nat.mul_le_mul_left _ this
        omega
      · have e2 : stg k i (j + 1) a b = stg k i j a b := by
          unfold okc at h2
          unfold stg
          by_cases v : a < i ∨ (a = i ∧ b < j)
          · rw [if_pos v, if_pos (by omega)]
          · rw [if_neg v, if_neg (by omega)]
        rw [e2]
        exact kE a b h1 h2 h3
    · rw [show (19 : Int32) = nI 19 by decide, nI_eq (by omega) (by omega)] at q2
      exact q2
  · have := eK a b h1 h2 h3
    have e : stg k i (k + 1) a b = stg k i 0 a b := by
      unfold stg
      by_cases v : a < i
      · rw [if_pos (Or.inl v), if_pos (Or.inl v)]
      · rw [if_neg (by omega), if_neg (by omega)]
    rw [e]; exact this
/-- a turn: all rows but one -/
theorem clear_turn (H : RG G ad ro) (hN : N ≤ 13) (hA : ∀ i j, isZ (Am w C i j)) (hB : ∀ i j, bd (Am w C i j) MB) {k : Nat} (hk : k < N) (hp : Piv w C (k + 1)) (hD0 : zz (Dk w C k) ≠ 0) (e21 : D.1 (ad 500) 21 = nI N) (hT : T ≤ 1000 + 28938 * k) (h : TopV ad D T) {h1 nh pl nl : Nat} (hnh : nh ≤ 17) (hh : Nm ad D T h1 (zz (Vk w C k k k)) nh) (hnl : nl ≤ 17) (hl : Nm ad D T pl (zz (Dk w C k)) nl) (eK : ∀ a b, a < N → okc N b → k ≤ b → Ent ad D T a b (zz (Vk w C k a (colN N b)))) {k93 : Int32 → Int32 → Dat → Prop} (kk : ∀ D' T', T' ≤ 1000 + 28938 * (k + 1) → CrF ad ro D D' → TopV ad D' T' → Nm ad D' T' h1 (zz (Vk w C k k k)) nh → (∀ a b, a < N → okc N b → k + 1 ≤ b → Ent ad D' T' a b (zz (Vk w C (k + 1) a (colN N b)))) → k93 (nI h1) (nI (k + 1)) D') : ∃ f, X9_clear_l126 G post (ad 500) (ad 524) (ad 523) (ad 522) k93 f (nI pl) (nI k) (nI h1) 0 D := by
  have hs := hp k (by omega)
  have key := up_loop2 (L := fun f i (U : Nat) (E : Dat) => X9_clear_l126 G post (ad 500) (ad 524) (ad 523) (ad 522) k93 f (nI pl) (nI k) (nI h1) (nI i) E) N (fun i U E => U ≤ 1000 + 28938 * k + 2226 * i ∧ CrF ad ro D E ∧ TopV ad E U ∧ Nm ad E U h1 (zz (Vk w C k k k)) nh ∧ Nm ad E U pl (zz (Dk w C k)) nl ∧ EntK ad E U w C N k i 0 ∧ EntC ad E U w C N k i) ?_ ?_ 0 T D (by omega) ⟨by omega, CrF.rf, h, hh, hl, fun a b h1 h2 h3 => ?_, fun a h1 _ => ?_⟩
  · exact ⟨_, key⟩
  · intro f U E hE
    obtain ⟨hU, fE, tE, hE1, lE, kE, cE⟩ := hE
    have e21E : E.1 (ad 500) 21 = nI N := by rw [fE.2.1 21 (by omega) (by omega) (by omega)]; exact e21
    show X9_clear_l126_b G post (ad 500) (ad 524) (ad 523) (ad 522) k93 _ _ _ _ _ _
    unfold X9_clear_l126_b
    rw [e21E, nI_1 k]
    refine ⟨fun _ => kk E U (by omega) fE tE hE1 (fun a b h1 h2 h3 => ?_), fun q => absurd (nI_le (Nat.le_refl _) (by omega)) q⟩
    have := kE a b h1 h2 (by omega)
    have e : stg k N 0 a b = k + 1 := by unfold stg; rw [if_pos (Or.inl h1)]
    rw [e] at this
    exact this
  · intro f i U E hi hE hk'
    obtain ⟨hU, fE, tE, hE1, lE, kE, cE⟩ := hE
    have e21E : E.1 (ad 500) 21 = nI N := by rw [fE.2.1 21 (by omega) (by omega) (by omega)]; exact e21
    show X9_clear_l126_b G post (ad 500) (ad 524) (ad 523) (ad 522) k93 _ _ _ _ _ _
    obtain ⟨pi, ni, hni, hpi, hNi⟩ := cE i hi (Nat.le_refl i)
    unfold X9_clear_l126_b
    rw [e21E, r_e, nI_clamp (n := 20 * i + k) (by omega), hpi]
    refine ⟨fun q => absurd q (nI_ge hi (by omega)), fun _ => ⟨fun q => ⟨r_in H (by omega), ?_⟩, fun q => ?_⟩⟩
    · have hik : i ≠ k := fun u => q (by rw [u])
      obtain ⟨TB, hTB⟩ : ∃ TB, TB = 1000 + 28938 * k + 2226 * i := ⟨_, rfl⟩
      rw [← hTB] at hU
      have hTB1 : TB + 2226 ≤ 600000 := by omega
      have hTB2 : ∀ T', T' ≤ TB + 2226 → T' ≤ 1000 + 28938 * k + 2226 * (i + 1) := fun T' h => tb2 hTB h
      exact clear_row (TB := TB) H hN hA hB hk hi hik hp hD0 e21E hTB1 hU tE hnh hE1 hnl lE hni hNi kE (fun a h1 h2 => cE a h1 (by omega)) (fun D' T' hT' f' t' h1' l' k' c' => hk' T' D' ⟨hTB2 T' hT', fE.tr f', t', h1', l', k', c'⟩)
    · have hik : i = k := by rw [nI_eq (by omega) (by omega)] at q; exact q
      unfold X9_clear_j250
      rw [nI_1 i]
      refine hk' U E ⟨by omega, fE, tE, hE1, lE, fun a b h1 h2 h3 => ?_, fun a h1 h2 => cE a h1 (by omega)⟩
      have := kE a b h1 h2 h3
      by_cases u : a = i
      · have e1 : stg k i 0 a b = k := by unfold stg; rw [if_neg (by omega)]
        have e2 : stg k (i + 1) 0 a b = k + 1 := by unfold stg; rw [if_pos (by omega)]
        rw [e1] at this
        rw [e2, u, hik, Vk_row hs]
        rw [u, hik] at this
        exact this
      · have e : stg k (i + 1) 0 a b = stg k i 0 a b := by
          unfold stg
          by_cases v : a < i
          · rw [if_pos (by omega), if_pos (by omega)]
          · rw [if_neg (by omega), if_neg (by omega)]
        rw [e]; exact this
  · have := eK a b h1 h2 (by omega)
    have e : stg k 0 0 a b = k := by unfold stg; rw [if_neg (by omega)]
    rw [e]; exact this
  · have := eK a k h1 (Or.inl hk) (Nat.le_refl k)
    have e : colN N k = k := by unfold colN; rw [if_neg (by omega)]
    rw [e] at this
    exact this
end CS2
