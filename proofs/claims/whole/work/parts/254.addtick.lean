def pA (q : Nat) : Prop := q = 12 ∨ (30 ≤ q ∧ q < 37) ∨ (40 ≤ q ∧ q < 47)
def sml (x : Int) : Prop := -1099511627776 ≤ x ∧ x ≤ 1099511627776
theorem mul10k {x y : Int} (hx : -10000 ≤ x ∧ x ≤ 10000) (hy : -10000 ≤ y ∧ y ≤ 10000) : -100000000 ≤ x * y ∧ x * y ≤ 100000000 := by
  have := mul_abs_le (X := 10000) (Y := 10000) hx.1 hx.2 hy.1 hy.2
  omega
section AT
variable {G : Shp} {ad ro : Nat → Nat} {D : Dat} {A : AR} {u : Option Nat}
theorem addTick_sp (H : CS G ad ro) (hA : RowOK A) (hn : PnV ad D A u) {t p : Nat} (ht : t < 40) (hp : p < 7) (hc : sml (D.2 (ad 12) p).toInt) (hs : ∀ i, i ≤ nU A → sml (D.2 (ad (40 + p)) i).toInt) (hm : ∀ i j, i ≤ j → j ≤ nU A → sml (D.2 (ad (30 + i)) j).toInt) {post : Dat → Prop}
    (k : ∀ D', FrP ro D D' pA → D'.1 = D.1 → (D'.2 (ad 12) p).toInt = (D.2 (ad 12) p).toInt + 1 → (∀ q, q ≠ p → D'.2 (ad 12) q = D.2 (ad 12) q) → (∀ i, i ≤ nU A → (D'.2 (ad (40 + p)) i).toInt = (D.2 (ad (40 + p)) i).toInt + cf A u i t) → (∀ q, q < 7 → q ≠ p → D'.2 (ad (40 + q)) = D.2 (ad (40 + q))) → (∀ i j, i ≤ j → j ≤ nU A → (D'.2 (ad (30 + i)) j).toInt = (D.2 (ad (30 + i)) j).toInt + cf A u i t * cf A u j t) → post D') : X2_addTick_wp G D (ad 2) (nI t) (nI p) post := by
  have h6 := nU_le hA
  have hvp : vp_in (nI p) (G.2.2.1 (ad 12)) := by rw [H.pcl_]; exact vp_in_nI hp (by omega)
  refine ⟨H.p_, _, H.p4_, H.pc_, _, H.p1_, H.co_, _, H.p3_, H.so_, _, H.p2_, H.po_, hvp, hvp, ?_⟩
  rw [nI_clamp (show p < 2 ^ 31 by omega)]
  have e1 : (D.2 (ad 12) p + 1).toInt = (D.2 (ad 12) p).toInt + 1 := by
    unfold sml at hc
    have o : (1 : Int64).toInt = 1 := rfl
    have := L_add (x := D.2 (ad 12) p) (y := 1)
    rw [o] at this
    exact this (by omega) (by omega)
  generalize hD1 : dJ D (ad 12) p (D.2 (ad 12) p + 1) = D1
  have a1 : D1.1 = D.1 := by rw [← hD1]; rfl
  have a2 : (D1.2 (ad 12) p).toInt = (D.2 (ad 12) p).toInt + 1 := by rw [← hD1, dJ_s, e1]
  have a3 : ∀ q, q ≠ p → D1.2 (ad 12) q = D.2 (ad 12) q := fun q hq => by rw [← hD1, dJ_o _ _ _ hq]
  have a4 : ∀ x, x ≠ ad 12 → D1.2 x = D.2 x := fun x hx => by rw [← hD1, dJ_n _ _ _ hx]
  clear hD1 e1
  have e11 : D.1 (ad 2) 11 = nI (nU A) := hn.1.1.1
  have key := up_loop (L := fun m i (E : Dat) => X2_addTick_l12 G post (ad 2) (nI t) (nI p) (ad 12) (ad 9) (ad 11) (ad 10) m (nI i) E) (nU A + 1) (fun i E => E.1 = D.1 ∧ E.2 (ad 12) = D1.2 (ad 12) ∧ (∀ x, ¬ pA (ro x) → E.2 x = D.2 x) ∧ (∀ q, q < 7 → q ≠ p → E.2 (ad (40 + q)) = D.2 (ad (40 + q))) ∧ (∀ q, q ≤ nU A → (E.2 (ad (40 + p)) q).toInt = (D.2 (ad (40 + p)) q).toInt + (if q < i then cf A u q t else 0)) ∧ ∀ q j, q ≤ j → j ≤ nU A → (E.2 (ad (30 + q)) j).toInt = (D.2 (ad (30 + q)) j).toInt + (if q < i then cf A u q t * cf A u j t else 0)) ?_ ?_ 0 D1 (by omega) ⟨a1, rfl, fun x hx => a4 x (fun q => hx (by rw [q, H.inj_ _ (by omega)]; left; rfl)), fun q hq _ => a4 _ (H.ne (by omega) (by omega) (by omega)), fun q hq => by rw [a4 _ (H.ne (by omega) (by omega) (by omega)), if_neg (by omega)]; omega, fun q j h1 h2 => by rw [a4 _ (H.ne (by omega) (by omega) (by omega)), if_neg (by omega)]; omega⟩
  · exact ⟨_, key⟩
  · intro m E hE
    obtain ⟨b1, b2, b3, b4, b5, b6⟩ := hE
    show X2_addTick_l12_b G post (ad 2) (nI t) (nI p) (ad 12) (ad 9) (ad 11) (ad 10) _ _ _
    refine ⟨fun _ => ?_, fun q => absurd ?_ q⟩
    · refine k E (fun a ha => ⟨by rw [b1], b3 a ha⟩) b1 (by rw [b2]; exact a2) (fun q hq => by rw [b2]; exact a3 q hq) (fun i hi => ?_) b4 (fun i j h1 h2 => ?_)
      · rw [b5 i hi, if_pos (by omega)]
      · rw [b6 i j h1 h2, if_pos (by omega)]
    · rw [b1, e11]; exact nI_lt (by omega) (by omega)
  · intro m i E hi hE hk
    obtain ⟨b1, b2, b3, b4, b5, b6⟩ := hE
    have hcol : ∀ x, x < 7 → E.2 (ad (20 + x)) = D.2 (ad (20 + x)) := fun x hx => b3 _ (by rw [H.inj_ _ (by omega)]; unfold pA; omega)
    have ci := hn.col (i := i) (by omega) ht
    rw [← hcol i (by omega)] at ci
    have hci := cf_b hA u (i := i) ht
    show X2_addTick_l12_b G post (ad 2) (nI t) (nI p) (ad 12) (ad 9) (ad 11) (ad 10) _ _ _
    unfold X2_addTick_l12_b
    rw [b1, e11]
    refine ⟨fun q => absurd q (nI_nlt (by omega) (by omega)), fun _ => ⟨by rw [H.col_]; exact vp_in_nI (by omega) (by omega), ad (20 + i), by rw [nI_clamp (by omega)]; exact H.cor_ _ (by omega), H.ci_ _ (by omega), by rw [H.cil_ _ (by omega)]; exact vp_in_nI (by omega) (by omega), ?_⟩⟩
    rw [nI_clamp (show t < 2 ^ 31 by omega), nI_clamp (show i < 2 ^ 31 by omega), nI_clamp (show p < 2 ^ 31 by omega)]
    generalize E.2 (ad (20 + i)) t = x at ci ⊢
    refine ⟨fun _ => ⟨by rw [H.sol_]; exact vp_in_nI hp (by omega), ad (40 + p), H.sor_ _ hp, H.si_ _ hp, by rw [H.sil_ _ hp]; exact vp_in_nI (by omega) (by omega), by rw [H.sil_ _ hp]; exact vp_in_nI (by omega) (by omega), ?_⟩, fun q => ?_⟩
    · have s1 := b5 i (by omega)
      rw [if_neg (by omega), Int.add_zero] at s1
      have hsi := hs i (by omega)
      unfold sml at hsi
      have s2 : (E.2 (ad (40 + p)) i + x).toInt = (D.2 (ad (40 + p)) i).toInt + cf A u i t := by
        rw [L_add (by rw [s1, ci]; omega) (by rw [s1, ci]; omega), s1, ci]
      generalize hE1 : dJ E (ad (40 + p)) i (E.2 (ad (40 + p)) i + x) = E1
      have c1 : E1.1 = D.1 := by rw [← hE1]; exact b1
      have c2 : ∀ y, y ≠ ad (40 + p) → E1.2 y = E.2 y := fun y hy => by rw [← hE1, dJ_n _ _ _ hy]
      have c3 : (E1.2 (ad (40 + p)) i).toInt = (D.2 (ad (40 + p)) i).toInt + cf A u i t := by rw [← hE1, dJ_s, s2]
      have c4 : ∀ q, q ≠ i → E1.2 (ad (40 + p)) q = E.2 (ad (40 + p)) q := fun q hq => by rw [← hE1, dJ_o _ _ _ hq]
      clear hE1 s2 s1
      have key2 := up_loop (L := fun n j (Y : Dat) => X2_addTick_l56 G post (ad 2) (nI t) (nI p) (ad 12) (ad 9) (ad 11) (ad 10) (X2_addTick_l12 G post (ad 2) (nI t) (nI p) (ad 12) (ad 9) (ad 11) (ad 10) m) n (nI i) x (nI j) Y) (nU A + 1) (fun j Y => i ≤ j ∧ Y.1 = D.1 ∧ (∀ y, y ≠ ad (30 + i) → Y.2 y = E1.2 y) ∧ ∀ q, i ≤ q → q ≤ nU A → (Y.2 (ad (30 + i)) q).toInt = (D.2 (ad (30 + i)) q).toInt + (if q < j then cf A u i t * cf A u q t else 0)) ?_ ?_ i E1 (by omega) ⟨Nat.le_refl i, c1, fun _ _ => rfl, fun q h1 h2 => ?_⟩
      · exact ⟨_, key2⟩
      · intro n Y hY
        obtain ⟨hij, d1, d2, d3⟩ := hY
        show X2_addTick_l56_b G post (ad 2) (nI t) (nI p) (ad 12) (ad 9) (ad 11) (ad 10) _ _ _ _ _ _
        unfold X2_addTick_l56_b X2_addTick_j95
        rw [d1, e11]
        refine ⟨fun _ => ?_, fun q => absurd (nI_lt (by omega) (by omega)) q⟩
        rw [nI_1]
        refine hk Y ⟨d1, ?_, fun y hy => ?_, fun q hq hqp => ?_, fun q hq => ?_, fun q j h1 h2 => ?_⟩
        · rw [d2 _ (H.ne (by omega) (by omega) (by omega)), c2 _ (H.ne (by omega) (by omega) (by omega))]; exact b2
        · rw [d2 y (fun e => hy (by rw [e, H.inj_ _ (by omega)]; unfold pA; omega)), c2 y (fun e => hy (by rw [e, H.inj_ _ (by omega)]; unfold pA; omega))]
          exact b3 y hy
        · rw [d2 _ (H.ne (by omega) (by omega) (by omega)), c2 _ (H.ne (by omega) (by omega) (by omega))]; exact b4 q hq hqp
        · rw [d2 _ (H.ne (by omega) (by omega) (by omega))]
          by_cases e : q = i
          · rw [e, c3, if_pos (by omega)]
          · rw [c4 q e, b5 q hq]
            by_cases w : q < i
            · rw [if_pos w, if_pos (by omega)]
            · rw [if_neg w, if_neg (by omega)]
        · by_cases e : q = i
          · subst e
            rw [d3 j h1 h2, if_pos (by omega), if_pos (by omega)]
          · rw [d2 _ (H.ne (by omega) (by omega) (by omega)), c2 _ (H.ne (by omega) (by omega) (by omega)), b6 q j h1 h2]
            by_cases w : q < i
            · rw [if_pos w, if_pos (by omega)]
            · rw [if_neg w, if_neg (by omega)]
      · intro n j Y hj hY hk2
        obtain ⟨hij, d1, d2, d3⟩ := hY
        show X2_addTick_l56_b G post (ad 2) (nI t) (nI p) (ad 12) (ad 9) (ad 11) (ad 10) _ _ _ _ _ _
        unfold X2_addTick_l56_b
        rw [d1, e11]
        refine ⟨fun q => absurd q (nI_nlt (by omega) (by omega)), fun _ => ⟨by rw [H.pol_]; exact vp_in_nI (by omega) (by omega), ad (30 + i), by rw [nI_clamp (by omega)]; exact H.por_ _ (by omega), H.pi_ _ (by omega), by rw [H.pil_ _ (by omega)]; exact vp_in_nI (by omega) (by omega), by rw [H.col_]; exact vp_in_nI (by omega) (by omega), ad (20 + j), by rw [nI_clamp (by omega)]; exact H.cor_ _ (by omega), H.ci_ _ (by omega), by rw [H.cil_ _ (by omega)]; exact vp_in_nI (by omega) (by omega), by rw [H.pil_ _ (by omega)]; exact vp_in_nI (by omega) (by omega), ?_⟩⟩
        rw [nI_1, nI_clamp (show j < 2 ^ 31 by omega), nI_clamp (show t < 2 ^ 31 by omega)]
        have g1 : (Y.2 (ad (20 + j)) t).toInt = cf A u j t := by
          rw [d2 _ (H.ne (by omega) (by omega) (by omega)), c2 _ (H.ne (by omega) (by omega) (by omega)), hcol j (by omega)]
          exact hn.col (by omega) ht
        have g2 := d3 j hij (by omega)
        rw [if_neg (by omega), Int.add_zero] at g2
        have hmj := hm i j hij (by omega)
        unfold sml at hmj
        have hpr := mul10k hci (cf_b hA u (i := j) ht)
        have g3 : (x * Y.2 (ad (20 + j)) t).toInt = cf A u i t * cf A u j t := by
          rw [L_mul (by rw [ci, g1]; omega) (by rw [ci, g1]; omega), ci, g1]
        generalize x * Y.2 (ad (20 + j)) t = w at g3 ⊢
        have g4 : (Y.2 (ad (30 + i)) j + w).toInt = (D.2 (ad (30 + i)) j).toInt + cf A u i t * cf A u j t := by
          rw [L_add (by rw [g2, g3]; omega) (by rw [g2, g3]; omega), g2, g3]
        refine hk2 _ ⟨by omega, d1, fun y hy => by rw [dJ_n _ _ _ hy]; exact d2 y hy, fun q h1 h2 => ?_⟩
        by_cases e : q = j
        · rw [e, dJ_s, g4, if_pos (by omega)]
        · rw [dJ_o _ _ _ e, d3 q h1 h2]
          by_cases w : q < j
          · rw [if_pos w, if_pos (by omega)]
          · rw [if_neg w, if_neg (by omega)]
      · rw [c2 _ (H.ne (by omega) (by omega) (by omega)), b6 i q h1 h2, if_neg (by omega)]
        by_cases w : q < i
        · omega
        · rw [if_neg w]
    · have q0 : cf A u i t = 0 := by rw [← ci, q]; rfl
      unfold X2_addTick_j95
      rw [nI_1]
      refine hk E ⟨b1, b2, b3, b4, fun j hj => ?_, fun j l h1 h2 => ?_⟩
      · rw [b5 j hj]
        by_cases e : j = i
        · rw [e, if_neg (by omega), if_pos (by omega), q0]
        · by_cases w : j < i
          · rw [if_pos w, if_pos (by omega)]
          · rw [if_neg w, if_neg (by omega)]
      · rw [b6 j l h1 h2]
        by_cases e : j = i
        · rw [e, if_neg (by omega), if_pos (by omega), q0]; simp
        · by_cases w : j < i
          · rw [if_pos w, if_pos (by omega)]
          · rw [if_neg w, if_neg (by omega)]
end AT
