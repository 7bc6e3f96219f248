def pcS (A : AR) (p n : Nat) : Int := si (fun t => if aK A t = true ∧ t % plc A = p then 1 else 0) n
def psS (A : AR) (u : Option Nat) (p i n : Nat) : Int := si (fun t => if aK A t = true ∧ t % plc A = p then cf A u i t else 0) n
def prS (A : AR) (u : Option Nat) (i j n : Nat) : Int := si (fun t => if aK A t = true then cf A u i t * cf A u j t else 0) n
theorem pcS_succ (A : AR) (p n : Nat) : pcS A p (n + 1) = pcS A p n + (if aK A n = true ∧ n % plc A = p then 1 else 0) := rfl
theorem psS_succ (A : AR) (u : Option Nat) (p i n : Nat) : psS A u p i (n + 1) = psS A u p i n + (if aK A n = true ∧ n % plc A = p then cf A u i n else 0) := rfl
theorem prS_succ (A : AR) (u : Option Nat) (i j n : Nat) : prS A u i j (n + 1) = prS A u i j n + (if aK A n = true then cf A u i n * cf A u j n else 0) := rfl
/-- the sums over the first n ticks -/
def SumV (ad : Nat → Nat) (D : Dat) (A : AR) (u : Option Nat) (n : Nat) : Prop := (∀ p, p < plc A → (D.2 (ad 12) p).toInt = pcS A p n) ∧ (∀ p, p < plc A → ∀ i, i ≤ nU A → (D.2 (ad (40 + p)) i).toInt = psS A u p i n) ∧ ∀ i j, i ≤ j → j ≤ nU A → (D.2 (ad (30 + i)) j).toInt = prS A u i j n
theorem pcS_b (A : AR) (p n : Nat) : -(n : Int) ≤ pcS A p n ∧ pcS A p n ≤ n := by
  have := si_abs (M := 1) (by decide) (n := n) (f := fun t => if aK A t = true ∧ t % plc A = p then 1 else 0) (fun i _ => by split <;> omega)
  unfold pcS
  omega
theorem psS_b {A : AR} (hA : RowOK A) (u : Option Nat) (p i : Nat) {n : Nat} (hn : n ≤ 40) : -(n * 10000 : Int) ≤ psS A u p i n ∧ psS A u p i n ≤ n * 10000 := by
  exact si_abs (M := 10000) (by decide) (n := n) (fun t ht => by
    split
    · exact cf_b hA u (by omega)
    · omega)
theorem prS_b {A : AR} (hA : RowOK A) (u : Option Nat) (i j : Nat) {n : Nat} (hn : n ≤ 40) : -(n * 100000000 : Int) ≤ prS A u i j n ∧ prS A u i j n ≤ n * 100000000 := by
  exact si_abs (M := 100000000) (by decide) (n := n) (fun t ht => by
    split
    · exact mul10k (cf_b hA u (by omega)) (cf_b hA u (by omega))
    · omega)
theorem plc_b {A : AR} (h : RowOK A) : 1 ≤ plc A ∧ plc A ≤ 7 := by
  unfold plc
  have := h.2.2.2.2.2.2
  split <;> omega
section AV
variable {G : Shp} {ad ro : Nat → Nat} {D : Dat} {r : Nat} {A : AR} {u : Option Nat}
theorem placeOf_sp (H : CS G ad ro) (hA : RowOK A) (hp : D.1 (ad 2) 10 = nI (plc A)) {t : Nat} (ht : t < 2 ^ 31) {post : Int32 → Dat → Prop} (k : post (nI (t % plc A)) D) : X2_placeOf_wp G D (ad 2) (nI t) post := by
  have hb := plc_b hA
  refine ⟨H.p_, fun q => absurd q (nI_pos ht), fun _ => ?_⟩
  rw [hp]
  refine ⟨fun q => absurd q (nI_nle (by omega) (by omega)), fun _ => ⟨nI_ne0 (by omega) (by omega), ?_⟩⟩
  unfold X2_placeOf_j21
  rw [pk_rem ht (by omega) (by omega)]
  exact k
theorem PnV.fr (H : CS G ad ro) {D' : Dat} {P : Nat → Prop} (hA : RowOK A) (h : PnV ad D A u) (f : FrP ro D D' P) (hP : ∀ q, pC q → ¬ P q) : PnV ad D' A u := by
  have h6 := nU_le hA
  have g1 : D'.1 (ad 2) = D.1 (ad 2) := f.i H (by omega) (hP 2 (Or.inl rfl))
  have g2 : ∀ i, i < 7 → D'.2 (ad (20 + i)) = D.2 (ad (20 + i)) := fun i hi => f.l H (by omega) (hP _ (Or.inr (by omega)))
  obtain ⟨⟨⟨a1, a2, a3⟩, a4, a5, a6⟩, a7⟩ := h
  refine ⟨⟨⟨by rw [g1]; exact a1, a2, fun i hi t ht => ?_⟩, by rw [g1]; exact a4, by rw [g1]; exact a5, by rw [g1]; exact a6⟩, fun t ht => ?_⟩
  · rw [g2 i (by have : i < nU A := hi; omega)]; exact a3 i hi t ht
  · rw [g2 _ (by omega)]; exact a7 t ht
theorem addUp_sp (H : CS G ad ro) (hr : r < 4) (h : RowV ad D r A) (hA : RowOK A) (hn : PnV ad D A u) {post : Dat → Prop} (k : ∀ D', PnV ad D' A u → SumV ad D' A u 40 → FrP ro D D' pA → post D') : X2_addUp_wp G D (ad 2) (ad (rb r)) post := by
  have h6 := nU_le hA
  have hb := plc_b hA
  have hCA : ∀ q, pC q → ¬ pA q := fun q hq w => by unfold pC at hq; unfold pA at w; omega
  have hRA : ∀ q, pR r q → ¬ pA q := fun q hq w => by unfold pA at w; simp only [pR, rb] at hq; omega
  refine ⟨H.p_, H.row_ r hr, _, H.p4_, H.pc_, _, H.p3_, H.so_, _, H.p2_, H.po_, ?_⟩
  refine fill_sp H.pc_ H.pcl_ (by omega) (fun D2 f2 z2 => ?_)
  have F2 : FrP ro D D2 pA := f2.toP (fun x hx => by cases hx) (fun x hx => by rw [List.mem_singleton.mp hx, H.inj_ _ (by omega)]; left; rfl)
  have key := up_loop (L := fun m i (E : Dat) => X2_addUp_l10 G post (ad 2) (ad (rb r)) (ad 12) (ad 11) (ad 10) m (nI i) E) (plc A) (fun i E => FrP ro D E pA ∧ E.1 = D.1 ∧ (∀ q, q < 7 → E.2 (ad 12) q = 0) ∧ ∀ p, p < i → ∀ q, q < 7 → E.2 (ad (40 + p)) q = 0) ?_ ?_ 0 D2 (by omega) ⟨F2, by funext x; exact f2.1 x (by simp), z2, fun p hp => by omega⟩
  · exact ⟨_, key⟩
  · intro m E hE
    obtain ⟨b1, b2, b3, b4⟩ := hE
    show X2_addUp_l10_b G post (ad 2) (ad (rb r)) (ad 12) (ad 11) (ad 10) _ _ _
    have e10 : E.1 (ad 2) 10 = nI (plc A) := by rw [b2]; exact hn.1.2.1
    refine ⟨fun _ => ?_, fun q => absurd (by rw [e10]; exact nI_le (Nat.le_refl _) (by omega)) q⟩
    have key := up_loop (L := fun m i (E : Dat) => X2_addUp_l36 G post (ad 2) (ad (rb r)) (ad 12) (ad 11) (ad 10) m (nI i) E) (nU A + 1) (fun i E => FrP ro D E pA ∧ E.1 = D.1 ∧ (∀ q, q < 7 → E.2 (ad 12) q = 0) ∧ (∀ p, p < plc A → ∀ q, q < 7 → E.2 (ad (40 + p)) q = 0) ∧ ∀ p, p < i → ∀ q, q < 7 → E.2 (ad (30 + p)) q = 0) ?_ ?_ 0 E (by omega) ⟨b1, b2, b3, b4, fun p hp => by omega⟩
    · exact ⟨_, key⟩
    · intro m E hE
      obtain ⟨b1, b2, b3, b4, b5⟩ := hE
      have e11 : E.1 (ad 2) 11 = nI (nU A) := by rw [b2]; exact hn.1.1.1
      show X2_addUp_l36_b G post (ad 2) (ad (rb r)) (ad 12) (ad 11) (ad 10) _ _ _
      refine ⟨fun _ => ?_, fun q => absurd (by rw [e11]; exact nI_lt (by omega) (by omega)) q⟩
      have key := up_loop (L := fun m i (E : Dat) => X2_addUp_l62 G post (ad 2) (ad (rb r)) (ad 12) (ad 11) (ad 10) m (nI i) E) 40 (fun i E => FrP ro D E pA ∧ SumV ad E A u i) ?_ ?_ 0 E (by omega) ⟨b1, fun p hp => by rw [b3 p (by omega)]; rfl, fun p hp i hi => by rw [b4 p hp i (by omega)]; rfl, fun i j h1 h2 => by rw [b5 i (by omega) j (by omega)]; rfl⟩
      · exact ⟨_, key⟩
      · intro m E hE
        show X2_addUp_l62_b G post (ad 2) (ad (rb r)) (ad 12) (ad 11) (ad 10) _ _ _
        exact ⟨fun _ => k E (hn.fr H hA hE.1 hCA) hE.2 hE.1, fun q => absurd (by decide) q⟩
      · intro m i E hi hE hk
        obtain ⟨fE, s1, s2, s3⟩ := hE
        have rE := h.fr H hr fE hRA
        have nE := hn.fr H hA fE hCA
        show X2_addUp_l62_b G post (ad 2) (ad (rb r)) (ad 12) (ad 11) (ad 10) _ _ _
        refine ⟨fun q => absurd q (by rw [show (40 : Int32) = nI 40 by decide]; exact nI_ge hi (by omega)), fun _ => counts_t H hr rE hi ?_⟩
        unfold X2_addUp_j86
        rw [nI_1]
        cases hk1 : aK A i
        · refine ⟨fun _ => hk E ⟨fE, fun p hp => ?_, fun p hp j hj => ?_, fun j l h1 h2 => ?_⟩, fun w => absurd rfl w⟩
          · rw [s1 p hp]; rw [pcS_succ, if_neg (by rw [hk1]; simp)]; omega
          · rw [s2 p hp j hj]; rw [psS_succ, if_neg (by rw [hk1]; simp)]; omega
          · rw [s3 j l h1 h2]; rw [prS_succ, if_neg (by rw [hk1]; simp)]; omega
        · refine ⟨fun w => absurd w (by decide), fun _ => placeOf_sp H hA nE.1.2.1 (by omega) ?_⟩
          have hpl : i % plc A < plc A := Nat.mod_lt _ (by omega)
          have B1 := pcS_b A (i % plc A) i
          refine addTick_sp H hA nE hi (by omega) (by unfold sml; rw [s1 _ hpl]; omega) (fun j hj => by unfold sml; rw [s2 _ hpl j hj]; have := psS_b hA u (i % plc A) j (n := i) (by omega); omega) (fun j l h1 h2 => by unfold sml; rw [s3 j l h1 h2]; have := prS_b hA u j l (n := i) (by omega); omega) ?_
          intro D' f' g1 g2 g3 g4 g5 g6
          refine hk D' ⟨fE.tr f', fun p hp => ?_, fun p hp j hj => ?_, fun j l h1 h2 => ?_⟩
          · rw [pcS_succ]
            by_cases e : p = i % plc A
            · rw [e, g2, s1 _ hpl, if_pos ⟨hk1, rfl⟩]
            · rw [g3 p e, s1 p hp, if_neg (fun w => e w.2.symm)]; omega
          · rw [psS_succ]
            by_cases e : p = i % plc A
            · rw [e, g4 j hj, s2 _ hpl j hj, if_pos ⟨hk1, rfl⟩]
            · rw [g5 p (by omega) e, s2 p hp j hj, if_neg (fun w => e w.2.symm)]; omega
          · rw [prS_succ, g6 j l h1 h2, s3 j l h1 h2, if_pos hk1]
    · intro m i E hi hE hk
      obtain ⟨b1, b2, b3, b4, b5⟩ := hE
      have e11 : E.1 (ad 2) 11 = nI (nU A) := by rw [b2]; exact hn.1.1.1
      show X2_addUp_l36_b G post (ad 2) (ad (rb r)) (ad 12) (ad 11) (ad 10) _ _ _
      refine ⟨fun q => absurd q (by rw [e11]; exact nI_nlt (by omega) (by omega)), fun _ => ⟨by rw [H.pol_]; exact vp_in_nI (by omega) (by omega), ad (30 + i), by rw [nI_clamp (by omega)]; exact H.por_ _ (by omega), H.pi_ _ (by omega), ?_⟩⟩
      rw [nI_1]
      refine fill_sp (H.pi_ i (by omega)) (H.pil_ i (by omega)) (by omega) (fun D3 f3 z3 => hk D3 ⟨?_, ?_, fun q hq => ?_, fun p hp q hq => ?_, fun p hp q hq => ?_⟩)
      · exact b1.tr (f3.toP (fun x hx => by cases hx) (fun x hx => by rw [List.mem_singleton.mp hx, H.inj_ _ (by omega)]; right; left; omega))
      · rw [← b2]; funext x; exact f3.1 x (by simp)
      · rw [f3.2 _ (by simpa using H.ne (by omega) (by omega) (by omega))]; exact b3 q hq
      · rw [f3.2 _ (by simpa using H.ne (by omega) (by omega) (by omega))]; exact b4 p hp q hq
      · by_cases e : p = i
        · rw [e]; exact z3 q hq
        · rw [f3.2 _ (by simpa using H.ne (by omega) (by omega) (by omega))]; exact b5 p (by omega) q hq
  · intro m i E hi hE hk
    obtain ⟨b1, b2, b3, b4⟩ := hE
    have e10 : E.1 (ad 2) 10 = nI (plc A) := by rw [b2]; exact hn.1.2.1
    show X2_addUp_l10_b G post (ad 2) (ad (rb r)) (ad 12) (ad 11) (ad 10) _ _ _
    refine ⟨fun q => absurd q (by rw [e10]; exact nI_ge hi (by omega)), fun _ => ⟨by rw [H.sol_]; exact vp_in_nI (by omega) (by omega), ad (40 + i), by rw [nI_clamp (by omega)]; exact H.sor_ _ (by omega), H.si_ _ (by omega), ?_⟩⟩
    rw [nI_1]
    refine fill_sp (H.si_ i (by omega)) (H.sil_ i (by omega)) (by omega) (fun D3 f3 z3 => hk D3 ⟨?_, ?_, fun q hq => ?_, fun p hp q hq => ?_⟩)
    · exact b1.tr (f3.toP (fun x hx => by cases hx) (fun x hx => by rw [List.mem_singleton.mp hx, H.inj_ _ (by omega)]; right; right; omega))
    · rw [← b2]; funext x; exact f3.1 x (by simp)
    · rw [f3.2 _ (by simpa using H.ne (by omega) (by omega) (by omega))]; exact b3 q hq
    · by_cases e : p = i
      · rw [e]; exact z3 q hq
      · rw [f3.2 _ (by simpa using H.ne (by omega) (by omega) (by omega))]; exact b4 p (by omega) q hq
end AV
