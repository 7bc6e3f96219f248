section RN
variable {G : Shp} {ad ro : Nat → Nat} {D : Dat} {S : AS} {Z : Dat} {r : Nat}
theorem RowOK.wX {A : AR} (h : RowOK A) (x : Nat → Bool) : RowOK (wX A x) := h
/-- the roles that the rounds write -/
def pN (r q : Nat) : Prop := pP q ∨ pM q ∨ pB 5 q ∨ pB 6 q ∨ q = 130 ∨ q = 131 ∨ q = rS r 1 ∨ q = rS r 1 + 1
theorem run_sp (H : CS G ad ro) (hr : r < 4) (h : ClV ad ro Z D S) {n d : Int32} (hn : okSh n) (hd : okSh d) {post : Int32 → Dat → Prop} (k1 : ∀ A' D', rnS n.toInt d.toInt 5 (wX (S.1 r) (fun _ => false)) = some A' → ClV ad ro Z D' (stR S r A') → post 1 D') (k0 : ∀ D', rnS n.toInt d.toInt 5 (wX (S.1 r) (fun _ => false)) = none → ClV ad ro Z D' S → post 0 D') : X5_run_wp G D (ad 3) (ad (rb r)) n d post := by
  have s1 := H.set_ r hr 1 (by omega)
  have sA := H.ah_
  have hR := h.1 r hr
  have hrr : rS r 1 + 1 < 440 := rS_lt hr (by omega)
  refine ⟨H.v_, H.row_ r hr, _, H.v3_, sA.1, _, H.row2_ r hr, s1.1, _, H.v0_, H.p_, ?_⟩
  refine scopy_sp sA s1 (H.ne (by omega) (by omega) (by unfold rS; omega)) (H.ne (by omega) (by omega) (by unfold rS; omega)) hR.1.2.2.1 (fun D1 f1 a1 => ?_)
  have f1' := fr_S H (show 130 + 1 < 440 by omega) f1
  have c1 := h.fr H f1' (fun q a => by unfold pZ; omega)
  refine sclear_sp s1 (fun D2 f2 a2 => ?_)
  have f2' := fr_S H hrr f2
  have r2 := (c1.1 r hr).1.kX H hr f2' a2
  have ah2 : SetV D2 (ad 130) (ad (130 + 1)) (aX (S.1 r)) := a1.fr H (by omega) f2' (fun w => by unfold rS at w; omega) (fun w => by unfold rS at w; omega)
  have c2 := c1.row H hr (f2'.up (fun q => pR_S (by omega))) r2 (hR.2.wX _)
  have key := up_loop (L := fun m i (x : Int32 × Dat) => X5_run_l24 G post (ad 3) (ad (rb r)) n d (ad 130) (ad (rS r 1)) (ad 2) m x.1 (nI i) x.2) 5 (fun i x => ∃ A, ClV ad ro Z x.2 (stR S r A) ∧ SetV x.2 (ad 130) (ad (130 + 1)) (aX (S.1 r)) ∧ (∃ y, A = wX (S.1 r) y) ∧ ((x.1 = 1 ∧ rnS n.toInt d.toInt (5 - i) A = rnS n.toInt d.toInt 5 (wX (S.1 r) (fun _ => false))) ∨ (x.1 = 0 ∧ some A = rnS n.toInt d.toInt 5 (wX (S.1 r) (fun _ => false))))) ?_ ?_ 0 (1, D2) (by omega) ⟨_, c2, ah2, ⟨_, rfl⟩, Or.inl ⟨rfl, rfl⟩⟩
  · exact ⟨_, key⟩
  · intro m x hx
    obtain ⟨A, cA, aA, hy, hc⟩ := hx
    show X5_run_l24_b G post (ad 3) (ad (rb r)) n d (ad 130) (ad (rS r 1)) (ad 2) _ _ _ _
    refine ⟨fun _ => ⟨isB_1, k1 A _ ?_ cA⟩, fun q => absurd (by decide) q⟩
    rcases hc with hc | hc
    · exact hc.2.symm
    · exact hc.2.symm
  · intro m i x hi hx hk
    obtain ⟨A, cA, aA, ⟨y, hy⟩, hc⟩ := hx
    obtain ⟨v, E⟩ := x
    dsimp only at cA aA hc
    show X5_run_l24_b G post (ad 3) (ad (rb r)) n d (ad 130) (ad (rS r 1)) (ad 2) _ v (nI i) E
    refine ⟨fun q => absurd q (by rw [show (5 : Int32) = nI 5 by decide]; exact nI_ge hi (by omega)), fun _ => ⟨fun q => ⟨isB_1, k1 A E ?_ cA⟩, fun q => ?_⟩⟩
    · rcases hc with hc | hc
      · rw [hc.1] at q; exact absurd q (by decide)
      · exact hc.2.symm
    · have hc := (hc.resolve_right (fun w => q w.1)).2
      have eA : (stR S r A).1 r = A := if_pos rfl
      have rA := cA.1 r hr
      rw [eA] at rA
      rw [show 5 - i = (5 - (i + 1)) + 1 by omega] at hc
      have hA := rA.2
      refine find_sp (u := none) H hr rA.1 hA (fun x e => (nomatch e)) (fun D3 f3 w3 => ⟨fun _ => ?_, fun q => absurd q (by decide)⟩) (fun D3 f3 w3 => ⟨fun q => absurd rfl q, fun _ => ?_⟩)
      · have nR : ∀ P : Nat → Prop, (∀ q, P q → pZ q) → ∀ q, pR r q → ¬ P q := fun P hP q a b => by
          have := hP q b
          unfold pZ at this
          unfold pR rb at a
          omega
        have uP : ∀ q, pP q → pZ q := fun q => pP_pZ
        have uM : ∀ q, pM q → pZ q := fun q a => by unfold pM pT at a; unfold pZ; omega
        have u5 : ∀ q, pB 5 q → pZ q := fun q a => by unfold pB bg at a; unfold pZ; omega
        have r3 := rA.1.fr H hr f3 (nR _ uP)
        refine measure_sp H hr r3 hA w3 (fun D4 f4 z4 => ?_)
        have r4 := r3.fr H hr f4 (nR _ uM)
        refine findMiddle_sp H hr r4 z4 (fun D5 f5 b5 => ?_)
        have r5 := r4.fr H hr f5 (nR _ u5)
        have z5 : ∀ t, t < 40 → aK A t = true → BigR ad D5 (80 + t) (szI A t) := fun t ht hkt => (z4 t ht hkt).fr H (ok80 ht) f5 (fun w => by unfold pB bg at w; omega) (fun w => by unfold pB bg at w; omega)
        refine leaveOut_sp H hr r5 hA w3.pv z5 b5 hn hd (fun D6 f6 r6 => ?_)
        rw [nI_1]
        have c5 : ClV ad ro Z D5 (stR S r A) := ((cA.fr H f3 uP).fr H f4 uM).fr H f5 u5
        have f6' : FrP ro D5 D6 (fun q => pR r q ∨ pT q ∨ pB 6 q) := f6.up (fun q a => by
          rcases a with a | a | a
          · exact Or.inr (Or.inl a)
          · exact Or.inr (Or.inr a)
          · exact Or.inl (pR_S (by omega) a))
        have c6 : ClV ad ro Z D6 (stR S r (wX A (nwX A n.toInt d.toInt))) := by
          refine ⟨fun j hj => ?_, c5.2.1.fr H f6' (fun q a b => ?_), ?_, c5.2.2.2.fr f6' (fun q a => by unfold pR rb pT pB bg at a; omega)⟩
          · show RowV ad D6 j (if j = r then _ else S.1 j) ∧ RowOK (if j = r then _ else S.1 j)
            by_cases q : j = r
            · rw [if_pos q, q]; exact ⟨r6, hA.wX _⟩
            · rw [if_neg q]
              have := c5.1 j hj
              have e : (stR S r A).1 j = S.1 j := if_neg q
              rw [e] at this
              exact ⟨this.1.fr H hj f6' (fun x a b => by unfold pR rb at a b; unfold pT pB bg at b; omega), this.2⟩
          · unfold pS at a; unfold pR rb pT pB bg at b; omega
          · rw [f6'.i H (by omega) (fun b => by unfold pR rb pT pB bg at b; omega)]
            exact c5.2.2.1
        have a6 : SetV D6 (ad 130) (ad (130 + 1)) (aX (S.1 r)) := (((aA.fr H (by omega) f3 (fun w => by unfold pP at w; omega) (fun w => by unfold pP at w; omega)).fr H (by omega) f4 (fun w => by unfold pM pT at w; omega) (fun w => by unfold pM pT at w; omega)).fr H (by omega) f5 (fun w => by unfold pB bg at w; omega) (fun w => by unfold pB bg at w; omega)).fr H (by omega) f6' (fun w => by unfold pR rb pT pB bg at w; omega) (fun w => by unfold pR rb pT pB bg at w; omega)
        refine hk (_, D6) ⟨_, c6, a6, ⟨nwX A n.toInt d.toInt, by rw [hy]; rfl⟩, ?_⟩
        have es : rnS n.toInt d.toInt (5 - (i + 1) + 1) A = if clB A none = true then (if ct (aX A) 40 < ct (nwX A n.toInt d.toInt) 40 then rnS n.toInt d.toInt (5 - (i + 1)) (wX A (nwX A n.toInt d.toInt)) else some (wX A (nwX A n.toInt d.toInt))) else none := rfl
        rw [es, if_pos (clB_t.mpr w3.pv)] at hc
        by_cases q : ct (aX A) 40 < ct (nwX A n.toInt d.toInt) 40
        · rw [if_pos q] at hc
          rw [decide_eq_true q]
          exact Or.inl ⟨rfl, hc⟩
        · rw [if_neg q] at hc
          rw [decide_eq_false q]
          exact Or.inr ⟨rfl, hc⟩
      · have es : rnS n.toInt d.toInt (5 - (i + 1) + 1) A = if clB A none = true then (if ct (aX A) 40 < ct (nwX A n.toInt d.toInt) 40 then rnS n.toInt d.toInt (5 - (i + 1)) (wX A (nwX A n.toInt d.toInt)) else some (wX A (nwX A n.toInt d.toInt))) else none := rfl
        rw [es, if_neg (by rw [clB_f.mpr w3]; decide)] at hc
        have c3 := cA.fr H f3 (fun q => pP_pZ)
        have a3 := aA.fr H (by omega) f3 (fun w => by unfold pP at w; omega) (fun w => by unfold pP at w; omega)
        refine scopy_sp s1 sA (H.ne (by omega) (by omega) (by unfold rS; omega)) (H.ne (by omega) (by omega) (by unfold rS; omega)) a3 (fun D4 f4 a4 => ⟨isB_0, k0 D4 hc.symm ?_⟩)
        have f4' := fr_S H hrr f4
        have rr := c3.1 r hr
        rw [eA] at rr
        have r4 := rr.1.kX H hr f4' a4
        have c4 := c3.row H hr (f4'.up (fun q => pR_S (by omega))) r4 (hA.wX _)
        have e : stR (stR S r A) r (wX A (aX (S.1 r))) = S := by
          have e1 : wX A (aX (S.1 r)) = S.1 r := by rw [hy]; rfl
          rw [e1]
          refine Prod.ext ?_ rfl
          funext j
          show (if j = r then S.1 r else (if j = r then A else S.1 j)) = S.1 j
          by_cases q : j = r
          · rw [if_pos q, q]
          · rw [if_neg q, if_neg q]
        rw [e] at c4
        exact c4
theorem isShare_if {v : Int32} {post : Int32 → Dat → Prop} (k0 : ¬ okSh v → post 0 D) (k1 : okSh v → post 1 D) : X8_isShare_wp G D v post := by
  have e1 : (1 : Int32).toInt = 1 := rfl
  have e2 : (1000 : Int32).toInt = 1000 := rfl
  refine ⟨fun q => ⟨isB_0, k0 (fun w => ?_)⟩, fun q => ⟨fun q2 => ⟨isB_0, k0 (fun w => ?_)⟩, fun q2 => ⟨isB_1, k1 ?_⟩⟩⟩
  · have := (I_lt _ _).mp q
    unfold okSh at w; omega
  · have := (I_lt _ _).mp q2
    unfold okSh at w; omega
  · have h1 : ¬ v.toInt < (1 : Int32).toInt := fun w => q ((I_lt _ _).mpr w)
    have h2 : ¬ (1000 : Int32).toInt < v.toInt := fun w => q2 ((I_lt _ _).mpr w)
    unfold okSh; omega
theorem rounds_sp (H : CS G ad ro) (h : ClV ad ro Z D S) {a n d : Int32} {post : Int32 → Dat → Prop} (k : ∀ D', ClV ad ro Z D' (sRounds S a n d).2 → post (sRounds S a n d).1 D') : X8_rounds_wp G D (ad 0) a n d post := by
  unfold sRounds at k
  refine ⟨H.x_, _, H.x2_, H.v_, rowOf_sp H (fun n0 => ?_) (fun r0 => ⟨fun q => (nomatch q), fun y q => ?_⟩)⟩
  · rw [if_neg n0] at k
    exact ⟨fun _ => giveNone_sp H h (fun D' c => k D' c), fun y q => (nomatch q)⟩
  cases q
  rw [if_pos r0] at k
  have hr := tn_R r0
  have hR := h.1 _ hr
  refine isShare_if (fun n0 => ⟨fun _ => ?_, fun q => absurd rfl q⟩) (fun hn => ⟨fun q => absurd q (by decide), fun _ => ?_⟩)
  · rw [if_neg (fun w => n0 w.1)] at k
    exact giveNone_sp H h (fun D' c => k D' c)
  refine isShare_if (fun n0 => ⟨fun q => absurd rfl q, fun _ => ?_⟩) (fun hd => ⟨fun _ => ?_, fun q => absurd q (by decide)⟩)
  · rw [if_neg (fun w => n0 w.2)] at k
    exact giveNone_sp H h (fun D' c => k D' c)
  rw [if_pos ⟨hn, hd⟩] at k
  refine ⟨H.row_ _ hr, _, H.row1_ _ hr, (H.set_ _ hr 0 (by omega)).1, ?_⟩
  rw [hR.1.2.1.2]
  have hct := ct_le (aF (S.1 (tn a))) 40
  refine ⟨fun q => ?_, fun q => ?_⟩
  · rw [if_neg (fun w => q (by rw [w]; exact nI_0))] at k
    refine run_sp H hr h hn hd (fun A' D1 e c1 => ⟨fun q => absurd q (by decide), fun _ => ?_⟩) (fun D1 e c1 => ⟨fun _ => ?_, fun q => absurd rfl q⟩)
    · rw [e] at k
      have rr := (c1.1 _ hr).1
      have eA : (stR S (tn a) A').1 (tn a) = A' := if_pos rfl
      rw [eA] at rr
      refine ⟨_, H.row2_ _ hr, (H.set_ _ hr 1 (by omega)).1, ?_⟩
      rw [rr.2.2.1.2]
      exact give_sp H c1 (fun D' c => k D' c)
    · rw [e] at k
      exact giveNone_sp H c1 (fun D' c => k D' c)
  · rw [nI_0', nI_eq (by omega) (by omega)] at q
    rw [if_pos q] at k
    exact giveNone_sp H h (fun D' c => k D' c)
end RN
