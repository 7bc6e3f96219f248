/-! the reference: where -/
theorem RrV.same {ad : Nat → Nat} {D : Dat} {r : Nat} {A B : AR} (h : RrV ad D r A) (e : A = B) : RrV ad D r B := e ▸ h
section WH9
variable {G : Shp} {ad ro : Nat → Nat} {D D' : Dat} {S : AS} {Z : Dat} {r t T : Nat} {A : AR} {post : Int32 → Dat → Prop}
/-- the best so far, as the reference keeps it -/
def Bst9 (ad : Nat → Nat) (D : Dat) (o : Option (Nat × Rat)) (v : Int32) : Prop := match o with
  | none => v = -1
  | some p => v = nI p.1 ∧ p.1 < 40 ∧ ∃ (c d : Int) (n m : Nat), n ≤ 19 ∧ m ≤ 17 ∧ KpV ad D 20 c n ∧ KpV ad D 21 d m ∧ 1 ≤ d ∧ ((c : Int) : Rat) = (d : Int) * p.2
theorem Bst9.so {o : Option (Nat × Rat)} {v : Int32} (h : Bst9 ad D o v) (f : ∀ i, 1200 ≤ i → D'.1 (ad 526) i = D.1 (ad 526) i) : Bst9 ad D' o v := by
  cases o with
  | none => exact h
  | some p =>
    obtain ⟨h1, h2, c, d, n, m, hn, hm, k1, k2, k3, k4⟩ := h
    exact ⟨h1, h2, c, d, n, m, hn, hm, k1.kept (fun i _ => f _ (by omega)), k2.kept (fun i _ => f _ (by omega)), k3, k4⟩
theorem RcF.so (H : RG G ad ro) (h : RcF ad ro D D' r) : ∀ i, D'.1 (ad 526) i = D.1 (ad 526) i := fun i => h.2.2 526 i (by omega) (by omega) (by unfold inR; omega)
theorem KsF.wk (H : RG G ad ro) {p : Nat} (h : KsF ad D D' p) : WkF ad ro D D' := ⟨fun q hq => ⟨h.2.1 q (fun e => hq (by rw [e, H.inj_ 526 (by omega) (by omega)]; unfold pW; omega)), by rw [h.1]⟩, by rw [h.2.1 _ (H.ne (by omega) (by omega) (by omega))], by rw [h.2.1 _ (H.ne (by omega) (by omega) (by omega))]⟩
theorem KsF.nm (H : RG G ad ro) {p a n : Nat} {z : Int} (h : KsF ad D D' p) (hN : Nm ad D T a z n) : Nm ad D' T a z n := hN.cells (fun i _ => by rw [h.2.1 _ (H.ne (by omega) (by omega) (by omega))]) hN.1
/-- which of two costs is less -/
theorem cross_lt {c d c' d' : Int} {p q : Rat} (hd : 1 ≤ d) (hd' : 1 ≤ d') (h : ((c : Int) : Rat) = (d : Int) * p) (h' : ((c' : Int) : Rat) = (d' : Int) * q) : c * d' - c' * d < 0 ↔ p < q := by
  have e : (((c * d' - c' * d : Int) : Int) : Rat) = ((d * d' : Int) : Rat) * (p - q) := by
    rw [cast_sub, cast_mul, cast_mul, cast_mul, h, h']
    grind
  have hp : (0 : Rat) < ((d * d' : Int) : Rat) := by
    rw [← cast_0]
    exact cast_lt.mpr (Int.mul_pos (by omega) (by omega))
  have l := pos_lt (x := p) (y := q) hp
  have : c * d' - c' * d < 0 ↔ (((c * d' - c' * d : Int) : Int) : Rat) < ((0 : Int) : Rat) := cast_lt.symm
  rw [this, e, cast_0, ← l]
  generalize ((d * d' : Int) : Rat) = x
  constructor <;> intro z <;> grind
theorem stA_aS (A : AR) (n : Nat) : aS (stA A n) n = true := by show ups (aS A) n true n = true; exact if_pos rfl
theorem stA_back {A : AR} {n : Nat} (h : aS A n = false) : wS (stA A n) (ups (aS (stA A n)) n false) = A := by
  show wS (wS A (ups (aS A) n true)) (ups (ups (aS A) n true) n false) = A
  rw [wS_2, ups_back h, wS_id]
theorem OKS.row {S : AS} (hK : OKS S) {r : Nat} {A : AR} (hA : RowOK A) : OKS (stR S r A) := fun i hi => by
  show RowOK (if i = r then A else S.1 i)
  by_cases q : i = r
  · rw [if_pos q]; exact hA
  · rw [if_neg q]; exact hK i hi
theorem where9_sp (H : RG G ad ro) (hK : OKS S) (h : RfV ad ro Z D S) {a : Int32} (k : ∀ D', RfV ad ro Z D' (sWhere S a).2 → post (sWhere S a).1 D') : X9_where_wp G D (ad 500) a post := by
  unfold sWhere at k
  refine ⟨H.x_, _, H.stp_.1, H.stp_.2.1, isRow_if (fun n0 => ⟨fun q => absurd rfl q, fun _ => ?_⟩) (fun r0 => ⟨fun _ => ?_, fun q => absurd q (by decide)⟩)⟩
  · rw [if_neg n0] at k
    exact refuse9_sp H h (fun D' c => k D' c)
  rw [if_pos r0] at k
  have hr := tn_R r0
  have er := tn_nI r0.1
  have hA := hK _ hr
  generalize tn a = r at *
  subst er
  have h3 := hA.2.2.1
  rw [nI_clamp (n := r) (by omega), (h.1 r hr).2.2.1]
  refine ⟨in4 H H.stp_ hr, fun q => ?_, fun q => ?_⟩
  rotate_left
  · rw [show (3 : Int32) = nI 3 by decide, nI_eq (by omega) (by omega)] at q
    rw [if_neg (by omega)] at k
    exact refuse9_sp H h (fun D' c => k D' c)
  have h3' : ct (aS (S.1 r)) 40 < 3 := by
    have : ct (aS (S.1 r)) 40 ≠ 3 := fun z => q (by rw [z]; rfl)
    omega
  rw [if_pos h3'] at k
  have b1 : whB (S.1 r) 1 = none := if_neg (fun w => absurd w.1.1 (by decide))
  have key := up_loop2 (L := fun f i (v : Int32) (E : Dat) => X9_where_l34 G post (ad 500) (nI r) (ad 512) f v (nI i) E) 40 (fun i v E => 1 ≤ i ∧ RfV ad ro Z E S ∧ Bst9 ad E (whB (S.1 r) i) v) ?_ ?_ 1 (-1) D (by omega) ⟨by omega, h, by rw [b1]; rfl⟩
  · exact ⟨_, key⟩
  · intro f v E hE
    obtain ⟨-, hE, bE⟩ := hE
    show X9_where_l34_b G post (ad 500) (nI r) (ad 512) _ _ _ _
    unfold X9_where_l34_b
    refine ⟨fun _ => ?_, fun q => absurd (by decide) q⟩
    cases hb : whB (S.1 r) 40 with
    | none =>
      rw [hb] at bE k
      have bE : v = -1 := bE
      exact ⟨fun q => absurd bE q, fun _ => refuse9_sp H hE (fun D' c => k D' c)⟩
    | some p =>
      rw [hb] at bE k
      obtain ⟨ev, hp, -⟩ := bE
      refine ⟨fun _ => ?_, fun q => ?_⟩
      · rw [ev]
        exact k _ (hE.st H 0)
      · rw [ev] at q
        have := congrArg Int32.toInt q
        rw [nI_toInt (by omega)] at this
        have e1 : (-1 : Int32).toInt = -1 := rfl
        omega
  · intro f n v E hn hE hk
    obtain ⟨h1, hE, bE⟩ := hE
    show X9_where_l34_b G post (ad 500) (nI r) (ad 512) _ _ _ _
    unfold X9_where_l34_b
    refine ⟨fun q => absurd q (by rw [show (40 : Int32) = nI 40 by decide]; exact nI_ge hn (by omega)), fun _ => ?_⟩
    refine findStep_sp H hr (hE.1 r hr) h3 hn (fun s0 => ⟨fun _ => ?_, fun q => absurd rfl q⟩) (fun s1 => ⟨fun q => ?_, fun _ => ?_⟩)
    rotate_left
    · have hl := stl_len (S.1 r) n
      have := ct_le (aS (S.1 r)) n
      have := congrArg Int32.toInt q
      rw [nI_toInt (by omega)] at this
      have e1 : (-1 : Int32).toInt = -1 := rfl
      omega
    · unfold X9_where_j150
      rw [nI_1 n]
      refine hk v E ⟨by omega, hE, ?_⟩
      rw [whB_none (fun w => by rw [s1] at w; exact absurd w.2.1 (by decide))]
      exact bE
    have hok := stA_ok hA h3' h1 hn
    have hKn := OKS.row hK (r := r) hok
    have en : (stR S r (stA (S.1 r) n)).1 r = stA (S.1 r) n := stR_same S r _
    /- the step is taken back -/
    have fin : ∀ v' E', RfV ad ro Z E' (stR S r (stA (S.1 r) n)) → Bst9 ad E' (whB (S.1 r) (n + 1)) v' → X9_where_j139 G post (ad 500) (nI r) (ad 512) (X9_where_l34 G post (ad 500) (nI r) (ad 512) f) v' (nI n) E' := fun v' E' hE' bE' => by
      unfold X9_where_j139
      have hR' : RrV ad E' r (stA (S.1 r) n) := (hE'.1 r hr).same en
      refine findStep_sp H hr hR' hok.2.2.1 hn (fun s => by rw [stA_aS] at s; exact absurd s (by decide)) (fun s => ?_)
      refine takeStep_sp H hr hR' hok.2.2.1 hn s (fun E2 f2 r2 => ?_)
      unfold X9_where_j150
      rw [nI_1 n]
      refine hk v' E2 ⟨by omega, ?_, bE'.so (fun i _ => f2.so H i)⟩
      rw [stA_back s0] at r2
      have h2 := hE'.rc H hKn f2 r2
      rw [stR_2, stR_id rfl] at h2
      exact h2
    refine addStep_sp H hr (hE.1 r hr) h3' hn s0 (fun E1 f1 r1 => ?_)
    have hE1 := hE.rc H hK f1 r1
    have bE1 := bE.so (D' := E1) (fun i _ => f1.so H i)
    refine solve_sp H hr r1 hok (fun E2 f2 t2 s2 o1 o2 => ⟨fun q => absurd q (by decide), fun _ => ?_⟩) (fun E2 f2 np => ⟨fun _ => ?_, fun q => absurd rfl q⟩)
    rotate_left
    · refine fin v E2 (hE1.wk H f2.1) ?_
      rw [whB_none (fun w => np (clB_t.mp w.2.2))]
      exact bE1.so f2.2
    have hp := s2.1
    have hE2 := hE1.wk H f2.1
    have bE2 := bE1.so f2.2
    have hcl := clB_t.mpr hp
    have eB : whB (S.1 r) (n + 1) = if (1 ≤ n ∧ aS (S.1 r) n = false ∧ clB (stA (S.1 r) n) none = true) ∧ whL (whB (S.1 r) n) (cstR (stA (S.1 r) n) none) = true then some (n, cstR (stA (S.1 r) n) none) else whB (S.1 r) n := rfl
    have hd := dr_pos hok hp
    have hco := co_R hok hp
    refine cost9_sp H hok hp (by omega) t2 s2.2.1 s2.2.2 o1 o2 (fun E3 p3 n3 T3 h31 h32 h33 f3 t3 w3 => ?_)
    obtain ⟨m, hm, hkp⟩ := s2.2.1.2
    rw [show (19 : Int32) = nI 19 by decide]
    refine held_sp H t3 (by omega) (f3.wn.kp H hkp) (by omega) (fun E4 f4 t4 w4 => ?_)
    have w34 := w3.fr f4 (T' := T3 + m + 1) (by omega)
    have hE4 := (hE2.wk H f3.wk).wk H f4.wk
    have bE4 := (bE2.so (f3.so H).2).so (f4.so H).2
    /- the new best is kept -/
    have keepB : ∀ E5 T5, RfV ad ro Z E5 (stR S r (stA (S.1 r) n)) → T5 ≤ 690000 → Nm ad E5 T5 p3 (coI (stA (S.1 r) n) none (NN (stA (S.1 r) n))) n3 → Nm ad E5 T5 T3 (dr (stA (S.1 r) n) none) m → whL (whB (S.1 r) n) (cstR (stA (S.1 r) n) none) = true → X9_where_j121 G post (ad 500) (nI r) (ad 512) (X9_where_l34 G post (ad 500) (nI r) (ad 512) f) (nI n) (nI p3) (nI T3) E5 := fun E5 T5 hE5 hT5 w5 w6 hw => by
      unfold X9_where_j121
      rw [show (20 : Int32) = nI 20 by decide]
      refine keep9_sp H w5 hT5 (by omega) (by omega) (fun E6 f6 k6 => ?_)
      rw [show (21 : Int32) = nI 21 by decide]
      refine keep9_sp H (f6.nm H w6) hT5 (by omega) (by omega) (fun E7 f7 k7 => ?_)
      refine fin (nI n) E7 ((hE5.wk H (f6.wk H)).wk H (f7.wk H)) ?_
      rw [eB, if_pos ⟨⟨h1, s0, hcl⟩, hw⟩]
      exact ⟨rfl, hn, _, _, n3, m, h33, hm, k6.kept (fun i hi => f7.2.2 _ (by omega)), k7, hd, hco⟩
    cases hb : whB (S.1 r) n with
    | none =>
      rw [hb] at bE4
      have ev : v = -1 := bE4
      exact ⟨fun _ => keepB E4 _ hE4 (by omega) w34 w4 (by rw [hb]; rfl), fun q => absurd ev q⟩
    | some p =>
      rw [hb] at bE4
      obtain ⟨ev, hp40, c', d', n', m', hn', hm', k20, k21, hd', hc'⟩ := id bE4
      refine ⟨fun q => ?_, fun _ => ?_⟩
      · rw [ev] at q
        have := congrArg Int32.toInt q
        rw [nI_toInt (by omega)] at this
        have e1 : (-1 : Int32).toInt = -1 := rfl
        omega
      rw [show (21 : Int32) = nI 21 by decide]
      refine held_sp H t4 (by omega) k21 (by omega) (fun E5 f5 t5 w5 => ?_)
      refine times_sp H t5 (w34.fr f5 (by omega)) w5 (by omega) (fun E6 n6 hn6 f6 t6 w6 => ?_)
      rw [show (20 : Int32) = nI 20 by decide]
      have f46 := f5.tr f6 (by omega)
      refine held_sp H t6 (by omega) (f46.wn.kp H k20) (by omega) (fun E7 f7 t7 w7 => ?_)
      have f47 := f46.tr f7 (by omega)
      refine times_sp H t7 w7 (w4.fr f47 (by omega)) (by omega) (fun E8 n8 hn8 f8 t8 w8 => ?_)
      have f48 := f47.tr f8 (by omega)
      have hmx : mxN n6 n8 ≤ 40 := by unfold mxN; split <;> omega
      refine less_sp H t8 (w6.fr (f7.tr f8 (by omega)) (by omega)) w8 (by omega) (fun E9 n9 hn9 f9 t9 w9 => ?_)
      have f49 := f48.tr f9 (by omega)
      refine sign_sp H w9 t9.2 ?_
      have hcr := cross_lt hd hd' hco hc'
      refine ⟨fun q => ?_, fun q => ?_⟩
      · refine fin v E9 (hE4.wk H f49.wk) ?_
        have hge := sgI_ge.mp q
        rw [eB, if_neg (fun w => ?_), hb]
        · exact bE4.so (f49.so H).2
        · have w2 := w.2
          rw [hb] at w2
          have := of_decide_eq_true w2
          exact absurd (hcr.mpr this) (by omega)
      · have hlt : ¬ 0 ≤ coI (stA (S.1 r) n) none (NN (stA (S.1 r) n)) * d' - c' * dr (stA (S.1 r) n) none := fun z => q (sgI_ge.mpr z)
        refine keepB E9 _ (hE4.wk H f49.wk) t9.2 (w34.fr f49 (by omega)) (w4.fr f49 (by omega)) ?_
        rw [hb]
        exact decide_eq_true (hcr.mp (by omega))
end WH9
