/-! the law's loop, and the law from its entry -/
set_option maxRecDepth 100000 in
set_option maxHeartbeats 4000000 in
theorem law_loop {κ : Ctx} (C : Cx κ cL_law RL room_1 4) {b L : Nat} {xs : Nat → Int32} (hX : Sc κ b L xs) (hL : L ≤ 3584) {G : Shp} {ad ro : Nat → Nat} (H : CS G ad ro) (H9 : RG G ad ro) {cells slots : Nat} (hcs : cells ≤ room_1.cells ∧ slots ≤ room_1.slots) (hend : ∀ D lv, J κ cells slots G D 1093 lv []) : ∀ n i, L ≤ i + n → i ≤ L → ∀ D S, ClV ad ro D D S → RfV ad ro D D S → J κ cells slots G D 18 (LV b (ad 0) (ad 500) i) [] := by
  intro n
  induction n with
  | zero =>
    intro i hn hi D S h h9
    refine j_iload_n C dL_law_18 rfl 0 rfl ?_
    refine j_aload_n C dL_law_19 rfl 3 rfl ?_
    refine j_slen C hX dL_law_20 ?_
    refine j_bipush (v := 7) C dL_law_21 (by decide) ?_
    refine j_isub C dL_law_23 ?_
    refine j_icmp_gt (tgt := 1093) C dL_law_24 (by decide) (fun _ => hend _ _) (fun hc => absurd ?_ hc)
    have e7 : (7 : Int32).toInt = 7 := rfl
    have eL : (Int32.ofNat L).toInt = (L : Int) := nI_toInt (by omega)
    have ei : (nI i).toInt = (i : Int) := nI_toInt (by omega)
    have es : (Int32.ofNat L - 7).toInt = (L : Int) - 7 := by rw [I_sub (by omega) (by omega), eL, e7]
    exact (I_lt _ _).mpr (by rw [es, ei]; omega)
  | succ n ih =>
    intro i hn hi D S h h9
    refine j_iload_n C dL_law_18 rfl 0 rfl ?_
    refine j_aload_n C dL_law_19 rfl 3 rfl ?_
    refine j_slen C hX dL_law_20 ?_
    refine j_bipush (v := 7) C dL_law_21 (by decide) ?_
    refine j_isub C dL_law_23 ?_
    have e7 : (7 : Int32).toInt = 7 := rfl
    have eL : (Int32.ofNat L).toInt = (L : Int) := nI_toInt (by omega)
    have ei : (nI i).toInt = (i : Int) := nI_toInt (by omega)
    have es : (Int32.ofNat L - 7).toInt = (L : Int) - 7 := by rw [I_sub (by omega) (by omega), eL, e7]
    refine j_icmp_gt (tgt := 1093) C dL_law_24 (by decide) (fun _ => hend _ _) (fun hc => ?_)
    have hc2 : ¬ (L : Int) - 7 < (i : Int) := fun w => hc ((I_lt _ _).mpr (by rw [es, ei]; exact w))
    have h7 : i + 7 ≤ L := by omega
    have fin : ∀ D' S', ClV ad ro D' D' S' → RfV ad ro D' D' S' → J κ cells slots G D' 1087 (LV b (ad 0) (ad 500) i) [] := fun D' S' h' h9' => by
      refine j_iinc (v := nI (i + 7)) C dL_law_1087 0 rfl (nI_add i 7) (by decide) rfl ?_
      refine j_goto (tgt := 18) C dL_law_1090 (by decide) ?_
      exact ih (i + 7) (by omega) (by omega) D' S' h' h9'
    refine j_aload_n C dL_law_27 rfl 3 rfl ?_
    refine j_iload_n C dL_law_28 rfl 0 rfl ?_
    refine j_sld C hX (vp_in_nI (by omega) (by omega)) dL_law_29 ?_
    rw [nI_clamp (by omega)]
    refine j_bipush (v := 31) C dL_law_30 (by decide) ?_
    refine j_iand C dL_law_32 ?_
    have e31 : (xs i &&& 31).toInt = (xs i).toInt % 32 := I_and (xs i) 5 (by decide) (by decide +kernel)
    have hb : 0 ≤ (xs i &&& 31).toInt ∧ (xs i &&& 31).toInt < 32 := by rw [e31]; omega
    generalize (xs i &&& 31) = w at hb ⊢
    rcases (show w.toInt = 0 ∨ w.toInt = 1 ∨ w.toInt = 2 ∨ w.toInt = 3 ∨ w.toInt = 4 ∨ w.toInt = 5 ∨ w.toInt = 6 ∨ w.toInt = 7 ∨ w.toInt = 8 ∨ w.toInt = 9 ∨ w.toInt = 10 ∨ w.toInt = 11 ∨ w.toInt = 12 ∨ w.toInt = 13 ∨ w.toInt = 14 ∨ w.toInt = 15 ∨ w.toInt = 16 ∨ w.toInt = 17 ∨ w.toInt = 18 ∨ w.toInt = 19 ∨ w.toInt = 20 ∨ w.toInt = 21 ∨ w.toInt = 22 ∨ w.toInt = 23 ∨ w.toInt = 24 ∨ 25 ≤ w.toInt by omega) with hw | hw | hw | hw | hw | hw | hw | hw | hw | hw | hw | hw | hw | hw | hw | hw | hw | hw | hw | hw | hw | hw | hw | hw | hw | hw
    · exact j_tableIn (off := 115) (tgt := 148) C dL_law_33 (by rw [hw]; decide) (by rw [hw]; decide) (by rw [hw]; rfl) (by decide) (lc_0 C hX hL H H9 h7 hcs h h9 fin)
    · exact j_tableIn (off := 128) (tgt := 161) C dL_law_33 (by rw [hw]; decide) (by rw [hw]; decide) (by rw [hw]; rfl) (by decide) (lc_1 C hX hL H H9 h7 hcs h h9 fin)
    · exact j_tableIn (off := 151) (tgt := 184) C dL_law_33 (by rw [hw]; decide) (by rw [hw]; decide) (by rw [hw]; rfl) (by decide) (lc_2 C hX hL H H9 h7 hcs h h9 fin)
    · exact j_tableIn (off := 194) (tgt := 227) C dL_law_33 (by rw [hw]; decide) (by rw [hw]; decide) (by rw [hw]; rfl) (by decide) (lc_3 C hX hL H H9 h7 hcs h h9 fin)
    · exact j_tableIn (off := 257) (tgt := 290) C dL_law_33 (by rw [hw]; decide) (by rw [hw]; decide) (by rw [hw]; rfl) (by decide) (lc_4 C hX hL H H9 h7 hcs h h9 fin)
    · exact j_tableIn (off := 290) (tgt := 323) C dL_law_33 (by rw [hw]; decide) (by rw [hw]; decide) (by rw [hw]; rfl) (by decide) (lc_5 C hX hL H H9 h7 hcs h h9 fin)
    · exact j_tableIn (off := 323) (tgt := 356) C dL_law_33 (by rw [hw]; decide) (by rw [hw]; decide) (by rw [hw]; rfl) (by decide) (lc_6 C hX hL H H9 h7 hcs h h9 fin)
    · exact j_tableIn (off := 356) (tgt := 389) C dL_law_33 (by rw [hw]; decide) (by rw [hw]; decide) (by rw [hw]; rfl) (by decide) (lc_7 C hX hL H H9 h7 hcs h h9 fin)
    · exact j_tableIn (off := 415) (tgt := 448) C dL_law_33 (by rw [hw]; decide) (by rw [hw]; decide) (by rw [hw]; rfl) (by decide) (lc_8 C hX hL H H9 h7 hcs h h9 fin)
    · exact j_tableIn (off := 448) (tgt := 481) C dL_law_33 (by rw [hw]; decide) (by rw [hw]; decide) (by rw [hw]; rfl) (by decide) (lc_9 C hX hL H H9 h7 hcs h h9 fin)
    · exact j_tableIn (off := 481) (tgt := 514) C dL_law_33 (by rw [hw]; decide) (by rw [hw]; decide) (by rw [hw]; rfl) (by decide) (lc_10 C hX hL H H9 h7 hcs h h9 fin)
    · exact j_tableIn (off := 504) (tgt := 537) C dL_law_33 (by rw [hw]; decide) (by rw [hw]; decide) (by rw [hw]; rfl) (by decide) (lc_11 C hX hL H H9 h7 hcs h h9 fin)
    · exact j_tableIn (off := 547) (tgt := 580) C dL_law_33 (by rw [hw]; decide) (by rw [hw]; decide) (by rw [hw]; rfl) (by decide) (lc_12 C hX hL H H9 h7 hcs h h9 fin)
    · exact j_tableIn (off := 570) (tgt := 603) C dL_law_33 (by rw [hw]; decide) (by rw [hw]; decide) (by rw [hw]; rfl) (by decide) (lc_13 C hX hL H H9 h7 hcs h h9 fin)
    · exact j_tableIn (off := 629) (tgt := 662) C dL_law_33 (by rw [hw]; decide) (by rw [hw]; decide) (by rw [hw]; rfl) (by decide) (lc_14 C hX hL H H9 h7 hcs h h9 fin)
    · exact j_tableIn (off := 662) (tgt := 695) C dL_law_33 (by rw [hw]; decide) (by rw [hw]; decide) (by rw [hw]; rfl) (by decide) (lc_15 C hX hL H H9 h7 hcs h h9 fin)
    · exact j_tableIn (off := 695) (tgt := 728) C dL_law_33 (by rw [hw]; decide) (by rw [hw]; decide) (by rw [hw]; rfl) (by decide) (lc_16 C hX hL H H9 h7 hcs h h9 fin)
    · exact j_tableIn (off := 728) (tgt := 761) C dL_law_33 (by rw [hw]; decide) (by rw [hw]; decide) (by rw [hw]; rfl) (by decide) (lc_17 C hX hL H H9 h7 hcs h h9 fin)
    · exact j_tableIn (off := 761) (tgt := 794) C dL_law_33 (by rw [hw]; decide) (by rw [hw]; decide) (by rw [hw]; rfl) (by decide) (lc_18 C hX hL H H9 h7 hcs h h9 fin)
    · exact j_tableIn (off := 794) (tgt := 827) C dL_law_33 (by rw [hw]; decide) (by rw [hw]; decide) (by rw [hw]; rfl) (by decide) (lc_19 C hX hL H H9 h7 hcs h h9 fin)
    · exact j_tableIn (off := 837) (tgt := 870) C dL_law_33 (by rw [hw]; decide) (by rw [hw]; decide) (by rw [hw]; rfl) (by decide) (lc_20 C hX hL H H9 h7 hcs h h9 fin)
    · exact j_tableIn (off := 870) (tgt := 903) C dL_law_33 (by rw [hw]; decide) (by rw [hw]; decide) (by rw [hw]; rfl) (by decide) (lc_21 C hX hL H H9 h7 hcs h h9 fin)
    · exact j_tableIn (off := 893) (tgt := 926) C dL_law_33 (by rw [hw]; decide) (by rw [hw]; decide) (by rw [hw]; rfl) (by decide) (lc_22 C hX hL H H9 h7 hcs h h9 fin)
    · exact j_tableIn (off := 936) (tgt := 969) C dL_law_33 (by rw [hw]; decide) (by rw [hw]; decide) (by rw [hw]; rfl) (by decide) (lc_23 C hX hL H H9 h7 hcs h h9 fin)
    · exact j_tableIn (off := 979) (tgt := 1012) C dL_law_33 (by rw [hw]; decide) (by rw [hw]; decide) (by rw [hw]; rfl) (by decide) (lc_24 C hX hL H H9 h7 hcs h h9 fin)
    · exact j_tableOut (tgt := 1087) C dL_law_33 (Or.inr (by omega)) (by decide) (fin D S h h9)
/-- an array class out of the tables -/
theorem ar_prim {s : State} {args : Array Value} {ty : FieldType} (h : (Cond.arrayClass ty).before args s = true) : ∃ cA, ArrOfT s cA ty ∧ s.vm.findClass ("[" ++ ty.toString) = some cA := by
  obtain ⟨c, k, comp, h1, h2, h3⟩ := Cond.arrayClass_spec h
  exact ⟨c, fun n z => ⟨(fun k h => by cases h), k, h2, comp, h3⟩, h1⟩
theorem ar_obj {s : State} {args : Array Value} {Cn : String} (h : (Cond.arrayOver (.object Cn)).before args s = true) : ∃ cA, ArrOfT s cA (.object Cn) ∧ va_RA s cA (.object Cn) := by
  obtain ⟨comp, c, k, h1, h2, h3, h4, h5⟩ := Cond.arrayOver_spec h
  exact ⟨c, fun n z => ⟨(fun k h => by cases h), k, h3, comp, h4⟩, k, comp, h3, h4, h1, h5⟩
theorem ar_arr {s : State} {args : Array Value} (h : (Cond.arrayOver (.array .long)).before args s = true) : ∃ cA, ArrOfT s cA (.array .long) ∧ va_RA s cA (.array .long) := by
  obtain ⟨comp, c, k, h1, h2, h3, h4⟩ := Cond.arrayOver_specA h
  exact ⟨c, fun n z => ⟨(fun k h => by cases h), k, h2, comp, h3⟩, h4⟩
def G00 : Shp := ([], fun _ => 0, fun _ => 0, fun _ _ => none)
def D00 : Dat := (fun _ _ => 0, fun _ _ => 0)
theorem Em_0 : Em G00 D00 [] := ⟨rfl, List.nodup_nil, fun j hj => absurd hj (Nat.not_lt_zero j)⟩
set_option maxHeartbeats 4000000 in
set_option maxRecDepth 100000 in
/-- the law from its entry: every script of at most 3584 ints -/
theorem whole_start {p : Program} {e : Env} {s : State} {m : MethodId} {below : List Frame} {meth : Method} {c : Code} (l : Launch) {b L : Nat} {xs : Nat → Int32} (hL : L ≤ 3584) (C0 : lw_At p s m meth c b L xs) : W p l e room_1 s m #[Value.ref b] below meth c s.heap [] 0 0 (lw_Z below #[Value.ref b] s) (entryFrame m ([Value.ref b] : List Value).toArray 4) := by
  obtain ⟨hx, hb, hr, hml, hown, hts, hX, hbl, hlocks, hgv⟩ := id C0
  have ht : ∀ w ∈ tb, w.before #[Value.ref b] s = true := fun w h => hts w (tb_sub w h)
  obtain ⟨c0, i0, hK0⟩ := u_known (C := RX0) (T := TX0) (N := 3) (n := 3) ht inX0 (ht _ k_38)
  obtain ⟨c1, i1, hK1⟩ := u_known (C := RX1) (T := TX1) (N := 6) (n := 6) ht inX1 (ht _ k_223)
  obtain ⟨c2, i2, hK2⟩ := u_known (C := RX2) (T := TX2) (N := 14) (n := 14) ht inX2 (ht _ k_136)
  obtain ⟨c3, i3, hK3⟩ := u_known (C := RX3) (T := TX3) (N := 8) (n := 8) ht inX3 (ht _ k_60)
  obtain ⟨c4, i4, hK4⟩ := u_known (C := RX4) (T := TX4) (N := 2) (n := 2) ht inX4 (ht _ k_24)
  obtain ⟨c5, i5, hK5⟩ := u_known (C := RX5) (T := TX5) (N := 6) (n := 6) ht inX5 (ht _ k_194)
  obtain ⟨c6, i6, hK6⟩ := u_known (C := RX6) (T := TX6) (N := 2) (n := 2) ht inX6 (ht _ k_123)
  obtain ⟨c7, i7, hK7⟩ := u_known (C := RX7) (T := TX7) (N := 2) (n := 2) ht inX7 (ht _ k_66)
  obtain ⟨c8, i8, hK8⟩ := u_known (C := RX8) (T := TX8) (N := 9) (n := 9) ht inX8 (ht _ k_14)
  obtain ⟨c9, i9, hK9⟩ := u_known (C := RX9) (T := TX9) (N := 30) (n := 30) ht inX9 (ht _ k_758)
  obtain ⟨Dc, hKc⟩ : ∃ Dc : va_G, ∀ (k : Nat) (q : vw_C), vwCl[k]? = some q → u_Kn s q.1 q.2.1 q.2.2 (Dc.1 k) (Dc.2 k) := by
    refine ⟨(fun k => match k with | 0 => c0 | 1 => c1 | 2 => c2 | 3 => c3 | 4 => c4 | 5 => c5 | 6 => c6 | 7 => c7 | 8 => c8 | _ => c9, fun k => match k with | 0 => i0 | 1 => i1 | 2 => i2 | 3 => i3 | 4 => i4 | 5 => i5 | 6 => i6 | 7 => i7 | 8 => i8 | _ => i9), ?_⟩
    intro k q hq
    match k, hq with
    | 0, hq => cases hq; exact hK0
    | 1, hq => cases hq; exact hK1
    | 2, hq => cases hq; exact hK2
    | 3, hq => cases hq; exact hK3
    | 4, hq => cases hq; exact hK4
    | 5, hq => cases hq; exact hK5
    | 6, hq => cases hq; exact hK6
    | 7, hq => cases hq; exact hK7
    | 8, hq => cases hq; exact hK8
    | 9, hq => cases hq; exact hK9
    | k + 10, hq => simp [vwCl] at hq
  obtain ⟨y0, a0, n0⟩ := ar_prim (ht _ k_36)
  obtain ⟨y1, a1, n1⟩ := ar_prim (ht _ k_80)
  obtain ⟨y2, a2, n2⟩ := ar_prim (ht _ k_59)
  obtain ⟨y3, a3, n3⟩ := ar_prim (ht _ k_81)
  obtain ⟨y4, a4, n4⟩ := ar_obj (hts _ n_144)
  obtain ⟨y5, a5, n5⟩ := ar_obj (hts _ n_22)
  obtain ⟨y6, a6, n6⟩ := ar_obj (hts _ n_82)
  obtain ⟨y7, a7, n7⟩ := ar_arr (hts _ n_142)
  obtain ⟨Y, hY⟩ : ∃ Y : Nat → ClassId, ∀ (k : Nat) (q : ClassId × FieldType), (tyl Y)[k]? = some q → ArrOfT s q.1 q.2 ∧ va_RA s q.1 q.2 := by
    refine ⟨fun k => match k with | 0 => y0 | 1 => y1 | 2 => y2 | 3 => y3 | 4 => y4 | 5 => y5 | 6 => y6 | _ => y7, ?_⟩
    intro k q hq
    match k, hq with
    | 0, hq => cases hq; exact ⟨a0, n0⟩
    | 1, hq => cases hq; exact ⟨a1, n1⟩
    | 2, hq => cases hq; exact ⟨a2, n2⟩
    | 3, hq => cases hq; exact ⟨a3, n3⟩
    | 4, hq => cases hq; exact ⟨a4, n4⟩
    | 5, hq => cases hq; exact ⟨a5, n5⟩
    | 6, hq => cases hq; exact ⟨a6, n6⟩
    | 7, hq => cases hq; exact ⟨a7, n7⟩
    | k + 8, hq => simp [tyl] at hq
  have hNW : NW s := by
    intro w hw
    simp only [nws, List.mem_cons, List.not_mem_nil, or_false] at hw
    rcases hw with rfl | rfl | rfl | rfl
    · exact va_Nw.of rfl (hts _ n_319)
    · exact va_Nw.of rfl (hts _ n_324)
    · exact va_Nw.of rfl (hts _ n_653)
    · exact va_Nw.of rfl (hts _ n_675)
  have hCW : CW s := by
    refine ⟨fun w hw => ?_, va_AO.of (hts _ n_22), va_AO.of (hts _ n_82), va_AO.of (hts _ n_144), hts _ n_142⟩
    simp only [nwC, List.mem_cons, List.not_mem_nil, or_false] at hw
    rcases hw with rfl | rfl | rfl | rfl | rfl | rfl | rfl | rfl
    · exact va_Nw.of rfl (hts _ n_25)
    · exact va_Nw.of rfl (hts _ n_39)
    · exact va_Nw.of rfl (hts _ n_67)
    · exact va_Nw.of rfl (hts _ n_124)
    · exact va_Nw.of rfl (hts _ n_145)
    · exact va_Nw.of rfl (hts _ n_201)
    · exact va_Nw.of rfl (hts _ n_202)
    · exact va_Nw.of rfl (hts _ n_229)
  obtain ⟨κ, eκ⟩ : ∃ κ : Ctx, κ = (p, l, e, room_1, s, m, #[Value.ref b], below, meth, c, lw_Z below #[Value.ref b] s, Dc, Y, (fun q : Nat => s.heap.size ≤ q), s.heap, 4) := ⟨_, rfl⟩
  have C : Cx κ cL_law RL room_1 4 := by
    subst eκ
    exact ⟨hx, hb, hml, hown, ht, ⟨hKc, hY⟩, fun q h => h, rfl, hlocks, rfl, hNW⟩
  have Cw : Cc κ := by subst eκ; exact hCW
  have hSc : Sc κ b L xs := by subst eκ; exact ⟨hX, hbl, Nat.not_le.mpr hbl⟩
  have hend : ∀ (cells slots : Nat) (G : Shp) (D : Dat) (lv : List (Nat × Value)), cells ≤ 600000 → slots ≤ 7302250 → J κ cells slots G D 1093 lv [] := fun cells slots G D lv h1 h2 => by
    refine j_iconst (v := 1) C dL_law_1093 (by decide) ?_
    subst eκ
    intro H locs ls hP hD hS hl
    exact va_forget (fun q hq => hS.2.2 q hq) (W.widen h1 h2 (lw_ret hx hb hr hlocks dL_law_1094))
  have key : J κ 0 0 G00 D00 0 [(0, .ref b)] [] := by
    refine en_8 C Em_0 k_13 ⟨Nat.le_of_ble_eq_true rfl, Nat.le_of_ble_eq_true rfl⟩ dL_law_0 (fun G1 D1 q1 hE1 x1 e1 => ?_)
    refine j_dup C dL_law_3 rfl ?_
    refine j_cIC C Cw (seaC _ (hE1.cast (by decide +kernel)) e1) k_15 mi_8 ⟨Nat.le_of_ble_eq_true rfl, Nat.le_of_ble_eq_true rfl⟩ ⟨Nat.le_of_ble_eq_true rfl, Nat.le_of_ble_eq_true rfl⟩ rfl rfl (Nat.le_of_ble_eq_true rfl) dL_law_4 (fun G2 D2 hp => ?_)
    obtain ⟨hE2, x2⟩ := hp
    have e2 := (x2 0 (by decide)).trans e1
    refine j_astore_n C dL_law_7 rfl (by decide) rfl ?_
    refine en_9 C hE2 k_757 ⟨Nat.le_of_ble_eq_true rfl, Nat.le_of_ble_eq_true rfl⟩ dL_law_8 (fun G3 D3 q3 hE3 x3 e3 => ?_)
    have e23 := (x3 0 (by decide +kernel)).trans e2
    have e33 : aG G3 317 = q3 := by
      rw [show seaC_f.length = 317 by decide +kernel] at e3
      exact e3
    refine j_dup C dL_law_11 rfl ?_
    refine j_cIC C Cw (refC _ (hE3.cast (by decide +kernel)) e33) k_759 mi_9 ⟨Nat.le_of_ble_eq_true rfl, Nat.le_of_ble_eq_true rfl⟩ ⟨Nat.le_of_ble_eq_true rfl, Nat.le_of_ble_eq_true rfl⟩ rfl rfl (Nat.le_of_ble_eq_true rfl) dL_law_12 (fun G4 D4 hp => ?_)
    obtain ⟨hE4, x4⟩ := hp
    have e24 := (x4 0 (by decide)).trans e23
    have e34 := (x4 317 (by decide)).trans e33
    refine j_astore_n C dL_law_15 rfl (by decide) rfl ?_
    refine j_iconst (v := 0) C dL_law_16 (by decide) ?_
    refine j_istore_n C dL_law_17 rfl (by decide) rfl ?_
    have a0 : adF G4 0 = q1 := by rw [← e24]; exact if_pos (by decide +kernel)
    have a5 : adF G4 500 = q3 := by rw [← e34]; exact if_pos (by decide +kernel)
    have hgo := law_loop (cells := 0 + 1 + 316 + 1 + 23) (slots := 0 + 9 + 3857 + 30 + 706846) C hSc hL (cs_f hE4) (rg_f hE4) (by decide +kernel) (fun D lv => hend _ _ _ _ _ (by decide +kernel) (by decide +kernel)) L 0 (by omega) (by omega) D4 S0 (cl_f hE4) (rf_f hE4)
    unfold LV at hgo
    rw [a0, a5] at hgo
    exact hgo
  rw [lg_entry_eq]
  subst eκ
  exact key s.heap [] _ (fun k q h => by simp [PW, G00, va_pl] at h) ⟨fun i j p q h => by simp [PW, G00, va_pl] at h, fun k q h => by simp [PW, G00, va_pl] at h⟩ va_S.rf (lv_entry ([.ref b]) (n := 4) (Nat.le_of_ble_eq_true rfl))
