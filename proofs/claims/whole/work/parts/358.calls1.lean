/-! the calls on rows -/
def wF (A : AR) (x : Nat → Bool) : AR := (A.1, x, A.2.2)
def wX (A : AR) (x : Nat → Bool) : AR := (A.1, A.2.1, x, A.2.2.2)
def wS (A : AR) (x : Nat → Bool) : AR := (A.1, A.2.1, A.2.2.1, x, A.2.2.2.2)
def wE (A : AR) (f : Nat) (x : Nat → Bool) : AR := (A.1, A.2.1, A.2.2.1, A.2.2.2.1, fun g => if g = f then x else aE A g, A.2.2.2.2.2)
def wC (A : AR) (c : Nat) : AR := (A.1, A.2.1, A.2.2.1, A.2.2.2.1, A.2.2.2.2.1, c, A.2.2.2.2.2.2)
def wM (A : AR) (l : Bool) (p : Nat) : AR := (A.1, A.2.1, A.2.2.1, A.2.2.2.1, A.2.2.2.2.1, A.2.2.2.2.2.1, l, p)
def wP (A : AR) : AR := (A.1, A.2.1, A.2.2.1, fun _ => false, fun _ _ => false, 0, A.2.2.2.2.2.2)
section RU
variable {G : Shp} {ad ro : Nat → Nat} {D D' : Dat} {r : Nat} {A : AR}
theorem RowV.kF (H : CS G ad ro) (hr : r < 4) (h : RowV ad D r A) (f : FrP ro D D' (fun q => q = rS r 0 ∨ q = rS r 0 + 1)) {x : Nat → Bool} (hx : SetV D' (ad (rS r 0)) (ad (rS r 0 + 1)) x) : RowV ad D' r (wF A x) := by
  have g : ∀ q, q < 440 → q ≠ rS r 0 → q ≠ rS r 0 + 1 → D'.1 (ad q) = D.1 (ad q) := fun q hq h1 h2 => f.i H hq (by omega)
  obtain ⟨h1, h2, h3, h4, h5, h6, h7, h8⟩ := h
  refine ⟨fun i hi => ?_, hx, h3.kept ?_ ?_, h4.kept ?_ ?_, fun q hq => (h5 q hq).kept ?_ ?_, ?_, ?_, ?_⟩
  · rw [g _ (by (try simp only [rS, rb, bg, pR, pB, pT, okb] at *) <;> omega) (by (try simp only [rS, rb, bg, pR, pB, pT, okb] at *) <;> omega) (by (try simp only [rS, rb, bg, pR, pB, pT, okb] at *) <;> omega)]; exact h1 i hi
  all_goals first | (exact g _ (by (try simp only [rS, rb, bg, pR, pB, pT, okb] at *) <;> omega) (by (try simp only [rS, rb, bg, pR, pB, pT, okb] at *) <;> omega) (by (try simp only [rS, rb, bg, pR, pB, pT, okb] at *) <;> omega)) | (rw [g _ (by (try simp only [rS, rb, bg, pR, pB, pT, okb] at *) <;> omega) (by (try simp only [rS, rb, bg, pR, pB, pT, okb] at *) <;> omega) (by (try simp only [rS, rb, bg, pR, pB, pT, okb] at *) <;> omega)]; assumption)
theorem RowV.kX (H : CS G ad ro) (hr : r < 4) (h : RowV ad D r A) (f : FrP ro D D' (fun q => q = rS r 1 ∨ q = rS r 1 + 1)) {x : Nat → Bool} (hx : SetV D' (ad (rS r 1)) (ad (rS r 1 + 1)) x) : RowV ad D' r (wX A x) := by
  have g : ∀ q, q < 440 → q ≠ rS r 1 → q ≠ rS r 1 + 1 → D'.1 (ad q) = D.1 (ad q) := fun q hq h1 h2 => f.i H hq (by omega)
  obtain ⟨h1, h2, h3, h4, h5, h6, h7, h8⟩ := h
  refine ⟨fun i hi => ?_, h2.kept ?_ ?_, hx, h4.kept ?_ ?_, fun q hq => (h5 q hq).kept ?_ ?_, ?_, ?_, ?_⟩
  · rw [g _ (by (try simp only [rS, rb, bg, pR, pB, pT, okb] at *) <;> omega) (by (try simp only [rS, rb, bg, pR, pB, pT, okb] at *) <;> omega) (by (try simp only [rS, rb, bg, pR, pB, pT, okb] at *) <;> omega)]; exact h1 i hi
  all_goals first | (exact g _ (by (try simp only [rS, rb, bg, pR, pB, pT, okb] at *) <;> omega) (by (try simp only [rS, rb, bg, pR, pB, pT, okb] at *) <;> omega) (by (try simp only [rS, rb, bg, pR, pB, pT, okb] at *) <;> omega)) | (rw [g _ (by (try simp only [rS, rb, bg, pR, pB, pT, okb] at *) <;> omega) (by (try simp only [rS, rb, bg, pR, pB, pT, okb] at *) <;> omega) (by (try simp only [rS, rb, bg, pR, pB, pT, okb] at *) <;> omega)]; assumption)
theorem RowV.kS (H : CS G ad ro) (hr : r < 4) (h : RowV ad D r A) (f : FrP ro D D' (fun q => q = rS r 2 ∨ q = rS r 2 + 1)) {x : Nat → Bool} (hx : SetV D' (ad (rS r 2)) (ad (rS r 2 + 1)) x) : RowV ad D' r (wS A x) := by
  have g : ∀ q, q < 440 → q ≠ rS r 2 → q ≠ rS r 2 + 1 → D'.1 (ad q) = D.1 (ad q) := fun q hq h1 h2 => f.i H hq (by omega)
  obtain ⟨h1, h2, h3, h4, h5, h6, h7, h8⟩ := h
  refine ⟨fun i hi => ?_, h2.kept ?_ ?_, h3.kept ?_ ?_, hx, fun q hq => (h5 q hq).kept ?_ ?_, ?_, ?_, ?_⟩
  · rw [g _ (by (try simp only [rS, rb, bg, pR, pB, pT, okb] at *) <;> omega) (by (try simp only [rS, rb, bg, pR, pB, pT, okb] at *) <;> omega) (by (try simp only [rS, rb, bg, pR, pB, pT, okb] at *) <;> omega)]; exact h1 i hi
  all_goals first | (exact g _ (by (try simp only [rS, rb, bg, pR, pB, pT, okb] at *) <;> omega) (by (try simp only [rS, rb, bg, pR, pB, pT, okb] at *) <;> omega) (by (try simp only [rS, rb, bg, pR, pB, pT, okb] at *) <;> omega)) | (rw [g _ (by (try simp only [rS, rb, bg, pR, pB, pT, okb] at *) <;> omega) (by (try simp only [rS, rb, bg, pR, pB, pT, okb] at *) <;> omega) (by (try simp only [rS, rb, bg, pR, pB, pT, okb] at *) <;> omega)]; assumption)
theorem RowV.kE (H : CS G ad ro) (hr : r < 4) (h : RowV ad D r A) {e : Nat} (he : e < 2) (f : FrP ro D D' (fun q => q = rS r (3 + e) ∨ q = rS r (3 + e) + 1)) {x : Nat → Bool} (hx : SetV D' (ad (rS r (3 + e))) (ad (rS r (3 + e) + 1)) x) : RowV ad D' r (wE A e x) := by
  have g : ∀ q, q < 440 → q ≠ rS r (3 + e) → q ≠ rS r (3 + e) + 1 → D'.1 (ad q) = D.1 (ad q) := fun q hq h1 h2 => f.i H hq (by omega)
  obtain ⟨h1, h2, h3, h4, h5, h6, h7, h8⟩ := h
  have hE : ∀ q, q < 2 → SetV D' (ad (rS r (3 + q))) (ad (rS r (3 + q) + 1)) (aE (wE A e x) q) := fun q hq => by
    show SetV D' _ _ (if q = e then x else aE A q)
    by_cases w : q = e
    · rw [if_pos w, w]; exact hx
    · rw [if_neg w]
      exact (h5 q hq).kept (g _ (by (try simp only [rS, rb, bg, pR, pB, pT, okb] at *) <;> omega) (by (try simp only [rS, rb, bg, pR, pB, pT, okb] at *) <;> omega) (by (try simp only [rS, rb, bg, pR, pB, pT, okb] at *) <;> omega)) (g _ (by (try simp only [rS, rb, bg, pR, pB, pT, okb] at *) <;> omega) (by (try simp only [rS, rb, bg, pR, pB, pT, okb] at *) <;> omega) (by (try simp only [rS, rb, bg, pR, pB, pT, okb] at *) <;> omega))
  refine ⟨fun i hi => ?_, h2.kept ?_ ?_, h3.kept ?_ ?_, h4.kept ?_ ?_, hE, ?_, ?_, ?_⟩
  · rw [g _ (by (try simp only [rS, rb, bg, pR, pB, pT, okb] at *) <;> omega) (by (try simp only [rS, rb, bg, pR, pB, pT, okb] at *) <;> omega) (by (try simp only [rS, rb, bg, pR, pB, pT, okb] at *) <;> omega)]; exact h1 i hi
  all_goals first | (exact g _ (by (try simp only [rS, rb, bg, pR, pB, pT, okb] at *) <;> omega) (by (try simp only [rS, rb, bg, pR, pB, pT, okb] at *) <;> omega) (by (try simp only [rS, rb, bg, pR, pB, pT, okb] at *) <;> omega)) | (rw [g _ (by (try simp only [rS, rb, bg, pR, pB, pT, okb] at *) <;> omega) (by (try simp only [rS, rb, bg, pR, pB, pT, okb] at *) <;> omega) (by (try simp only [rS, rb, bg, pR, pB, pT, okb] at *) <;> omega)]; assumption)
theorem RowV.kD (H : CS G ad ro) (hr : r < 4) (h : RowV ad D r A) (f : FrP ro D D' (fun q => q = rb r)) {c p : Nat} {l : Bool} (h5 : D'.1 (ad (rb r)) 5 = nI c) (h6 : D'.1 (ad (rb r)) 6 = bI l) (h7 : D'.1 (ad (rb r)) 7 = nI p) : RowV ad D' r (A.1, A.2.1, A.2.2.1, A.2.2.2.1, A.2.2.2.2.1, c, l, p) := by
  have g : ∀ q, q < 440 → q ≠ rb r → D'.1 (ad q) = D.1 (ad q) := fun q hq h1 => f.i H hq (by omega)
  obtain ⟨h1, h2, h3, h4, h8, -, -, -⟩ := h
  refine ⟨fun i hi => ?_, h2.kept ?_ ?_, h3.kept ?_ ?_, h4.kept ?_ ?_, fun q hq => (h8 q hq).kept ?_ ?_, h5, h6, h7⟩
  · rw [g _ (by (try simp only [rS, rb, bg, pR, pB, pT, okb] at *) <;> omega) (by (try simp only [rS, rb, bg, pR, pB, pT, okb] at *) <;> omega)]; exact h1 i hi
  all_goals exact g _ (by (try simp only [rS, rb, bg, pR, pB, pT, okb] at *) <;> omega) (by (try simp only [rS, rb, bg, pR, pB, pT, okb] at *) <;> omega)
end RU
theorem stR_id {S : AS} {r : Nat} {A : AR} (h : A = S.1 r) : stR S r A = S := by
  have : (fun i => if i = r then A else S.1 i) = S.1 := by
    funext i
    by_cases q : i = r
    · rw [if_pos q, h, q]
    · rw [if_neg q]
  exact Prod.ext this rfl
abbrev isN (z : Int) : Prop := -10000 ≤ z ∧ z ≤ 10000
def nZ (z : Int) : Int32 := Int32.ofInt z
theorem nZ_of {x : Int32} {z : Int} (h : x.toInt = z) : x = nZ z := by
  rw [← h]
  exact (Int32.ofInt_toInt x).symm
def sStatus (S : AS) : Int32 × AS := (S.2.2, S)
def sOut (S : AS) (k : Int32) : Int32 × AS := (if 0 ≤ k.toInt ∧ k.toInt < S.2.1.length then nI (S.2.1.getD k.toInt.toNat 0) else -1, S)
def sPut (S : AS) (a t v : Int32) : Int32 × AS := if okR a ∧ okT t then (if isN v.toInt then (1, stS (stR S (tn a) (wN (S.1 (tn a)) (tn t) v.toInt)) 0) else (0, stS S 2)) else (0, stS S 1)
def flA (A : AR) (t : Nat) (v b : Int) : Nat → AR
  | 0 => A
  | n + 1 => wN (flA A t v b n) (t + n) (v + n * b)
def sFill (S : AS) (a t m v b : Int32) : Int32 × AS := if okR a ∧ okT t then (if 1 ≤ m.toInt ∧ m.toInt ≤ 40 - t.toInt ∧ isN v.toInt ∧ isN (v.toInt + (m.toInt - 1) * b.toInt) then (1, stS (stR S (tn a) (flA (S.1 (tn a)) (tn t) v.toInt b.toInt (tn m))) 0) else (0, stS S 2)) else (0, stS S 1)
def sGap (S : AS) (a t : Int32) : Int32 × AS := if okR a ∧ okT t then (if aF (S.1 (tn a)) (tn t) = true then (1, stS (stR S (tn a) (wF (S.1 (tn a)) (ups (aF (S.1 (tn a))) (tn t) false))) 0) else (0, stS S 5)) else (0, stS S 1)
def sNumber (S : AS) (a t : Int32) : Int32 × AS := if okR a ∧ okT t then (if aF (S.1 (tn a)) (tn t) = true then (nZ (aN (S.1 (tn a)) (tn t)), stS S 0) else (-1, stS S 7)) else (-1, stS S 1)
def tlv (A : AR) (w : Int) : Int32 := if w = 0 then nI (ct (aF A) 40) else if w = 1 then nI (ct (aK A) 40) else if w = 2 then nI (ct (aX A) 40) else if w = 3 then nI (ct (aS A) 40) else if w = 4 then nI (aC A) else if w = 5 then nI (aP A) else bI (aL A)
def sTold (S : AS) (a w : Int32) : Int32 × AS := if okR a then (if 0 ≤ w.toInt ∧ w.toInt ≤ 6 then (tlv (S.1 (tn a)) w.toInt, stS S 0) else (-1, stS S 2)) else (-1, stS S 1)
def sModel (S : AS) (a l p : Int32) : Int32 × AS := if okR a then (if p.toInt = 0 ∨ (2 ≤ p.toInt ∧ p.toInt ≤ 7) then (1, stS (stR S (tn a) (wM (S.1 (tn a)) (decide (¬ l = 0)) (tn p))) 0) else (0, stS S 2)) else (0, stS S 1)
def sStep (S : AS) (a t : Int32) : Int32 × AS := if okR a ∧ okT t then (if t.toInt = 0 then (0, stS S 2) else if 3 ≤ ct (aS (S.1 (tn a))) 40 then (0, stS S 3) else if aS (S.1 (tn a)) (tn t) = true then (0, stS S 4) else (1, stS (stR S (tn a) (wS (S.1 (tn a)) (ups (aS (S.1 (tn a))) (tn t) true))) 0)) else (0, stS S 1)
def sUnstep (S : AS) (a t : Int32) : Int32 × AS := if okR a ∧ okT t then (if aS (S.1 (tn a)) (tn t) = true then (1, stS (stR S (tn a) (wS (S.1 (tn a)) (ups (aS (S.1 (tn a))) (tn t) false))) 0) else (0, stS S 5)) else (0, stS S 1)
def sFeast (S : AS) (a : Int32) : Int32 × AS := if okR a then (if aC (S.1 (tn a)) < 2 then (nI (aC (S.1 (tn a))), stS (stR S (tn a) (wC (S.1 (tn a)) (aC (S.1 (tn a)) + 1))) 0) else (-1, stS S 3)) else (-1, stS S 1)
def sOn (S : AS) (a f t : Int32) : Int32 × AS := if okR a ∧ okT t then (if 0 ≤ f.toInt ∧ f.toInt < aC (S.1 (tn a)) then (if 8 ≤ ct (aE (S.1 (tn a)) (tn f)) 40 then (0, stS S 3) else if aE (S.1 (tn a)) (tn f) (tn t) = true then (0, stS S 4) else (1, stS (stR S (tn a) (wE (S.1 (tn a)) (tn f) (ups (aE (S.1 (tn a)) (tn f)) (tn t) true))) 0)) else (0, stS S 5)) else (0, stS S 1)
def sPlain (S : AS) (a : Int32) : Int32 × AS := if okR a then (1, stS (stR S (tn a) (wP (S.1 (tn a)))) 0) else (0, stS S 1)
def sStrange (S : AS) (a t b : Int32) : Int32 × AS := if okR a ∧ okT t then (if aX (S.1 (tn a)) (tn t) = decide (¬ b = 0) then (0, stS S 4) else (1, stS (stR S (tn a) (wX (S.1 (tn a)) (ups (aX (S.1 (tn a))) (tn t) (decide (¬ b = 0))))) 0)) else (0, stS S 1)
def sIsStrange (S : AS) (a t : Int32) : Int32 × AS := if okR a ∧ okT t then (bI (aX (S.1 (tn a)) (tn t)), stS S 0) else (-1, stS S 1)
section C1
variable {G : Shp} {ad ro : Nat → Nat} {D : Dat} {S : AS} {Z : Dat} {post : Int32 → Dat → Prop}
theorem status_sp (H : CS G ad ro) (h : ClV ad ro Z D S) (k : ∀ D', ClV ad ro Z D' (sStatus S).2 → post (sStatus S).1 D') : X8_status_wp G D (ad 0) post := by
  refine ⟨H.x_, ?_⟩
  rw [h.2.2.1]
  exact k D h
theorem out_sp (H : CS G ad ro) (h : ClV ad ro Z D S) {v : Int32} (k : ∀ D', ClV ad ro Z D' (sOut S v).2 → post (sOut S v).1 D') : X8_out_wp G D (ad 0) v post := ⟨H.x_, _, H.x4_, H.sh_, byteAt_sp H h.2.1 (k D h)⟩
theorem isNumber_if {v : Int64} (k0 : ¬ isN v.toInt → post 0 D) (k1 : isN v.toInt → post 1 D) : X8_isNumber_wp G D v post := by
  have e1 : (-10000 : Int64).toInt = -10000 := rfl
  have e2 : (10000 : Int64).toInt = 10000 := rfl
  refine ⟨fun q => ⟨isB_0, k0 (fun w => ?_)⟩, fun q => ⟨fun q2 => ⟨isB_0, k0 (fun w => ?_)⟩, fun q2 => ⟨isB_1, k1 ?_⟩⟩⟩
  · have := (L_lt _ _).mp q
    unfold isN at w; omega
  · have := (L_lt _ _).mp q2
    unfold isN at w; omega
  · have h1 : ¬ v.toInt < (-10000 : Int64).toInt := fun w => q ((L_lt _ _).mpr w)
    have h2 : ¬ (10000 : Int64).toInt < v.toInt := fun w => q2 ((L_lt _ _).mpr w)
    unfold isN; omega
theorem RowOK.wN {A : AR} (h : RowOK A) {t : Nat} {v : Int} (hv : isN v) : RowOK (wN A t v) := by
  refine ⟨fun i => ?_, h.2⟩
  show -10000 ≤ (if i = t then v else aN A i) ∧ (if i = t then v else aN A i) ≤ 10000
  split
  · exact hv
  · exact h.1 i
/-- a call that begins with a row and a tick -/
theorem put_sp (H : CS G ad ro) (h : ClV ad ro Z D S) {a t v : Int32} (k : ∀ D', ClV ad ro Z D' (sPut S a t v).2 → post (sPut S a t v).1 D') : X8_put_wp G D (ad 0) a t v post := by
  unfold sPut at k
  refine ⟨H.x_, rowOf_sp H (fun n0 => ?_) (fun r0 => ⟨fun q => (nomatch q), fun y q => ?_⟩)⟩
  · rw [if_neg (fun w => n0 w.1)] at k
    exact ⟨fun _ => refuse_sp H h (fun D' c => ⟨isB_0, k D' c⟩), fun y q => (nomatch q)⟩
  · cases q
    refine isTick_if (fun n0 => ⟨fun q => absurd rfl q, fun _ => ?_⟩) (fun t0 => ⟨fun _ => ?_, fun q => absurd q (by decide)⟩)
    · rw [if_neg (fun w => n0 w.2)] at k
      exact refuse_sp H h (fun D' c => ⟨isB_0, k D' c⟩)
    · rw [if_pos ⟨r0, t0⟩] at k
      have hr := tn_R r0
      refine isNumber_if (fun n0 => ⟨fun q => absurd rfl q, fun _ => ?_⟩) (fun v0 => ⟨fun _ => ⟨H.row_ _ hr, ?_⟩, fun q => absurd q (by decide)⟩)
      · rw [L_i2l] at n0
        rw [if_neg n0] at k
        exact refuse_sp H h (fun D' c => ⟨isB_0, k D' c⟩)
      · rw [L_i2l] at v0
        rw [if_pos v0] at k
        have et := tn_nI t0.1
        generalize hx : tn t = x at *
        subst et
        refine setNumber_sp H hr (h.1 _ hr).1 (by rw [← hx]; exact tn_T t0) (fun D1 f1 r1 => ?_)
        exact done_sp H (h.row H hr f1 r1 ((h.1 _ hr).2.wN v0)) (fun D' c => ⟨isB_1, k D' c⟩)
theorem fill_spc (H : CS G ad ro) (h : ClV ad ro Z D S) {a t m v b : Int32} (k : ∀ D', ClV ad ro Z D' (sFill S a t m v b).2 → post (sFill S a t m v b).1 D') : X8_fill_wp G D (ad 0) a t m v b post := by
  unfold sFill at k
  refine ⟨H.x_, rowOf_sp H (fun n0 => ?_) (fun r0 => ⟨fun q => (nomatch q), fun y q => ?_⟩)⟩
  · rw [if_neg (fun w => n0 w.1)] at k
    exact ⟨fun _ => refuse_sp H h (fun D' c => ⟨isB_0, k D' c⟩), fun y q => (nomatch q)⟩
  cases q
  refine isTick_if (fun n0 => ⟨fun q => absurd rfl q, fun _ => ?_⟩) (fun t0 => ⟨fun _ => ?_, fun q => absurd q (by decide)⟩)
  · rw [if_neg (fun w => n0 w.2)] at k
    exact refuse_sp H h (fun D' c => ⟨isB_0, k D' c⟩)
  rw [if_pos ⟨r0, t0⟩] at k
  have hr := tn_R r0
  have ht := tn_T t0
  have e1 : (1 : Int32).toInt = 1 := rfl
  have e40 : (40 : Int32).toInt = 40 := rfl
  have t0' := t0
  unfold okT at t0'
  have es : (40 - t).toInt = 40 - t.toInt := by rw [I_sub (by rw [e40]; omega) (by rw [e40]; omega), e40]
  have ref : ¬ (1 ≤ m.toInt ∧ m.toInt ≤ 40 - t.toInt ∧ isN v.toInt ∧ isN (v.toInt + (m.toInt - 1) * b.toInt)) → X8_refuse_wp G D (ad 0) 2 (fun r1 D2 => (isB r1 ∧ post r1 D2)) := fun w => by
    rw [if_neg w] at k
    exact refuse_sp H h (fun D' c => ⟨isB_0, k D' c⟩)
  refine ⟨fun q => ref (fun w => ?_), fun q => ⟨fun q2 => ?_, fun q2 => ref (fun w => ?_)⟩⟩
  · have := (I_lt _ _).mp q
    omega
  rotate_left
  · have : ¬ m.toInt ≤ (40 - t).toInt := fun z => q2 ((I_le _ _).mpr z)
    rw [es] at this
    omega
  have m1 : ¬ m.toInt < (1 : Int32).toInt := fun z => q ((I_lt _ _).mpr z)
  have m2 := (I_le _ _).mp q2
  rw [es] at m2
  have hb := I_rng b
  have hvr := I_rng v
  have em : (m - 1).toInt = m.toInt - 1 := by rw [I_sub (by rw [e1]; omega) (by rw [e1]; omega), e1]
  have hpb := mul_abs_le (X := 39) (Y := 2147483648) (x := m.toInt - 1) (y := b.toInt) (by omega) (by omega) (by omega) (by omega)
  have ep : ((m - 1).toInt64 * b.toInt64).toInt = (m.toInt - 1) * b.toInt := by
    rw [L_mul (by rw [L_i2l, L_i2l, em]; omega) (by rw [L_i2l, L_i2l, em]; omega), L_i2l, L_i2l, em]
  have el : (v.toInt64 + (m - 1).toInt64 * b.toInt64).toInt = v.toInt + (m.toInt - 1) * b.toInt := by
    rw [L_add (by rw [L_i2l, ep]; omega) (by rw [L_i2l, ep]; omega), L_i2l, ep]
  refine isNumber_if (fun n0 => ⟨fun _ => ref (fun w => n0 (by rw [L_i2l]; exact w.2.2.1)), fun q => absurd rfl q⟩) (fun v0 => ⟨fun q => absurd q (by decide), fun _ => ?_⟩)
  rw [L_i2l] at v0
  refine isNumber_if (fun n0 => ⟨fun q => absurd rfl q, fun _ => ref (fun w => n0 (by rw [el]; exact w.2.2.2))⟩) (fun l0 => ⟨fun _ => ?_, fun q => absurd q (by decide)⟩)
  rw [el] at l0
  rw [if_pos ⟨by omega, m2, v0, l0⟩] at k
  have et := tn_nI t0.1
  have emm := tn_nI (v := m) (by omega)
  have hm40 : tn m ≤ 40 - tn t := by unfold tn; omega
  have htm : (tn m : Int) = m.toInt := by unfold tn; omega
  have mid : ∀ i : Nat, i < tn m → isN (v.toInt + i * b.toInt) ∧ -20000 ≤ i * b.toInt ∧ i * b.toInt ≤ 20000 := by
    intro i hi
    unfold isN at v0 l0 ⊢
    have hi2 : (i : Int) ≤ m.toInt - 1 := by omega
    rcases Int.le_total 0 b.toInt with hb0 | hb0
    · have a1 : (i : Int) * b.toInt ≤ (m.toInt - 1) * b.toInt := Int.mul_le_mul_of_nonneg_right hi2 hb0
      have a2 : 0 ≤ (i : Int) * b.toInt := Int.mul_nonneg (by omega) hb0
      omega
    · have a1 : (m.toInt - 1) * b.toInt ≤ (i : Int) * b.toInt := Int.mul_le_mul_of_nonpos_right hi2 hb0
      have a2 : (i : Int) * b.toInt ≤ 0 := Int.mul_nonpos_of_nonneg_of_nonpos (by omega) hb0
      omega
  have key := up_loop (L := fun n i (E : Dat) => X8_fill_l84 G post (ad 0) a t m v b n (ad (rb (tn a))) (nI i) E) (tn m) (fun i E => ClV ad ro Z E (stR S (tn a) (flA (S.1 (tn a)) (tn t) v.toInt b.toInt i))) ?_ ?_ 0 D (by omega) (by have e := stR_id (S := S) (r := tn a) (A := flA (S.1 (tn a)) (tn t) v.toInt b.toInt 0) rfl; rw [e]; exact h)
  · exact ⟨_, key⟩
  · intro n E hE
    show X8_fill_l84_b G post (ad 0) a t m v b _ _ _ _
    refine ⟨fun _ => done_sp H hE (fun D' c => ⟨isB_1, k D' c⟩), fun q => absurd ?_ q⟩
    generalize tn m = x at *
    subst emm
    exact nI_le (Nat.le_refl _) (by omega)
  · intro n i E hi hE hk
    show X8_fill_l84_b G post (ad 0) a t m v b _ _ _ _
    refine ⟨fun q => absurd q ?_, fun _ => ⟨H.row_ _ hr, ?_⟩⟩
    · have w := nI_ge hi (by omega)
      rw [← emm] at w
      exact w
    have hmi := mid i hi
    have ei : t + nI i = nI (tn t + i) := by
      generalize tn t = x at *
      subst et
      rw [nI_add]
    have ini : (nI i).toInt = (i : Int) := nI_toInt (by omega)
    have emul : (nI i * b).toInt = i * b.toInt := by rw [I_mul (by rw [ini]; omega) (by rw [ini]; omega), ini]
    have ev : (v + nI i * b).toInt = v.toInt + i * b.toInt := by
      rw [I_add (by rw [emul]; unfold isN at v0; omega) (by rw [emul]; unfold isN at v0; omega), emul]
    rw [ei]
    have hrow := (hE.1 _ hr)
    have erow : (stR S (tn a) (flA (S.1 (tn a)) (tn t) v.toInt b.toInt i)).1 (tn a) = flA (S.1 (tn a)) (tn t) v.toInt b.toInt i := if_pos rfl
    rw [erow] at hrow
    refine setNumber_sp H hr hrow.1 (by omega) (fun D1 f1 r1 => ?_)
    rw [nI_1]
    refine hk D1 ?_
    rw [ev] at r1
    have c1 := hE.row H hr f1 r1 (hrow.2.wN hmi.1)
    have e2 : stR (stR S (tn a) (flA (S.1 (tn a)) (tn t) v.toInt b.toInt i)) (tn a) (wN (flA (S.1 (tn a)) (tn t) v.toInt b.toInt i) (tn t + i) (v.toInt + i * b.toInt)) = stR S (tn a) (flA (S.1 (tn a)) (tn t) v.toInt b.toInt (i + 1)) := by
      refine Prod.ext ?_ rfl
      funext j
      show (if j = tn a then _ else (if j = tn a then _ else S.1 j)) = (if j = tn a then _ else S.1 j)
      by_cases q : j = tn a
      · rw [if_pos q, if_pos q]; rfl
      · rw [if_neg q, if_neg q, if_neg q]
    rw [e2] at c1
    exact c1
end C1
