def CtI (l : Launch) (y : MethodName) (code : ByteArray) (maxL : Nat) (ret : FieldType) (rm : Room) (av : List Value) (G : Shp) (D : Dat) (post : Int32 → Dat → Prop) : Prop := ∀ (Dc : va_G) (Y : Nat → ClassId) (sz : Nat), Met l y (Cond.code y code maxL (some ret) :: tb) rm (va_Pc av (fun U => U.heap.size = sz ∧ va_P Dc vwCl (PW Y G D) U.heap ∧ va_K Dc vwCl (tyl Y) U ∧ va_D (fun _ => True) (PW Y G D) ∧ NW U)) (va_Qi post (fun (u : Dat) t => va_P Dc vwCl (PW Y G u) t.heap ∧ va_K Dc vwCl (tyl Y) t ∧ va_D (va_A (PW Y G D) sz) (PW Y G u)) (va_A (PW Y G D) sz)) 0 0 (va_A (PW Y G D) sz)
def CtL (l : Launch) (y : MethodName) (code : ByteArray) (maxL : Nat) (rm : Room) (av : List Value) (G : Shp) (D : Dat) (post : Int64 → Dat → Prop) : Prop := ∀ (Dc : va_G) (Y : Nat → ClassId) (sz : Nat), Met l y (Cond.code y code maxL (some .long) :: tb) rm (va_Pc av (fun U => U.heap.size = sz ∧ va_P Dc vwCl (PW Y G D) U.heap ∧ va_K Dc vwCl (tyl Y) U ∧ va_D (fun _ => True) (PW Y G D) ∧ NW U)) (va_Ql post (fun (u : Dat) t => va_P Dc vwCl (PW Y G u) t.heap ∧ va_K Dc vwCl (tyl Y) t ∧ va_D (va_A (PW Y G D) sz) (PW Y G u)) (va_A (PW Y G D) sz)) 0 0 (va_A (PW Y G D) sz)
def CtV (l : Launch) (y : MethodName) (code : ByteArray) (maxL : Nat) (rm : Room) (av : List Value) (G : Shp) (D : Dat) (post : Dat → Prop) : Prop := ∀ (Dc : va_G) (Y : Nat → ClassId) (sz : Nat), Met l y (Cond.code y code maxL none :: tb) rm (va_Pc av (fun U => U.heap.size = sz ∧ va_P Dc vwCl (PW Y G D) U.heap ∧ va_K Dc vwCl (tyl Y) U ∧ va_D (fun _ => True) (PW Y G D) ∧ NW U)) (va_Qv post (fun (u : Dat) t => va_P Dc vwCl (PW Y G u) t.heap ∧ va_K Dc vwCl (tyl Y) t ∧ va_D (va_A (PW Y G D) sz) (PW Y G u)) (va_A (PW Y G D) sz)) 0 0 (va_A (PW Y G D) sz)
def CtQ (l : Launch) (y : MethodName) (code : ByteArray) (maxL : Nat) (ret : FieldType) (rm : Room) (av : List Value) (G : Shp) (D : Dat) (post : Option Nat → Dat → Prop) : Prop := ∀ (Dc : va_G) (Y : Nat → ClassId) (sz : Nat), Met l y (Cond.code y code maxL (some ret) :: tb) rm (va_Pc av (fun U => U.heap.size = sz ∧ va_P Dc vwCl (PW Y G D) U.heap ∧ va_K Dc vwCl (tyl Y) U ∧ va_D (fun _ => True) (PW Y G D) ∧ NW U)) (va_Qq post (fun (u : Dat) t => va_P Dc vwCl (PW Y G u) t.heap ∧ va_K Dc vwCl (tyl Y) t ∧ va_D (va_A (PW Y G D) sz) (PW Y G u)) (va_A (PW Y G D) sz)) 0 0 (va_A (PW Y G D) sz)
def rmN (n : Nat) : Room := { frames := n, cells := 0, slots := 0, locals := 40 * n }
theorem NW.warm {s U : State} (hW : s.WarmedH U.vm) (h : NW s) : NW U := by
  intro w hw
  have h1 := h w hw
  simp only [nws, List.mem_cons, List.not_mem_nil, or_false] at hw
  rcases hw with rfl | rfl | rfl | rfl <;> exact va_Nw.warmM hW h1
theorem NW.call {U : State} {g : JFrame} {mk : MethodId} {a : Array Value} (h : NW U) : NW (U.calling g mk a) := by
  intro w hw
  have h1 := h w hw
  simp only [nws, List.mem_cons, List.not_mem_nil, or_false] at hw
  rcases hw with rfl | rfl | rfl | rfl <;> exact va_Nw.same rfl rfl h1
theorem A_sub {A : Nat → Prop} {ws : va_W} {H0 H : Heap} {locs : List Loc} (hD : va_D A ws) (hS : va_S A H0 H locs) (hA : ∀ q, H0.size ≤ q → A q) : ∀ q, va_A ws H.size q → A q := by
  intro q h
  rcases h with ⟨k, e, h⟩ | h
  · exact hD.2 k _ h
  · exact hA q (Nat.le_trans hS.1 h)
theorem blind {Dc : va_G} {Y : Nat → ClassId} {G : Shp} {D : Dat} {sz : Nat} {av : List Value} : FrameBlind (va_Pc av (fun U => U.heap.size = sz ∧ va_P Dc vwCl (PW Y G D) U.heap ∧ va_K Dc vwCl (tyl Y) U ∧ va_D (fun _ => True) (PW Y G D) ∧ NW U)) := fun a U g mk q => by
  obtain ⟨q0, q1, qP, qK, qD, qN⟩ := q
  exact ⟨q0, q1, qP, va_K.moved (u := U) (U := U.calling g mk a) (Vm.Alike.refl U.vm) qK, qD, qN.call⟩
/-- what the tables say of a method that is called: virtual, static -/
def MV (y : MethodName) (Cn : String) (code : ByteArray) (maxL : Nat) (ret : Option FieldType) (n : Nat) : Prop := Cond.instanceMethod y ∈ tb ∧ Cond.selects Cn y y ∈ tb ∧ Cond.initialized Cn ∈ tb ∧ Cond.code y code maxL ret ∈ tb ∧ (y.cls = Cn ∧ y.cls ≠ "java/lang/invoke/MethodHandle" ∧ y.cls ≠ "java/lang/invoke/VarHandle" ∧ (parseMethodDescriptor y.desc).map (fun d => d.parameters.length) = some n)
def MS (y : MethodName) (code : ByteArray) (maxL : Nat) (ret : Option FieldType) (n : Nat) : Prop := Cond.static y ∈ tb ∧ Cond.initialized y.cls ∈ tb ∧ Cond.code y code maxL ret ∈ tb ∧ (y.cls ≠ "java/lang/invoke/MethodHandle" ∧ y.cls ≠ "java/lang/invoke/VarHandle" ∧ (parseMethodDescriptor y.desc).map (fun d => d.parameters.length) = some n)
theorem good_tb : GoodIn tb tb := fun w h => ⟨h, good_of_word (tb_good w h)⟩
theorem good_cons {w : Cond} (h : w ∈ tb) : GoodIn tb (w :: tb) := fun v hv => (List.mem_cons.mp hv).elim (fun e => e ▸ ⟨h, good_of_word (tb_good w h)⟩) (good_tb v)
theorem good_V {own : String} {index : Nat} {y : MethodName} {Cn : String} {code : ByteArray} {maxL n : Nat} {ret : Option FieldType} (w1 : Cond.methodLink own index y ∈ tb) (m : MV y Cn code maxL ret n) : GoodIn tb (wsV own index Cn y (Cond.code y code maxL ret :: tb)) := by
  intro v hv
  unfold wsV at hv
  rcases List.mem_append.mp hv with h | h
  · simp only [List.mem_cons, List.not_mem_nil, or_false] at h
    rcases h with rfl | rfl | rfl | rfl
    · exact good_tb _ w1
    · exact good_tb _ m.1
    · exact good_tb _ m.2.1
    · exact good_tb _ m.2.2.1
  · exact good_cons m.2.2.2.1 v h
theorem good_S {own : String} {index : Nat} {y : MethodName} {code : ByteArray} {maxL n : Nat} {ret : Option FieldType} (w1 : Cond.methodLink own index y ∈ tb) (m : MS y code maxL ret n) : GoodIn tb (va_wsS own index y (Cond.code y code maxL ret :: tb)) := by
  intro v hv
  unfold va_wsS at hv
  rcases List.mem_append.mp hv with h | h
  · simp only [List.mem_cons, List.not_mem_nil, or_false] at h
    rcases h with rfl | rfl | rfl
    · exact good_tb _ w1
    · exact good_tb _ m.1
    · exact good_tb _ m.2.1
  · exact good_cons m.2.2.1 v h
section CR
variable {κ : Ctx} {cells slots : Nat} {G : Shp} {D : Dat} {pc : Nat} {lv : List (Nat × Value)} {st stk : List Value} {cc : ByteArray} {own : String} {rm : Room} {mx : Nat}
variable {y : MethodName} {code : ByteArray} {maxL index n : Nat} {ret : FieldType} {rm' : Room} {As : List Value}
theorem j_cVI (C : Cx κ cc own rm mx) {b ci N : Nat} {Cn : String} {T : u_T} {post : Int32 → Dat → Prop} (M : CtI κ.2.1 y code maxL ret rm' (.ref b :: As) G D post) (ko : isO G b ci) (hc : vwCl[ci]? = some (Cn, T, N)) (w1 : Cond.methodLink own index y ∈ tb) (mv : MV y Cn code maxL (some ret) n) (hR : rm'.frames + 1 ≤ rm.frames ∧ 8 + (maxL + 11) + rm'.locals ≤ rm.locals) (hz : rm'.cells = 0 ∧ rm'.slots = 0) (hn : As.length = n) (hst : stk = As.reverse ++ .ref b :: st) (hW : (st.map fun v => v.category).sum ≤ 8) (hcs : cells ≤ rm.cells ∧ slots ≤ rm.slots) (hd : decode cc pc = .ok (.invokevirtual index, 3)) (kk : ∀ r D', post r D' → J κ cells slots G D' (pc + 3) lv (.int r :: st)) : J κ cells slots G D pc lv stk := by
  obtain ⟨p, l, e, R, s, m, args, below, meth, c, Q, Dc, Y, A, H0, nL⟩ := κ
  intro H locs ls hP hD hS hl
  subst hst
  obtain rfl : R = rm := C.2.2.2.2.2.2.2.1
  obtain ⟨k0, hk0⟩ := PW_get (Y := Y) (D := D) ko.1 rfl
  have hrec : ∃ cellB : Cell, H[b]? = some cellB ∧ cellB.vm.isStatics = false ∧ s.vm.findClass Cn = some cellB.cls := by
    have hcell := hP k0 _ hk0
    have : ∃ fs, pE Y G D b = .inr (ci, fs) := by
      have hlt := (List.getElem?_eq_some_iff.mp hc).1
      have hlt : ci < 10 := hlt
      unfold pE
      rw [ko.2]
      rcases (show ci = 0 ∨ ci = 1 ∨ ci = 2 ∨ ci = 3 ∨ ci = 4 ∨ ci = 5 ∨ ci = 6 ∨ ci = 7 ∨ ci = 8 ∨ ci = 9 by omega) with rfl | rfl | rfl | rfl | rfl | rfl | rfl | rfl | rfl | rfl <;> exact ⟨_, rfl⟩
    obtain ⟨fs, hfs⟩ := this
    rw [hfs] at hk0
    exact va_recv C.2.2.2.2.2.1 hP hc hk0
  have hF := A_sub hD hS C.2.2.2.2.2.2.1
  refine va_calli (va_runV (As := As) (rest := st) ⟨C.1, C.2.1, C.2.2.1, C.2.2.2.1, C.2.2.2.2.1⟩ (M Dc Y H.size) (cwV n C.2.2.2.2.1 (good_V w1 mv) rfl hz.1 hz.2 mv.2.2.2.2 hR) ⟨blind, hrec, fun U hU hW => ⟨rfl, by rw [hU], by rw [hU]; exact hP, va_K.moved hW.alike C.2.2.2.2.2.1, hD.weaken (fun _ _ _ _ => trivial), C.2.2.2.2.2.2.2.2.2.2.warm hW⟩⟩ rfl hn hl.1 rfl (lv_room hW) hd hcs) hS (fun q _ h => hF q h) hF (fun r u t H1 locs1 ht hvm hw hB hz1 hk1 hS1 => ?_)
  obtain ⟨hP1, hK1, hD1⟩ := hB
  rw [ht] at hP1
  exact kk r u hw H1 locs1 ls hP1 (hD1.weaken (fun k q hq h => hF _ h)) hS1 hl
theorem j_cSI (C : Cx κ cc own rm mx) {post : Int32 → Dat → Prop} (M : CtI κ.2.1 y code maxL ret rm' As G D post) (w1 : Cond.methodLink own index y ∈ tb) (mv : MS y code maxL (some ret) n) (hR : rm'.frames + 1 ≤ rm.frames ∧ 8 + (maxL + 11) + rm'.locals ≤ rm.locals) (hz : rm'.cells = 0 ∧ rm'.slots = 0) (hn : As.length = n) (hst : stk = As.reverse ++ st) (hW : (st.map fun v => v.category).sum ≤ 8) (hcs : cells ≤ rm.cells ∧ slots ≤ rm.slots) (hd : decode cc pc = .ok (.invokestatic index, 3)) (kk : ∀ r D', post r D' → J κ cells slots G D' (pc + 3) lv (.int r :: st)) : J κ cells slots G D pc lv stk := by
  obtain ⟨p, l, e, R, s, m, args, below, meth, c, Q, Dc, Y, A, H0, nL⟩ := κ
  intro H locs ls hP hD hS hl
  subst hst
  obtain rfl : R = rm := C.2.2.2.2.2.2.2.1
  have hF := A_sub hD hS C.2.2.2.2.2.2.1
  refine va_calli (va_runS (As := As) (rest := st) ⟨C.1, C.2.1, C.2.2.1, C.2.2.2.1, C.2.2.2.2.1⟩ (M Dc Y H.size) (va_cwS n C.2.2.2.2.1 (good_S w1 mv) rfl hz.1 hz.2 mv.2.2.2 hR) ⟨blind, fun U hU hW => ⟨rfl, by rw [hU], by rw [hU]; exact hP, va_K.moved hW.alike C.2.2.2.2.2.1, hD.weaken (fun _ _ _ _ => trivial), C.2.2.2.2.2.2.2.2.2.2.warm hW⟩⟩ rfl hn hl.1 rfl (lv_room hW) hd hcs) hS (fun q _ h => hF q h) hF (fun r u t H1 locs1 ht hvm hw hB hz1 hk1 hS1 => ?_)
  obtain ⟨hP1, hK1, hD1⟩ := hB
  rw [ht] at hP1
  exact kk r u hw H1 locs1 ls hP1 (hD1.weaken (fun k q hq h => hF _ h)) hS1 hl
theorem j_cNI (C : Cx κ cc own rm mx) {host : String} {post : Int32 → Dat → Prop} (M : CtI κ.2.1 y code maxL ret rm' As G D post) (w1 : Cond.methodLinkNest own index y host ∈ nws) (mv : MS y code maxL (some ret) n) (hR : rm'.frames + 1 ≤ rm.frames ∧ 8 + (maxL + 11) + rm'.locals ≤ rm.locals) (hz : rm'.cells = 0 ∧ rm'.slots = 0) (hn : As.length = n) (hst : stk = As.reverse ++ st) (hW : (st.map fun v => v.category).sum ≤ 8) (hcs : cells ≤ rm.cells ∧ slots ≤ rm.slots) (hd : decode cc pc = .ok (.invokestatic index, 3)) (kk : ∀ r D', post r D' → J κ cells slots G D' (pc + 3) lv (.int r :: st)) : J κ cells slots G D pc lv stk := by
  obtain ⟨p, l, e, R, s, m, args, below, meth, c, Q, Dc, Y, A, H0, nL⟩ := κ
  intro H locs ls hP hD hS hl
  subst hst
  obtain rfl : R = rm := C.2.2.2.2.2.2.2.1
  have hF := A_sub hD hS C.2.2.2.2.2.2.1
  refine va_calli (va_runSN (host := host) (As := As) (rest := st) ⟨C.1, C.2.1, C.2.2.1, C.2.2.2.1, C.2.2.2.2.1⟩ (M Dc Y H.size) ⟨va_cnB n C.2.2.2.2.1 (good_cons mv.2.2.1) rfl hz.1 hz.2 (C.2.2.2.2.2.2.2.2.2.2 _ w1) (C.2.2.2.2.1 _ mv.2.1) mv.2.2.2 hR, C.2.2.2.2.1 _ mv.1, trivial⟩ ⟨blind, fun U hU hW => ⟨rfl, by rw [hU], by rw [hU]; exact hP, va_K.moved hW.alike C.2.2.2.2.2.1, hD.weaken (fun _ _ _ _ => trivial), C.2.2.2.2.2.2.2.2.2.2.warm hW⟩⟩ rfl hn hl.1 rfl (lv_room hW) hd hcs) hS (fun q _ h => hF q h) hF (fun r u t H1 locs1 ht hvm hw hB hz1 hk1 hS1 => ?_)
  obtain ⟨hP1, hK1, hD1⟩ := hB
  rw [ht] at hP1
  exact kk r u hw H1 locs1 ls hP1 (hD1.weaken (fun k q hq h => hF _ h)) hS1 hl
theorem j_cVL (C : Cx κ cc own rm mx) {b ci N : Nat} {Cn : String} {T : u_T} {post : Int64 → Dat → Prop} (M : CtL κ.2.1 y code maxL rm' (.ref b :: As) G D post) (ko : isO G b ci) (hc : vwCl[ci]? = some (Cn, T, N)) (w1 : Cond.methodLink own index y ∈ tb) (mv : MV y Cn code maxL (some .long) n) (hR : rm'.frames + 1 ≤ rm.frames ∧ 8 + (maxL + 11) + rm'.locals ≤ rm.locals) (hz : rm'.cells = 0 ∧ rm'.slots = 0) (hn : As.length = n) (hst : stk = As.reverse ++ .ref b :: st) (hW : (st.map fun v => v.category).sum ≤ 8) (hcs : cells ≤ rm.cells ∧ slots ≤ rm.slots) (hd : decode cc pc = .ok (.invokevirtual index, 3)) (kk : ∀ r D', post r D' → J κ cells slots G D' (pc + 3) lv (.long r :: st)) : J κ cells slots G D pc lv stk := by
  obtain ⟨p, l, e, R, s, m, args, below, meth, c, Q, Dc, Y, A, H0, nL⟩ := κ
  intro H locs ls hP hD hS hl
  subst hst
  obtain rfl : R = rm := C.2.2.2.2.2.2.2.1
  obtain ⟨k0, hk0⟩ := PW_get (Y := Y) (D := D) ko.1 rfl
  have hrec : ∃ cellB : Cell, H[b]? = some cellB ∧ cellB.vm.isStatics = false ∧ s.vm.findClass Cn = some cellB.cls := by
    have hcell := hP k0 _ hk0
    have : ∃ fs, pE Y G D b = .inr (ci, fs) := by
      have hlt := (List.getElem?_eq_some_iff.mp hc).1
      have hlt : ci < 10 := hlt
      unfold pE
      rw [ko.2]
      rcases (show ci = 0 ∨ ci = 1 ∨ ci = 2 ∨ ci = 3 ∨ ci = 4 ∨ ci = 5 ∨ ci = 6 ∨ ci = 7 ∨ ci = 8 ∨ ci = 9 by omega) with rfl | rfl | rfl | rfl | rfl | rfl | rfl | rfl | rfl | rfl <;> exact ⟨_, rfl⟩
    obtain ⟨fs, hfs⟩ := this
    rw [hfs] at hk0
    exact va_recv C.2.2.2.2.2.1 hP hc hk0
  have hF := A_sub hD hS C.2.2.2.2.2.2.1
  refine va_calll (va_runV (As := As) (rest := st) ⟨C.1, C.2.1, C.2.2.1, C.2.2.2.1, C.2.2.2.2.1⟩ (M Dc Y H.size) (cwV n C.2.2.2.2.1 (good_V w1 mv) rfl hz.1 hz.2 mv.2.2.2.2 hR) ⟨blind, hrec, fun U hU hW => ⟨rfl, by rw [hU], by rw [hU]; exact hP, va_K.moved hW.alike C.2.2.2.2.2.1, hD.weaken (fun _ _ _ _ => trivial), C.2.2.2.2.2.2.2.2.2.2.warm hW⟩⟩ rfl hn hl.1 rfl (lv_room hW) hd hcs) hS (fun q _ h => hF q h) hF (fun r u t H1 locs1 ht hvm hw hB hz1 hk1 hS1 => ?_)
  obtain ⟨hP1, hK1, hD1⟩ := hB
  rw [ht] at hP1
  exact kk r u hw H1 locs1 ls hP1 (hD1.weaken (fun k q hq h => hF _ h)) hS1 hl
theorem j_cSL (C : Cx κ cc own rm mx) {post : Int64 → Dat → Prop} (M : CtL κ.2.1 y code maxL rm' As G D post) (w1 : Cond.methodLink own index y ∈ tb) (mv : MS y code maxL (some .long) n) (hR : rm'.frames + 1 ≤ rm.frames ∧ 8 + (maxL + 11) + rm'.locals ≤ rm.locals) (hz : rm'.cells = 0 ∧ rm'.slots = 0) (hn : As.length = n) (hst : stk = As.reverse ++ st) (hW : (st.map fun v => v.category).sum ≤ 8) (hcs : cells ≤ rm.cells ∧ slots ≤ rm.slots) (hd : decode cc pc = .ok (.invokestatic index, 3)) (kk : ∀ r D', post r D' → J κ cells slots G D' (pc + 3) lv (.long r :: st)) : J κ cells slots G D pc lv stk := by
  obtain ⟨p, l, e, R, s, m, args, below, meth, c, Q, Dc, Y, A, H0, nL⟩ := κ
  intro H locs ls hP hD hS hl
  subst hst
  obtain rfl : R = rm := C.2.2.2.2.2.2.2.1
  have hF := A_sub hD hS C.2.2.2.2.2.2.1
  refine va_calll (va_runS (As := As) (rest := st) ⟨C.1, C.2.1, C.2.2.1, C.2.2.2.1, C.2.2.2.2.1⟩ (M Dc Y H.size) (va_cwS n C.2.2.2.2.1 (good_S w1 mv) rfl hz.1 hz.2 mv.2.2.2 hR) ⟨blind, fun U hU hW => ⟨rfl, by rw [hU], by rw [hU]; exact hP, va_K.moved hW.alike C.2.2.2.2.2.1, hD.weaken (fun _ _ _ _ => trivial), C.2.2.2.2.2.2.2.2.2.2.warm hW⟩⟩ rfl hn hl.1 rfl (lv_room hW) hd hcs) hS (fun q _ h => hF q h) hF (fun r u t H1 locs1 ht hvm hw hB hz1 hk1 hS1 => ?_)
  obtain ⟨hP1, hK1, hD1⟩ := hB
  rw [ht] at hP1
  exact kk r u hw H1 locs1 ls hP1 (hD1.weaken (fun k q hq h => hF _ h)) hS1 hl
theorem j_cVV (C : Cx κ cc own rm mx) {b ci N : Nat} {Cn : String} {T : u_T} {post : Dat → Prop} (M : CtV κ.2.1 y code maxL rm' (.ref b :: As) G D post) (ko : isO G b ci) (hc : vwCl[ci]? = some (Cn, T, N)) (w1 : Cond.methodLink own index y ∈ tb) (mv : MV y Cn code maxL none n) (hR : rm'.frames + 1 ≤ rm.frames ∧ 8 + (maxL + 11) + rm'.locals ≤ rm.locals) (hz : rm'.cells = 0 ∧ rm'.slots = 0) (hn : As.length = n) (hst : stk = As.reverse ++ .ref b :: st) (hW : (st.map fun v => v.category).sum ≤ 8) (hcs : cells ≤ rm.cells ∧ slots ≤ rm.slots) (hd : decode cc pc = .ok (.invokevirtual index, 3)) (kk : ∀ D', post D' → J κ cells slots G D' (pc + 3) lv st) : J κ cells slots G D pc lv stk := by
  obtain ⟨p, l, e, R, s, m, args, below, meth, c, Q, Dc, Y, A, H0, nL⟩ := κ
  intro H locs ls hP hD hS hl
  subst hst
  obtain rfl : R = rm := C.2.2.2.2.2.2.2.1
  obtain ⟨k0, hk0⟩ := PW_get (Y := Y) (D := D) ko.1 rfl
  have hrec : ∃ cellB : Cell, H[b]? = some cellB ∧ cellB.vm.isStatics = false ∧ s.vm.findClass Cn = some cellB.cls := by
    have hcell := hP k0 _ hk0
    have : ∃ fs, pE Y G D b = .inr (ci, fs) := by
      have hlt := (List.getElem?_eq_some_iff.mp hc).1
      have hlt : ci < 10 := hlt
      unfold pE
      rw [ko.2]
      rcases (show ci = 0 ∨ ci = 1 ∨ ci = 2 ∨ ci = 3 ∨ ci = 4 ∨ ci = 5 ∨ ci = 6 ∨ ci = 7 ∨ ci = 8 ∨ ci = 9 by omega) with rfl | rfl | rfl | rfl | rfl | rfl | rfl | rfl | rfl | rfl <;> exact ⟨_, rfl⟩
    obtain ⟨fs, hfs⟩ := this
    rw [hfs] at hk0
    exact va_recv C.2.2.2.2.2.1 hP hc hk0
  have hF := A_sub hD hS C.2.2.2.2.2.2.1
  refine va_callv (va_runV (As := As) (rest := st) ⟨C.1, C.2.1, C.2.2.1, C.2.2.2.1, C.2.2.2.2.1⟩ (M Dc Y H.size) (cwV n C.2.2.2.2.1 (good_V w1 mv) rfl hz.1 hz.2 mv.2.2.2.2 hR) ⟨blind, hrec, fun U hU hW => ⟨rfl, by rw [hU], by rw [hU]; exact hP, va_K.moved hW.alike C.2.2.2.2.2.1, hD.weaken (fun _ _ _ _ => trivial), C.2.2.2.2.2.2.2.2.2.2.warm hW⟩⟩ rfl hn hl.1 rfl (lv_room hW) hd hcs) hS (fun q _ h => hF q h) hF (fun u t H1 locs1 ht hvm hw hB hz1 hk1 hS1 => ?_)
  obtain ⟨hP1, hK1, hD1⟩ := hB
  rw [ht] at hP1
  exact kk u hw H1 locs1 ls hP1 (hD1.weaken (fun k q hq h => hF _ h)) hS1 hl
theorem j_cSV (C : Cx κ cc own rm mx) {post : Dat → Prop} (M : CtV κ.2.1 y code maxL rm' As G D post) (w1 : Cond.methodLink own index y ∈ tb) (mv : MS y code maxL none n) (hR : rm'.frames + 1 ≤ rm.frames ∧ 8 + (maxL + 11) + rm'.locals ≤ rm.locals) (hz : rm'.cells = 0 ∧ rm'.slots = 0) (hn : As.length = n) (hst : stk = As.reverse ++ st) (hW : (st.map fun v => v.category).sum ≤ 8) (hcs : cells ≤ rm.cells ∧ slots ≤ rm.slots) (hd : decode cc pc = .ok (.invokestatic index, 3)) (kk : ∀ D', post D' → J κ cells slots G D' (pc + 3) lv st) : J κ cells slots G D pc lv stk := by
  obtain ⟨p, l, e, R, s, m, args, below, meth, c, Q, Dc, Y, A, H0, nL⟩ := κ
  intro H locs ls hP hD hS hl
  subst hst
  obtain rfl : R = rm := C.2.2.2.2.2.2.2.1
  have hF := A_sub hD hS C.2.2.2.2.2.2.1
  refine va_callv (va_runS (As := As) (rest := st) ⟨C.1, C.2.1, C.2.2.1, C.2.2.2.1, C.2.2.2.2.1⟩ (M Dc Y H.size) (va_cwS n C.2.2.2.2.1 (good_S w1 mv) rfl hz.1 hz.2 mv.2.2.2 hR) ⟨blind, fun U hU hW => ⟨rfl, by rw [hU], by rw [hU]; exact hP, va_K.moved hW.alike C.2.2.2.2.2.1, hD.weaken (fun _ _ _ _ => trivial), C.2.2.2.2.2.2.2.2.2.2.warm hW⟩⟩ rfl hn hl.1 rfl (lv_room hW) hd hcs) hS (fun q _ h => hF q h) hF (fun u t H1 locs1 ht hvm hw hB hz1 hk1 hS1 => ?_)
  obtain ⟨hP1, hK1, hD1⟩ := hB
  rw [ht] at hP1
  exact kk u hw H1 locs1 ls hP1 (hD1.weaken (fun k q hq h => hF _ h)) hS1 hl
theorem j_cVQ (C : Cx κ cc own rm mx) {b ci N : Nat} {Cn : String} {T : u_T} {post : Option Nat → Dat → Prop} (M : CtQ κ.2.1 y code maxL ret rm' (.ref b :: As) G D post) (ko : isO G b ci) (hc : vwCl[ci]? = some (Cn, T, N)) (w1 : Cond.methodLink own index y ∈ tb) (mv : MV y Cn code maxL (some ret) n) (hR : rm'.frames + 1 ≤ rm.frames ∧ 8 + (maxL + 11) + rm'.locals ≤ rm.locals) (hz : rm'.cells = 0 ∧ rm'.slots = 0) (hn : As.length = n) (hst : stk = As.reverse ++ .ref b :: st) (hW : (st.map fun v => v.category).sum ≤ 8) (hcs : cells ≤ rm.cells ∧ slots ≤ rm.slots) (hd : decode cc pc = .ok (.invokevirtual index, 3)) (kk : ∀ r D', post r D' → J κ cells slots G D' (pc + 3) lv (va_rf r :: st)) : J κ cells slots G D pc lv stk := by
  obtain ⟨p, l, e, R, s, m, args, below, meth, c, Q, Dc, Y, A, H0, nL⟩ := κ
  intro H locs ls hP hD hS hl
  subst hst
  obtain rfl : R = rm := C.2.2.2.2.2.2.2.1
  obtain ⟨k0, hk0⟩ := PW_get (Y := Y) (D := D) ko.1 rfl
  have hrec : ∃ cellB : Cell, H[b]? = some cellB ∧ cellB.vm.isStatics = false ∧ s.vm.findClass Cn = some cellB.cls := by
    have hcell := hP k0 _ hk0
    have : ∃ fs, pE Y G D b = .inr (ci, fs) := by
      have hlt := (List.getElem?_eq_some_iff.mp hc).1
      have hlt : ci < 10 := hlt
      unfold pE
      rw [ko.2]
      rcases (show ci = 0 ∨ ci = 1 ∨ ci = 2 ∨ ci = 3 ∨ ci = 4 ∨ ci = 5 ∨ ci = 6 ∨ ci = 7 ∨ ci = 8 ∨ ci = 9 by omega) with rfl | rfl | rfl | rfl | rfl | rfl | rfl | rfl | rfl | rfl <;> exact ⟨_, rfl⟩
    obtain ⟨fs, hfs⟩ := this
    rw [hfs] at hk0
    exact va_recv C.2.2.2.2.2.1 hP hc hk0
  have hF := A_sub hD hS C.2.2.2.2.2.2.1
  refine va_callq (va_runV (As := As) (rest := st) ⟨C.1, C.2.1, C.2.2.1, C.2.2.2.1, C.2.2.2.2.1⟩ (M Dc Y H.size) (cwV n C.2.2.2.2.1 (good_V w1 mv) rfl hz.1 hz.2 mv.2.2.2.2 hR) ⟨blind, hrec, fun U hU hW => ⟨rfl, by rw [hU], by rw [hU]; exact hP, va_K.moved hW.alike C.2.2.2.2.2.1, hD.weaken (fun _ _ _ _ => trivial), C.2.2.2.2.2.2.2.2.2.2.warm hW⟩⟩ rfl hn hl.1 rfl (lv_room hW) hd hcs) hS (fun q _ h => hF q h) hF (fun r u t H1 locs1 ht hvm hw hB hz1 hk1 hS1 => ?_)
  obtain ⟨hP1, hK1, hD1⟩ := hB
  rw [ht] at hP1
  exact kk r u hw H1 locs1 ls hP1 (hD1.weaken (fun k q hq h => hF _ h)) hS1 hl
theorem j_cSQ (C : Cx κ cc own rm mx) {post : Option Nat → Dat → Prop} (M : CtQ κ.2.1 y code maxL ret rm' As G D post) (w1 : Cond.methodLink own index y ∈ tb) (mv : MS y code maxL (some ret) n) (hR : rm'.frames + 1 ≤ rm.frames ∧ 8 + (maxL + 11) + rm'.locals ≤ rm.locals) (hz : rm'.cells = 0 ∧ rm'.slots = 0) (hn : As.length = n) (hst : stk = As.reverse ++ st) (hW : (st.map fun v => v.category).sum ≤ 8) (hcs : cells ≤ rm.cells ∧ slots ≤ rm.slots) (hd : decode cc pc = .ok (.invokestatic index, 3)) (kk : ∀ r D', post r D' → J κ cells slots G D' (pc + 3) lv (va_rf r :: st)) : J κ cells slots G D pc lv stk := by
  obtain ⟨p, l, e, R, s, m, args, below, meth, c, Q, Dc, Y, A, H0, nL⟩ := κ
  intro H locs ls hP hD hS hl
  subst hst
  obtain rfl : R = rm := C.2.2.2.2.2.2.2.1
  have hF := A_sub hD hS C.2.2.2.2.2.2.1
  refine va_callq (va_runS (As := As) (rest := st) ⟨C.1, C.2.1, C.2.2.1, C.2.2.2.1, C.2.2.2.2.1⟩ (M Dc Y H.size) (va_cwS n C.2.2.2.2.1 (good_S w1 mv) rfl hz.1 hz.2 mv.2.2.2 hR) ⟨blind, fun U hU hW => ⟨rfl, by rw [hU], by rw [hU]; exact hP, va_K.moved hW.alike C.2.2.2.2.2.1, hD.weaken (fun _ _ _ _ => trivial), C.2.2.2.2.2.2.2.2.2.2.warm hW⟩⟩ rfl hn hl.1 rfl (lv_room hW) hd hcs) hS (fun q _ h => hF q h) hF (fun r u t H1 locs1 ht hvm hw hB hz1 hk1 hS1 => ?_)
  obtain ⟨hP1, hK1, hD1⟩ := hB
  rw [ht] at hP1
  exact kk r u hw H1 locs1 ls hP1 (hD1.weaken (fun k q hq h => hF _ h)) hS1 hl
end CR
def RtI (κ : Ctx) (cc : ByteArray) (ret : FieldType) (G : Shp) (post : Int32 → Dat → Prop) : Prop := ∀ (pc : Nat) (lv : List (Nat × Value)) (r : Int32) (D' : Dat), decode cc pc = .ok (.ireturn, 1) → narrow ret (.int r) = .int r → post r D' → J κ 0 0 G D' pc lv [.int r]
def RtL (κ : Ctx) (cc : ByteArray) (G : Shp) (post : Int64 → Dat → Prop) : Prop := ∀ (pc : Nat) (lv : List (Nat × Value)) (r : Int64) (D' : Dat), decode cc pc = .ok (.lreturn, 1) → post r D' → J κ 0 0 G D' pc lv [.long r]
def RtV (κ : Ctx) (cc : ByteArray) (G : Shp) (post : Dat → Prop) : Prop := ∀ (pc : Nat) (lv : List (Nat × Value)) (D' : Dat), decode cc pc = .ok (.return_, 1) → post D' → J κ 0 0 G D' pc lv []
def RtQ (κ : Ctx) (cc : ByteArray) (G : Shp) (post : Option Nat → Dat → Prop) : Prop := ∀ (pc : Nat) (lv : List (Nat × Value)) (r : Option Nat) (D' : Dat), decode cc pc = .ok (.areturn, 1) → post r D' → J κ 0 0 G D' pc lv [va_rf r]
section CO
variable {l : Launch} {y : MethodName} {code : ByteArray} {maxL : Nat} {ret : FieldType} {n : Nat} {av : List Value} {G : Shp} {D : Dat} {lv : List (Nat × Value)}
theorem ctI_of {post : Int32 → Dat → Prop} (hy : plainName y.cls = true) (hlv : lv_args 0 av = lv) (hlen : (lg_sl av).length ≤ maxL) (body : ∀ κ : Ctx, κ.2.1 = l → Cx κ code y.cls (rmN n) maxL → RtI κ code ret G post → J κ 0 0 G D 0 lv []) : CtI l y code maxL ret (rmN n) av G D post := by
  intro Dc Y sz
  refine Met.ofW (cc := code) (maxL := maxL) (ret := (some ret)) hy rfl ?_
  intro p e s m args below meth c s₁ B hml hv
  obtain ⟨rfl, hsz, hP, hK, hD0, hN⟩ := hv
  subst hsz
  have hx := B.exec
  have hb := B.bytes
  have hr := B.returns
  have hts := atoms_spec (ws := Cond.code y code maxL (some ret) :: tb) B.pre
  have hown : s.vm.findClass y.cls = some m.cls := findClass_of_methodNamed B.named
  have hlocks := B.notSynchronized
  have hD := hD0.self (sz := s.heap.size)
  have hA : ∀ q : Nat, s.heap.size ≤ q → va_A (PW Y G D) s.heap.size q := fun q h => Or.inr h
  rw [lg_entry_eq]
  refine body (p, l, e, rmN n, s, m, av.toArray, below, meth, c, _, Dc, Y, va_A (PW Y G D) s.heap.size, s.heap, maxL) rfl ⟨hx, hb, hml, hown, fun w h => hts w (List.mem_cons_of_mem _ h), hK, hA, rfl, hlocks, rfl, hN⟩ ?_ s.heap [] _ hP hD va_S.rf (hlv ▸ lv_entry av hlen)
  intro pc lv r D' hd hn hp H locs ls hP hD hS hl
  exact W.zret hx hb hr hn (fun t ht hW => ⟨⟨r, D', rfl, hp, by rw [ht]; exact hP, va_K.moved hW.alike hK, hD⟩, hS.F ht⟩) hS.2.2 hd (hlocks := hlocks)
theorem ctL_of {post : Int64 → Dat → Prop} (hy : plainName y.cls = true) (hlv : lv_args 0 av = lv) (hlen : (lg_sl av).length ≤ maxL) (body : ∀ κ : Ctx, κ.2.1 = l → Cx κ code y.cls (rmN n) maxL → RtL κ code G post → J κ 0 0 G D 0 lv []) : CtL l y code maxL (rmN n) av G D post := by
  intro Dc Y sz
  refine Met.ofW (cc := code) (maxL := maxL) (ret := (some .long)) hy rfl ?_
  intro p e s m args below meth c s₁ B hml hv
  obtain ⟨rfl, hsz, hP, hK, hD0, hN⟩ := hv
  subst hsz
  have hx := B.exec
  have hb := B.bytes
  have hr := B.returns
  have hts := atoms_spec (ws := Cond.code y code maxL (some .long) :: tb) B.pre
  have hown : s.vm.findClass y.cls = some m.cls := findClass_of_methodNamed B.named
  have hlocks := B.notSynchronized
  have hD := hD0.self (sz := s.heap.size)
  have hA : ∀ q : Nat, s.heap.size ≤ q → va_A (PW Y G D) s.heap.size q := fun q h => Or.inr h
  rw [lg_entry_eq]
  refine body (p, l, e, rmN n, s, m, av.toArray, below, meth, c, _, Dc, Y, va_A (PW Y G D) s.heap.size, s.heap, maxL) rfl ⟨hx, hb, hml, hown, fun w h => hts w (List.mem_cons_of_mem _ h), hK, hA, rfl, hlocks, rfl, hN⟩ ?_ s.heap [] _ hP hD va_S.rf (hlv ▸ lv_entry av hlen)
  intro pc lv r D' hd hp H locs ls hP hD hS hl
  exact W.lret hx hb hr (fun t ht hW => ⟨⟨r, D', rfl, hp, by rw [ht]; exact hP, va_K.moved hW.alike hK, hD⟩, hS.F ht⟩) hS.2.2 hd (hlocks := hlocks)
theorem ctV_of {post : Dat → Prop} (hy : plainName y.cls = true) (hlv : lv_args 0 av = lv) (hlen : (lg_sl av).length ≤ maxL) (body : ∀ κ : Ctx, κ.2.1 = l → Cx κ code y.cls (rmN n) maxL → RtV κ code G post → J κ 0 0 G D 0 lv []) : CtV l y code maxL (rmN n) av G D post := by
  intro Dc Y sz
  refine Met.ofW (cc := code) (maxL := maxL) (ret := none) hy rfl ?_
  intro p e s m args below meth c s₁ B hml hv
  obtain ⟨rfl, hsz, hP, hK, hD0, hN⟩ := hv
  subst hsz
  have hx := B.exec
  have hb := B.bytes
  have hr := B.returns
  have hts := atoms_spec (ws := Cond.code y code maxL none :: tb) B.pre
  have hown : s.vm.findClass y.cls = some m.cls := findClass_of_methodNamed B.named
  have hlocks := B.notSynchronized
  have hD := hD0.self (sz := s.heap.size)
  have hA : ∀ q : Nat, s.heap.size ≤ q → va_A (PW Y G D) s.heap.size q := fun q h => Or.inr h
  rw [lg_entry_eq]
  refine body (p, l, e, rmN n, s, m, av.toArray, below, meth, c, _, Dc, Y, va_A (PW Y G D) s.heap.size, s.heap, maxL) rfl ⟨hx, hb, hml, hown, fun w h => hts w (List.mem_cons_of_mem _ h), hK, hA, rfl, hlocks, rfl, hN⟩ ?_ s.heap [] _ hP hD va_S.rf (hlv ▸ lv_entry av hlen)
  intro pc lv D' hd hp H locs ls hP hD hS hl
  exact W.vret hx hb hr (fun t ht hW => ⟨⟨D', rfl, hp, by rw [ht]; exact hP, va_K.moved hW.alike hK, hD⟩, hS.F ht⟩) hS.2.2 hd (hlocks := hlocks)
theorem ctQ_of {post : Option Nat → Dat → Prop} (hy : plainName y.cls = true) (hlv : lv_args 0 av = lv) (hlen : (lg_sl av).length ≤ maxL) (hrt : (∃ n, ret = .object n) ∨ ∃ t, ret = .array t) (body : ∀ κ : Ctx, κ.2.1 = l → Cx κ code y.cls (rmN n) maxL → RtQ κ code G post → J κ 0 0 G D 0 lv []) : CtQ l y code maxL ret (rmN n) av G D post := by
  intro Dc Y sz
  refine Met.ofW (cc := code) (maxL := maxL) (ret := (some ret)) hy rfl ?_
  intro p e s m args below meth c s₁ B hml hv
  obtain ⟨rfl, hsz, hP, hK, hD0, hN⟩ := hv
  subst hsz
  have hx := B.exec
  have hb := B.bytes
  have hr := B.returns
  have hts := atoms_spec (ws := Cond.code y code maxL (some ret) :: tb) B.pre
  have hown : s.vm.findClass y.cls = some m.cls := findClass_of_methodNamed B.named
  have hlocks := B.notSynchronized
  have hD := hD0.self (sz := s.heap.size)
  have hA : ∀ q : Nat, s.heap.size ≤ q → va_A (PW Y G D) s.heap.size q := fun q h => Or.inr h
  rw [lg_entry_eq]
  refine body (p, l, e, rmN n, s, m, av.toArray, below, meth, c, _, Dc, Y, va_A (PW Y G D) s.heap.size, s.heap, maxL) rfl ⟨hx, hb, hml, hown, fun w h => hts w (List.mem_cons_of_mem _ h), hK, hA, rfl, hlocks, rfl, hN⟩ ?_ s.heap [] _ hP hD va_S.rf (hlv ▸ lv_entry av hlen)
  intro pc lv r D' hd hp H locs ls hP hD hS hl
  exact W.aret hx hb hr hrt (by cases r with | none => exact Or.inl rfl | some a => exact Or.inr ⟨a, rfl⟩) (fun t ht hW => ⟨⟨r, D', rfl, hp, by rw [ht]; exact hP, va_K.moved hW.alike hK, hD⟩, hS.F ht⟩) hS.2.2 hd (hlocks := hlocks)
end CO
def mnI (x y : Int32) : Int32 := if y < x then y else x
def mxI (x y : Int32) : Int32 := if x < y then y else x
def mnL (x y : Int64) : Int64 := if y < x then y else x
def abL (x : Int64) : Int64 := if 0 < x then x else -x
section MR
variable {κ : Ctx} {cells slots : Nat} {G : Shp} {D : Dat} {pc index : Nat} {lv : List (Nat × Value)} {st : List Value} {cc : ByteArray} {own : String} {rm : Room} {mx : Nat}
theorem j_mnI (C : Cx κ cc own rm mx) {x y : Int32} (w1 : Cond.methodLink own index yJ9_min_7cf53 ∈ tb) (hR : 1 ≤ rm.frames ∧ (st.map fun v => v.category).sum + 15 ≤ rm.locals) (hcs : cells ≤ rm.cells ∧ slots ≤ rm.slots) (hd : decode cc pc = .ok (.invokestatic index, 3)) (kk : J κ cells slots G D (pc + 3) lv (.int (mnI x y) :: st)) : J κ cells slots G D pc lv (.int y :: .int x :: st) := by
  obtain ⟨p, l, e, R, s, m, args, below, meth, c, Q, Dc, Y, A, H0, nL⟩ := κ
  intro H locs ls hP hD hS hl
  obtain rfl : R = rm := C.2.2.2.2.2.2.2.1
  exact va_mmin C.1 C.2.1 (C.2.2.1.trans hl.1.symm) C.2.2.2.1 (C.2.2.2.2.1 _ w1) (C.2.2.2.2.1 _ (show Cond.static Lib.Math.min.name ∈ tb from k_508)) (C.2.2.2.2.1 _ (show Cond.initialized "java/lang/Math" ∈ tb from k_11)) (C.2.2.2.2.1 _ (show Cond.code Lib.Math.min.name Lib.Math.min.code 2 (some .int) ∈ tb from k_509)) hR.1 (by have := hR.2; omega) hcs.1 hcs.2 hd (kk H locs ls hP hD hS hl)
theorem j_mxI (C : Cx κ cc own rm mx) {x y : Int32} (w1 : Cond.methodLink own index yJ9_max_7cf53 ∈ tb) (hR : 1 ≤ rm.frames ∧ (st.map fun v => v.category).sum + 15 ≤ rm.locals) (hcs : cells ≤ rm.cells ∧ slots ≤ rm.slots) (hd : decode cc pc = .ok (.invokestatic index, 3)) (kk : J κ cells slots G D (pc + 3) lv (.int (mxI x y) :: st)) : J κ cells slots G D pc lv (.int y :: .int x :: st) := by
  obtain ⟨p, l, e, R, s, m, args, below, meth, c, Q, Dc, Y, A, H0, nL⟩ := κ
  intro H locs ls hP hD hS hl
  obtain rfl : R = rm := C.2.2.2.2.2.2.2.1
  exact va_mmax C.1 C.2.1 (C.2.2.1.trans hl.1.symm) C.2.2.2.1 (C.2.2.2.2.1 _ w1) (C.2.2.2.2.1 _ (show Cond.static Lib.Math.max.name ∈ tb from k_433)) (C.2.2.2.2.1 _ (show Cond.initialized "java/lang/Math" ∈ tb from k_11)) (C.2.2.2.2.1 _ (show Cond.code Lib.Math.max.name Lib.Math.max.code 2 (some .int) ∈ tb from k_434)) hR.1 (by have := hR.2; omega) hcs.1 hcs.2 hd (kk H locs ls hP hD hS hl)
theorem j_mnL (C : Cx κ cc own rm mx) {x y : Int64} (w1 : Cond.methodLink own index yJ9_min_f86c9 ∈ tb) (hR : 1 ≤ rm.frames ∧ (st.map fun v => v.category).sum + 15 ≤ rm.locals) (hcs : cells ≤ rm.cells ∧ slots ≤ rm.slots) (hd : decode cc pc = .ok (.invokestatic index, 3)) (kk : J κ cells slots G D (pc + 3) lv (.long (mnL x y) :: st)) : J κ cells slots G D pc lv (.long y :: .long x :: st) := by
  obtain ⟨p, l, e, R, s, m, args, below, meth, c, Q, Dc, Y, A, H0, nL⟩ := κ
  intro H locs ls hP hD hS hl
  obtain rfl : R = rm := C.2.2.2.2.2.2.2.1
  exact va_mmin_long C.1 C.2.1 (C.2.2.1.trans hl.1.symm) C.2.2.2.1 (C.2.2.2.2.1 _ w1) (C.2.2.2.2.1 _ (show Cond.static Lib.MathLoose.min_long.x ∈ tb from k_1042)) (C.2.2.2.2.1 _ (show Cond.initialized "java/lang/Math" ∈ tb from k_11)) (C.2.2.2.2.1 _ (show Cond.code Lib.MathLoose.min_long.x Lib.MathLoose.min_long.code 4 (some .long) ∈ tb from k_1043)) hR.1 (by have := hR.2; omega) hcs.1 hcs.2 hd (kk H locs ls hP hD hS hl)
theorem j_abL (C : Cx κ cc own rm mx) {x : Int64} (w1 : Cond.methodLink own index yJ9_abs_067f4 ∈ tb) (hR : 1 ≤ rm.frames ∧ (st.map fun v => v.category).sum + 15 ≤ rm.locals) (hcs : cells ≤ rm.cells ∧ slots ≤ rm.slots) (hd : decode cc pc = .ok (.invokestatic index, 3)) (kk : J κ cells slots G D (pc + 3) lv (.long (abL x) :: st)) : J κ cells slots G D pc lv (.long x :: st) := by
  obtain ⟨p, l, e, R, s, m, args, below, meth, c, Q, Dc, Y, A, H0, nL⟩ := κ
  intro H locs ls hP hD hS hl
  obtain rfl : R = rm := C.2.2.2.2.2.2.2.1
  exact va_mabs_long C.1 C.2.1 (C.2.2.1.trans hl.1.symm) C.2.2.2.1 (C.2.2.2.2.1 _ w1) (C.2.2.2.2.1 _ (show Cond.static Lib.MathLoose.abs_long.x ∈ tb from k_482)) (C.2.2.2.2.1 _ (show Cond.initialized "java/lang/Math" ∈ tb from k_11)) (C.2.2.2.2.1 _ (show Cond.code Lib.MathLoose.abs_long.x Lib.MathLoose.abs_long.code 2 (some .long) ∈ tb from k_483)) hR.1 (by have := hR.2; omega) hcs.1 hcs.2 hd (kk H locs ls hP hD hS hl)
end MR
