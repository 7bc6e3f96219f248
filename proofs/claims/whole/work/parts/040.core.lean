/-! the pool: a shape (addresses, kinds, lengths, references) and its data (ints, longs) -/
abbrev Shp : Type := List Nat × (Nat → Nat) × (Nat → Nat) × (Nat → Nat → Option Nat)
abbrev Dat : Type := (Nat → Nat → Int32) × (Nat → Nat → Int64)
def pe (Y : Nat → ClassId) (k n : Nat) (r : Nat → Option Nat) (i : Nat → Int32) (j : Nat → Int64) : va_E := match k with
  | 0 => .inr (0, [va_rf (r 0), .int (i 1), .int (i 2)])
  | 1 => .inr (1, [va_rf (r 0), va_rf (r 1), va_rf (r 2), va_rf (r 3), va_rf (r 4), .int (i 5)])
  | 2 => .inr (2, [va_rf (r 0), va_rf (r 1), va_rf (r 2), va_rf (r 3), va_rf (r 4), va_rf (r 5), va_rf (r 6), va_rf (r 7), va_rf (r 8), va_rf (r 9), .int (i 10), .int (i 11), .int (i 12), .int (i 13)])
  | 3 => .inr (3, [va_rf (r 0), va_rf (r 1), va_rf (r 2), va_rf (r 3), va_rf (r 4), .int (i 5), .int (i 6), .int (i 7)])
  | 4 => .inr (4, [va_rf (r 0), .int (i 1)])
  | 5 => .inr (5, [va_rf (r 0), va_rf (r 1), va_rf (r 2), va_rf (r 3), va_rf (r 4), va_rf (r 5)])
  | 6 => .inr (6, [va_rf (r 0), .int (i 1)])
  | 7 => .inr (7, [va_rf (r 0), .int (i 1)])
  | 8 => .inr (8, [va_rf (r 0), va_rf (r 1), va_rf (r 2), va_rf (r 3), va_rf (r 4), va_rf (r 5), va_rf (r 6), va_rf (r 7), .int (i 8)])
  | 9 => .inr (9, [.int (i 0), va_rf (r 1), .int (i 2), va_rf (r 3), va_rf (r 4), va_rf (r 5), .int (i 6), .int (i 7), va_rf (r 8), .int (i 9), va_rf (r 10), va_rf (r 11), va_rf (r 12), va_rf (r 13), va_rf (r 14), va_rf (r 15), va_rf (r 16), va_rf (r 17), va_rf (r 18), va_rf (r 19), va_rf (r 20), .int (i 21), va_rf (r 22), va_rf (r 23), va_rf (r 24), .long (j 25), va_rf (r 26), va_rf (r 27), va_rf (r 28), va_rf (r 29)])
  | 10 => .inl (Y 0, n, .inl i)
  | 11 => .inl (Y 1, n, .inl i)
  | 12 => .inl (Y 2, n, .inr (.inl j))
  | 13 => .inl (Y 3, n, .inl i)
  | 14 => .inl (Y 4, n, .inr (.inr (.inr (.inr r))))
  | 15 => .inl (Y 5, n, .inr (.inr (.inr (.inr r))))
  | 16 => .inl (Y 6, n, .inr (.inr (.inr (.inr r))))
  | 17 => .inl (Y 7, n, .inr (.inr (.inr (.inr r))))
  | _ => .inl (Y 0, 0, .inl i)
def pE (Y : Nat → ClassId) (G : Shp) (D : Dat) (a : Nat) : va_E := pe Y (G.2.1 a) (G.2.2.1 a) (G.2.2.2 a) (D.1 a) (D.2 a)
def PW (Y : Nat → ClassId) (G : Shp) (D : Dat) : va_W := [] ++ va_pl G.1 (pE Y G D)
def isO (G : Shp) (a k : Nat) : Prop := a ∈ G.1 ∧ G.2.1 a = k
def isB (x : Int32) : Prop := x = 0 ∨ x = 1
def dI (D : Dat) (a k : Nat) (v : Int32) : Dat := (va_up D.1 a (va_up (D.1 a) k v), D.2)
def dJ (D : Dat) (a k : Nat) (v : Int64) : Dat := (D.1, va_up D.2 a (va_up (D.2 a) k v))
def gRf (G : Shp) (a k : Nat) (v : Option Nat) : Shp := (G.1, G.2.1, G.2.2.1, va_up G.2.2.2 a (va_up (G.2.2.2 a) k v))
def tyl (Y : Nat → ClassId) : List (ClassId × FieldType) := [(Y 0, .byte), (Y 1, .int), (Y 2, .long), (Y 3, .boolean), (Y 4, .object "SeasonRows$Big"), (Y 5, .object "SeasonRows$Row"), (Y 6, .object "SeasonRows$TickSet"), (Y 7, .array .long)]
theorem isB_n {x : Int32} (h : isB x) : narrow .boolean (.int x) = .int x := by rcases h with rfl | rfl <;> rfl
theorem isB_f {x : Int32} (h : isB x) : fits .boolean (.int x) = true := by rcases h with rfl | rfl <;> rfl
theorem pE_dI {Y : Nat → ClassId} {G : Shp} {D : Dat} {a k : Nat} {v : Int32} (b : Nat) (h : b ≠ a) : pE Y G (dI D a k v) b = pE Y G D b := by
  unfold pE dI; simp only [va_up_ne _ _ h]
theorem pE_dJ {Y : Nat → ClassId} {G : Shp} {D : Dat} {a k : Nat} {v : Int64} (b : Nat) (h : b ≠ a) : pE Y G (dJ D a k v) b = pE Y G D b := by
  unfold pE dJ; simp only [va_up_ne _ _ h]
theorem pE_gR {Y : Nat → ClassId} {G : Shp} {D : Dat} {a k : Nat} {v : Option Nat} (b : Nat) (h : b ≠ a) : pE Y (gRf G a k v) D b = pE Y G D b := by
  unfold pE gRf; simp only [va_up_ne _ _ h]
theorem pE_up {Y : Nat → ClassId} {G G' : Shp} {D D' : Dat} {a : Nat} {e : va_E} (h1 : pE Y G' D' a = e) (h2 : ∀ b, b ≠ a → pE Y G' D' b = pE Y G D b) : ∀ b, va_up (pE Y G D) a e b = pE Y G' D' b := by
  intro b
  by_cases hb : b = a
  · subst hb; rw [va_up_self, h1]
  · rw [va_up_ne _ _ hb, h2 b hb]
theorem PW_get {Y : Nat → ClassId} {G : Shp} {D : Dat} {a : Nat} (h : a ∈ G.1) {e : va_E} (he : pE Y G D a = e) : ∃ k : Nat, (PW Y G D)[k]? = some (a, e) := by
  obtain ⟨k, hk⟩ := va_pl_get (X := []) (f := pE Y G D) h
  exact ⟨k, by rw [← he]; exact hk⟩
theorem PW_set {A : Nat → Prop} {Y : Nat → ClassId} {G G' : Shp} {D D' : Dat} {a k : Nat} {e e' : va_E} (hD : va_D A (PW Y G D)) (h : a ∈ G.1) (he : pE Y G D a = e) (hk : (PW Y G D)[k]? = some (a, e)) (hL : G'.1 = G.1) (h1 : pE Y G' D' a = e') (h2 : ∀ b, b ≠ a → pE Y G' D' b = pE Y G D b) : (PW Y G D).set k (a, e') = PW Y G' D' := by
  have hk2 : ([] ++ va_pl G.1 (pE Y G D))[k]? = some (a, pE Y G D a) := by rw [he]; exact hk
  have h3 := va_pl_set (e := e') hD h hk2
  unfold PW
  rw [hL]
  exact h3.trans (congrArg (fun z => [] ++ z) (va_pl_congr (pE_up h1 h2)))
abbrev Ctx : Type := Program × Launch × Env × Room × State × MethodId × Array Value × List Frame × Method × Code × (State → Prop) × va_G × (Nat → ClassId) × (Nat → Prop) × Heap × Nat
/-- the machine at pc, with the pool (G, D), the locals lv and the stack st, comes to what the context wants -/
def J (κ : Ctx) (cells slots : Nat) (G : Shp) (D : Dat) (pc : Nat) (lv : List (Nat × Value)) (st : List Value) : Prop := match κ with
  | (p, l, e, R, s, m, args, below, meth, c, Q, Dc, Y, A, H0, nL) => ∀ (H : Heap) (locs : List Loc) (ls : Array Slot), va_P Dc vwCl (PW Y G D) H → va_D A (PW Y G D) → va_S A H0 H locs → lv_has ls nL lv → W p l e R s m args below meth c H locs cells slots Q (F0 m pc ls st)
def nws : List Cond := [.methodLinkNest RX3 (43) yX8_isTick RX8, .methodLinkNest RX7 (19) yX8_isTick RX8, .methodLinkNest RX2 (209) yX8_isFarTick RX8, .methodLinkNest RX2 (203) yX8_isTick RX8]
def NW (U : State) : Prop := ∀ w ∈ nws, va_Nw w U
def Cx (κ : Ctx) (cc : ByteArray) (own : String) (rm : Room) (mx : Nat) : Prop := match κ with
  | (p, _, _, R, s, m, args, _, meth, c, _, Dc, Y, A, H0, nL) => p.tables.exec = Jvm.exec ∧ c.code = cc ∧ c.maxLocals = nL ∧ s.vm.findClass own = some m.cls ∧ (∀ w ∈ tb, w.before args s = true) ∧ va_K Dc vwCl (tyl Y) s ∧ (∀ q, H0.size ≤ q → A q) ∧ R = rm ∧ meth.locks = false ∧ nL = mx ∧ NW s
section JR
variable {κ : Ctx} {cells slots : Nat} {G : Shp} {D : Dat} {pc : Nat} {lv : List (Nat × Value)} {st : List Value} {cc : ByteArray} {own : String} {rm : Room} {mx : Nat}
theorem J.sub {lv' : List (Nat × Value)} (h : J κ cells slots G D pc lv' st) (ks : List Nat) (hl : lv_pick lv ks = lv') : J κ cells slots G D pc lv st := by
  obtain ⟨p, l, e, R, s, m, args, below, meth, c, Q, Dc, Y, A, H0, nL⟩ := κ
  intro H locs ls hP hD hS h2
  exact h H locs ls hP hD hS (lv_sub h2 ks hl)
theorem j_iconst (C : Cx κ cc own rm mx) {n : Int} {v : Int32} (hd : decode cc pc = .ok (.iconst n, 1)) (hv : Int32.ofInt n = v) (k : J κ cells slots G D (pc + 1) lv (.int v :: st)) : J κ cells slots G D pc lv (st) := by
  obtain ⟨p, l, e, R, s, m, args, below, meth, c, Q, Dc, Y, A, H0, nL⟩ := κ
  intro H locs ls hP hD hS hl
  exact lv_iconst C.1 C.2.1 hd hv (k H locs ls hP hD hS hl)
theorem j_bipush (C : Cx κ cc own rm mx) {n : Int} {v : Int32} (hd : decode cc pc = .ok (.bipush n, 2)) (hv : (Int8.ofInt n).toInt32 = v) (k : J κ cells slots G D (pc + 2) lv (.int v :: st)) : J κ cells slots G D pc lv (st) := by
  obtain ⟨p, l, e, R, s, m, args, below, meth, c, Q, Dc, Y, A, H0, nL⟩ := κ
  intro H locs ls hP hD hS hl
  exact lv_bipush C.1 C.2.1 hd hv (k H locs ls hP hD hS hl)
theorem j_sipush (C : Cx κ cc own rm mx) {n : Int} {v : Int32} (hd : decode cc pc = .ok (.sipush n, 3)) (hv : (Int16.ofInt n).toInt32 = v) (k : J κ cells slots G D (pc + 3) lv (.int v :: st)) : J κ cells slots G D pc lv (st) := by
  obtain ⟨p, l, e, R, s, m, args, below, meth, c, Q, Dc, Y, A, H0, nL⟩ := κ
  intro H locs ls hP hD hS hl
  exact lv_sipush C.1 C.2.1 hd hv (k H locs ls hP hD hS hl)
theorem j_lconst (C : Cx κ cc own rm mx) {n : Fin 2} {v : Int64} (hd : decode cc pc = .ok (.lconst n, 1)) (hv : Int64.ofNat (n : Nat) = v) (k : J κ cells slots G D (pc + 1) lv (.long v :: st)) : J κ cells slots G D pc lv (st) := by
  obtain ⟨p, l, e, R, s, m, args, below, meth, c, Q, Dc, Y, A, H0, nL⟩ := κ
  intro H locs ls hP hD hS hl
  exact lv_lconst C.1 C.2.1 hd hv (k H locs ls hP hD hS hl)
theorem j_iadd (C : Cx κ cc own rm mx) {x y : Int32} (hd : decode cc pc = .ok (.iadd, 1))  (k : J κ cells slots G D (pc + 1) lv (.int (x + y) :: st)) : J κ cells slots G D pc lv (.int y :: .int x :: st) := by
  obtain ⟨p, l, e, R, s, m, args, below, meth, c, Q, Dc, Y, A, H0, nL⟩ := κ
  intro H locs ls hP hD hS hl
  exact lv_iadd C.1 C.2.1 hd  (k H locs ls hP hD hS hl)
theorem j_isub (C : Cx κ cc own rm mx) {x y : Int32} (hd : decode cc pc = .ok (.isub, 1))  (k : J κ cells slots G D (pc + 1) lv (.int (x - y) :: st)) : J κ cells slots G D pc lv (.int y :: .int x :: st) := by
  obtain ⟨p, l, e, R, s, m, args, below, meth, c, Q, Dc, Y, A, H0, nL⟩ := κ
  intro H locs ls hP hD hS hl
  exact lv_isub C.1 C.2.1 hd  (k H locs ls hP hD hS hl)
theorem j_imul (C : Cx κ cc own rm mx) {x y : Int32} (hd : decode cc pc = .ok (.imul, 1))  (k : J κ cells slots G D (pc + 1) lv (.int (x * y) :: st)) : J κ cells slots G D pc lv (.int y :: .int x :: st) := by
  obtain ⟨p, l, e, R, s, m, args, below, meth, c, Q, Dc, Y, A, H0, nL⟩ := κ
  intro H locs ls hP hD hS hl
  exact lv_imul C.1 C.2.1 hd  (k H locs ls hP hD hS hl)
theorem j_ishl (C : Cx κ cc own rm mx) {x y : Int32} (hd : decode cc pc = .ok (.ishl, 1))  (k : J κ cells slots G D (pc + 1) lv (.int (x <<< (y &&& 31)) :: st)) : J κ cells slots G D pc lv (.int y :: .int x :: st) := by
  obtain ⟨p, l, e, R, s, m, args, below, meth, c, Q, Dc, Y, A, H0, nL⟩ := κ
  intro H locs ls hP hD hS hl
  exact lv_ishl C.1 C.2.1 hd  (k H locs ls hP hD hS hl)
theorem j_ishr (C : Cx κ cc own rm mx) {x y : Int32} (hd : decode cc pc = .ok (.ishr, 1))  (k : J κ cells slots G D (pc + 1) lv (.int (x >>> (y &&& 31)) :: st)) : J κ cells slots G D pc lv (.int y :: .int x :: st) := by
  obtain ⟨p, l, e, R, s, m, args, below, meth, c, Q, Dc, Y, A, H0, nL⟩ := κ
  intro H locs ls hP hD hS hl
  exact lv_ishr C.1 C.2.1 hd  (k H locs ls hP hD hS hl)
theorem j_iand (C : Cx κ cc own rm mx) {x y : Int32} (hd : decode cc pc = .ok (.iand, 1))  (k : J κ cells slots G D (pc + 1) lv (.int (x &&& y) :: st)) : J κ cells slots G D pc lv (.int y :: .int x :: st) := by
  obtain ⟨p, l, e, R, s, m, args, below, meth, c, Q, Dc, Y, A, H0, nL⟩ := κ
  intro H locs ls hP hD hS hl
  exact lv_iand C.1 C.2.1 hd  (k H locs ls hP hD hS hl)
theorem j_ior (C : Cx κ cc own rm mx) {x y : Int32} (hd : decode cc pc = .ok (.ior, 1))  (k : J κ cells slots G D (pc + 1) lv (.int (x ||| y) :: st)) : J κ cells slots G D pc lv (.int y :: .int x :: st) := by
  obtain ⟨p, l, e, R, s, m, args, below, meth, c, Q, Dc, Y, A, H0, nL⟩ := κ
  intro H locs ls hP hD hS hl
  exact lv_ior C.1 C.2.1 hd  (k H locs ls hP hD hS hl)
theorem j_irem (C : Cx κ cc own rm mx) {x y : Int32} (hd : decode cc pc = .ok (.irem, 1)) (hne : ¬ y = 0) (k : J κ cells slots G D (pc + 1) lv (.int (x - x / y * y) :: st)) : J κ cells slots G D pc lv (.int y :: .int x :: st) := by
  obtain ⟨p, l, e, R, s, m, args, below, meth, c, Q, Dc, Y, A, H0, nL⟩ := κ
  intro H locs ls hP hD hS hl
  exact lv_irem C.1 C.2.1 hd hne (k H locs ls hP hD hS hl)
theorem j_ineg (C : Cx κ cc own rm mx) {x : Int32} (hd : decode cc pc = .ok (.ineg, 1))  (k : J κ cells slots G D (pc + 1) lv (.int (-x) :: st)) : J κ cells slots G D pc lv (.int x :: st) := by
  obtain ⟨p, l, e, R, s, m, args, below, meth, c, Q, Dc, Y, A, H0, nL⟩ := κ
  intro H locs ls hP hD hS hl
  exact lv_ineg C.1 C.2.1 hd  (k H locs ls hP hD hS hl)
theorem j_iushr (C : Cx κ cc own rm mx) {x y : Int32} (hd : decode cc pc = .ok (.iushr, 1))  (k : J κ cells slots G D (pc + 1) lv (.int ((x.toUInt32 >>> (y.toUInt32 &&& Int32.toUInt32 31)).toInt32) :: st)) : J κ cells slots G D pc lv (.int y :: .int x :: st) := by
  obtain ⟨p, l, e, R, s, m, args, below, meth, c, Q, Dc, Y, A, H0, nL⟩ := κ
  intro H locs ls hP hD hS hl
  exact lv_iushr C.1 C.2.1 hd rfl (k H locs ls hP hD hS hl)
theorem j_ladd (C : Cx κ cc own rm mx) {x y : Int64} (hd : decode cc pc = .ok (.ladd, 1))  (k : J κ cells slots G D (pc + 1) lv (.long (x + y) :: st)) : J κ cells slots G D pc lv (.long y :: .long x :: st) := by
  obtain ⟨p, l, e, R, s, m, args, below, meth, c, Q, Dc, Y, A, H0, nL⟩ := κ
  intro H locs ls hP hD hS hl
  exact lv_ladd C.1 C.2.1 hd  (k H locs ls hP hD hS hl)
theorem j_lsub (C : Cx κ cc own rm mx) {x y : Int64} (hd : decode cc pc = .ok (.lsub, 1))  (k : J κ cells slots G D (pc + 1) lv (.long (x - y) :: st)) : J κ cells slots G D pc lv (.long y :: .long x :: st) := by
  obtain ⟨p, l, e, R, s, m, args, below, meth, c, Q, Dc, Y, A, H0, nL⟩ := κ
  intro H locs ls hP hD hS hl
  exact lv_lsub C.1 C.2.1 hd  (k H locs ls hP hD hS hl)
theorem j_lmul (C : Cx κ cc own rm mx) {x y : Int64} (hd : decode cc pc = .ok (.lmul, 1))  (k : J κ cells slots G D (pc + 1) lv (.long (x * y) :: st)) : J κ cells slots G D pc lv (.long y :: .long x :: st) := by
  obtain ⟨p, l, e, R, s, m, args, below, meth, c, Q, Dc, Y, A, H0, nL⟩ := κ
  intro H locs ls hP hD hS hl
  exact lv_lmul C.1 C.2.1 hd  (k H locs ls hP hD hS hl)
theorem j_land (C : Cx κ cc own rm mx) {x y : Int64} (hd : decode cc pc = .ok (.land, 1))  (k : J κ cells slots G D (pc + 1) lv (.long (x &&& y) :: st)) : J κ cells slots G D pc lv (.long y :: .long x :: st) := by
  obtain ⟨p, l, e, R, s, m, args, below, meth, c, Q, Dc, Y, A, H0, nL⟩ := κ
  intro H locs ls hP hD hS hl
  exact lv_land C.1 C.2.1 hd  (k H locs ls hP hD hS hl)
theorem j_lor (C : Cx κ cc own rm mx) {x y : Int64} (hd : decode cc pc = .ok (.lor, 1))  (k : J κ cells slots G D (pc + 1) lv (.long (x ||| y) :: st)) : J κ cells slots G D pc lv (.long y :: .long x :: st) := by
  obtain ⟨p, l, e, R, s, m, args, below, meth, c, Q, Dc, Y, A, H0, nL⟩ := κ
  intro H locs ls hP hD hS hl
  exact lv_lor C.1 C.2.1 hd  (k H locs ls hP hD hS hl)
theorem j_ldiv (C : Cx κ cc own rm mx) {x y : Int64} (hd : decode cc pc = .ok (.ldiv, 1)) (hne : ¬ y = 0) (k : J κ cells slots G D (pc + 1) lv (.long (x / y) :: st)) : J κ cells slots G D pc lv (.long y :: .long x :: st) := by
  obtain ⟨p, l, e, R, s, m, args, below, meth, c, Q, Dc, Y, A, H0, nL⟩ := κ
  intro H locs ls hP hD hS hl
  exact lv_ldiv C.1 C.2.1 hd hne (k H locs ls hP hD hS hl)
theorem j_lrem (C : Cx κ cc own rm mx) {x y : Int64} (hd : decode cc pc = .ok (.lrem, 1)) (hne : ¬ y = 0) (k : J κ cells slots G D (pc + 1) lv (.long (x - x / y * y) :: st)) : J κ cells slots G D pc lv (.long y :: .long x :: st) := by
  obtain ⟨p, l, e, R, s, m, args, below, meth, c, Q, Dc, Y, A, H0, nL⟩ := κ
  intro H locs ls hP hD hS hl
  exact lv_lrem C.1 C.2.1 hd hne (k H locs ls hP hD hS hl)
theorem j_lneg (C : Cx κ cc own rm mx) {x : Int64} (hd : decode cc pc = .ok (.lneg, 1))  (k : J κ cells slots G D (pc + 1) lv (.long (-x) :: st)) : J κ cells slots G D pc lv (.long x :: st) := by
  obtain ⟨p, l, e, R, s, m, args, below, meth, c, Q, Dc, Y, A, H0, nL⟩ := κ
  intro H locs ls hP hD hS hl
  exact lv_lneg C.1 C.2.1 hd  (k H locs ls hP hD hS hl)
theorem j_lshl (C : Cx κ cc own rm mx) {x : Int64} {y : Int32} (hd : decode cc pc = .ok (.lshl, 1))  (k : J κ cells slots G D (pc + 1) lv (.long (x <<< (y.toInt64 &&& 63)) :: st)) : J κ cells slots G D pc lv (.int y :: .long x :: st) := by
  obtain ⟨p, l, e, R, s, m, args, below, meth, c, Q, Dc, Y, A, H0, nL⟩ := κ
  intro H locs ls hP hD hS hl
  exact lv_lshl C.1 C.2.1 hd rfl (k H locs ls hP hD hS hl)
theorem j_lshr (C : Cx κ cc own rm mx) {x : Int64} {y : Int32} (hd : decode cc pc = .ok (.lshr, 1))  (k : J κ cells slots G D (pc + 1) lv (.long (x >>> (y.toInt64 &&& 63)) :: st)) : J κ cells slots G D pc lv (.int y :: .long x :: st) := by
  obtain ⟨p, l, e, R, s, m, args, below, meth, c, Q, Dc, Y, A, H0, nL⟩ := κ
  intro H locs ls hP hD hS hl
  exact lv_lshr C.1 C.2.1 hd rfl (k H locs ls hP hD hS hl)
theorem j_lushr (C : Cx κ cc own rm mx) {x : Int64} {y : Int32} (hd : decode cc pc = .ok (.lushr, 1))  (k : J κ cells slots G D (pc + 1) lv (.long ((x.toUInt64 >>> (y.toInt64.toUInt64 &&& Int64.toUInt64 63)).toInt64) :: st)) : J κ cells slots G D pc lv (.int y :: .long x :: st) := by
  obtain ⟨p, l, e, R, s, m, args, below, meth, c, Q, Dc, Y, A, H0, nL⟩ := κ
  intro H locs ls hP hD hS hl
  exact lv_lushr C.1 C.2.1 hd rfl (k H locs ls hP hD hS hl)
theorem j_i2l (C : Cx κ cc own rm mx) {x : Int32} (hd : decode cc pc = .ok (.i2l, 1))  (k : J κ cells slots G D (pc + 1) lv (.long x.toInt64 :: st)) : J κ cells slots G D pc lv (.int x :: st) := by
  obtain ⟨p, l, e, R, s, m, args, below, meth, c, Q, Dc, Y, A, H0, nL⟩ := κ
  intro H locs ls hP hD hS hl
  exact lv_i2l C.1 C.2.1 hd rfl (k H locs ls hP hD hS hl)
theorem j_l2i (C : Cx κ cc own rm mx) {x : Int64} (hd : decode cc pc = .ok (.l2i, 1))  (k : J κ cells slots G D (pc + 1) lv (.int x.toInt32 :: st)) : J κ cells slots G D pc lv (.long x :: st) := by
  obtain ⟨p, l, e, R, s, m, args, below, meth, c, Q, Dc, Y, A, H0, nL⟩ := κ
  intro H locs ls hP hD hS hl
  exact lv_l2i C.1 C.2.1 hd rfl (k H locs ls hP hD hS hl)
theorem j_i2b (C : Cx κ cc own rm mx) {x : Int32} (hd : decode cc pc = .ok (.i2b, 1))  (k : J κ cells slots G D (pc + 1) lv (.int x.toInt8.toInt32 :: st)) : J κ cells slots G D pc lv (.int x :: st) := by
  obtain ⟨p, l, e, R, s, m, args, below, meth, c, Q, Dc, Y, A, H0, nL⟩ := κ
  intro H locs ls hP hD hS hl
  exact lv_i2b C.1 C.2.1 hd rfl (k H locs ls hP hD hS hl)
theorem j_dup (C : Cx κ cc own rm mx) {va : Value} (hd : decode cc pc = .ok (.dup, 1)) (hva : va.category = 1) (k : J κ cells slots G D (pc + 1) lv (va :: va :: st)) : J κ cells slots G D pc lv (va :: st) := by
  obtain ⟨p, l, e, R, s, m, args, below, meth, c, Q, Dc, Y, A, H0, nL⟩ := κ
  intro H locs ls hP hD hS hl
  exact lv_dup C.1 C.2.1 hd hva (k H locs ls hP hD hS hl)
theorem j_pop (C : Cx κ cc own rm mx) {va : Value} (hd : decode cc pc = .ok (.pop, 1)) (hva : va.category = 1) (k : J κ cells slots G D (pc + 1) lv (st)) : J κ cells slots G D pc lv (va :: st) := by
  obtain ⟨p, l, e, R, s, m, args, below, meth, c, Q, Dc, Y, A, H0, nL⟩ := κ
  intro H locs ls hP hD hS hl
  exact lv_pop C.1 C.2.1 hd hva (k H locs ls hP hD hS hl)
theorem j_dup2 (C : Cx κ cc own rm mx) {va vb : Value} (hd : decode cc pc = .ok (.dup2, 1)) (hva : va.category = 1) (hvb : vb.category = 1) (k : J κ cells slots G D (pc + 1) lv (va :: vb :: va :: vb :: st)) : J κ cells slots G D pc lv (va :: vb :: st) := by
  obtain ⟨p, l, e, R, s, m, args, below, meth, c, Q, Dc, Y, A, H0, nL⟩ := κ
  intro H locs ls hP hD hS hl
  exact lv_dup2_11 C.1 C.2.1 hd hva hvb (k H locs ls hP hD hS hl)
theorem j_dup2L (C : Cx κ cc own rm mx) {va : Value} (hd : decode cc pc = .ok (.dup2, 1)) (hva : va.category = 2) (k : J κ cells slots G D (pc + 1) lv (va :: va :: st)) : J κ cells slots G D pc lv (va :: st) := by
  obtain ⟨p, l, e, R, s, m, args, below, meth, c, Q, Dc, Y, A, H0, nL⟩ := κ
  intro H locs ls hP hD hS hl
  exact lv_dup2_2 C.1 C.2.1 hd hva (k H locs ls hP hD hS hl)
theorem j_pop2 (C : Cx κ cc own rm mx) {va vb : Value} (hd : decode cc pc = .ok (.pop2, 1)) (hva : va.category = 1) (hvb : vb.category = 1) (k : J κ cells slots G D (pc + 1) lv (st)) : J κ cells slots G D pc lv (va :: vb :: st) := by
  obtain ⟨p, l, e, R, s, m, args, below, meth, c, Q, Dc, Y, A, H0, nL⟩ := κ
  intro H locs ls hP hD hS hl
  exact lv_pop2_11 C.1 C.2.1 hd hva hvb (k H locs ls hP hD hS hl)
theorem j_pop2L (C : Cx κ cc own rm mx) {va : Value} (hd : decode cc pc = .ok (.pop2, 1)) (hva : va.category = 2) (k : J κ cells slots G D (pc + 1) lv (st)) : J κ cells slots G D pc lv (va :: st) := by
  obtain ⟨p, l, e, R, s, m, args, below, meth, c, Q, Dc, Y, A, H0, nL⟩ := κ
  intro H locs ls hP hD hS hl
  exact lv_pop2_2 C.1 C.2.1 hd hva (k H locs ls hP hD hS hl)
theorem j_null (C : Cx κ cc own rm mx)  (hd : decode cc pc = .ok (.aconst_null, 1))  (k : J κ cells slots G D (pc + 1) lv (va_rf none :: st)) : J κ cells slots G D pc lv (st) := by
  obtain ⟨p, l, e, R, s, m, args, below, meth, c, Q, Dc, Y, A, H0, nL⟩ := κ
  intro H locs ls hP hD hS hl
  exact lv_null C.1 C.2.1 hd  (k H locs ls hP hD hS hl)
theorem j_iload_n (C : Cx κ cc own rm mx) {kk : Fin 4} {i : Nat} {x : Int32} (hd : decode cc pc = .ok (.iload_n kk, 1)) (hi : (kk : Nat) = i) (q : Nat) (hq : lv[q]? = some (i, .int x)) (k : J κ cells slots G D (pc + 1) lv (.int x :: st)) : J κ cells slots G D pc lv st := by
  obtain ⟨p, l, e, R, s, m, args, below, meth, c, Q, Dc, Y, A, H0, nL⟩ := κ
  intro H locs ls hP hD hS hl
  exact lv_iload_n C.1 C.2.1 hd hi (lv_at hl q hq) (k H locs ls hP hD hS hl)
theorem j_lload_n (C : Cx κ cc own rm mx) {kk : Fin 4} {i : Nat} {x : Int64} (hd : decode cc pc = .ok (.lload_n kk, 1)) (hi : (kk : Nat) = i) (q : Nat) (hq : lv[q]? = some (i, .long x)) (k : J κ cells slots G D (pc + 1) lv (.long x :: st)) : J κ cells slots G D pc lv st := by
  obtain ⟨p, l, e, R, s, m, args, below, meth, c, Q, Dc, Y, A, H0, nL⟩ := κ
  intro H locs ls hP hD hS hl
  exact lv_lload_n C.1 C.2.1 hd hi (lv_at hl q hq) (k H locs ls hP hD hS hl)
theorem j_aload_n (C : Cx κ cc own rm mx) {kk : Fin 4} {i : Nat} {x : Nat} (hd : decode cc pc = .ok (.aload_n kk, 1)) (hi : (kk : Nat) = i) (q : Nat) (hq : lv[q]? = some (i, .ref x)) (k : J κ cells slots G D (pc + 1) lv (.ref x :: st)) : J κ cells slots G D pc lv st := by
  obtain ⟨p, l, e, R, s, m, args, below, meth, c, Q, Dc, Y, A, H0, nL⟩ := κ
  intro H locs ls hP hD hS hl
  exact lv_aload_n C.1 C.2.1 hd hi (lv_at hl q hq) (k H locs ls hP hD hS hl)
theorem j_iload (C : Cx κ cc own rm mx) {i : Nat} {x : Int32} (hd : decode cc pc = .ok (.iload i, 2)) (q : Nat) (hq : lv[q]? = some (i, .int x)) (k : J κ cells slots G D (pc + 2) lv (.int x :: st)) : J κ cells slots G D pc lv st := by
  obtain ⟨p, l, e, R, s, m, args, below, meth, c, Q, Dc, Y, A, H0, nL⟩ := κ
  intro H locs ls hP hD hS hl
  exact lv_iload C.1 C.2.1 hd (lv_at hl q hq) (k H locs ls hP hD hS hl)
theorem j_lload (C : Cx κ cc own rm mx) {i : Nat} {x : Int64} (hd : decode cc pc = .ok (.lload i, 2)) (q : Nat) (hq : lv[q]? = some (i, .long x)) (k : J κ cells slots G D (pc + 2) lv (.long x :: st)) : J κ cells slots G D pc lv st := by
  obtain ⟨p, l, e, R, s, m, args, below, meth, c, Q, Dc, Y, A, H0, nL⟩ := κ
  intro H locs ls hP hD hS hl
  exact lv_lload C.1 C.2.1 hd (lv_at hl q hq) (k H locs ls hP hD hS hl)
theorem j_aload (C : Cx κ cc own rm mx) {i : Nat} {x : Nat} (hd : decode cc pc = .ok (.aload i, 2)) (q : Nat) (hq : lv[q]? = some (i, .ref x)) (k : J κ cells slots G D (pc + 2) lv (.ref x :: st)) : J κ cells slots G D pc lv st := by
  obtain ⟨p, l, e, R, s, m, args, below, meth, c, Q, Dc, Y, A, H0, nL⟩ := κ
  intro H locs ls hP hD hS hl
  exact lv_aload C.1 C.2.1 hd (lv_at hl q hq) (k H locs ls hP hD hS hl)
theorem j_aload_nO (C : Cx κ cc own rm mx) {kk : Fin 4} {i : Nat} {x : Option Nat} (hd : decode cc pc = .ok (.aload_n kk, 1)) (hi : (kk : Nat) = i) (q : Nat) (hq : lv[q]? = some (i, va_rf x)) (k : J κ cells slots G D (pc + 1) lv (va_rf x :: st)) : J κ cells slots G D pc lv st := by
  obtain ⟨p, l, e, R, s, m, args, below, meth, c, Q, Dc, Y, A, H0, nL⟩ := κ
  intro H locs ls hP hD hS hl
  have h1 := lv_at hl q hq
  cases x with
  | none => exact lv_aload_nN C.1 C.2.1 hd hi h1 (k H locs ls hP hD hS hl)
  | some a => exact lv_aload_n C.1 C.2.1 hd hi h1 (k H locs ls hP hD hS hl)
theorem j_aloadO (C : Cx κ cc own rm mx) {i : Nat} {x : Option Nat} (hd : decode cc pc = .ok (.aload i, 2)) (q : Nat) (hq : lv[q]? = some (i, va_rf x)) (k : J κ cells slots G D (pc + 2) lv (va_rf x :: st)) : J κ cells slots G D pc lv st := by
  obtain ⟨p, l, e, R, s, m, args, below, meth, c, Q, Dc, Y, A, H0, nL⟩ := κ
  intro H locs ls hP hD hS hl
  have h1 := lv_at hl q hq
  cases x with
  | none => exact lv_aloadN C.1 C.2.1 hd h1 (k H locs ls hP hD hS hl)
  | some a => exact lv_aload C.1 C.2.1 hd h1 (k H locs ls hP hD hS hl)
theorem j_istore_n (C : Cx κ cc own rm mx) {kk : Fin 4} {i : Nat} {x : Int32} {lv' : List (Nat × Value)} (hd : decode cc pc = .ok (.istore_n kk, 1)) (hi : (kk : Nat) = i) (hn : i < mx) (hlv : (i, Value.int x) :: lv.filter (fun q => !(q.1 == i) && !(q.1 + 1 == i && q.2.category == 2)) = lv') (k : J κ cells slots G D (pc + 1) lv' st) : J κ cells slots G D pc lv (.int x :: st) := by
  obtain ⟨p, l, e, R, s, m, args, below, meth, c, Q, Dc, Y, A, H0, nL⟩ := κ
  intro H locs ls hP hD hS hl
  have hn := Nat.lt_of_lt_of_eq hn C.2.2.2.2.2.2.2.2.2.1.symm
  exact lv_istore_n C.1 C.2.1 hd hi hl hn hlv (fun ls hl => k H locs ls hP hD hS hl)
theorem j_lstore_n (C : Cx κ cc own rm mx) {kk : Fin 4} {i : Nat} {x : Int64} {lv' : List (Nat × Value)} (hd : decode cc pc = .ok (.lstore_n kk, 1)) (hi : (kk : Nat) = i) (hn : i + 1 < mx) (hlv : (i, Value.long x) :: lv.filter (fun q => !(q.1 == i) && (!(q.1 == i + 1) && !(q.1 + 1 == i && q.2.category == 2))) = lv') (k : J κ cells slots G D (pc + 1) lv' st) : J κ cells slots G D pc lv (.long x :: st) := by
  obtain ⟨p, l, e, R, s, m, args, below, meth, c, Q, Dc, Y, A, H0, nL⟩ := κ
  intro H locs ls hP hD hS hl
  have hn := Nat.lt_of_lt_of_eq hn C.2.2.2.2.2.2.2.2.2.1.symm
  exact lv_lstore_n C.1 C.2.1 hd hi hl hn hlv (fun ls hl => k H locs ls hP hD hS hl)
theorem j_astore_n (C : Cx κ cc own rm mx) {kk : Fin 4} {i : Nat} {x : Nat} {lv' : List (Nat × Value)} (hd : decode cc pc = .ok (.astore_n kk, 1)) (hi : (kk : Nat) = i) (hn : i < mx) (hlv : (i, Value.ref x) :: lv.filter (fun q => !(q.1 == i) && !(q.1 + 1 == i && q.2.category == 2)) = lv') (k : J κ cells slots G D (pc + 1) lv' st) : J κ cells slots G D pc lv (.ref x :: st) := by
  obtain ⟨p, l, e, R, s, m, args, below, meth, c, Q, Dc, Y, A, H0, nL⟩ := κ
  intro H locs ls hP hD hS hl
  have hn := Nat.lt_of_lt_of_eq hn C.2.2.2.2.2.2.2.2.2.1.symm
  exact lv_astore_n C.1 C.2.1 hd hi hl hn hlv (fun ls hl => k H locs ls hP hD hS hl)
theorem j_istore (C : Cx κ cc own rm mx) {i : Nat} {x : Int32} {lv' : List (Nat × Value)} (hd : decode cc pc = .ok (.istore i, 2)) (hn : i < mx) (hlv : (i, Value.int x) :: lv.filter (fun q => !(q.1 == i) && !(q.1 + 1 == i && q.2.category == 2)) = lv') (k : J κ cells slots G D (pc + 2) lv' st) : J κ cells slots G D pc lv (.int x :: st) := by
  obtain ⟨p, l, e, R, s, m, args, below, meth, c, Q, Dc, Y, A, H0, nL⟩ := κ
  intro H locs ls hP hD hS hl
  have hn := Nat.lt_of_lt_of_eq hn C.2.2.2.2.2.2.2.2.2.1.symm
  exact lv_istore C.1 C.2.1 hd hl hn hlv (fun ls hl => k H locs ls hP hD hS hl)
theorem j_lstore (C : Cx κ cc own rm mx) {i : Nat} {x : Int64} {lv' : List (Nat × Value)} (hd : decode cc pc = .ok (.lstore i, 2)) (hn : i + 1 < mx) (hlv : (i, Value.long x) :: lv.filter (fun q => !(q.1 == i) && (!(q.1 == i + 1) && !(q.1 + 1 == i && q.2.category == 2))) = lv') (k : J κ cells slots G D (pc + 2) lv' st) : J κ cells slots G D pc lv (.long x :: st) := by
  obtain ⟨p, l, e, R, s, m, args, below, meth, c, Q, Dc, Y, A, H0, nL⟩ := κ
  intro H locs ls hP hD hS hl
  have hn := Nat.lt_of_lt_of_eq hn C.2.2.2.2.2.2.2.2.2.1.symm
  exact lv_lstore C.1 C.2.1 hd hl hn hlv (fun ls hl => k H locs ls hP hD hS hl)
theorem j_astore (C : Cx κ cc own rm mx) {i : Nat} {x : Nat} {lv' : List (Nat × Value)} (hd : decode cc pc = .ok (.astore i, 2)) (hn : i < mx) (hlv : (i, Value.ref x) :: lv.filter (fun q => !(q.1 == i) && !(q.1 + 1 == i && q.2.category == 2)) = lv') (k : J κ cells slots G D (pc + 2) lv' st) : J κ cells slots G D pc lv (.ref x :: st) := by
  obtain ⟨p, l, e, R, s, m, args, below, meth, c, Q, Dc, Y, A, H0, nL⟩ := κ
  intro H locs ls hP hD hS hl
  have hn := Nat.lt_of_lt_of_eq hn C.2.2.2.2.2.2.2.2.2.1.symm
  exact lv_astore C.1 C.2.1 hd hl hn hlv (fun ls hl => k H locs ls hP hD hS hl)
theorem j_astore_nO (C : Cx κ cc own rm mx) {kk : Fin 4} {i : Nat} {x : Option Nat} {lv' : List (Nat × Value)} (hd : decode cc pc = .ok (.astore_n kk, 1)) (hi : (kk : Nat) = i) (hn : i < mx) (hlv : (i, va_rf x) :: lv.filter (fun q => !(q.1 == i) && !(q.1 + 1 == i && q.2.category == 2)) = lv') (k : J κ cells slots G D (pc + 1) lv' st) : J κ cells slots G D pc lv (va_rf x :: st) := by
  obtain ⟨p, l, e, R, s, m, args, below, meth, c, Q, Dc, Y, A, H0, nL⟩ := κ
  intro H locs ls hP hD hS hl
  have hn := Nat.lt_of_lt_of_eq hn C.2.2.2.2.2.2.2.2.2.1.symm
  cases x with
  | none => exact lv_astore_nN C.1 C.2.1 hd hi hl hn hlv (fun ls hl => k H locs ls hP hD hS hl)
  | some a => exact lv_astore_n C.1 C.2.1 hd hi hl hn hlv (fun ls hl => k H locs ls hP hD hS hl)
theorem j_astoreO (C : Cx κ cc own rm mx) {i : Nat} {x : Option Nat} {lv' : List (Nat × Value)} (hd : decode cc pc = .ok (.astore i, 2)) (hn : i < mx) (hlv : (i, va_rf x) :: lv.filter (fun q => !(q.1 == i) && !(q.1 + 1 == i && q.2.category == 2)) = lv') (k : J κ cells slots G D (pc + 2) lv' st) : J κ cells slots G D pc lv (va_rf x :: st) := by
  obtain ⟨p, l, e, R, s, m, args, below, meth, c, Q, Dc, Y, A, H0, nL⟩ := κ
  intro H locs ls hP hD hS hl
  have hn := Nat.lt_of_lt_of_eq hn C.2.2.2.2.2.2.2.2.2.1.symm
  cases x with
  | none => exact lv_astoreN C.1 C.2.1 hd hl hn hlv (fun ls hl => k H locs ls hP hD hS hl)
  | some a => exact lv_astore C.1 C.2.1 hd hl hn hlv (fun ls hl => k H locs ls hP hD hS hl)
theorem j_iinc (C : Cx κ cc own rm mx) {i : Nat} {z : Int} {x v : Int32} {lv' : List (Nat × Value)} (hd : decode cc pc = .ok (.iinc i z, 3)) (q : Nat) (hq : lv[q]? = some (i, .int x)) (hv : x + Int32.ofInt z = v) (hn : i < mx) (hlv : (i, Value.int v) :: lv.filter (fun q => !(q.1 == i) && !(q.1 + 1 == i && q.2.category == 2)) = lv') (k : J κ cells slots G D (pc + 3) lv' st) : J κ cells slots G D pc lv st := by
  obtain ⟨p, l, e, R, s, m, args, below, meth, c, Q, Dc, Y, A, H0, nL⟩ := κ
  intro H locs ls hP hD hS hl
  have hn := Nat.lt_of_lt_of_eq hn C.2.2.2.2.2.2.2.2.2.1.symm
  exact lv_iinc C.1 C.2.1 hd hl hq hv hn hlv (fun ls hl => k H locs ls hP hD hS hl)
theorem j_icmp_eq (C : Cx κ cc own rm mx) {x y : Int32} {off : Int} {tgt : Nat} (hd : decode cc pc = .ok (.if_icmp .eq off, 3)) (ht : (pc : Int) + off = (tgt : Int)) (kt : x = y → J κ cells slots G D tgt lv st) (kf : ¬ (x = y) → J κ cells slots G D (pc + 3) lv st) : J κ cells slots G D pc lv (.int y :: .int x :: st) := by
  obtain ⟨p, l, e, R, s, m, args, below, meth, c, Q, Dc, Y, A, H0, nL⟩ := κ
  intro H locs ls hP hD hS hl
  exact lv_icmp_eq C.1 C.2.1 hd ht (fun q => kt q H locs ls hP hD hS hl) (fun q => kf q H locs ls hP hD hS hl)
theorem j_if_eq (C : Cx κ cc own rm mx) {x : Int32} {off : Int} {tgt : Nat} (hd : decode cc pc = .ok (.ifCond .eq off, 3)) (ht : (pc : Int) + off = (tgt : Int)) (kt : x = 0 → J κ cells slots G D tgt lv st) (kf : ¬ (x = 0) → J κ cells slots G D (pc + 3) lv st) : J κ cells slots G D pc lv (.int x :: st) := by
  obtain ⟨p, l, e, R, s, m, args, below, meth, c, Q, Dc, Y, A, H0, nL⟩ := κ
  intro H locs ls hP hD hS hl
  exact lv_if_eq C.1 C.2.1 hd ht (fun q => kt q H locs ls hP hD hS hl) (fun q => kf q H locs ls hP hD hS hl)
theorem j_lcmp_eq (C : Cx κ cc own rm mx) {x y : Int64} {off : Int} {tgt : Nat} (hd0 : decode cc pc = .ok (.lcmp, 1)) (hd : decode cc (pc + 1) = .ok (.ifCond .eq off, 3)) (ht : ((pc + 1 : Nat) : Int) + off = (tgt : Int)) (kt : x = y → J κ cells slots G D tgt lv st) (kf : ¬ (x = y) → J κ cells slots G D (pc + 1 + 3) lv st) : J κ cells slots G D pc lv (.long y :: .long x :: st) := by
  obtain ⟨p, l, e, R, s, m, args, below, meth, c, Q, Dc, Y, A, H0, nL⟩ := κ
  intro H locs ls hP hD hS hl
  exact W.lcmp C.1 C.2.1 hd0 (lv_if_eq C.1 C.2.1 hd ht (fun q => kt ((lg_cmp_eq x y).mp q) H locs ls hP hD hS hl) (fun q => kf (fun z => q ((lg_cmp_eq x y).mpr z)) H locs ls hP hD hS hl))
theorem j_icmp_ne (C : Cx κ cc own rm mx) {x y : Int32} {off : Int} {tgt : Nat} (hd : decode cc pc = .ok (.if_icmp .ne off, 3)) (ht : (pc : Int) + off = (tgt : Int)) (kt : ¬ x = y → J κ cells slots G D tgt lv st) (kf : x = y → J κ cells slots G D (pc + 3) lv st) : J κ cells slots G D pc lv (.int y :: .int x :: st) := by
  obtain ⟨p, l, e, R, s, m, args, below, meth, c, Q, Dc, Y, A, H0, nL⟩ := κ
  intro H locs ls hP hD hS hl
  exact lv_icmp_ne C.1 C.2.1 hd ht (fun q => kt q H locs ls hP hD hS hl) (fun q => kf q H locs ls hP hD hS hl)
theorem j_if_ne (C : Cx κ cc own rm mx) {x : Int32} {off : Int} {tgt : Nat} (hd : decode cc pc = .ok (.ifCond .ne off, 3)) (ht : (pc : Int) + off = (tgt : Int)) (kt : ¬ x = 0 → J κ cells slots G D tgt lv st) (kf : x = 0 → J κ cells slots G D (pc + 3) lv st) : J κ cells slots G D pc lv (.int x :: st) := by
  obtain ⟨p, l, e, R, s, m, args, below, meth, c, Q, Dc, Y, A, H0, nL⟩ := κ
  intro H locs ls hP hD hS hl
  exact lv_if_ne C.1 C.2.1 hd ht (fun q => kt q H locs ls hP hD hS hl) (fun q => kf q H locs ls hP hD hS hl)
theorem j_lcmp_ne (C : Cx κ cc own rm mx) {x y : Int64} {off : Int} {tgt : Nat} (hd0 : decode cc pc = .ok (.lcmp, 1)) (hd : decode cc (pc + 1) = .ok (.ifCond .ne off, 3)) (ht : ((pc + 1 : Nat) : Int) + off = (tgt : Int)) (kt : ¬ x = y → J κ cells slots G D tgt lv st) (kf : x = y → J κ cells slots G D (pc + 1 + 3) lv st) : J κ cells slots G D pc lv (.long y :: .long x :: st) := by
  obtain ⟨p, l, e, R, s, m, args, below, meth, c, Q, Dc, Y, A, H0, nL⟩ := κ
  intro H locs ls hP hD hS hl
  exact W.lcmp C.1 C.2.1 hd0 (lv_if_ne C.1 C.2.1 hd ht (fun q => kt ((not_congr (lg_cmp_eq x y)).mp q) H locs ls hP hD hS hl) (fun q => kf ((lg_cmp_eq x y).mp q) H locs ls hP hD hS hl))
theorem j_icmp_lt (C : Cx κ cc own rm mx) {x y : Int32} {off : Int} {tgt : Nat} (hd : decode cc pc = .ok (.if_icmp .lt off, 3)) (ht : (pc : Int) + off = (tgt : Int)) (kt : x < y → J κ cells slots G D tgt lv st) (kf : ¬ (x < y) → J κ cells slots G D (pc + 3) lv st) : J κ cells slots G D pc lv (.int y :: .int x :: st) := by
  obtain ⟨p, l, e, R, s, m, args, below, meth, c, Q, Dc, Y, A, H0, nL⟩ := κ
  intro H locs ls hP hD hS hl
  exact lv_icmp_lt C.1 C.2.1 hd ht (fun q => kt q H locs ls hP hD hS hl) (fun q => kf q H locs ls hP hD hS hl)
theorem j_if_lt (C : Cx κ cc own rm mx) {x : Int32} {off : Int} {tgt : Nat} (hd : decode cc pc = .ok (.ifCond .lt off, 3)) (ht : (pc : Int) + off = (tgt : Int)) (kt : x < 0 → J κ cells slots G D tgt lv st) (kf : ¬ (x < 0) → J κ cells slots G D (pc + 3) lv st) : J κ cells slots G D pc lv (.int x :: st) := by
  obtain ⟨p, l, e, R, s, m, args, below, meth, c, Q, Dc, Y, A, H0, nL⟩ := κ
  intro H locs ls hP hD hS hl
  exact lv_if_lt C.1 C.2.1 hd ht (fun q => kt q H locs ls hP hD hS hl) (fun q => kf q H locs ls hP hD hS hl)
theorem j_lcmp_lt (C : Cx κ cc own rm mx) {x y : Int64} {off : Int} {tgt : Nat} (hd0 : decode cc pc = .ok (.lcmp, 1)) (hd : decode cc (pc + 1) = .ok (.ifCond .lt off, 3)) (ht : ((pc + 1 : Nat) : Int) + off = (tgt : Int)) (kt : x < y → J κ cells slots G D tgt lv st) (kf : ¬ (x < y) → J κ cells slots G D (pc + 1 + 3) lv st) : J κ cells slots G D pc lv (.long y :: .long x :: st) := by
  obtain ⟨p, l, e, R, s, m, args, below, meth, c, Q, Dc, Y, A, H0, nL⟩ := κ
  intro H locs ls hP hD hS hl
  exact W.lcmp C.1 C.2.1 hd0 (lv_if_lt C.1 C.2.1 hd ht (fun q => kt ((lg_cmp_lt x y).mp q) H locs ls hP hD hS hl) (fun q => kf (fun z => q ((lg_cmp_lt x y).mpr z)) H locs ls hP hD hS hl))
theorem j_icmp_ge (C : Cx κ cc own rm mx) {x y : Int32} {off : Int} {tgt : Nat} (hd : decode cc pc = .ok (.if_icmp .ge off, 3)) (ht : (pc : Int) + off = (tgt : Int)) (kt : y ≤ x → J κ cells slots G D tgt lv st) (kf : ¬ (y ≤ x) → J κ cells slots G D (pc + 3) lv st) : J κ cells slots G D pc lv (.int y :: .int x :: st) := by
  obtain ⟨p, l, e, R, s, m, args, below, meth, c, Q, Dc, Y, A, H0, nL⟩ := κ
  intro H locs ls hP hD hS hl
  exact lv_icmp_ge C.1 C.2.1 hd ht (fun q => kt q H locs ls hP hD hS hl) (fun q => kf q H locs ls hP hD hS hl)
theorem j_if_ge (C : Cx κ cc own rm mx) {x : Int32} {off : Int} {tgt : Nat} (hd : decode cc pc = .ok (.ifCond .ge off, 3)) (ht : (pc : Int) + off = (tgt : Int)) (kt : 0 ≤ x → J κ cells slots G D tgt lv st) (kf : ¬ (0 ≤ x) → J κ cells slots G D (pc + 3) lv st) : J κ cells slots G D pc lv (.int x :: st) := by
  obtain ⟨p, l, e, R, s, m, args, below, meth, c, Q, Dc, Y, A, H0, nL⟩ := κ
  intro H locs ls hP hD hS hl
  exact lv_if_ge C.1 C.2.1 hd ht (fun q => kt q H locs ls hP hD hS hl) (fun q => kf q H locs ls hP hD hS hl)
theorem j_lcmp_ge (C : Cx κ cc own rm mx) {x y : Int64} {off : Int} {tgt : Nat} (hd0 : decode cc pc = .ok (.lcmp, 1)) (hd : decode cc (pc + 1) = .ok (.ifCond .ge off, 3)) (ht : ((pc + 1 : Nat) : Int) + off = (tgt : Int)) (kt : y ≤ x → J κ cells slots G D tgt lv st) (kf : ¬ (y ≤ x) → J κ cells slots G D (pc + 1 + 3) lv st) : J κ cells slots G D pc lv (.long y :: .long x :: st) := by
  obtain ⟨p, l, e, R, s, m, args, below, meth, c, Q, Dc, Y, A, H0, nL⟩ := κ
  intro H locs ls hP hD hS hl
  exact W.lcmp C.1 C.2.1 hd0 (lv_if_ge C.1 C.2.1 hd ht (fun q => kt ((lg_cmp_ge x y).mp q) H locs ls hP hD hS hl) (fun q => kf (fun z => q ((lg_cmp_ge x y).mpr z)) H locs ls hP hD hS hl))
theorem j_icmp_gt (C : Cx κ cc own rm mx) {x y : Int32} {off : Int} {tgt : Nat} (hd : decode cc pc = .ok (.if_icmp .gt off, 3)) (ht : (pc : Int) + off = (tgt : Int)) (kt : y < x → J κ cells slots G D tgt lv st) (kf : ¬ (y < x) → J κ cells slots G D (pc + 3) lv st) : J κ cells slots G D pc lv (.int y :: .int x :: st) := by
  obtain ⟨p, l, e, R, s, m, args, below, meth, c, Q, Dc, Y, A, H0, nL⟩ := κ
  intro H locs ls hP hD hS hl
  exact lv_icmp_gt C.1 C.2.1 hd ht (fun q => kt q H locs ls hP hD hS hl) (fun q => kf q H locs ls hP hD hS hl)
theorem j_if_gt (C : Cx κ cc own rm mx) {x : Int32} {off : Int} {tgt : Nat} (hd : decode cc pc = .ok (.ifCond .gt off, 3)) (ht : (pc : Int) + off = (tgt : Int)) (kt : 0 < x → J κ cells slots G D tgt lv st) (kf : ¬ (0 < x) → J κ cells slots G D (pc + 3) lv st) : J κ cells slots G D pc lv (.int x :: st) := by
  obtain ⟨p, l, e, R, s, m, args, below, meth, c, Q, Dc, Y, A, H0, nL⟩ := κ
  intro H locs ls hP hD hS hl
  exact lv_if_gt C.1 C.2.1 hd ht (fun q => kt q H locs ls hP hD hS hl) (fun q => kf q H locs ls hP hD hS hl)
theorem j_lcmp_gt (C : Cx κ cc own rm mx) {x y : Int64} {off : Int} {tgt : Nat} (hd0 : decode cc pc = .ok (.lcmp, 1)) (hd : decode cc (pc + 1) = .ok (.ifCond .gt off, 3)) (ht : ((pc + 1 : Nat) : Int) + off = (tgt : Int)) (kt : y < x → J κ cells slots G D tgt lv st) (kf : ¬ (y < x) → J κ cells slots G D (pc + 1 + 3) lv st) : J κ cells slots G D pc lv (.long y :: .long x :: st) := by
  obtain ⟨p, l, e, R, s, m, args, below, meth, c, Q, Dc, Y, A, H0, nL⟩ := κ
  intro H locs ls hP hD hS hl
  exact W.lcmp C.1 C.2.1 hd0 (lv_if_gt C.1 C.2.1 hd ht (fun q => kt ((lg_cmp_gt x y).mp q) H locs ls hP hD hS hl) (fun q => kf (fun z => q ((lg_cmp_gt x y).mpr z)) H locs ls hP hD hS hl))
theorem j_icmp_le (C : Cx κ cc own rm mx) {x y : Int32} {off : Int} {tgt : Nat} (hd : decode cc pc = .ok (.if_icmp .le off, 3)) (ht : (pc : Int) + off = (tgt : Int)) (kt : x ≤ y → J κ cells slots G D tgt lv st) (kf : ¬ (x ≤ y) → J κ cells slots G D (pc + 3) lv st) : J κ cells slots G D pc lv (.int y :: .int x :: st) := by
  obtain ⟨p, l, e, R, s, m, args, below, meth, c, Q, Dc, Y, A, H0, nL⟩ := κ
  intro H locs ls hP hD hS hl
  exact lv_icmp_le C.1 C.2.1 hd ht (fun q => kt q H locs ls hP hD hS hl) (fun q => kf q H locs ls hP hD hS hl)
theorem j_if_le (C : Cx κ cc own rm mx) {x : Int32} {off : Int} {tgt : Nat} (hd : decode cc pc = .ok (.ifCond .le off, 3)) (ht : (pc : Int) + off = (tgt : Int)) (kt : x ≤ 0 → J κ cells slots G D tgt lv st) (kf : ¬ (x ≤ 0) → J κ cells slots G D (pc + 3) lv st) : J κ cells slots G D pc lv (.int x :: st) := by
  obtain ⟨p, l, e, R, s, m, args, below, meth, c, Q, Dc, Y, A, H0, nL⟩ := κ
  intro H locs ls hP hD hS hl
  exact lv_if_le C.1 C.2.1 hd ht (fun q => kt q H locs ls hP hD hS hl) (fun q => kf q H locs ls hP hD hS hl)
theorem j_lcmp_le (C : Cx κ cc own rm mx) {x y : Int64} {off : Int} {tgt : Nat} (hd0 : decode cc pc = .ok (.lcmp, 1)) (hd : decode cc (pc + 1) = .ok (.ifCond .le off, 3)) (ht : ((pc + 1 : Nat) : Int) + off = (tgt : Int)) (kt : x ≤ y → J κ cells slots G D tgt lv st) (kf : ¬ (x ≤ y) → J κ cells slots G D (pc + 1 + 3) lv st) : J κ cells slots G D pc lv (.long y :: .long x :: st) := by
  obtain ⟨p, l, e, R, s, m, args, below, meth, c, Q, Dc, Y, A, H0, nL⟩ := κ
  intro H locs ls hP hD hS hl
  exact W.lcmp C.1 C.2.1 hd0 (lv_if_le C.1 C.2.1 hd ht (fun q => kt ((lg_cmp_le x y).mp q) H locs ls hP hD hS hl) (fun q => kf (fun z => q ((lg_cmp_le x y).mpr z)) H locs ls hP hD hS hl))
theorem j_goto (C : Cx κ cc own rm mx) {off : Int} {tgt : Nat} (hd : decode cc pc = .ok (.goto off, 3)) (ht : (pc : Int) + off = (tgt : Int)) (k : J κ cells slots G D tgt lv st) : J κ cells slots G D pc lv st := by
  obtain ⟨p, l, e, R, s, m, args, below, meth, c, Q, Dc, Y, A, H0, nL⟩ := κ
  intro H locs ls hP hD hS hl
  exact lv_goto C.1 C.2.1 hd ht (k H locs ls hP hD hS hl)
theorem j_ifnull (C : Cx κ cc own rm mx) {x : Option Nat} {off : Int} {tgt : Nat} (hd : decode cc pc = .ok (.ifnull off, 3)) (ht : (pc : Int) + off = (tgt : Int)) (kt : x = none → J κ cells slots G D tgt lv st) (kf : ∀ a, x = some a → J κ cells slots G D (pc + 3) lv st) : J κ cells slots G D pc lv (va_rf x :: st) := by
  obtain ⟨p, l, e, R, s, m, args, below, meth, c, Q, Dc, Y, A, H0, nL⟩ := κ
  intro H locs ls hP hD hS hl
  cases x with
  | none => exact lv_ifnullN C.1 C.2.1 hd ht (kt rfl H locs ls hP hD hS hl)
  | some a => exact lv_ifnull C.1 C.2.1 hd (kf a rfl H locs ls hP hD hS hl)
theorem j_ifnonnull (C : Cx κ cc own rm mx) {x : Option Nat} {off : Int} {tgt : Nat} (hd : decode cc pc = .ok (.ifnonnull off, 3)) (ht : (pc : Int) + off = (tgt : Int)) (kt : ∀ a, x = some a → J κ cells slots G D tgt lv st) (kf : x = none → J κ cells slots G D (pc + 3) lv st) : J κ cells slots G D pc lv (va_rf x :: st) := by
  obtain ⟨p, l, e, R, s, m, args, below, meth, c, Q, Dc, Y, A, H0, nL⟩ := κ
  intro H locs ls hP hD hS hl
  cases x with
  | none => exact lv_ifnonnullN C.1 C.2.1 hd (kf rfl H locs ls hP hD hS hl)
  | some a => exact lv_ifnonnull C.1 C.2.1 hd ht (kt a rfl H locs ls hP hD hS hl)
theorem j_tableIn (C : Cx κ cc own rm mx) {dflt lo hi : Int} {offs : Array Int} {len : Nat} {x : Int32} {off : Int} {tgt : Nat} (hd : decode cc pc = .ok (.tableswitch dflt lo hi offs, len)) (h1 : ¬ x.toInt < lo) (h2 : ¬ hi < x.toInt) (ho : offs[(x.toInt - lo).toNat]? = some off) (ht : (pc : Int) + off = (tgt : Int)) (k : J κ cells slots G D tgt lv st) : J κ cells slots G D pc lv (.int x :: st) := by
  obtain ⟨p, l, e, R, s, m, args, below, meth, c, Q, Dc, Y, A, H0, nL⟩ := κ
  intro H locs ls hP hD hS hl
  exact lv_tableIn C.1 C.2.1 hd h1 h2 ho ht (k H locs ls hP hD hS hl)
theorem j_tableOut (C : Cx κ cc own rm mx) {dflt lo hi : Int} {offs : Array Int} {len : Nat} {x : Int32} {tgt : Nat} (hd : decode cc pc = .ok (.tableswitch dflt lo hi offs, len)) (h : x.toInt < lo ∨ hi < x.toInt) (ht : (pc : Int) + dflt = (tgt : Int)) (k : J κ cells slots G D tgt lv st) : J κ cells slots G D pc lv (.int x :: st) := by
  obtain ⟨p, l, e, R, s, m, args, below, meth, c, Q, Dc, Y, A, H0, nL⟩ := κ
  intro H locs ls hP hD hS hl
  exact lv_tableOut C.1 C.2.1 hd h ht (k H locs ls hP hD hS hl)
theorem j_ldc (C : Cx κ cc own rm mx) {index : Nat} {v : Int32} (hw : Jvm.Cond.constant own index v ∈ tb) (hd : decode cc pc = .ok (.ldc index, 2)) (k : J κ cells slots G D (pc + 2) lv (.int v :: st)) : J κ cells slots G D pc lv st := by
  obtain ⟨p, l, e, R, s, m, args, below, meth, c, Q, Dc, Y, A, H0, nL⟩ := κ
  intro H locs ls hP hD hS hl
  exact lv_ldc C.1 C.2.1 C.2.2.2.1 (C.2.2.2.2.1 _ hw) hd (k H locs ls hP hD hS hl)
theorem j_ldc2 (C : Cx κ cc own rm mx) {index : Nat} {v : Int64} (hw : Jvm.Cond.constantLong own index v ∈ tb) (hd : decode cc pc = .ok (.ldc2_w index, 3)) (k : J κ cells slots G D (pc + 3) lv (.long v :: st)) : J κ cells slots G D pc lv st := by
  obtain ⟨p, l, e, R, s, m, args, below, meth, c, Q, Dc, Y, A, H0, nL⟩ := κ
  intro H locs ls hP hD hS hl
  exact lv_ldc2 C.1 C.2.1 C.2.2.2.1 (C.2.2.2.2.1 _ hw) hd (k H locs ls hP hD hS hl)
theorem j_get (C : Cx κ cc own rm mx) {a ci : Nat} (ko : isO G a ci) {Cn ref : String} {T : u_T} {N index : Nat} (hc : vwCl[ci]? = some (Cn, T, N)) (hin : ∀ w ∈ u_ws Cn T N, w ∈ tb) (k : Nat) (hk : k < N) (hlink : Cond.fieldLink own index ref (T k).2.1 (T k).2.2.1 ∈ tb) (hsame : (T k).1 = ref) {v : Value} {fs : List Value} (hfs : ∀ Y : Nat → ClassId, pe Y ci (G.2.2.1 a) (G.2.2.2 a) (D.1 a) (D.2 a) = .inr (ci, fs)) (hv : fs[k]? = some v) (hd : decode cc pc = .ok (.getfield index, 3)) (kk : J κ cells slots G D (pc + 3) lv (v :: st)) : J κ cells slots G D pc lv (.ref a :: st) := by
  obtain ⟨p, l, e, R, s, m, args, below, meth, c, Q, Dc, Y, A, H0, nL⟩ := κ
  intro H locs ls hP hD hS hl
  have he : pE Y G D a = .inr (ci, fs) := by unfold pE; rw [ko.2]; exact hfs Y
  obtain ⟨q0, hq⟩ := PW_get ko.1 he
  exact va_get C.1 C.2.1 C.2.2.2.2.1 hin C.2.2.2.1 C.2.2.2.2.2.1 hP q0 hq hc k hk (C.2.2.2.2.1 _ hlink) (fun _ h => by rw [← hsame]; exact h) hv hd (kk H locs ls hP hD hS hl)
theorem j_put (C : Cx κ cc own rm mx) {a ci : Nat} (ko : isO G a ci) {Cn ref : String} {T : u_T} {N index : Nat} (hc : vwCl[ci]? = some (Cn, T, N)) (hin : ∀ w ∈ u_ws Cn T N, w ∈ tb) (ty0 : Nat → FieldType) (hty : ∀ k, k < N → parseFieldDescriptor (T k).2.2.1 = some (ty0 k)) (hnm : ∀ a, a < N → ∀ b, b < N → a ≠ b → (T a).2.1 ≠ (T b).2.1) (k : Nat) (hk : k < N) (hlink : Cond.fieldLink own index ref (T k).2.1 (T k).2.2.1 ∈ tb) (hsame : (T k).1 = ref) (hfin : (T k).2.2.2 = false) {ty : FieldType} {v : Value} (hde : parseFieldDescriptor (T k).2.2.1 = some ty) (hn : narrow ty v = v) (hfit : fits ty v = true) {D' : Dat} {fs : List Value} (hfs : ∀ Y : Nat → ClassId, pe Y ci (G.2.2.1 a) (G.2.2.2 a) (D.1 a) (D.2 a) = .inr (ci, fs)) (hfs2 : ∀ Y : Nat → ClassId, pe Y ci (G.2.2.1 a) (G.2.2.2 a) (D'.1 a) (D'.2 a) = .inr (ci, fs.set k v)) (ho : ∀ (Y : Nat → ClassId) (b : Nat), b ≠ a → pE Y G D' b = pE Y G D b) (hlen : k < fs.length) (hd : decode cc pc = .ok (.putfield index, 3)) (kk : J κ cells slots G D' (pc + 3) lv st) : J κ cells slots G D pc lv (v :: .ref a :: st) := by
  obtain ⟨p, l, e, R, s, m, args, below, meth, c, Q, Dc, Y, A, H0, nL⟩ := κ
  intro H locs ls hP hD hS hl
  have he : pE Y G D a = .inr (ci, fs) := by unfold pE; rw [ko.2]; exact hfs Y
  have he2 : pE Y G D' a = .inr (ci, fs.set k v) := by unfold pE; rw [ko.2]; exact hfs2 Y
  obtain ⟨q0, hq⟩ := PW_get ko.1 he
  refine va_put C.1 C.2.1 C.2.2.2.2.1 hin ty0 hty hnm C.2.2.2.1 C.2.2.2.2.2.1 hP hD hS q0 hq hc k hk (C.2.2.2.2.1 _ hlink) (fun _ h => by rw [← hsame]; exact h) hfin hde hn hfit hlen hd (fun H1 locs1 hP1 hD1 hS1 => ?_)
  rw [PW_set hD ko.1 he hq rfl he2 (ho Y)] at hP1 hD1
  exact kk H1 locs1 ls hP1 hD1 hS1 hl
theorem j_iald (C : Cx κ cc own rm mx) {a : Nat} (ko : isO G a 11) {i : Int32} (hi : vp_in i (G.2.2.1 a)) (hd : decode cc pc = .ok (.iaload, 1)) (kk : J κ cells slots G D (pc + 1) lv (.int (D.1 a i.toNatClampNeg) :: st)) : J κ cells slots G D pc lv (.int i :: .ref a :: st) := by
  obtain ⟨p, l, e, R, s, m, args, below, meth, c, Q, Dc, Y, A, H0, nL⟩ := κ
  intro H locs ls hP hD hS hl
  have he : pE Y G D a = .inl (Y 1, G.2.2.1 a, .inl (D.1 a)) := by unfold pE; rw [ko.2]; rfl
  obtain ⟨q0, hq⟩ := PW_get ko.1 he
  exact va_iald C.1 C.2.1 C.2.2.2.2.2.1 hP q0 1 hq rfl hi hd (kk H locs ls hP hD hS hl)
theorem j_lald (C : Cx κ cc own rm mx) {a : Nat} (ko : isO G a 12) {i : Int32} (hi : vp_in i (G.2.2.1 a)) (hd : decode cc pc = .ok (.laload, 1)) (kk : J κ cells slots G D (pc + 1) lv (.long (D.2 a i.toNatClampNeg) :: st)) : J κ cells slots G D pc lv (.int i :: .ref a :: st) := by
  obtain ⟨p, l, e, R, s, m, args, below, meth, c, Q, Dc, Y, A, H0, nL⟩ := κ
  intro H locs ls hP hD hS hl
  have he : pE Y G D a = .inl (Y 2, G.2.2.1 a, .inr (.inl (D.2 a))) := by unfold pE; rw [ko.2]; rfl
  obtain ⟨q0, hq⟩ := PW_get ko.1 he
  exact va_lald C.1 C.2.1 C.2.2.2.2.2.1 hP q0 2 hq rfl hi hd (kk H locs ls hP hD hS hl)
theorem j_zald (C : Cx κ cc own rm mx) {a : Nat} (ko : isO G a 13) {i : Int32} (hi : vp_in i (G.2.2.1 a)) (hd : decode cc pc = .ok (.baload, 1)) (kk : J κ cells slots G D (pc + 1) lv (.int (D.1 a i.toNatClampNeg) :: st)) : J κ cells slots G D pc lv (.int i :: .ref a :: st) := by
  obtain ⟨p, l, e, R, s, m, args, below, meth, c, Q, Dc, Y, A, H0, nL⟩ := κ
  intro H locs ls hP hD hS hl
  have he : pE Y G D a = .inl (Y 3, G.2.2.1 a, .inl (D.1 a)) := by unfold pE; rw [ko.2]; rfl
  obtain ⟨q0, hq⟩ := PW_get ko.1 he
  exact va_zald C.1 C.2.1 C.2.2.2.2.2.1 hP q0 3 hq rfl hi hd (kk H locs ls hP hD hS hl)
theorem j_bald (C : Cx κ cc own rm mx) {a : Nat} (ko : isO G a 10) {i : Int32} (hi : vp_in i (G.2.2.1 a)) (hd : decode cc pc = .ok (.baload, 1)) (kk : J κ cells slots G D (pc + 1) lv (.int (D.1 a i.toNatClampNeg) :: st)) : J κ cells slots G D pc lv (.int i :: .ref a :: st) := by
  obtain ⟨p, l, e, R, s, m, args, below, meth, c, Q, Dc, Y, A, H0, nL⟩ := κ
  intro H locs ls hP hD hS hl
  have he : pE Y G D a = .inl (Y 0, G.2.2.1 a, .inl (D.1 a)) := by unfold pE; rw [ko.2]; rfl
  obtain ⟨q0, hq⟩ := PW_get ko.1 he
  exact va_bald C.1 C.2.1 C.2.2.2.2.2.1 hP q0 0 hq rfl hi hd (kk H locs ls hP hD hS hl)
theorem j_iast (C : Cx κ cc own rm mx) {a : Nat} (ko : isO G a 11) {i : Int32} {x : Int32} (hi : vp_in i (G.2.2.1 a)) (hd : decode cc pc = .ok (.iastore, 1)) (kk : J κ cells slots G (dI D a i.toNatClampNeg x) (pc + 1) lv st) : J κ cells slots G D pc lv (.int x :: .int i :: .ref a :: st) := by
  obtain ⟨p, l, e, R, s, m, args, below, meth, c, Q, Dc, Y, A, H0, nL⟩ := κ
  intro H locs ls hP hD hS hl
  have he : pE Y G D a = .inl (Y 1, G.2.2.1 a, .inl (D.1 a)) := by unfold pE; rw [ko.2]; rfl
  have he2 : pE Y G (dI D a i.toNatClampNeg x) a = .inl (Y 1, G.2.2.1 a, .inl (upd (D.1 a) i.toNatClampNeg x)) := by unfold pE; rw [ko.2]; simp only [dI, dJ, va_up_self]; rfl
  obtain ⟨q0, hq⟩ := PW_get ko.1 he
  refine va_iast C.1 C.2.1 C.2.2.2.2.2.1 hP hD hS q0 1 hq rfl hi hd (fun H1 locs1 hP1 hD1 hS1 => ?_)
  rw [PW_set hD ko.1 he hq rfl he2 (fun b hb => pE_dI b hb)] at hP1 hD1
  exact kk H1 locs1 ls hP1 hD1 hS1 hl
theorem j_last (C : Cx κ cc own rm mx) {a : Nat} (ko : isO G a 12) {i : Int32} {x : Int64} (hi : vp_in i (G.2.2.1 a)) (hd : decode cc pc = .ok (.lastore, 1)) (kk : J κ cells slots G (dJ D a i.toNatClampNeg x) (pc + 1) lv st) : J κ cells slots G D pc lv (.long x :: .int i :: .ref a :: st) := by
  obtain ⟨p, l, e, R, s, m, args, below, meth, c, Q, Dc, Y, A, H0, nL⟩ := κ
  intro H locs ls hP hD hS hl
  have he : pE Y G D a = .inl (Y 2, G.2.2.1 a, .inr (.inl (D.2 a))) := by unfold pE; rw [ko.2]; rfl
  have he2 : pE Y G (dJ D a i.toNatClampNeg x) a = .inl (Y 2, G.2.2.1 a, .inr (.inl (vp_updL (D.2 a) i.toNatClampNeg x))) := by unfold pE; rw [ko.2]; simp only [dI, dJ, va_up_self]; rfl
  obtain ⟨q0, hq⟩ := PW_get ko.1 he
  refine va_last C.1 C.2.1 C.2.2.2.2.2.1 hP hD hS q0 2 hq rfl hi hd (fun H1 locs1 hP1 hD1 hS1 => ?_)
  rw [PW_set hD ko.1 he hq rfl he2 (fun b hb => pE_dJ b hb)] at hP1 hD1
  exact kk H1 locs1 ls hP1 hD1 hS1 hl
theorem j_zast (C : Cx κ cc own rm mx) {a : Nat} (ko : isO G a 13) {i : Int32} {x : Int32} (hi : vp_in i (G.2.2.1 a)) (hd : decode cc pc = .ok (.bastore, 1)) (kk : J κ cells slots G (dI D a i.toNatClampNeg (vp_nar .boolean x)) (pc + 1) lv st) : J κ cells slots G D pc lv (.int x :: .int i :: .ref a :: st) := by
  obtain ⟨p, l, e, R, s, m, args, below, meth, c, Q, Dc, Y, A, H0, nL⟩ := κ
  intro H locs ls hP hD hS hl
  have he : pE Y G D a = .inl (Y 3, G.2.2.1 a, .inl (D.1 a)) := by unfold pE; rw [ko.2]; rfl
  have he2 : pE Y G (dI D a i.toNatClampNeg (vp_nar .boolean x)) a = .inl (Y 3, G.2.2.1 a, .inl (upd (D.1 a) i.toNatClampNeg (vp_nar .boolean x))) := by unfold pE; rw [ko.2]; simp only [dI, dJ, va_up_self]; rfl
  obtain ⟨q0, hq⟩ := PW_get ko.1 he
  refine va_zast C.1 C.2.1 C.2.2.2.2.2.1 hP hD hS q0 3 hq rfl hi hd (fun H1 locs1 hP1 hD1 hS1 => ?_)
  rw [PW_set hD ko.1 he hq rfl he2 (fun b hb => pE_dI b hb)] at hP1 hD1
  exact kk H1 locs1 ls hP1 hD1 hS1 hl
theorem j_bast (C : Cx κ cc own rm mx) {a : Nat} (ko : isO G a 10) {i : Int32} {x : Int32} (hi : vp_in i (G.2.2.1 a)) (hd : decode cc pc = .ok (.bastore, 1)) (kk : J κ cells slots G (dI D a i.toNatClampNeg (vp_nar .byte x)) (pc + 1) lv st) : J κ cells slots G D pc lv (.int x :: .int i :: .ref a :: st) := by
  obtain ⟨p, l, e, R, s, m, args, below, meth, c, Q, Dc, Y, A, H0, nL⟩ := κ
  intro H locs ls hP hD hS hl
  have he : pE Y G D a = .inl (Y 0, G.2.2.1 a, .inl (D.1 a)) := by unfold pE; rw [ko.2]; rfl
  have he2 : pE Y G (dI D a i.toNatClampNeg (vp_nar .byte x)) a = .inl (Y 0, G.2.2.1 a, .inl (upd (D.1 a) i.toNatClampNeg (vp_nar .byte x))) := by unfold pE; rw [ko.2]; simp only [dI, dJ, va_up_self]; rfl
  obtain ⟨q0, hq⟩ := PW_get ko.1 he
  refine va_bast C.1 C.2.1 C.2.2.2.2.2.1 hP hD hS q0 0 hq rfl hi hd (fun H1 locs1 hP1 hD1 hS1 => ?_)
  rw [PW_set hD ko.1 he hq rfl he2 (fun b hb => pE_dI b hb)] at hP1 hD1
  exact kk H1 locs1 ls hP1 hD1 hS1 hl
theorem j_aaldBig (C : Cx κ cc own rm mx) {a : Nat} (ko : isO G a 14) {i : Int32} (hi : vp_in i (G.2.2.1 a)) {y : Nat} (hy : G.2.2.2 a i.toNatClampNeg = some y) (hd : decode cc pc = .ok (.aaload, 1)) (kk : J κ cells slots G D (pc + 1) lv (.ref y :: st)) : J κ cells slots G D pc lv (.int i :: .ref a :: st) := by
  obtain ⟨p, l, e, R, s, m, args, below, meth, c, Q, Dc, Y, A, H0, nL⟩ := κ
  intro H locs ls hP hD hS hl
  have he : pE Y G D a = .inl (Y 4, G.2.2.1 a, .inr (.inr (.inr (.inr (G.2.2.2 a))))) := by unfold pE; rw [ko.2]; rfl
  obtain ⟨q0, hq⟩ := PW_get ko.1 he
  refine va_aldq C.1 C.2.1 C.2.2.2.2.2.1 hP q0 4 hq rfl hi hd ?_
  rw [hy]
  exact kk H locs ls hP hD hS hl
theorem j_aaldRow (C : Cx κ cc own rm mx) {a : Nat} (ko : isO G a 15) {i : Int32} (hi : vp_in i (G.2.2.1 a)) {y : Nat} (hy : G.2.2.2 a i.toNatClampNeg = some y) (hd : decode cc pc = .ok (.aaload, 1)) (kk : J κ cells slots G D (pc + 1) lv (.ref y :: st)) : J κ cells slots G D pc lv (.int i :: .ref a :: st) := by
  obtain ⟨p, l, e, R, s, m, args, below, meth, c, Q, Dc, Y, A, H0, nL⟩ := κ
  intro H locs ls hP hD hS hl
  have he : pE Y G D a = .inl (Y 5, G.2.2.1 a, .inr (.inr (.inr (.inr (G.2.2.2 a))))) := by unfold pE; rw [ko.2]; rfl
  obtain ⟨q0, hq⟩ := PW_get ko.1 he
  refine va_aldq C.1 C.2.1 C.2.2.2.2.2.1 hP q0 5 hq rfl hi hd ?_
  rw [hy]
  exact kk H locs ls hP hD hS hl
theorem j_aaldTick (C : Cx κ cc own rm mx) {a : Nat} (ko : isO G a 16) {i : Int32} (hi : vp_in i (G.2.2.1 a)) {y : Nat} (hy : G.2.2.2 a i.toNatClampNeg = some y) (hd : decode cc pc = .ok (.aaload, 1)) (kk : J κ cells slots G D (pc + 1) lv (.ref y :: st)) : J κ cells slots G D pc lv (.int i :: .ref a :: st) := by
  obtain ⟨p, l, e, R, s, m, args, below, meth, c, Q, Dc, Y, A, H0, nL⟩ := κ
  intro H locs ls hP hD hS hl
  have he : pE Y G D a = .inl (Y 6, G.2.2.1 a, .inr (.inr (.inr (.inr (G.2.2.2 a))))) := by unfold pE; rw [ko.2]; rfl
  obtain ⟨q0, hq⟩ := PW_get ko.1 he
  refine va_aldq C.1 C.2.1 C.2.2.2.2.2.1 hP q0 6 hq rfl hi hd ?_
  rw [hy]
  exact kk H locs ls hP hD hS hl
theorem j_aaldJ (C : Cx κ cc own rm mx) {a : Nat} (ko : isO G a 17) {i : Int32} (hi : vp_in i (G.2.2.1 a)) {y : Nat} (hy : G.2.2.2 a i.toNatClampNeg = some y) (hd : decode cc pc = .ok (.aaload, 1)) (kk : J κ cells slots G D (pc + 1) lv (.ref y :: st)) : J κ cells slots G D pc lv (.int i :: .ref a :: st) := by
  obtain ⟨p, l, e, R, s, m, args, below, meth, c, Q, Dc, Y, A, H0, nL⟩ := κ
  intro H locs ls hP hD hS hl
  have he : pE Y G D a = .inl (Y 7, G.2.2.1 a, .inr (.inr (.inr (.inr (G.2.2.2 a))))) := by unfold pE; rw [ko.2]; rfl
  obtain ⟨q0, hq⟩ := PW_get ko.1 he
  have hlt : i.toNatClampNeg < G.2.2.1 a := Nat.not_le.mp fun q => hi (Or.inr q)
  refine W.aald (v := va_rf (G.2.2.2 a i.toNatClampNeg)) (ty := .array .long) C.1 C.2.1 (hP q0 _ hq) ((C.2.2.2.2.2.1.2 7 _ rfl).1 (G.2.2.1 a) (fun j => va_rf (G.2.2.2 a j))) rfl (fun q => by cases q) (by show ¬ (i < 0 ∨ (arrV _ _ _).slots.size ≤ _); rw [arrV_size]; exact hi) (by show (arrV _ _ _).slots[_]? = _; rw [arrV_read _ _ hlt]) rfl rfl hd ?_
  rw [hy]
  exact kk H locs ls hP hD hS hl
theorem j_alenJ (C : Cx κ cc own rm mx) {a : Nat} (ko : isO G a 12) (hd : decode cc pc = .ok (.arraylength, 1)) (kk : J κ cells slots G D (pc + 1) lv (.int (Int32.ofNat (G.2.2.1 a)) :: st)) : J κ cells slots G D pc lv (.ref a :: st) := by
  obtain ⟨p, l, e, R, s, m, args, below, meth, c, Q, Dc, Y, A, H0, nL⟩ := κ
  intro H locs ls hP hD hS hl
  have he : pE Y G D a = .inl (Y 2, G.2.2.1 a, .inr (.inl (D.2 a))) := by unfold pE; rw [ko.2]; rfl
  obtain ⟨q0, hq⟩ := PW_get ko.1 he
  exact va_alen C.1 C.2.1 C.2.2.2.2.2.1 hP q0 2 hq rfl rfl hd (kk H locs ls hP hD hS hl)
end JR
