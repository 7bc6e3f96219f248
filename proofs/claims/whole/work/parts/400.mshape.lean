/-! the reference's objects: the role 500 and a slot is what that slot holds -/
def MA (G : Shp) (ad : Nat → Nat) (s k n : Nat) : Prop := G.2.2.2 (ad 500) s = some (ad (500 + s)) ∧ isO G (ad (500 + s)) k ∧ G.2.2.1 (ad (500 + s)) = n
def RG (G : Shp) (ad ro : Nat → Nat) : Prop := (∀ i, 500 ≤ i → i < 530 → ro (ad i) = i) ∧ isO G (ad 500) 9 ∧ MA G ad 1 11 700000 ∧ MA G ad 3 11 600 ∧ MA G ad 4 11 600 ∧ MA G ad 5 11 600 ∧ MA G ad 8 11 1500 ∧ MA G ad 10 11 160 ∧ MA G ad 11 11 4 ∧ MA G ad 12 11 4 ∧ MA G ad 13 11 12 ∧ MA G ad 14 11 4 ∧ MA G ad 15 13 160 ∧ MA G ad 16 13 160 ∧ MA G ad 17 13 4 ∧ MA G ad 18 13 320 ∧ MA G ad 19 11 19 ∧ MA G ad 20 11 19 ∧ MA G ad 22 12 361 ∧ MA G ad 23 12 19 ∧ MA G ad 24 11 380 ∧ MA G ad 26 11 1800 ∧ MA G ad 27 13 40 ∧ MA G ad 28 13 40 ∧ MA G ad 29 11 40
theorem RG.inj_ {G : Shp} {ad ro : Nat → Nat} (h : RG G ad ro) : ∀ i, 500 ≤ i → i < 530 → ro (ad i) = i := h.1
theorem RG.x_ {G : Shp} {ad ro : Nat → Nat} (h : RG G ad ro) : isO G (ad 500) 9 := h.2.1
theorem RG.mem_ {G : Shp} {ad ro : Nat → Nat} (h : RG G ad ro) : MA G ad 1 11 700000 := h.2.2.1
theorem RG.left_ {G : Shp} {ad ro : Nat → Nat} (h : RG G ad ro) : MA G ad 3 11 600 := h.2.2.2.1
theorem RG.by_ {G : Shp} {ad ro : Nat → Nat} (h : RG G ad ro) : MA G ad 4 11 600 := h.2.2.2.2.1
theorem RG.quo_ {G : Shp} {ad ro : Nat → Nat} (h : RG G ad ro) : MA G ad 5 11 600 := h.2.2.2.2.2.1
theorem RG.out_ {G : Shp} {ad ro : Nat → Nat} (h : RG G ad ro) : MA G ad 8 11 1500 := h.2.2.2.2.2.2.1
theorem RG.val_ {G : Shp} {ad ro : Nat → Nat} (h : RG G ad ro) : MA G ad 10 11 160 := h.2.2.2.2.2.2.2.1
theorem RG.per_ {G : Shp} {ad ro : Nat → Nat} (h : RG G ad ro) : MA G ad 11 11 4 := h.2.2.2.2.2.2.2.2.1
theorem RG.stp_ {G : Shp} {ad ro : Nat → Nat} (h : RG G ad ro) : MA G ad 12 11 4 := h.2.2.2.2.2.2.2.2.2.1
theorem RG.sta_ {G : Shp} {ad ro : Nat → Nat} (h : RG G ad ro) : MA G ad 13 11 12 := h.2.2.2.2.2.2.2.2.2.2.1
theorem RG.fea_ {G : Shp} {ad ro : Nat → Nat} (h : RG G ad ro) : MA G ad 14 11 4 := h.2.2.2.2.2.2.2.2.2.2.2.1
theorem RG.has_ {G : Shp} {ad ro : Nat → Nat} (h : RG G ad ro) : MA G ad 15 13 160 := h.2.2.2.2.2.2.2.2.2.2.2.2.1
theorem RG.isx_ {G : Shp} {ad ro : Nat → Nat} (h : RG G ad ro) : MA G ad 16 13 160 := h.2.2.2.2.2.2.2.2.2.2.2.2.2.1
theorem RG.lin_ {G : Shp} {ad ro : Nat → Nat} (h : RG G ad ro) : MA G ad 17 13 4 := h.2.2.2.2.2.2.2.2.2.2.2.2.2.2.1
theorem RG.ion_ {G : Shp} {ad ro : Nat → Nat} (h : RG G ad ro) : MA G ad 18 13 320 := h.2.2.2.2.2.2.2.2.2.2.2.2.2.2.2.1
theorem RG.ha0_ {G : Shp} {ad ro : Nat → Nat} (h : RG G ad ro) : MA G ad 19 11 19 := h.2.2.2.2.2.2.2.2.2.2.2.2.2.2.2.2.1
theorem RG.kin_ {G : Shp} {ad ro : Nat → Nat} (h : RG G ad ro) : MA G ad 20 11 19 := h.2.2.2.2.2.2.2.2.2.2.2.2.2.2.2.2.2.1
theorem RG.squ_ {G : Shp} {ad ro : Nat → Nat} (h : RG G ad ro) : MA G ad 22 12 361 := h.2.2.2.2.2.2.2.2.2.2.2.2.2.2.2.2.2.2.1
theorem RG.rig_ {G : Shp} {ad ro : Nat → Nat} (h : RG G ad ro) : MA G ad 23 12 19 := h.2.2.2.2.2.2.2.2.2.2.2.2.2.2.2.2.2.2.2.1
theorem RG.row_ {G : Shp} {ad ro : Nat → Nat} (h : RG G ad ro) : MA G ad 24 11 380 := h.2.2.2.2.2.2.2.2.2.2.2.2.2.2.2.2.2.2.2.2.1
theorem RG.kep_ {G : Shp} {ad ro : Nat → Nat} (h : RG G ad ro) : MA G ad 26 11 1800 := h.2.2.2.2.2.2.2.2.2.2.2.2.2.2.2.2.2.2.2.2.2.1
theorem RG.bef_ {G : Shp} {ad ro : Nat → Nat} (h : RG G ad ro) : MA G ad 27 13 40 := h.2.2.2.2.2.2.2.2.2.2.2.2.2.2.2.2.2.2.2.2.2.2.1
theorem RG.bec_ {G : Shp} {ad ro : Nat → Nat} (h : RG G ad ro) : MA G ad 28 13 40 := h.2.2.2.2.2.2.2.2.2.2.2.2.2.2.2.2.2.2.2.2.2.2.2.1
theorem RG.sz0_ {G : Shp} {ad ro : Nat → Nat} (h : RG G ad ro) : MA G ad 29 11 40 := h.2.2.2.2.2.2.2.2.2.2.2.2.2.2.2.2.2.2.2.2.2.2.2.2
theorem RG.ne {G : Shp} {ad ro : Nat → Nat} (h : RG G ad ro) {i j : Nat} (hi : 500 ≤ i ∧ i < 530) (hj : 500 ≤ j ∧ j < 530) (hij : i ≠ j) : ad i ≠ ad j := fun q => hij (by rw [← h.inj_ i hi.1 hi.2, ← h.inj_ j hj.1 hj.2, q])
theorem FrP.mi {G : Shp} {ad ro : Nat → Nat} (H : RG G ad ro) {D D' : Dat} {P : Nat → Prop} (h : FrP ro D D' P) {r : Nat} (hr : 500 ≤ r ∧ r < 530) (hP : ¬ P r) : D'.1 (ad r) = D.1 (ad r) := (h (ad r) (by rw [H.inj_ r hr.1 hr.2]; exact hP)).1
theorem FrP.ml {G : Shp} {ad ro : Nat → Nat} (H : RG G ad ro) {D D' : Dat} {P : Nat → Prop} (h : FrP ro D D' P) {r : Nat} (hr : 500 ≤ r ∧ r < 530) (hP : ¬ P r) : D'.2 (ad r) = D.2 (ad r) := (h (ad r) (by rw [H.inj_ r hr.1 hr.2]; exact hP)).2
