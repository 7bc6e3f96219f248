/-! determinants, by their first row, over lists of rows and columns -/
def ex (A : Nat → Rat) (f : List Nat → Rat) : List Nat → List Nat → Rat
  | _, [] => 0
  | pre, c :: cs => A c * f (pre ++ cs) - ex A f (pre ++ [c]) cs
def dt (A : Nat → Nat → Rat) : List Nat → List Nat → Rat
  | [], [] => 1
  | [], _ :: _ => 0
  | r :: R, cs => ex (A r) (dt A R) [] cs
def sl (g : Nat → Rat) : List Nat → Rat
  | [] => 0
  | k :: K => g k + sl g K
def sgn : Nat → Rat
  | 0 => 1
  | n + 1 => -sgn n
theorem sl_congr {g h : Nat → Rat} : ∀ {K : List Nat}, (∀ k, k ∈ K → g k = h k) → sl g K = sl h K
  | [], _ => rfl
  | k :: K, e => by
    show g k + sl g K = h k + sl h K
    rw [e k List.mem_cons_self, sl_congr (fun q hq => e q (List.mem_cons_of_mem _ hq))]
theorem sl_zero {g : Nat → Rat} : ∀ {K : List Nat}, (∀ k, k ∈ K → g k = 0) → sl g K = 0
  | [], _ => rfl
  | k :: K, e => by
    show g k + sl g K = 0
    rw [e k List.mem_cons_self, sl_zero (fun q hq => e q (List.mem_cons_of_mem _ hq))]
    grind
theorem sl_app {g : Nat → Rat} : ∀ {K L : List Nat}, sl g (K ++ L) = sl g K + sl g L
  | [], L => by show sl g L = 0 + sl g L; grind
  | k :: K, L => by
    show g k + sl g (K ++ L) = g k + sl g K + sl g L
    rw [sl_app (K := K)]; grind
theorem sl_mul {g : Nat → Rat} {a : Rat} : ∀ {K : List Nat}, sl (fun k => a * g k) K = a * sl g K
  | [] => by show (0 : Rat) = a * 0; grind
  | k :: K => by
    show a * g k + sl (fun k => a * g k) K = a * (g k + sl g K)
    rw [sl_mul (K := K)]; grind
theorem sl_sub {g h : Nat → Rat} : ∀ {K : List Nat}, sl (fun k => g k - h k) K = sl g K - sl h K
  | [] => by show (0 : Rat) = 0 - 0; grind
  | k :: K => by
    show g k - h k + sl (fun k => g k - h k) K = g k + sl g K - (h k + sl h K)
    rw [sl_sub (K := K)]; grind
/-- the sign turns with two neighbours -/
def Alt (f : List Nat → Rat) : Prop := ∀ (xs : List Nat) (c d : Nat) (ys : List Nat), f (xs ++ c :: d :: ys) = -f (xs ++ d :: c :: ys)
theorem ex_alt0 {a : Nat → Rat} {f : List Nat → Rat} (hf : Alt f) (pre : List Nat) (c d : Nat) : ∀ (ys q : List Nat), ex a f (pre ++ c :: d :: q) ys = -ex a f (pre ++ d :: c :: q) ys
  | [], q => by show (0 : Rat) = -0; grind
  | y :: ys, q => by
    show a y * f (pre ++ c :: d :: q ++ ys) - ex a f (pre ++ c :: d :: q ++ [y]) ys = -(a y * f (pre ++ d :: c :: q ++ ys) - ex a f (pre ++ d :: c :: q ++ [y]) ys)
    have h1 := hf pre c d (q ++ ys)
    have h2 := ex_alt0 hf pre c d ys (q ++ [y]) (a := a)
    simp only [List.append_assoc, List.cons_append] at *
    rw [h1, h2]; grind
theorem ex_alt {a : Nat → Rat} {f : List Nat → Rat} (hf : Alt f) (c d : Nat) (ys : List Nat) : ∀ (xs pre : List Nat), ex a f pre (xs ++ c :: d :: ys) = -ex a f pre (xs ++ d :: c :: ys)
  | [], pre => by
    show a c * f (pre ++ d :: ys) - (a d * f (pre ++ [c] ++ ys) - ex a f (pre ++ [c] ++ [d]) ys) = -(a d * f (pre ++ c :: ys) - (a c * f (pre ++ [d] ++ ys) - ex a f (pre ++ [d] ++ [c]) ys))
    have h := ex_alt0 hf pre c d ys [] (a := a)
    simp only [List.append_assoc, List.cons_append, List.nil_append] at *
    rw [h]; grind
  | x :: xs, pre => by
    show a x * f (pre ++ (xs ++ c :: d :: ys)) - ex a f (pre ++ [x]) (xs ++ c :: d :: ys) = -(a x * f (pre ++ (xs ++ d :: c :: ys)) - ex a f (pre ++ [x]) (xs ++ d :: c :: ys))
    have h1 := hf (pre ++ xs) c d ys
    have h2 := ex_alt hf c d ys xs (pre ++ [x]) (a := a)
    simp only [List.append_assoc] at *
    rw [h1, h2]; grind
theorem dt_alt (A : Nat → Nat → Rat) : ∀ R : List Nat, Alt (dt A R)
  | [] => fun xs c d ys => by
    cases xs with
    | nil => show (0 : Rat) = -0; grind
    | cons x xs => show (0 : Rat) = -0; grind
  | r :: R => fun xs c d ys => ex_alt (dt_alt A R) c d ys xs []
theorem alt_dup {f : List Nat → Rat} (hf : Alt f) (l : Nat) (q : List Nat) : ∀ (p pre : List Nat), f (pre ++ l :: (p ++ l :: q)) = 0
  | [], pre => by
    have h := hf pre l l q
    show f (pre ++ l :: l :: q) = 0
    grind
  | y :: p, pre => by
    have h := hf pre l y (p ++ l :: q)
    have h2 := alt_dup hf l q p (pre ++ [y])
    simp only [List.append_assoc, List.cons_append, List.nil_append] at *
    rw [h, h2]; grind
theorem alt_dup_mem {f : List Nat → Rat} (hf : Alt f) {l : Nat} {p : List Nat} (h : l ∈ p) : f (l :: p) = 0 := by
  obtain ⟨a, b, rfl⟩ := List.append_of_mem h
  exact alt_dup hf l b a []
theorem alt_move {f : List Nat → Rat} (hf : Alt f) (c : Nat) (q : List Nat) : ∀ (p pre : List Nat), f (pre ++ c :: (p ++ q)) = sgn p.length * f (pre ++ (p ++ c :: q))
  | [], pre => by show f (pre ++ c :: q) = 1 * f (pre ++ c :: q); grind
  | y :: p, pre => by
    have h := hf pre c y (p ++ q)
    have h2 := alt_move hf c q p (pre ++ [y])
    show f (pre ++ c :: y :: (p ++ q)) = -sgn p.length * f (pre ++ y :: (p ++ c :: q))
    simp only [List.append_assoc, List.cons_append, List.nil_append] at *
    rw [h, h2]; grind
/-- a column that is made of others -/
theorem ex_lin {a : Nat → Rat} {f : List Nat → Rat} {K : List Nat} {x : Nat → Rat} {j : Nat} (hf : ∀ q, f (j :: q) = sl (fun l => x l * f (l :: q)) K) : ∀ (cs pre : List Nat), ex a f (j :: pre) cs = sl (fun l => x l * ex a f (l :: pre) cs) K
  | [], pre => by
    show (0 : Rat) = _
    exact (sl_zero (fun l _ => by show x l * 0 = 0; grind)).symm
  | c :: cs, pre => by
    show a c * f (j :: (pre ++ cs)) - ex a f (j :: (pre ++ [c])) cs = sl (fun l => x l * (a c * f (l :: (pre ++ cs)) - ex a f (l :: (pre ++ [c])) cs)) K
    rw [hf, ex_lin hf cs (pre ++ [c]), ← sl_mul, ← sl_sub]
    exact sl_congr (fun l _ => by grind)
theorem dt_lin {A : Nat → Nat → Rat} {K : List Nat} {x : Nat → Rat} {j : Nat} : ∀ {R : List Nat}, (∀ r, r ∈ R → A r j = sl (fun l => x l * A r l) K) → ∀ q, dt A R (j :: q) = sl (fun l => x l * dt A R (l :: q)) K
  | [], _, q => by
    show (0 : Rat) = _
    exact (sl_zero (fun l _ => by show x l * 0 = 0; grind)).symm
  | r :: R, h, q => by
    have ih := dt_lin (R := R) (fun r hr => h r (List.mem_cons_of_mem _ hr))
    show A r j * dt A R q - ex (A r) (dt A R) [j] q = sl (fun l => x l * (A r l * dt A R q - ex (A r) (dt A R) [l] q)) K
    rw [ex_lin ih q [], h r List.mem_cons_self]
    have e : sl (fun l => x l * A r l) K * dt A R q = sl (fun l => dt A R q * (x l * A r l)) K := by rw [sl_mul]; grind
    rw [e, ← sl_sub]
    exact sl_congr (fun l _ => by grind)
/-- Cramer's rule -/
theorem cramer {A : Nat → Nat → Rat} {K p q : List Nat} {c j : Nat} {x : Nat → Rat} (hK : K = p ++ c :: q) (h : ∀ r, r ∈ K → A r j = sl (fun l => x l * A r l) K) : dt A K (j :: (p ++ q)) = sgn p.length * (dt A K K * x c) := by
  have h1 := dt_lin h (p ++ q)
  have hz : ∀ l, l ∈ p ++ q → x l * dt A K (l :: (p ++ q)) = 0 := fun l hl => by
    rw [alt_dup_mem (dt_alt A K) hl]; grind
  have h2 : sl (fun l => x l * dt A K (l :: (p ++ q))) K = x c * dt A K (c :: (p ++ q)) := by
    have e : ∀ g : Nat → Rat, sl g K = sl g p + (g c + sl g q) := fun g => by rw [hK, sl_app]; rfl
    rw [e, sl_zero (fun l hl => hz l (List.mem_append_left _ hl)), sl_zero (fun l hl => hz l (List.mem_append_right _ hl))]
    grind
  have h3 := alt_move (dt_alt A K) c q p []
  have h4 : ([] : List Nat) ++ (p ++ c :: q) = K := by rw [hK]; rfl
  have h5 : ([] : List Nat) ++ c :: (p ++ q) = c :: (p ++ q) := rfl
  rw [h4, h5] at h3
  rw [h1, h2, h3]
  grind
theorem border_ex {A : Nat → Nat → Rat} {K : List Nat} {i j : Nat} {x : Nat → Rat} (h : ∀ r, r ∈ K → A r j = sl (fun l => x l * A r l) K) : ∀ (cs p : List Nat), K = p ++ cs → ex (A i) (dt A K) (j :: p) cs = sgn p.length * (dt A K K * sl (fun c => A i c * x c) cs)
  | [], p, _ => by show (0 : Rat) = sgn p.length * (dt A K K * 0); grind
  | c :: cs, p, hK => by
    show A i c * dt A K (j :: (p ++ cs)) - ex (A i) (dt A K) (j :: (p ++ [c])) cs = sgn p.length * (dt A K K * (A i c * x c + sl (fun c => A i c * x c) cs))
    rw [cramer hK h, border_ex h cs (p ++ [c]) (by rw [hK, List.append_assoc]; rfl)]
    have e : sgn (p ++ [c]).length = -sgn p.length := by rw [List.length_append]; rfl
    rw [e]; grind
/-- a bordered determinant: the determinant within, times what the elimination leaves of the corner -/
theorem border {A : Nat → Nat → Rat} {K : List Nat} {i j : Nat} {x : Nat → Rat} (h : ∀ r, r ∈ K → A r j = sl (fun l => x l * A r l) K) : dt A (i :: K) (j :: K) = dt A K K * (A i j - sl (fun c => A i c * x c) K) := by
  show A i j * dt A K ([] ++ K) - ex (A i) (dt A K) ([] ++ [j]) K = _
  have h1 := border_ex (i := i) h K [] rfl
  rw [show ([] : List Nat) ++ [j] = [j] from rfl, h1]
  show A i j * dt A K K - 1 * _ = _
  grind
/-- whole numbers among the fractions -/
def isZ (q : Rat) : Prop := ∃ z : Int, q = (z : Rat)
theorem isZ.add {a b : Rat} (ha : isZ a) (hb : isZ b) : isZ (a + b) := by
  obtain ⟨x, rfl⟩ := ha; obtain ⟨y, rfl⟩ := hb
  exact ⟨x + y, by rw [Rat.intCast_add]⟩
theorem isZ.sub {a b : Rat} (ha : isZ a) (hb : isZ b) : isZ (a - b) := by
  obtain ⟨x, rfl⟩ := ha; obtain ⟨y, rfl⟩ := hb
  exact ⟨x - y, by rw [Rat.intCast_sub]⟩
theorem isZ.mul {a b : Rat} (ha : isZ a) (hb : isZ b) : isZ (a * b) := by
  obtain ⟨x, rfl⟩ := ha; obtain ⟨y, rfl⟩ := hb
  exact ⟨x * y, by rw [Rat.intCast_mul]⟩
theorem isZ.neg {a : Rat} (ha : isZ a) : isZ (-a) := by
  obtain ⟨x, rfl⟩ := ha
  exact ⟨-x, by rw [Rat.intCast_neg]⟩
theorem isZ_0 : isZ 0 := ⟨0, by simp⟩
theorem isZ_1 : isZ 1 := ⟨1, by simp⟩
theorem ex_isZ {a : Nat → Rat} {f : List Nat → Rat} (ha : ∀ c, isZ (a c)) (hf : ∀ l, isZ (f l)) : ∀ (cs pre : List Nat), isZ (ex a f pre cs)
  | [], _ => isZ_0
  | c :: cs, pre => ((ha c).mul (hf _)).sub (ex_isZ ha hf cs _)
theorem dt_isZ {A : Nat → Nat → Rat} (hA : ∀ r c, isZ (A r c)) : ∀ (R cs : List Nat), isZ (dt A R cs)
  | [], [] => isZ_1
  | [], _ :: _ => isZ_0
  | r :: R, cs => ex_isZ (hA r) (dt_isZ hA R) cs []
theorem sgn_isZ : ∀ n, isZ (sgn n)
  | 0 => isZ_1
  | n + 1 => (sgn_isZ n).neg
theorem sgn_sq : ∀ n, sgn n * sgn n = 1
  | 0 => by show (1 : Rat) * 1 = 1; grind
  | n + 1 => by
    have := sgn_sq n
    show -sgn n * -sgn n = 1
    grind
theorem cramer_isZ {A : Nat → Nat → Rat} (hA : ∀ r c, isZ (A r c)) {K : List Nat} {c j : Nat} {x : Nat → Rat} (hc : c ∈ K) (h : ∀ r, r ∈ K → A r j = sl (fun l => x l * A r l) K) : isZ (dt A K K * x c) := by
  obtain ⟨p, q, hK⟩ := List.append_of_mem hc
  have h1 := cramer hK h
  have h2 : dt A K K * x c = sgn p.length * dt A K (j :: (p ++ q)) := by
    have := sgn_sq p.length
    grind
  rw [h2]
  exact (sgn_isZ _).mul (dt_isZ hA _ _)
