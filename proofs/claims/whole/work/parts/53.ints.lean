/-! whole numbers as ints -/
def iI (z : Int) : Int32 := Int32.ofInt z
def sm (z : Int) : Prop := -1000000000 ≤ z ∧ z ≤ 1000000000
theorem iI_toInt {z : Int} (h : sm z) : (iI z).toInt = z := by
  unfold iI
  exact Int32.toInt_ofInt_of_le (by have := h.1; omega) (by have := h.2; omega)
theorem iI_nI (n : Nat) : iI (n : Int) = nI n := by
  unfold iI nI
  apply Int32.toBitVec_inj.mp
  simp [Int32.ofInt, Int32.ofNat]
theorem iI_add (a b : Int) : iI a + iI b = iI (a + b) := by unfold iI; rw [Int32.ofInt_add]
theorem iI_sub (a b : Int) : iI a - iI b = iI (a - b) := by unfold iI; rw [Int32.ofInt_sub]
theorem iI_mul (a b : Int) : iI a * iI b = iI (a * b) := by unfold iI; rw [Int32.ofInt_mul]
theorem iI_neg (a : Int) : - iI a = iI (-a) := by unfold iI; rw [Int32.ofInt_neg]
theorem iI_lt {a b : Int} (ha : sm a) (hb : sm b) : iI a < iI b ↔ a < b := by
  rw [Int32.lt_iff_toInt_lt, iI_toInt ha, iI_toInt hb]
theorem iI_le {a b : Int} (ha : sm a) (hb : sm b) : iI a ≤ iI b ↔ a ≤ b := by
  rw [Int32.le_iff_toInt_le, iI_toInt ha, iI_toInt hb]
theorem iI_eq {a b : Int} (ha : sm a) (hb : sm b) : iI a = iI b ↔ a = b := by
  constructor
  · intro h
    rw [← iI_toInt ha, ← iI_toInt hb, h]
  · intro h
    rw [h]
theorem iI_0 : (0 : Int32) = iI 0 := rfl
theorem iI_m1 : (-1 : Int32) = iI (-1) := rfl
theorem iI_cl {n : Nat} (h : n < 2 ^ 31) : (iI (n : Int)).toNatClampNeg = n := by rw [iI_nI, nI_clamp h]
theorem smI_add (f g : Nat → Int) : ∀ n, smI (fun i => f i + g i) n = smI f n + smI g n
  | 0 => rfl
  | n + 1 => by simp only [smI, smI_add f g n]; omega
theorem smI_sub (f g : Nat → Int) : ∀ n, smI (fun i => f i - g i) n = smI f n - smI g n
  | 0 => rfl
  | n + 1 => by simp only [smI, smI_sub f g n]; omega
theorem smI_mul (c : Int) (f : Nat → Int) : ∀ n, smI (fun i => c * f i) n = c * smI f n
  | 0 => by simp [smI]
  | n + 1 => by simp only [smI, smI_mul c f n, Int.mul_add]
theorem smI_ext {f g : Nat → Int} : ∀ {n : Nat}, (∀ i, i < n → f i = g i) → smI f n = smI g n
  | 0, _ => rfl
  | n + 1, h => by simp only [smI]; rw [smI_ext (fun i hi => h i (by omega)), h n (by omega)]
theorem smI_le {f g : Nat → Int} : ∀ {n : Nat}, (∀ i, i < n → f i ≤ g i) → smI f n ≤ smI g n
  | 0, _ => Int.le_refl _
  | n + 1, h => by
    simp only [smI]
    have h1 := smI_le (f := f) (g := g) (n := n) (fun i hi => h i (by omega))
    have h2 := h n (by omega)
    omega
theorem smI_zero : ∀ n, smI (fun _ => 0) n = 0
  | 0 => rfl
  | n + 1 => by simp only [smI, smI_zero n]; rfl
theorem smI_bd {f : Nat → Int} {c : Int} : ∀ {n : Nat}, (∀ i, i < n → 0 ≤ f i ∧ f i ≤ c) → 0 ≤ smI f n ∧ smI f n ≤ n * c
  | 0, _ => by simp [smI]
  | n + 1, h => by
    simp only [smI]
    have h1 := smI_bd (f := f) (c := c) (n := n) (fun i hi => h i (by omega))
    have h2 := h n (by omega)
    have : ((n + 1 : Nat) : Int) * c = n * c + c := by rw [Int.natCast_add, Int.add_mul]; simp
    omega
/-- one place of a sum -/
theorem smI_pick (c : Int) (k : Nat) : ∀ n, smI (fun i => if i = k then c else 0) n = if k < n then c else 0
  | 0 => by simp [smI]
  | n + 1 => by
    simp only [smI, smI_pick c k n]
    by_cases h : n = k
    · subst h; simp
    · by_cases h2 : k < n
      · simp [h, h2, show k < n + 1 by omega]
      · simp [h, h2, show ¬ k < n + 1 by omega]
/-- two sums change places -/
theorem smI_swap (f : Nat → Nat → Int) (m : Nat) : ∀ n, smI (fun i => smI (fun j => f i j) m) n = smI (fun j => smI (fun i => f i j) n) m
  | 0 => by
    simp only [smI]
    exact (smI_zero m).symm
  | n + 1 => by
    simp only [smI]
    rw [smI_swap f m n, ← smI_add]
