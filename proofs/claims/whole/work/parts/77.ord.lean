/-! sets as numbers, orders of works: what is to be reckoned -/
theorem bN_tb (d w : Nat) : bitN d w = d.testBit w := by
  unfold bitN
  rw [Nat.testBit_eq_decide_div_mod_eq, Bool.eq_iff_iff]
  simp
def dif (a b : Nat) : Nat := a &&& (255 ^^^ b)
theorem tb255 {i : Nat} (hi : i < 8) : Nat.testBit 255 i = true := by
  have : ∀ i, i < 8 → Nat.testBit 255 i = true := by decide
  exact this i hi
theorem dif_tb (a b : Nat) {i : Nat} (hi : i < 8) : bitN (dif a b) i = (bitN a i && !bitN b i) := by
  rw [bN_tb, bN_tb, bN_tb]
  unfold dif
  rw [Nat.testBit_and, Nat.testBit_xor, tb255 hi]
  simp
theorem dif_lt {a b : Nat} (ha : a < 256) : dif a b < 256 := Nat.lt_of_le_of_lt Nat.and_le_left ha
theorem bN_out {a i : Nat} (ha : a < 256) (hi : 8 ≤ i) : a.testBit i = false := Nat.testBit_lt_two_pow (Nat.lt_of_lt_of_le ha (Nat.pow_le_pow_right (n := 2) (i := 8) (by decide) hi))
theorem set_ext {a b : Nat} (ha : a < 256) (hb : b < 256) (h : ∀ i, i < 8 → bitN a i = bitN b i) : a = b := by
  apply Nat.eq_of_testBit_eq
  intro i
  by_cases hi : i < 8
  · rw [← bN_tb, ← bN_tb]; exact h i hi
  · rw [bN_out ha (by omega), bN_out hb (by omega)]
theorem or_tb (d w i : Nat) : bitN (d ||| 2 ^ w) i = (bitN d i || decide (w = i)) := by
  rw [bN_tb, bN_tb, Nat.testBit_or, Nat.testBit_two_pow]
theorem or_lt {d w : Nat} (hd : d < 256) (hw : w < 8) : d ||| 2 ^ w < 256 := Nat.or_lt_two_pow (n := 8) hd (Nat.pow_lt_pow_right (by decide) hw)
def Sub (d a : Nat) : Prop := ∀ i, i < 8 → bitN d i = true → bitN a i = true
theorem dif_0 {d a : Nat} (hd : d < 256) : dif d a = 0 ↔ Sub d a := by
  constructor
  · intro h i hi hb
    have := dif_tb d a hi
    have z : bitN 0 i = false := by simp [bitN]
    rw [h, hb, z] at this
    simpa using this
  · intro h
    refine set_ext (dif_lt hd) (by decide) (fun i hi => ?_)
    rw [dif_tb d a hi]
    have z : bitN 0 i = false := by simp [bitN]
    rw [z]
    cases e : bitN d i
    · rfl
    · rw [h i hi e]; rfl
theorem Sub.le {d a : Nat} (hd : d < 256) (ha : a < 256) (h : Sub d a) : d ≤ a := by
  have : d ||| a = a := by
    refine set_ext (Nat.or_lt_two_pow (n := 8) hd ha) ha (fun i hi => ?_)
    rw [bN_tb, Nat.testBit_or, ← bN_tb, ← bN_tb]
    cases e : bitN d i
    · rfl
    · rw [h i hi e]; rfl
  calc d ≤ d ||| a := Nat.left_le_or
    _ = a := this
/-- how many of the first k -/
def pcN (d : Nat) : Nat → Nat
  | 0 => 0
  | k + 1 => pcN d k + (if bitN d k = true then 1 else 0)
theorem pc_0 {d : Nat} : ∀ {k : Nat}, pcN d k = 0 → ∀ i, i < k → bitN d i = false
  | 0, _, i, hi => absurd hi (Nat.not_lt_zero i)
  | k + 1, h, i, hi => by
    simp only [pcN] at h
    have h1 : pcN d k = 0 := by omega
    by_cases e : i = k
    · subst e
      cases z : bitN d i
      · rfl
      · rw [z] at h; simp at h
    · exact pc_0 h1 i (by omega)
theorem pc_pos {d : Nat} : ∀ {k : Nat}, 0 < pcN d k → ∃ i, i < k ∧ bitN d i = true
  | 0, h => absurd h (Nat.lt_irrefl 0)
  | k + 1, h => by
    cases z : bitN d k
    · simp only [pcN, z] at h
      obtain ⟨i, hi, e⟩ := pc_pos (d := d) (k := k) (by simpa using h)
      exact ⟨i, by omega, e⟩
    · exact ⟨k, by omega, z⟩
theorem pc_ext {d e : Nat} : ∀ {k : Nat}, (∀ i, i < k → bitN d i = bitN e i) → pcN d k = pcN e k
  | 0, _ => rfl
  | k + 1, h => by
    simp only [pcN]
    rw [pc_ext (k := k) (fun i hi => h i (by omega)), h k (by omega)]
theorem pc_one {x y w : Nat} (hx : bitN x w = true) (hy : bitN y w = false) : ∀ {k : Nat}, (∀ i, i < k → i ≠ w → bitN x i = bitN y i) → pcN x k = pcN y k + (if w < k then 1 else 0)
  | 0, _ => rfl
  | k + 1, h => by
    simp only [pcN]
    rw [pc_one hx hy (k := k) (fun i hi => h i (by omega))]
    by_cases e : k = w
    · subst e
      simp [hx, hy]
    · rw [h k (by omega) e]
      by_cases c : w < k
      · simp only [if_pos c, if_pos (show w < k + 1 by omega)]; omega
      · simp only [if_neg c, if_neg (show ¬ w < k + 1 by omega), Nat.add_zero]
theorem pc_le (d : Nat) : ∀ k, pcN d k ≤ k
  | 0 => Nat.le_refl 0
  | k + 1 => by
    have := pc_le d k
    simp only [pcN]
    split <;> omega
/-- one work more is done -/
theorem add_w {a d w : Nat} (ha : a < 256) (hd : d < 256) (hs : Sub d a) (hw : w < 8) (hb : bitN (dif a d) w = true) :
    d ||| 2 ^ w < 256 ∧ Sub (d ||| 2 ^ w) a ∧ bitN d w = false ∧ bitN a w = true ∧ d < d ||| 2 ^ w ∧ pcN (dif a d) 8 = pcN (dif a (d ||| 2 ^ w)) 8 + 1 ∧ ∀ i, i < 8 → i ≠ w → bitN (dif a d) i = bitN (dif a (d ||| 2 ^ w)) i := by
  rw [dif_tb a d hw, Bool.and_eq_true, Bool.not_eq_true'] at hb
  have e : ∀ i, i < 8 → i ≠ w → bitN (dif a d) i = bitN (dif a (d ||| 2 ^ w)) i := fun i hi hne => by
    rw [dif_tb a d hi, dif_tb a _ hi, or_tb, decide_eq_false (fun x => hne x.symm), Bool.or_false]
  refine ⟨or_lt hd hw, fun i hi h => ?_, hb.2, hb.1, ?_, ?_, e⟩
  · rw [or_tb] at h
    by_cases c : w = i
    · rw [← c]; exact hb.1
    · rw [decide_eq_false c, Bool.or_false] at h
      exact hs i hi h
  · refine Nat.lt_of_le_of_ne Nat.left_le_or (fun x => ?_)
    have := or_tb d w w
    rw [← x, hb.2] at this
    simp at this
  · have := pc_one (x := dif a d) (y := dif a (d ||| 2 ^ w)) (w := w) (by rw [dif_tb a d hw, hb.1, hb.2]; rfl) (by rw [dif_tb a _ hw, or_tb]; simp) (k := 8) e
    rw [if_pos hw] at this
    exact this
theorem sub_eq {a d : Nat} (ha : a < 256) (hd : d < 256) (hs : Sub d a) (h : pcN (dif a d) 8 = 0) : d = a := by
  refine set_ext hd ha (fun i hi => ?_)
  have := pc_0 h i hi
  rw [dif_tb a d hi] at this
  cases e : bitN d i
  · rw [e] at this
    simpa using this.symm
  · exact (hs i hi e).symm
theorem dif_self (a : Nat) : pcN (dif a a) 8 = 0 := by
  have : ∀ i, i < 8 → bitN (dif a a) i = bitN 0 i := fun i hi => by
    rw [dif_tb a a hi]
    cases bitN a i <;> simp [bitN]
  rw [pc_ext this]
  decide
/-! the greatest of what may come next -/
def mxW (q : Nat → Bool) (v : Nat → Int) : Nat → Int
  | 0 => 0
  | k + 1 => if q k = true then (if mxW q v k < v k then v k else mxW q v k) else mxW q v k
theorem mxW_ge {q : Nat → Bool} {v : Nat → Int} : ∀ {k w : Nat}, w < k → q w = true → v w ≤ mxW q v k
  | 0, w, h, _ => absurd h (Nat.not_lt_zero w)
  | k + 1, w, h, hq => by
    simp only [mxW]
    by_cases e : w = k
    · subst e
      rw [if_pos hq]
      split <;> omega
    · have := mxW_ge (v := v) (k := k) (w := w) (by omega) hq
      split
      · split <;> omega
      · exact this
theorem mxW_pos {q : Nat → Bool} {v : Nat → Int} : ∀ {k : Nat}, 0 ≤ mxW q v k
  | 0 => Int.le_refl 0
  | k + 1 => by
    have := mxW_pos (q := q) (v := v) (k := k)
    simp only [mxW]
    split
    · split <;> omega
    · exact this
theorem mxW_le {q : Nat → Bool} {v : Nat → Int} {c : Int} (hc : 0 ≤ c) : ∀ {k : Nat}, (∀ w, w < k → q w = true → v w ≤ c) → mxW q v k ≤ c
  | 0, _ => hc
  | k + 1, h => by
    have := mxW_le (q := q) (v := v) hc (k := k) (fun w hw => h w (by omega))
    simp only [mxW]
    split
    · rename_i e
      have := h k (by omega) e
      split <;> omega
    · exact this
theorem mxW_at {q : Nat → Bool} {v : Nat → Int} : ∀ {k : Nat}, (∀ w, w < k → q w = true → 0 ≤ v w) → (∃ w, w < k ∧ q w = true) → ∃ w, w < k ∧ q w = true ∧ v w = mxW q v k
  | 0, _, ⟨w, h, _⟩ => absurd h (Nat.not_lt_zero w)
  | k + 1, h, hx => by
    simp only [mxW]
    by_cases e : q k = true
    · rw [if_pos e]
      by_cases z : mxW q v k < v k
      · rw [if_pos z]; exact ⟨k, by omega, e, rfl⟩
      · rw [if_neg z]
        by_cases y : ∃ w, w < k ∧ q w = true
        · obtain ⟨w, h1, h2, h3⟩ := mxW_at (q := q) (v := v) (k := k) (fun w hw => h w (by omega)) y
          exact ⟨w, by omega, h2, h3⟩
        · have m0 : mxW q v k ≤ 0 := mxW_le (Int.le_refl 0) (fun w hw hq => absurd ⟨w, hw, hq⟩ y)
          have := mxW_pos (q := q) (v := v) (k := k)
          have := h k (by omega) e
          exact ⟨k, by omega, e, by omega⟩
    · rw [if_neg e]
      obtain ⟨w, hw, hq⟩ := hx
      have : w ≠ k := fun x => e (by rw [← x]; exact hq)
      obtain ⟨w, h1, h2, h3⟩ := mxW_at (q := q) (v := v) (k := k) (fun w hw => h w (by omega)) ⟨w, by omega, hq⟩
      exact ⟨w, by omega, h2, h3⟩
/-! years -/
def mnN (n : Nat) (z : Int) : Int := if z < (n : Int) then z else (n : Int)
def sgV (n : Nat) (dg Y : Nat → Int) (d e : Nat) : Int := (mnN n (dg e) - mnN n (dg d)) * Y d
def laV (n : Nat) (dg Y : Nat → Int) (d : Nat) : Int := (if 0 < (n : Int) - dg d then (n : Int) - dg d else 0) * Y d
def tcV (a n : Nat) (dg Y : Nat → Int) : Nat → Nat → Int
  | 0, d => laV n dg Y d
  | r + 1, d => mxW (bitN (dif a d)) (fun w => sgV n dg Y d (d ||| 2 ^ w) + tcV a n dg Y r (d ||| 2 ^ w)) 8
def dgt (o r : Nat) : Nat := o / 8 ^ r % 8
def vO (n : Nat) (dg Y : Nat → Int) (o : Nat) : Nat → Nat → Int
  | 0, d => laV n dg Y d
  | r + 1, d => sgV n dg Y d (d ||| 2 ^ dgt o r) + vO n dg Y o r (d ||| 2 ^ dgt o r)
def snO (o : Nat) : Nat → Nat
  | 0 => 0
  | r + 1 => snO o r ||| 2 ^ dgt o r
theorem dgt_lt (o r : Nat) : dgt o r < 8 := Nat.mod_lt _ (by decide)
theorem snO_lt (o : Nat) : ∀ r, snO o r < 256
  | 0 => by show 0 < 256; decide
  | r + 1 => or_lt (snO_lt o r) (dgt_lt o r)
theorem snO_pc (o : Nat) : ∀ r, pcN (snO o r) 8 ≤ r
  | 0 => by show pcN 0 8 ≤ 0; decide
  | r + 1 => by
    have ih := snO_pc o r
    have hw := dgt_lt o r
    by_cases e : bitN (snO o r) (dgt o r) = true
    · have : pcN (snO o (r + 1)) 8 = pcN (snO o r) 8 := pc_ext (fun i hi => by
        simp only [snO]
        rw [or_tb]
        by_cases c : dgt o r = i
        · rw [← c, e]; rfl
        · rw [decide_eq_false c, Bool.or_false])
      omega
    · have := pc_one (x := snO o (r + 1)) (y := snO o r) (w := dgt o r) (by simp only [snO]; rw [or_tb]; simp) (by simpa using e) (k := 8) (fun i hi hne => by
        simp only [snO]
        rw [or_tb, decide_eq_false (fun x => hne x.symm), Bool.or_false])
      rw [if_pos hw] at this
      omega
/-- an order of what is still to be dug -/
def VO (a o r d : Nat) : Prop := snO o r = dif a d ∧ pcN (dif a d) 8 = r
theorem VO.step {a o r d : Nat} (ha : a < 256) (hd : d < 256) (hs : Sub d a) (h : VO a o (r + 1) d) : bitN (dif a d) (dgt o r) = true ∧ VO a o r (d ||| 2 ^ dgt o r) := by
  have hw := dgt_lt o r
  have hb : bitN (dif a d) (dgt o r) = true := by
    rw [← h.1]
    simp only [snO]
    rw [or_tb]; simp
  obtain ⟨g1, g2, g3, g4, g5, g6, g7⟩ := add_w ha hd hs hw hb
  have hp : pcN (dif a (d ||| 2 ^ dgt o r)) 8 = r := by have := h.2; omega
  have hn : bitN (snO o r) (dgt o r) = false := by
    cases e : bitN (snO o r) (dgt o r)
    · rfl
    · exfalso
      have : pcN (dif a d) 8 = pcN (snO o r) 8 := pc_ext (fun i hi => by
        rw [← h.1]
        simp only [snO]
        rw [or_tb]
        by_cases c : dgt o r = i
        · rw [← c, e]; rfl
        · rw [decide_eq_false c, Bool.or_false])
      have := snO_pc o r
      have := h.2
      omega
  refine ⟨hb, set_ext (snO_lt o r) (dif_lt ha) (fun i hi => ?_), hp⟩
  by_cases c : i = dgt o r
  · rw [c, hn, dif_tb a _ hw, or_tb]; simp
  · rw [← g7 i hi c, ← h.1]
    simp only [snO]
    rw [or_tb, decide_eq_false (fun x => c x.symm), Bool.or_false]
/-- what digging asks, what years bring -/
def OrK (a : Nat) (dg Y : Nat → Int) : Prop := (∀ d, d < 256 → Sub d a → 0 ≤ dg d ∧ 0 ≤ Y d ∧ Y d ≤ 28512) ∧ ∀ d w, d < 256 → Sub d a → w < 8 → bitN (dif a d) w = true → dg d ≤ dg (d ||| 2 ^ w)
theorem mul_bd {x y c : Int} (hx : 0 ≤ x) (hy : 0 ≤ y) (hc : y ≤ c) : 0 ≤ x * y ∧ x * y ≤ x * c := ⟨Int.mul_nonneg hx hy, Int.mul_le_mul_of_nonneg_left hc hx⟩
theorem mnN_bd {n : Nat} {z : Int} (h : 0 ≤ z) : 0 ≤ mnN n z ∧ mnN n z ≤ n := by
  unfold mnN
  split <;> omega
theorem la_bd {a n d : Nat} {dg Y : Nat → Int} (hK : OrK a dg Y) (hd : d < 256) (hs : Sub d a) : 0 ≤ laV n dg Y d ∧ laV n dg Y d ≤ ((n : Int) - mnN n (dg d)) * 28512 := by
  have h := hK.1 d hd hs
  have e : (if 0 < (n : Int) - dg d then (n : Int) - dg d else 0) = (n : Int) - mnN n (dg d) := by
    unfold mnN
    split <;> split <;> omega
  have m := mnN_bd (n := n) h.1
  unfold laV
  rw [e]
  exact mul_bd (by omega) h.2.1 h.2.2
theorem sg_bd {a n d w : Nat} {dg Y : Nat → Int} (hK : OrK a dg Y) (hd : d < 256) (hs : Sub d a) (hw : w < 8) (hb : bitN (dif a d) w = true) : 0 ≤ sgV n dg Y d (d ||| 2 ^ w) ∧ sgV n dg Y d (d ||| 2 ^ w) ≤ (mnN n (dg (d ||| 2 ^ w)) - mnN n (dg d)) * 28512 := by
  have h := hK.1 d hd hs
  have g := hK.2 d w hd hs hw hb
  have m : mnN n (dg d) ≤ mnN n (dg (d ||| 2 ^ w)) := by
    unfold mnN
    split <;> split <;> omega
  exact mul_bd (by omega) h.2.1 h.2.2
theorem tc_bd {a n : Nat} {dg Y : Nat → Int} (hK : OrK a dg Y) (ha : a < 256) : ∀ (r d : Nat), d < 256 → Sub d a → 0 ≤ tcV a n dg Y r d ∧ tcV a n dg Y r d ≤ ((n : Int) - mnN n (dg d)) * 28512
  | 0, d, hd, hs => la_bd hK hd hs
  | r + 1, d, hd, hs => by
    have m := mnN_bd (n := n) (hK.1 d hd hs).1
    refine ⟨mxW_pos, mxW_le (by omega) (fun w hw hb => ?_)⟩
    obtain ⟨g1, g2, -⟩ := add_w ha hd hs hw hb
    have h1 := sg_bd (n := n) hK hd hs hw hb
    have h2 := tc_bd (n := n) hK ha r _ g1 g2
    omega
theorem vO_bd {a n o : Nat} {dg Y : Nat → Int} (hK : OrK a dg Y) (ha : a < 256) : ∀ (r d : Nat), d < 256 → Sub d a → VO a o r d → 0 ≤ vO n dg Y o r d ∧ vO n dg Y o r d ≤ ((n : Int) - mnN n (dg d)) * 28512
  | 0, d, hd, hs, _ => la_bd hK hd hs
  | r + 1, d, hd, hs, hv => by
    obtain ⟨hb, hv2⟩ := hv.step ha hd hs
    obtain ⟨g1, g2, -⟩ := add_w ha hd hs (dgt_lt o r) hb
    have h1 := sg_bd (n := n) hK hd hs (dgt_lt o r) hb
    have h2 := vO_bd (n := n) hK ha r _ g1 g2 hv2
    simp only [vO]
    omega
/-- no order is better -/
theorem vO_le {a n o : Nat} {dg Y : Nat → Int} (ha : a < 256) : ∀ (r d : Nat), d < 256 → Sub d a → VO a o r d → vO n dg Y o r d ≤ tcV a n dg Y r d
  | 0, _, _, _, _ => Int.le_refl _
  | r + 1, d, hd, hs, hv => by
    obtain ⟨hb, hv2⟩ := hv.step ha hd hs
    obtain ⟨g1, g2, -⟩ := add_w ha hd hs (dgt_lt o r) hb
    have h2 := vO_le (n := n) (dg := dg) (Y := Y) ha r _ g1 g2 hv2
    have h3 := mxW_ge (q := bitN (dif a d)) (v := fun w => sgV n dg Y d (d ||| 2 ^ w) + tcV a n dg Y r (d ||| 2 ^ w)) (k := 8) (dgt_lt o r) hb
    simp only [vO, tcV]
    omega
/-- the order that is found step by step -/
def Gd (a n : Nat) (dg Y : Nat → Int) : Nat → Nat → Nat → Prop
  | 0, _, g => g = 0
  | r + 1, d, g => ∃ w g', w < 8 ∧ bitN (dif a d) w = true ∧ sgV n dg Y d (d ||| 2 ^ w) + tcV a n dg Y r (d ||| 2 ^ w) = tcV a n dg Y (r + 1) d ∧ (∀ u, u < w → bitN (dif a d) u = true → ¬ sgV n dg Y d (d ||| 2 ^ u) + tcV a n dg Y r (d ||| 2 ^ u) = tcV a n dg Y (r + 1) d) ∧ Gd a n dg Y r (d ||| 2 ^ w) g' ∧ g = w * 8 ^ r + g'
theorem Gd.lt {a n : Nat} {dg Y : Nat → Int} : ∀ {r d g : Nat}, Gd a n dg Y r d g → g < 8 ^ r
  | 0, _, g, h => by rw [show g = 0 from h]; decide
  | r + 1, d, g, h => by
    obtain ⟨w, g', hw, -, -, -, h5, rfl⟩ := h
    have := Gd.lt h5
    have h8 : w * 8 ^ r ≤ 7 * 8 ^ r := Nat.mul_le_mul_right _ (by omega)
    rw [Nat.pow_succ]
    omega
theorem dgt_top {r w g : Nat} (hg : g < 8 ^ r) (hw : w < 8) : dgt (w * 8 ^ r + g) r = w := by
  unfold dgt
  rw [Nat.add_comm, Nat.add_mul_div_right _ _ (Nat.pow_pos (by decide)), Nat.div_eq_of_lt hg, Nat.zero_add, Nat.mod_eq_of_lt hw]
theorem dgt_low {r w g k : Nat} (hk : k < r) : dgt (w * 8 ^ r + g) k = dgt g k := by
  unfold dgt
  obtain ⟨m, rfl⟩ : ∃ m, r = k + (m + 1) := ⟨r - k - 1, by omega⟩
  have e : w * 8 ^ (k + (m + 1)) = (w * 8 ^ m * 8) * 8 ^ k := by
    rw [Nat.pow_add, Nat.pow_succ, Nat.mul_assoc w, Nat.mul_assoc, Nat.mul_comm (8 ^ k)]
  rw [e, Nat.add_comm, Nat.add_mul_div_right _ _ (Nat.pow_pos (by decide)), Nat.add_mul_mod_self_right]
theorem snO_low {r w g : Nat} : ∀ {k : Nat}, k ≤ r → snO (w * 8 ^ r + g) k = snO g k
  | 0, _ => rfl
  | k + 1, h => by
    simp only [snO]
    rw [snO_low (k := k) (by omega), dgt_low (by omega)]
theorem vO_low {r w g n : Nat} {dg Y : Nat → Int} : ∀ {k d : Nat}, k ≤ r → vO n dg Y (w * 8 ^ r + g) k d = vO n dg Y g k d
  | 0, _, _ => rfl
  | k + 1, d, h => by
    simp only [vO]
    rw [dgt_low (by omega), vO_low (k := k) (by omega)]
theorem Gd.ok {a n : Nat} {dg Y : Nat → Int} (ha : a < 256) : ∀ {r d g : Nat}, d < 256 → Sub d a → pcN (dif a d) 8 = r → Gd a n dg Y r d g → snO g r = dif a d ∧ vO n dg Y g r d = tcV a n dg Y r d
  | 0, d, g, hd, hs, hp, h => by
    refine ⟨?_, rfl⟩
    show 0 = dif a d
    refine set_ext (by decide) (dif_lt ha) (fun i hi => ?_)
    rw [pc_0 hp i hi]
    simp [bitN]
  | r + 1, d, g, hd, hs, hp, h => by
    obtain ⟨w, g', hw, hb, h3, -, h5, rfl⟩ := h
    obtain ⟨g1, g2, g3, g4, -, g6, g7⟩ := add_w ha hd hs hw hb
    obtain ⟨i1, i2⟩ := Gd.ok ha g1 g2 (by omega) h5
    have hl := h5.lt
    simp only [snO, vO]
    rw [dgt_top hl hw, snO_low (Nat.le_refl r), vO_low (Nat.le_refl r), i1, i2]
    refine ⟨set_ext (or_lt (dif_lt ha) hw) (dif_lt ha) (fun i hi => ?_), h3⟩
    rw [or_tb]
    by_cases c : w = i
    · rw [← c, hb]; simp
    · rw [decide_eq_false c, Bool.or_false, g7 i hi (fun x => c x.symm)]
/-- none that is less is as good -/
theorem Gd.least {a n o : Nat} {dg Y : Nat → Int} (ha : a < 256) : ∀ {r d g : Nat}, d < 256 → Sub d a → Gd a n dg Y r d g → VO a o r d → vO n dg Y o r d = tcV a n dg Y r d → g ≤ o % 8 ^ r
  | 0, d, g, _, _, h, _, _ => by rw [show g = 0 from h]; exact Nat.zero_le _
  | r + 1, d, g, hd, hs, h, hv, e => by
    obtain ⟨w, g', hw, hb, h3, h4, h5, rfl⟩ := h
    obtain ⟨hb2, hv2⟩ := hv.step ha hd hs
    obtain ⟨g1, g2, -⟩ := add_w ha hd hs (dgt_lt o r) hb2
    have l2 := vO_le (n := n) (dg := dg) (Y := Y) ha r _ g1 g2 hv2
    have l3 : sgV n dg Y d (d ||| 2 ^ dgt o r) + tcV a n dg Y r (d ||| 2 ^ dgt o r) ≤ tcV a n dg Y (r + 1) d := mxW_ge (q := bitN (dif a d)) (v := fun w => sgV n dg Y d (d ||| 2 ^ w) + tcV a n dg Y r (d ||| 2 ^ w)) (k := 8) (dgt_lt o r) hb2
    have e' : sgV n dg Y d (d ||| 2 ^ dgt o r) + vO n dg Y o r (d ||| 2 ^ dgt o r) = tcV a n dg Y (r + 1) d := e
    have em : o % 8 ^ (r + 1) = o % 8 ^ r + 8 ^ r * dgt o r := Nat.mod_mul
    have hl := h5.lt
    rcases Nat.lt_trichotomy (dgt o r) w with c | c | c
    · exact absurd (by omega) (h4 _ c hb2)
    · have := Gd.least (n := n) (o := o) (dg := dg) (Y := Y) ha g1 g2 (by rw [c]; exact h5) hv2 (by omega)
      rw [em, c, Nat.mul_comm (8 ^ r)]
      omega
    · have : (w + 1) * 8 ^ r ≤ dgt o r * 8 ^ r := Nat.mul_le_mul_right _ c
      rw [Nat.add_mul, Nat.one_mul] at this
      rw [em, Nat.mul_comm (8 ^ r)]
      omega
theorem bst_is {q : Nat → Bool} {v : Nat → Int} {j : Nat} {X : Int} (hX : -1 < X) (hq : q j = true) (hv : v j = X) (h1 : ∀ i, q i = true → v i ≤ X) (h2 : ∀ i, i < j → q i = true → v i < X) : ∀ {m : Nat}, (j < m → bst q v m = (j, X)) ∧ (m ≤ j → (bst q v m).2 < X)
  | 0 => ⟨fun h => absurd h (Nat.not_lt_zero j), fun _ => hX⟩
  | m + 1 => by
    have ih := bst_is hX hq hv h1 h2 (m := m)
    refine ⟨fun h => ?_, fun h => ?_⟩
    · simp only [bst]
      by_cases e : m = j
      · subst e
        rw [if_pos ⟨hq, by rw [hv]; exact ih.2 (Nat.le_refl _)⟩, hv]
      · rw [ih.1 (by omega)]
        rw [if_neg (fun x => by have := h1 m x.1; have := x.2; simp only at this; omega)]
    · simp only [bst]
      have := ih.2 (by omega)
      split
      · rename_i c
        exact h2 m (by omega) c.1
      · exact this
def okO (a r o : Nat) : Bool := decide (snO o r = a)
theorem dif_z {a : Nat} (ha : a < 256) : dif a 0 = a := set_ext (dif_lt ha) ha (fun i hi => by rw [dif_tb a 0 hi]; simp [bitN])
theorem Sub.z (a : Nat) : Sub 0 a := fun i _ h => by simp [bitN] at h
theorem ord_bst {a n g : Nat} {dg Y : Nat → Int} (hK : OrK a dg Y) (ha : a < 256) (h : Gd a n dg Y (pcN a 8) 0 g) : bst (okO a (pcN a 8)) (fun o => vO n dg Y o (pcN a 8) 0) (8 ^ pcN a 8) = (g, tcV a n dg Y (pcN a 8) 0) := by
  have z := dif_z ha
  have hp : pcN (dif a 0) 8 = pcN a 8 := by rw [z]
  have hok := Gd.ok ha (by decide) (Sub.z a) hp h
  have vo : ∀ i, okO a (pcN a 8) i = true → VO a i (pcN a 8) 0 := fun i hi => ⟨by rw [z]; exact of_decide_eq_true hi, hp⟩
  have hb := tc_bd (n := n) hK ha (pcN a 8) 0 (by decide) (Sub.z a)
  refine (bst_is (j := g) (by omega) (decide_eq_true (by rw [hok.1, z])) hok.2 (fun i hi => vO_le ha _ _ (by decide) (Sub.z a) (vo i hi)) (fun i hi hq => ?_)).1 h.lt
  have l1 := vO_le (n := n) (dg := dg) (Y := Y) ha _ _ (by decide) (Sub.z a) (vo i hq)
  refine Int.lt_iff_le_and_ne.mpr ⟨l1, fun e => ?_⟩
  have := Gd.least ha (by decide) (Sub.z a) h (vo i hq) e
  have : i % 8 ^ pcN a 8 ≤ i := Nat.mod_le _ _
  omega
/-! the words of ints -/
theorem dif_I {a b : Nat} (ha : a < 256) (hb : b < 256) : nI a &&& (nI b ^^^ -1) = nI (dif a b) := by
  apply Int32.toBitVec_inj.mp
  apply BitVec.eq_of_getLsbD_eq
  intro i hi
  have e1 : ∀ n, n < 256 → ∀ i, (nI n).toBitVec.getLsbD i = n.testBit i := fun n hn i => by
    show (nI n).toBitVec.toNat.testBit i = _
    rw [nI_bv (by omega)]
  have em : (-1 : Int32).toBitVec.getLsbD i = true := by
    have : ∀ i, i < 32 → (-1 : Int32).toBitVec.getLsbD i = true := by decide
    exact this i hi
  rw [Int32.toBitVec_and, Int32.toBitVec_xor, BitVec.getLsbD_and, BitVec.getLsbD_xor, em, e1 a ha, e1 b hb, e1 _ (dif_lt ha)]
  unfold dif
  rw [Nat.testBit_and, Nat.testBit_xor]
  by_cases c : i < 8
  · rw [tb255 c]; simp
  · rw [bN_out ha (by omega)]; rfl
theorem or_I {d w : Nat} (hd : d < 256) (hw : w < 8) : nI d ||| (1 : Int32) <<< (nI w &&& 31) = nI (d ||| 2 ^ w) := by
  rw [shl1 (by omega)]
  apply Int32.toBitVec_inj.mp
  apply BitVec.eq_of_getLsbD_eq
  intro i hi
  have h2 : 2 ^ w < 256 := Nat.pow_lt_pow_right (a := 2) (n := 8) (by decide) hw
  have e1 : ∀ n, n < 256 → ∀ i, (nI n).toBitVec.getLsbD i = n.testBit i := fun n hn i => by
    show (nI n).toBitVec.toNat.testBit i = _
    rw [nI_bv (by omega)]
  rw [Int32.toBitVec_or, BitVec.getLsbD_or, e1 d hd, e1 _ h2, e1 _ (or_lt hd hw), Nat.testBit_or]
