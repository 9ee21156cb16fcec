/-! a text, byte by byte -/
def erF (P : Nat → Bool) : Nat → Nat → Nat
  | 0, a => a
  | m + 1, a => if P a = true then erF P m (a + 1) else a
/-- where a run of P from a ends -/
def er (P : Nat → Bool) (n a : Nat) : Nat := erF P (n - a) a
theorem er_t {P : Nat → Bool} {n a : Nat} (h : a < n) (hp : P a = true) : er P n a = er P n (a + 1) := by
  unfold er
  rw [show n - a = (n - (a + 1)) + 1 by omega]
  simp only [erF]
  rw [if_pos hp]
theorem er_f {P : Nat → Bool} {n a : Nat} (hp : P a = false) : er P n a = a := by
  unfold er
  cases n - a with
  | zero => rfl
  | succ m =>
    simp only [erF]
    rw [if_neg (by rw [hp]; exact Bool.noConfusion)]
theorem er_spec {P : Nat → Bool} {n : Nat} (hP : ∀ i, P i = true → i < n) : ∀ (m a : Nat), n ≤ a + m → a ≤ er P n a ∧ (a ≤ n → er P n a ≤ n) ∧ (∀ i, a ≤ i → i < er P n a → P i = true) ∧ P (er P n a) = false
  | 0, a, h => by
    have hf : P a = false := by
      cases e : P a
      · rfl
      · have := hP a e; omega
    rw [er_f hf]
    exact ⟨Nat.le_refl a, fun h => h, fun i h1 h2 => by omega, hf⟩
  | m + 1, a, h => by
    cases e : P a
    · rw [er_f e]
      exact ⟨Nat.le_refl a, fun h => h, fun i h1 h2 => by omega, e⟩
    · have hl := hP a e
      rw [er_t hl e]
      obtain ⟨h1, h2, h3, h4⟩ := er_spec hP m (a + 1) (by omega)
      refine ⟨by omega, fun _ => h2 (by omega), fun i hi1 hi2 => ?_, h4⟩
      by_cases c : i = a
      · rw [c]; exact e
      · exact h3 i (by omega) hi2
theorem er_ok {P : Nat → Bool} {n : Nat} (hP : ∀ i, P i = true → i < n) (a : Nat) : a ≤ er P n a ∧ (a ≤ n → er P n a ≤ n) ∧ (∀ i, a ≤ i → i < er P n a → P i = true) ∧ P (er P n a) = false := er_spec hP n a (by omega)
def blP (cb : Nat → Nat) (n i : Nat) : Bool := decide (i < n ∧ cb i = 32)
def inP (cb : Nat → Nat) (n lo hi i : Nat) : Bool := decide (i < n ∧ lo ≤ cb i ∧ cb i ≤ hi)
theorem blP_n {cb : Nat → Nat} {n : Nat} : ∀ i, blP cb n i = true → i < n := fun i h => (of_decide_eq_true h).1
theorem inP_n {cb : Nat → Nat} {n lo hi : Nat} : ∀ i, inP cb n lo hi i = true → i < n := fun i h => (of_decide_eq_true h).1
/-- what digits say, 100 for all that is more than 99 -/
def nv (cb : Nat → Nat) (b : Nat) : Nat → Nat
  | 0 => 0
  | k + 1 => if nv cb b k * 10 + cb (b + k) - 48 < 100 then nv cb b k * 10 + cb (b + k) - 48 else 100
theorem nv_le (cb : Nat → Nat) (b : Nat) : ∀ k, nv cb b k ≤ 100
  | 0 => by show 0 ≤ 100; decide
  | k + 1 => by
    simp only [nv]
    split <;> omega
/-- a word's number -/
def cw (cb : Nat → Nat) (b : Nat) : Nat → Nat
  | 0 => 0
  | k + 1 => 27 * cw cb b k + cb (b + k) - 96
def cwF (cb : Nat → Nat) (b k : Nat) : Nat := if k ≤ 6 then cw cb b k else 0
def kOf (c : Nat) : Nat := if c = 235981828 then 1 else if c = 9759276 then 2 else if c = 405230 then 3 else if c = 464141 then 4 else if c = 2956 then 5 else if c = 94310429 then 6 else 9
theorem kOf_or (c : Nat) : (1 ≤ kOf c ∧ kOf c ≤ 6) ∨ kOf c = 9 := by
  unfold kOf
  repeat' split
  all_goals omega
/-- a token that begins at b: which, what it says, where it ends -/
def tkR (cb : Nat → Nat) (n b : Nat) : Nat × Nat × Nat :=
  if n ≤ b then (0, 0, b)
  else if cb b = 59 then (8, 0, b + 1)
  else if inP cb n 48 57 b = true then (if nv cb b (er (inP cb n 48 57) n b - b) ≤ 99 ∧ ¬ (cb b = 48 ∧ 1 < er (inP cb n 48 57) n b - b) then 7 else 9, nv cb b (er (inP cb n 48 57) n b - b), er (inP cb n 48 57) n b)
  else if inP cb n 97 122 b = true then (kOf (cwF cb b (er (inP cb n 97 122) n b - b)), 0, er (inP cb n 97 122) n b)
  else (9, 0, b + 1)
def tp (cb : Nat → Nat) (n : Nat) : Nat → Nat
  | 0 => 0
  | i + 1 => (tkR cb n (er (blP cb n) n (tp cb n i))).2.2
def tB (cb : Nat → Nat) (n i : Nat) : Nat := er (blP cb n) n (tp cb n i)
def tK (cb : Nat → Nat) (n i : Nat) : Nat := (tkR cb n (tB cb n i)).1
def tV (cb : Nat → Nat) (n i : Nat) : Nat := (tkR cb n (tB cb n i)).2.1
theorem tp_s (cb : Nat → Nat) (n i : Nat) : tp cb n (i + 1) = (tkR cb n (tB cb n i)).2.2 := rfl
theorem tkR_bd (cb : Nat → Nat) (n b : Nat) : (b ≤ n → (tkR cb n b).2.2 ≤ n) ∧ b ≤ (tkR cb n b).2.2 ∧ ((tkR cb n b).1 ≠ 0 → b < n ∧ b < (tkR cb n b).2.2) ∧ ((tkR cb n b).1 = 7 → (tkR cb n b).2.1 ≤ 99) ∧ (tkR cb n b).1 ≤ 9 := by
  unfold tkR
  by_cases h : n ≤ b
  · simp only [if_pos h]
    refine ⟨fun h => h, Nat.le_refl b, fun h => absurd rfl h, fun h => absurd h (by decide), by decide⟩
  · simp only [if_neg h]
    by_cases h1 : cb b = 59
    · simp only [if_pos h1]
      refine ⟨fun _ => by omega, by omega, fun _ => ⟨by omega, by omega⟩, fun h => absurd h (by decide), by decide⟩
    · simp only [if_neg h1]
      by_cases h2 : inP cb n 48 57 b = true
      · simp only [if_pos h2]
        have e := er_ok (inP_n (cb := cb) (n := n) (lo := 48) (hi := 57)) (b + 1)
        rw [← er_t (by omega) h2] at e
        refine ⟨fun _ => e.2.1 (by omega), by omega, fun _ => ⟨by omega, by omega⟩, fun h => ?_, ?_⟩
        · split at h
          · rename_i c; exact c.1
          · exact absurd h (by decide)
        · split <;> decide
      · simp only [if_neg h2]
        by_cases h3 : inP cb n 97 122 b = true
        · simp only [if_pos h3]
          have e := er_ok (inP_n (cb := cb) (n := n) (lo := 97) (hi := 122)) (b + 1)
          rw [← er_t (by omega) h3] at e
          have k := kOf_or (cwF cb b (er (inP cb n 97 122) n b - b))
          refine ⟨fun _ => e.2.1 (by omega), by omega, fun _ => ⟨by omega, by omega⟩, fun h => ?_, by omega⟩
          omega
        · simp only [if_neg h3]
          refine ⟨fun _ => by omega, by omega, fun _ => ⟨by omega, by omega⟩, fun h => absurd h (by decide), by decide⟩
theorem tB_bd (cb : Nat → Nat) (n : Nat) : ∀ i, tp cb n i ≤ n ∧ tp cb n i ≤ tB cb n i ∧ tB cb n i ≤ n
  | 0 => by
    have e := er_ok (blP_n (cb := cb) (n := n)) 0
    exact ⟨Nat.zero_le n, Nat.zero_le _, e.2.1 (Nat.zero_le n)⟩
  | i + 1 => by
    have ih := tB_bd cb n i
    have h1 : tp cb n (i + 1) ≤ n := by rw [tp_s]; exact (tkR_bd cb n _).1 ih.2.2
    have e := er_ok (blP_n (cb := cb) (n := n)) (tp cb n (i + 1))
    exact ⟨h1, e.1, e.2.1 h1⟩
/-- all tokens ahead of i are well -/
def GU (cb : Nat → Nat) (n i : Nat) : Prop := ∀ j, j < i → tK cb n j ≠ 0 ∧ tK cb n j ≠ 9
theorem GU.s {cb : Nat → Nat} {n i : Nat} (h : GU cb n i) (h0 : tK cb n i ≠ 0) (h9 : tK cb n i ≠ 9) : GU cb n (i + 1) := fun j hj => by
  by_cases c : j = i
  · rw [c]; exact ⟨h0, h9⟩
  · exact h j (by omega)
theorem GU.le {cb : Nat → Nat} {n : Nat} : ∀ {i : Nat}, GU cb n i → i ≤ tp cb n i
  | 0, _ => Nat.le_refl 0
  | i + 1, h => by
    have ih := GU.le (cb := cb) (n := n) (i := i) (fun j hj => h j (by omega))
    have b := tB_bd cb n i
    have k := (tkR_bd cb n (tB cb n i)).2.2.1 (h i (by omega)).1
    rw [tp_s]
    omega
theorem GU.n {cb : Nat → Nat} {n i : Nat} (h : GU cb n i) : i ≤ n := Nat.le_trans h.le (tB_bd cb n i).1
theorem tK_lt {cb : Nat → Nat} {n i : Nat} (h : GU cb n i) (h0 : tK cb n i ≠ 0) : i < n := by
  have := h.le
  have b := tB_bd cb n i
  have k := (tkR_bd cb n (tB cb n i)).2.2.1 h0
  omega
theorem tK_le (cb : Nat → Nat) (n i : Nat) : tK cb n i ≤ 9 := (tkR_bd cb n (tB cb n i)).2.2.2.2
theorem tV_le {cb : Nat → Nat} {n i : Nat} (h : tK cb n i = 7) : tV cb n i ≤ 99 := (tkR_bd cb n (tB cb n i)).2.2.2.1 h
/-! how rows of bytes hold it -/
def TX (f : Nat → Int32) (n : Nat) (cb : Nat → Nat) : Prop := ∀ i, i < n → cb i < 256 ∧ f i &&& 255 = nI (cb i) ∧ (cb i < 128 → f i = nI (cb i)) ∧ (128 ≤ cb i → f i < 0)
theorem byte_x (x : Int32) (h : x.toInt8.toInt32 = x) : ∃ c, c < 256 ∧ x &&& 255 = nI c ∧ (c < 128 → x = nI c) ∧ (128 ≤ c → x < 0) := by
  have key : ∀ c, c < 256 → (Int8.ofNat c).toInt32 &&& 255 = nI c ∧ (c < 128 → (Int8.ofNat c).toInt32 = nI c) ∧ (128 ≤ c → (Int8.ofNat c).toInt32 < 0) := by decide +kernel
  have e : Int8.ofNat x.toInt8.toBitVec.toNat = x.toInt8 := by
    apply Int8.toBitVec_inj.mp
    rw [Int8.toBitVec_ofNat']
    simp
  have k := key x.toInt8.toBitVec.toNat x.toInt8.toBitVec.isLt
  rw [e, h] at k
  exact ⟨_, x.toInt8.toBitVec.isLt, k⟩
theorem tx_ex {f g : Nat → Int32} {n : Nat} (h : ∀ i, i < n → f i = g i ∧ (f i).toInt8.toInt32 = f i) : ∃ cb, TX f n cb ∧ TX g n cb := by
  have hx : ∃ cb, TX f n cb := by
    refine ⟨fun i => if hi : i < n then (byte_x (f i) (h i hi).2).choose else 0, fun i hi => ?_⟩
    simp only [dif_pos hi]
    exact (byte_x (f i) (h i hi).2).choose_spec
  obtain ⟨cb, h1⟩ := hx
  refine ⟨cb, h1, fun i hi => ?_⟩
  have := h1 i hi
  rw [(h i hi).1] at this
  exact this
theorem TX.eq {f : Nat → Int32} {n i c : Nat} {cb : Nat → Nat} (h : TX f n cb) (hi : i < n) (hc : c < 128) : f i = nI c ↔ cb i = c := by
  obtain ⟨h1, h2, h3, h4⟩ := h i hi
  by_cases z : cb i < 128
  · rw [h3 z, nI_inj (by omega) (by omega)]
  · refine ⟨fun e => ?_, fun e => by omega⟩
    have := h4 (by omega)
    rw [e] at this
    exact absurd this (nI_pos (by omega))
theorem TX.in_ {f : Nat → Int32} {n i lo hi : Nat} {cb : Nat → Nat} (h : TX f n cb) (hi' : i < n) (hh : hi < 128) (hl : lo ≤ hi) : (nI lo ≤ f i ∧ f i ≤ nI hi) ↔ inP cb n lo hi i = true := by
  obtain ⟨h1, h2, h3, h4⟩ := h i hi'
  have e : inP cb n lo hi i = true ↔ (lo ≤ cb i ∧ cb i ≤ hi) := by
    unfold inP
    rw [decide_eq_true_eq]
    exact ⟨fun x => x.2, fun x => ⟨hi', x⟩⟩
  rw [e]
  by_cases z : cb i < 128
  · rw [h3 z, nI_leI (by omega) (by omega), nI_leI (by omega) (by omega)]
  · refine ⟨fun x => ?_, fun x => by omega⟩
    have := h4 (by omega)
    have p : (0 : Int32) ≤ nI lo := nI_pos' (by omega)
    exact absurd this (Int32.not_lt.mpr (Int32.le_trans p x.1))
theorem er_let {cb : Nat → Nat} {n lo hi b : Nat} : ∀ j, j < er (inP cb n lo hi) n b - b → lo ≤ cb (b + j) ∧ cb (b + j) ≤ hi := fun j hj => by
  have e := er_ok (inP_n (cb := cb) (n := n) (lo := lo) (hi := hi)) b
  exact (of_decide_eq_true (e.2.2.1 (b + j) (by omega) (by omega))).2
