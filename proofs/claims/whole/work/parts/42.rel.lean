/-! MOST of a season, as the greatest profit of a flow -/
def bitN (d w : Nat) : Bool := d / 2 ^ w % 2 == 1
def smI (f : Nat → Int) : Nat → Int
  | 0 => 0
  | n + 1 => smI f n + f n
/-- the chosen ones among the first w -/
def arL (D : Nat → Bool) : Nat → List Nat
  | 0 => []
  | w + 1 => arL D w ++ (if D w then [w] else [])
abbrev Net : Type := (Nat × Nat × Nat) × (Nat → Nat) × (Nat → Nat) × (Nat → Nat) × (Nat → Nat) × (Nat → Nat) × (Nat → Nat) × (Nat → Nat)
abbrev nP (N : Net) : Nat := N.1.1
abbrev nA (N : Net) : Nat := N.1.2.1
abbrev nW (N : Net) : Nat := N.1.2.2
abbrev nfr (N : Net) : Nat → Nat := N.2.1
abbrev nto (N : Net) : Nat → Nat := N.2.2.1
abbrev ntl (N : Net) : Nat → Nat := N.2.2.2.1
abbrev ncp (N : Net) : Nat → Nat := N.2.2.2.2.1
abbrev npl (N : Net) : Nat → Nat := N.2.2.2.2.2.1
abbrev nnd (N : Net) : Nat → Nat := N.2.2.2.2.2.2.1
abbrev nwo (N : Net) : Nat → Nat := N.2.2.2.2.2.2.2
def netOf (M : Lnd) (D : Nat → Bool) (br : Nat) (T : Nat → Bool) : Net := ((lP M, (arL D (lK M)).length, 2 * (arL T (lT M)).length), fun a => lwk M (6 * (arL D (lK M)).getD a 0), fun a => lwk M (6 * (arL D (lK M)).getD a 0 + 1), fun a => lwk M (6 * (arL D (lK M)).getD a 0 + 3), fun a => lwk M (6 * (arL D (lK M)).getD a 0 + 2) + (if (arL D (lK M)).getD a 0 = br then 1 else 0), fun j => ltw M (5 * (arL T (lT M)).getD (j / 2) 0), fun j => ltw M (5 * (arL T (lT M)).getD (j / 2) 0 + 1 + 2 * (j % 2)), fun j => ltw M (5 * (arL T (lT M)).getD (j / 2) 0 + 2 + 2 * (j % 2)))
/-- what comes to a place by arcs, less what goes -/
def dv (E : Nat) (fr to : Nat → Nat) (x : Nat → Int) (p : Nat) : Int := smI (fun e => if to e = p then x e else 0) E - smI (fun e => if fr e = p then x e else 0) E
/-- what a flow leaves at a place -/
def stay (N : Net) (sup : Nat → Nat) (f g : Nat → Int) (p : Nat) : Int := (sup p : Int) + dv (nA N) (nfr N) (nto N) f p - smI (fun j => if npl N j = p then g j else 0) (nW N)
def Feas (N : Net) (sup : Nat → Nat) (f g : Nat → Int) : Prop := (∀ a, a < nA N → 0 ≤ f a ∧ f a ≤ ncp N a) ∧ (∀ j, j < nW N → 0 ≤ g j ∧ g j ≤ nnd N j) ∧ ∀ p, p < nP N → 0 ≤ stay N sup f g p
def prof (N : Net) (f g : Nat → Int) : Int := smI (fun j => (nwo N j : Int) * g j) (nW N) - smI (fun a => (ntl N a : Int) * f a) (nA N)
def IsOpt (N : Net) (sup : Nat → Nat) (v : Int) : Prop := (∃ f g, Feas N sup f g ∧ prof N f g = v) ∧ ∀ f g, Feas N sup f g → prof N f g ≤ v
theorem IsOpt.one {N : Net} {sup : Nat → Nat} {v w : Int} (h : IsOpt N sup v) (g : IsOpt N sup w) : v = w := by
  obtain ⟨⟨f1, g1, a1, b1⟩, c1⟩ := h
  obtain ⟨⟨f2, g2, a2, b2⟩, c2⟩ := g
  have h1 := c1 f2 g2 a2
  have h2 := c2 f1 g1 a1
  omega
noncomputable def mostN (N : Net) (sup : Nat → Nat) : Int := Classical.epsilon (fun v => IsOpt N sup v)
theorem mostN_eq {N : Net} {sup : Nat → Nat} {v : Int} (h : IsOpt N sup v) : mostN N sup = v := IsOpt.one (Classical.epsilon_spec (p := fun v => IsOpt N sup v) ⟨v, h⟩) h
noncomputable abbrev mostV (M : Lnd) (sup : Nat → Nat) (D : Nat → Bool) (br : Nat) (T : Nat → Bool) : Int := mostN (netOf M D br T) sup
def allB : Nat → Bool := fun _ => true
/-- what a river may send -/
def spare (M : Lnd) (k s p : Nat) : Nat := if lrv M p = 0 then 0 else lwa M (12 * p + 4 * k + s) - lkp M p
noncomputable def yearV (M : Lnd) (k : Nat) (D T : Nat → Bool) : Int := smI (fun s => mostV M (spare M k s) D 9 T) 4
/-! the relation of the two graphs -/
def RT (S : Sto) (n : Nat) : Prop := n ≤ 400 ∧ S.1 0 1 = nI n ∧ S.1 57 2 = nI n ∧ ∀ i, i < n → S.1 1 i = S.1 58 i ∧ (S.1 1 i).toInt8.toInt32 = S.1 1 i
def sb : Nat → Nat
  | 0 => 43
  | i + 1 => 49 + 4 * i
def RSI (S : Sto) (i : Nat) : Prop := (∀ w, w < 8 → S.1 (sb i + 1) w = S.1 77 (8 * i + w) ∧ ∃ n, n ≤ 30 ∧ S.1 (sb i + 1) w = nI n) ∧ (∀ k, k < 3 → S.1 (sb i + 2) k = S.1 84 (3 * i + k) ∧ ∃ n, n ≤ (if k = 2 then 99 else 999) ∧ S.1 (sb i + 2) k = nI n) ∧ (∀ t, t < 4 → S.1 (sb i + 3) t = S.1 85 (4 * i + t) ∧ ∃ n, n ≤ 9999 ∧ S.1 (sb i + 3) t = nI n)
def RM (S : Sto) (M : Lnd) : Prop := ∀ k d, k < 3 → d < 2 ^ lK M → S.1 33 (256 * k + d) = -1 ∨ S.1 33 (256 * k + d) = Int32.ofInt (yearV M k (bitN d) allB)
def RW (S : Sto) (t : Nat) (M : Lnd) (n : Nat) : Prop := isT t ∧ S.2.2 0 3 = t ∧ S.2.2 0 4 = 20 - t ∧ LOk M ∧ XL S t M ∧ ML S M ∧ RT S n ∧ (∀ i, i < 3 → RSI S i) ∧ (∀ i, i < 2 → S.1 48 i = S.1 86 i ∧ (S.1 48 i = 0 ∨ S.1 48 i = 1)) ∧ S.2.1 0 12 = S.2.1 57 0
def INV (S : Sto) : Prop := ∃ t M n, RW S t M n ∧ RM S M
/-- rows that a question may write -/
def scr (b : Nat) : Prop := (19 ≤ b ∧ b ≤ 31) ∨ (36 ≤ b ∧ b ≤ 42) ∨ (70 ≤ b ∧ b ≤ 76) ∨ b = 78 ∨ (81 ≤ b ∧ b ≤ 83)
def Fr (S S' : Sto) : Prop := (∀ b, ¬ scr b → b ≠ 57 → b ≠ 33 → S'.1 b = S.1 b) ∧ S'.1 57 2 = S.1 57 2 ∧ S'.2.1 0 = S.2.1 0 ∧ S'.2.1 57 = S.2.1 57 ∧ S'.2.2 = S.2.2
theorem Fr.rf (S : Sto) : Fr S S := ⟨fun _ _ _ _ => rfl, rfl, rfl, rfl, rfl⟩
theorem Fr.tr {S S' S'' : Sto} (h : Fr S S') (g : Fr S' S'') : Fr S S'' := ⟨fun b h1 h2 h3 => (g.1 b h1 h2 h3).trans (h.1 b h1 h2 h3), g.2.1.trans h.2.1, g.2.2.1.trans h.2.2.1, g.2.2.2.1.trans h.2.2.2.1, g.2.2.2.2.trans h.2.2.2.2⟩
theorem sb_ns {i j : Nat} (hi : i < 3) (hj : j ≤ 3) : ¬ scr (sb i + j) ∧ sb i + j ≠ 57 ∧ sb i + j ≠ 33 := by
  rcases (show i = 0 ∨ i = 1 ∨ i = 2 by omega) with rfl | rfl | rfl <;> simp only [sb, scr] <;> omega
theorem RW.fr {S S' : Sto} {t : Nat} {M : Lnd} {n : Nat} (h : RW S t M n) (f : Fr S S') : RW S' t M n := by
  obtain ⟨h1, h2, h3, h4, h5, h6, h7, h8, h9, h10⟩ := h
  have r : ∀ b, ¬ scr b → b ≠ 57 → b ≠ 33 → S'.1 b = S.1 b := f.1
  have hs : ∀ j, j ≤ 5 → S'.1 (t + j) = S.1 (t + j) := by
    intro j hj
    refine r _ ?_ ?_ ?_ <;> rcases h1 with rfl | rfl <;> (try simp only [scr]) <;> omega
  have q : ∀ b, (b = 0 ∨ b = 1 ∨ b = 48 ∨ (58 ≤ b ∧ b ≤ 69) ∨ b = 77 ∨ (84 ≤ b ∧ b ≤ 86)) → S'.1 b = S.1 b := by
    intro b hb
    refine r b ?_ ?_ ?_ <;> (try simp only [scr]) <;> omega
  refine ⟨h1, by rw [f.2.2.2.2]; exact h2, by rw [f.2.2.2.2]; exact h3, h4, ?_, ?_, ?_, ?_, ?_, by rw [f.2.2.1, f.2.2.2.1]; exact h10⟩
  · unfold XL at h5 ⊢
    rw [show S'.1 t = S.1 t from hs 0 (by omega), hs 1 (by omega), hs 2 (by omega), hs 3 (by omega), hs 4 (by omega), hs 5 (by omega)]
    exact h5
  · unfold ML at h6 ⊢
    rw [q 59 (by omega), q 60 (by omega), q 61 (by omega), q 62 (by omega), q 63 (by omega), q 64 (by omega), q 65 (by omega), q 66 (by omega), q 67 (by omega), q 68 (by omega), q 69 (by omega)]
    exact h6
  · unfold RT at h7 ⊢
    rw [q 0 (by omega), q 1 (by omega), q 58 (by omega), f.2.1]
    exact h7
  · intro i hi
    have g := h8 i hi
    unfold RSI at g ⊢
    have a1 := sb_ns (i := i) (j := 1) hi (by omega)
    have a2 := sb_ns (i := i) (j := 2) hi (by omega)
    have a3 := sb_ns (i := i) (j := 3) hi (by omega)
    rw [r _ a1.1 a1.2.1 a1.2.2, r _ a2.1 a2.2.1 a2.2.2, r _ a3.1 a3.2.1 a3.2.2, q 77 (by omega), q 84 (by omega), q 85 (by omega)]
    exact g
  · rw [q 48 (by omega), q 86 (by omega)]
    exact h9
theorem RM.fr {S S' : Sto} {M : Lnd} (h : RM S M) (f : S'.1 33 = S.1 33) : RM S' M := by
  unfold RM at h ⊢
  rw [f]
  exact h
