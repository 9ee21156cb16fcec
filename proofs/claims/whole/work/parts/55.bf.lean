/-! cheapest ways: relaxing arcs, again and again -/
def up {α : Type} (f : Nat → α) (k : Nat) (v : α) : Nat → α := fun i => if i = k then v else f i
theorem up_self {α : Type} (f : Nat → α) (k : Nat) (v : α) : up f k v k = v := by simp [up]
theorem up_ne {α : Type} (f : Nat → α) {k i : Nat} (v : α) (h : i ≠ k) : up f k v i = f i := by simp [up, h]
def cn (V : Nat → Bool) : Nat → Nat
  | 0 => 0
  | n + 1 => cn V n + (if V n then 1 else 0)
theorem cn_le (V : Nat → Bool) : ∀ n, cn V n ≤ n
  | 0 => Nat.le_refl 0
  | n + 1 => by have := cn_le V n; simp only [cn]; split <;> omega
theorem cn_all {V : Nat → Bool} : ∀ {n : Nat}, cn V n = n → ∀ i, i < n → V i = true
  | 0, _, _, hi => absurd hi (Nat.not_lt_zero _)
  | n + 1, h, i, hi => by
    have h1 := cn_le V n
    simp only [cn] at h
    by_cases c : V n = true
    · rw [if_pos c] at h
      rcases Nat.lt_or_ge i n with g | g
      · exact cn_all (by omega) i g
      · rw [show i = n by omega]; exact c
    · rw [if_neg c] at h
      omega
theorem cn_up {V : Nat → Bool} {q : Nat} (hq : V q = false) : ∀ {n : Nat}, cn (up V q true) n = cn V n + (if q < n then 1 else 0)
  | 0 => by simp [cn]
  | n + 1 => by
    simp only [cn, cn_up hq (n := n)]
    by_cases h : n = q
    · subst h; simp [up_self, hq]
    · rw [up_ne V true h]
      by_cases h2 : q < n
      · simp [h2, show q < n + 1 by omega]; omega
      · simp [h2, show ¬ q < n + 1 by omega]
theorem cn_ext {V V' : Nat → Bool} : ∀ {n : Nat}, (∀ i, i < n → V i = V' i) → cn V n = cn V' n
  | 0, _ => rfl
  | n + 1, h => by simp only [cn]; rw [cn_ext (n := n) (fun i hi => h i (by omega)), h n (by omega)]
theorem cn_false (n : Nat) : cn (fun _ => false) n = 0 := by
  induction n with
  | zero => rfl
  | succ n ih => simp [cn, ih]
/-- a least one -/
theorem ex_min (A : Nat → Prop) (h : Nat → Int) : ∀ n, (∃ i, i < n ∧ A i) → ∃ q, q < n ∧ A q ∧ ∀ i, i < n → A i → h q ≤ h i
  | 0, ⟨i, hi, _⟩ => absurd hi (Nat.not_lt_zero i)
  | n + 1, ⟨i, hi, ha⟩ => by
    by_cases e : ∃ i, i < n ∧ A i
    · obtain ⟨q, h1, h2, h3⟩ := ex_min A h n e
      by_cases c : A n ∧ h n < h q
      · refine ⟨n, by omega, c.1, fun j hj aj => ?_⟩
        rcases Nat.lt_or_ge j n with g | g
        · have := h3 j g aj; omega
        · rw [show j = n by omega]; exact Int.le_refl _
      · refine ⟨q, by omega, h2, fun j hj aj => ?_⟩
        rcases Nat.lt_or_ge j n with g | g
        · exact h3 j g aj
        · have : j = n := by omega
          subst this
          have : ¬ h j < h q := fun x => c ⟨aj, x⟩
          omega
    · have : i = n := by
        rcases Nat.lt_or_ge i n with g | g
        · exact absurd ⟨i, g, ha⟩ e
        · omega
      subst this
      refine ⟨i, hi, ha, fun j hj aj => ?_⟩
      rcases Nat.lt_or_ge j i with g | g
      · exact absurd ⟨j, g, aj⟩ e
      · rw [show j = i by omega]; exact Int.le_refl _
/-- a graph of n nodes and m arcs: from, to, what it costs, room -/
abbrev Gra : Type := (Nat × Nat) × (Nat → Nat) × (Nat → Nat) × (Nat → Int) × (Nat → Int)
abbrev zN (G : Gra) : Nat := G.1.1
abbrev zM (G : Gra) : Nat := G.1.2
abbrev zF (G : Gra) : Nat → Nat := G.2.1
abbrev zT (G : Gra) : Nat → Nat := G.2.2.1
abbrev zW (G : Gra) : Nat → Int := G.2.2.2.1
abbrev zR (G : Gra) : Nat → Int := G.2.2.2.2
/-- prices that no arc with room breaks -/
def Pot (G : Gra) (q : Nat → Int) : Prop := zN G ≤ 10 ∧ ∀ k, k < zM G → zF G k < zN G ∧ zT G k < zN G ∧ zW G k ≤ 99 ∧ (0 < zR G k → q (zT G k) ≤ q (zF G k) + zW G k)
def rea (d : Nat → Int) : Nat → Bool := fun n => decide (d n < FAR)
def BFi (G : Gra) (src : Nat → Prop) (q d : Nat → Int) (by_ : Nat → Nat) (rt : Nat → Prop) (t : Nat → Nat) (T : Nat) : Prop := (∀ n, n < zN G → (d n = FAR ∨ (q n ≤ d n ∧ d n ≤ 100 * cn (rea d) (zN G))) ∧ (src n → d n ≤ 0) ∧ t n ≤ T ∧
  (d n < FAR → (rt n ∧ src n ∧ d n = 0) ∨ (¬ rt n ∧ by_ n < zM G ∧ zT G (by_ n) = n ∧ 0 < zR G (by_ n) ∧ d (zF G (by_ n)) < FAR ∧ (d (zF G (by_ n)) + zW G (by_ n) < d n ∨ (d (zF G (by_ n)) + zW G (by_ n) = d n ∧ t (zF G (by_ n)) < t n)))))
def BF (G : Gra) (src : Nat → Prop) (q d : Nat → Int) (by_ : Nat → Nat) (rt : Nat → Prop) : Prop := ∃ t T, BFi G src q d by_ rt t T
theorem BF.far {G : Gra} {src : Nat → Prop} {q d : Nat → Int} {by_ : Nat → Nat} {rt : Nat → Prop} (hq : Pot G q) (h : BF G src q d by_ rt) {n : Nat} (hn : n < zN G) : d n = FAR ∨ (q n ≤ d n ∧ d n ≤ 1000) := by
  obtain ⟨t, T, h⟩ := h
  have h1 := (h n hn).1
  have h2 := cn_le (rea d) (zN G)
  have h3 := hq.1
  omega
theorem BF.step {G : Gra} {src : Nat → Prop} {q d : Nat → Int} {by_ : Nat → Nat} {rt : Nat → Prop} (hq : Pot G q) (h : BF G src q d by_ rt) {k : Nat} (hk : k < zM G) (hr : 0 < zR G k) (hf : d (zF G k) < FAR) (hs : d (zF G k) + zW G k < d (zT G k)) : BF G src q (up d (zT G k) (d (zF G k) + zW G k)) (up by_ (zT G k) k) (fun n => n ≠ zT G k ∧ rt n) := by
  obtain ⟨t, T, h⟩ := h
  obtain ⟨hf', ht', hw', hp⟩ := hq.2 k hk
  have hp := hp hr
  have hN := hq.1
  have f1 := h _ hf'
  have t1 := h _ ht'
  have c1 := cn_le (rea d) (zN G)
  have ffr : q (zF G k) ≤ d (zF G k) ∧ d (zF G k) ≤ 100 * cn (rea d) (zN G) := by
    rcases f1.1 with e | e
    · omega
    · exact e
  have hne : zF G k ≠ zT G k := fun e => by rw [e] at hs hp; omega
  have hnew : d (zF G k) + zW G k < FAR := by
    rcases t1.1 with e | e
    · omega
    · unfold FAR; omega
  have hcn : cn (rea d) (zN G) ≤ cn (rea (up d (zT G k) (d (zF G k) + zW G k))) (zN G) ∧ (d (zT G k) = FAR → cn (rea (up d (zT G k) (d (zF G k) + zW G k))) (zN G) = cn (rea d) (zN G) + 1) := by
    by_cases e : d (zT G k) = FAR
    · have : cn (rea (up d (zT G k) (d (zF G k) + zW G k))) (zN G) = cn (up (rea d) (zT G k) true) (zN G) := by
        apply cn_ext
        intro i _
        by_cases ei : i = zT G k
        · subst ei; simp only [rea, up_self]; simp; exact hnew
        · simp only [rea, up_ne _ _ ei]
      rw [this, cn_up (by simp [rea, e])]
      rw [if_pos ht']
      omega
    · have : cn (rea (up d (zT G k) (d (zF G k) + zW G k))) (zN G) = cn (rea d) (zN G) := by
        apply cn_ext
        intro i _
        by_cases ei : i = zT G k
        · subst ei
          have : d (zT G k) < FAR := by
            rcases t1.1 with e' | e'
            · exact absurd e' e
            · unfold FAR; omega
          simp only [rea, up_self]
          simp [this, hnew]
        · simp only [rea, up_ne _ _ ei]
      omega
  refine ⟨up t (zT G k) (T + 1), T + 1, fun n hn => ?_⟩
  have hh := h n hn
  generalize cn (rea (up d (zT G k) (d (zF G k) + zW G k))) (zN G) = c' at hcn ⊢
  generalize cn (rea d) (zN G) = c0 at *
  by_cases e : n = zT G k
  · subst e
    simp only [up_self, up_ne d _ hne, up_ne t _ hne]
    refine ⟨Or.inr ⟨by omega, ?_⟩, fun hs' => ?_, by omega, fun _ => Or.inr ⟨fun x => x.1 rfl, hk, trivial, hr, hf, Or.inr ⟨trivial, ?_⟩⟩⟩
    · rcases t1.1 with e' | e'
      · have := hcn.2 e'; omega
      · omega
    · have := t1.2.1 hs'; omega
    · have := f1.2.2.1; omega
  · simp only [up_ne d _ e, up_ne t _ e, up_ne by_ _ e]
    refine ⟨?_, hh.2.1, by have := hh.2.2.1; omega, fun c => ?_⟩
    · rcases hh.1 with e' | e'
      · exact Or.inl e'
      · exact Or.inr (by omega)
    · rcases hh.2.2.2 c with ⟨g1, g2, g3⟩ | ⟨g1, g2, g3, g4, g5, g6⟩
      · exact Or.inl ⟨⟨e, g1⟩, g2, g3⟩
      · refine Or.inr ⟨fun x => g1 x.2, g2, g3, g4, ?_, ?_⟩
        · by_cases e2 : zF G (by_ n) = zT G k
          · rw [e2, up_self]; exact hnew
          · rw [up_ne _ _ e2]; exact g5
        · by_cases e2 : zF G (by_ n) = zT G k
          · rw [e2] at g6
            rw [e2, up_self]
            exact Or.inl (by omega)
          · rw [up_ne _ _ e2, up_ne _ _ e2]; exact g6
/-- no arc is left to relax -/
def Fix (G : Gra) (d : Nat → Int) : Prop := ∀ k, k < zM G → 0 < zR G k → d (zF G k) < FAR → d (zT G k) ≤ d (zF G k) + zW G k
/-- a set whose arcs are relaxed, and whose nodes are the nearest -/
def Stl (G : Gra) (q d : Nat → Int) (V : Nat → Bool) : Prop := (∀ k, k < zM G → 0 < zR G k → V (zF G k) = true → d (zT G k) ≤ d (zF G k) + zW G k) ∧ (∀ v, v < zN G → V v = true → d v < FAR) ∧ ∃ M : Int, (∀ v, v < zN G → V v = true → d v - q v ≤ M) ∧ ∀ n, n < zN G → V n = false → d n < FAR → M ≤ d n - q n
theorem Stl.all {G : Gra} {q d : Nat → Int} {V : Nat → Bool} (hq : Pot G q) (h : Stl G q d V) (hc : cn V (zN G) = zN G) : Fix G d := fun k hk hr _ => h.1 k hk hr (cn_all hc _ (hq.2 k hk).1)
/-- within a pass: V is settled at its beginning, p is the next one, the arcs before i have been tried -/
def Mid (G : Gra) (q d : Nat → Int) (V : Nat → Bool) (p i : Nat) : Prop := p < zN G ∧ V p = false ∧ d p < FAR ∧ (∀ k, k < zM G → 0 < zR G k → (V (zF G k) = true ∨ (zF G k = p ∧ k < i)) → d (zT G k) ≤ d (zF G k) + zW G k) ∧ (∀ v, v < zN G → V v = true → d v < FAR ∧ d v - q v ≤ d p - q p) ∧ ∀ n, n < zN G → V n = false → d n < FAR → d p - q p ≤ d n - q n
theorem Mid.start {G : Gra} {q d : Nat → Int} {V : Nat → Bool} (h : Stl G q d V) (he : ∃ n, n < zN G ∧ V n = false ∧ d n < FAR) : ∃ p, Mid G q d V p 0 := by
  obtain ⟨h1, h2, M, h3, h4⟩ := h
  obtain ⟨p, g1, ⟨g2, g3⟩, g4⟩ := ex_min (fun n => V n = false ∧ d n < FAR) (fun n => d n - q n) (zN G) he
  refine ⟨p, g1, g2, g3, fun k hk hr c => ?_, fun v hv c => ⟨h2 v hv c, ?_⟩, fun n hn c c2 => g4 n hn ⟨c, c2⟩⟩
  · rcases c with c | c
    · exact h1 k hk hr c
    · omega
  · have := h3 v hv c
    have := h4 p g1 g2 g3
    omega
theorem Mid.stop {G : Gra} {q d : Nat → Int} {V : Nat → Bool} {p : Nat} (hq : Pot G q) (h : Mid G q d V p (zM G)) : Stl G q d (up V p true) := by
  obtain ⟨h1, h2, h3, h4, h5, h6⟩ := h
  refine ⟨fun k hk hr c => h4 k hk hr ?_, fun v hv c => ?_, d p - q p, fun v hv c => ?_, fun n hn c c2 => ?_⟩
  · by_cases e : zF G k = p
    · exact Or.inr ⟨e, hk⟩
    · rw [up_ne _ _ e] at c; exact Or.inl c
  · by_cases e : v = p
    · rw [e]; exact h3
    · rw [up_ne _ _ e] at c; exact (h5 v hv c).1
  · by_cases e : v = p
    · rw [e]; exact Int.le_refl _
    · rw [up_ne _ _ e] at c; exact (h5 v hv c).2
  · by_cases e : n = p
    · rw [e, up_self] at c; exact absurd c (by decide)
    · rw [up_ne _ _ e] at c; exact h6 n hn c c2
/-- an arc that can't be relaxed -/
theorem Mid.skip {G : Gra} {q d : Nat → Int} {V : Nat → Bool} {p i : Nat} (h : Mid G q d V p i) (hn : ¬ (0 < zR G i ∧ d (zF G i) < FAR ∧ d (zF G i) + zW G i < d (zT G i))) : Mid G q d V p (i + 1) := by
  obtain ⟨h1, h2, h3, h4, h5, h6⟩ := h
  refine ⟨h1, h2, h3, fun k hk hr c => ?_, h5, h6⟩
  by_cases e : k = i
  · subst e
    rcases c with c | c
    · exact h4 k hk hr (Or.inl c)
    · rw [c.1] at hn ⊢
      have : ¬ d p + zW G k < d (zT G k) := fun x => hn ⟨hr, h3, x⟩
      omega
  · exact h4 k hk hr (by rcases c with c | c; exact Or.inl c; exact Or.inr ⟨c.1, by omega⟩)
theorem Mid.step {G : Gra} {q d : Nat → Int} {V : Nat → Bool} {p i : Nat} (hq : Pot G q) (h : Mid G q d V p i) (hi : i < zM G) (hr : 0 < zR G i) (hf : d (zF G i) < FAR) (hs : d (zF G i) + zW G i < d (zT G i)) : Mid G q (up d (zT G i) (d (zF G i) + zW G i)) V p (i + 1) := by
  obtain ⟨h1, h2, h3, h4, h5, h6⟩ := h
  obtain ⟨a1, a2, a3, a4⟩ := hq.2 i hi
  have a4 := a4 hr
  have nV : V (zF G i) = false := by
    cases c : V (zF G i) with
    | false => rfl
    | true => have := h4 i hi hr (Or.inl c); omega
  have m1 := h6 _ a1 nV hf
  have nT : V (zT G i) = false := by
    cases c : V (zT G i) with
    | false => rfl
    | true => have := (h5 _ a2 c).2; omega
  have nP : zT G i ≠ p := fun e => by rw [e] at hs a4; omega
  have nFT : zF G i ≠ zT G i := fun e => by rw [e] at hs a4; omega
  have nv : ∀ v, V v = true → v ≠ zT G i := fun v c e => by rw [e, nT] at c; exact absurd c (by decide)
  refine ⟨h1, h2, by rw [up_ne _ _ (Ne.symm nP)]; exact h3, fun k hk hr' c => ?_, fun v hv c => ?_, fun n hn c c2 => ?_⟩
  · have old : (V (zF G k) = true ∨ (zF G k = p ∧ k < i)) → up d (zT G i) (d (zF G i) + zW G i) (zT G k) ≤ d (zF G k) + zW G k := fun c => by
      have := h4 k hk hr' c
      by_cases e : zT G k = zT G i
      · rw [e, up_self]; rw [e] at this; omega
      · rw [up_ne _ _ e]; exact this
    have fk : zF G k ≠ zT G i := by
      rcases c with c | c
      · exact nv _ c
      · rw [c.1]; exact Ne.symm nP
    rw [up_ne _ _ fk]
    rcases c with c | ⟨c, c2⟩
    · exact old (Or.inl c)
    · by_cases e : k = i
      · subst e; rw [up_self]; exact Int.le_refl _
      · exact old (Or.inr ⟨c, by omega⟩)
  · rw [up_ne _ _ (nv v c), up_ne _ _ (Ne.symm nP)]
    exact h5 v hv c
  · rw [up_ne _ _ (Ne.symm nP)]
    by_cases e : n = zT G i
    · rw [e, up_self]; omega
    · rw [up_ne _ _ e] at c2 ⊢
      exact h6 n hn c c2
/-- at the end: each reached node hangs tight on the one before it -/
theorem BF.tight {G : Gra} {src : Nat → Prop} {q d : Nat → Int} {by_ : Nat → Nat} {rt : Nat → Prop} (h : BF G src q d by_ rt) (hx : Fix G d) : ∃ t : Nat → Nat, ∀ n, n < zN G → d n < FAR → (rt n ∧ src n ∧ d n = 0) ∨ (¬ rt n ∧ by_ n < zM G ∧ zT G (by_ n) = n ∧ 0 < zR G (by_ n) ∧ d (zF G (by_ n)) < FAR ∧ d (zF G (by_ n)) + zW G (by_ n) = d n ∧ t (zF G (by_ n)) < t n) := by
  obtain ⟨t, T, h⟩ := h
  refine ⟨t, fun n hn hd => ?_⟩
  rcases (h n hn).2.2.2 hd with g | ⟨g1, g2, g3, g4, g5, g6⟩
  · exact Or.inl g
  · have := hx _ g2 g4 g5
    rw [g3] at this
    rcases g6 with g6 | g6
    · omega
    · exact Or.inr ⟨g1, g2, g3, g4, g5, g6.1, g6.2⟩
