/-! weak duality of the flow -/
theorem smI_upd (f : Nat → Int) (k : Nat) (v : Int) : ∀ n, smI (fun i => if i = k then v else f i) n = smI f n + (if k < n then v - f k else 0)
  | 0 => by simp [smI]
  | n + 1 => by
    simp only [smI, smI_upd f k v n]
    by_cases h : n = k
    · subst h; simp; omega
    · by_cases h2 : k < n
      · simp [h, h2, show k < n + 1 by omega]; omega
      · simp [h, h2, show ¬ k < n + 1 by omega]
/-- a sum over places of what arcs bring there -/
theorem smI_at (q : Nat → Int) (t : Nat → Nat) (f : Nat → Int) (P : Nat) : ∀ A, (∀ a, a < A → t a < P) → smI (fun p => q p * smI (fun a => if t a = p then f a else 0) A) P = smI (fun a => q (t a) * f a) A
  | 0, _ => by
    simp only [smI, Int.mul_zero]
    exact smI_zero P
  | A + 1, h => by
    have ih := smI_at q t f P A (fun a ha => h a (by omega))
    simp only [smI, Int.mul_add]
    rw [smI_add, ih]
    congr 1
    have e : (fun p => q p * if t A = p then f A else 0) = fun p => if p = t A then q (t A) * f A else 0 := by
      funext p
      by_cases hp : t A = p
      · subst hp; simp
      · simp [hp, Ne.symm hp]
    rw [e, smI_pick, if_pos (h A (by omega))]
def NOk (N : Net) : Prop := (1 ≤ nP N ∧ nP N ≤ 8) ∧ nA N ≤ 8 ∧ nW N ≤ 8 ∧ (∀ a, a < nA N → nfr N a < nP N ∧ nto N a < nP N ∧ ntl N a ≤ 20 ∧ ncp N a ≤ 31) ∧ (∀ j, j < nW N → npl N j < nP N ∧ nnd N j ≤ 9 ∧ nwo N j ≤ 99)
/-- a flow with prices of the places and a level -/
def JJ (N : Net) (sup : Nat → Nat) (f g q : Nat → Int) (b : Int) : Prop := Feas N sup f g ∧ (0 ≤ b ∧ b ≤ 99) ∧ (∀ p, p < nP N → 0 ≤ q p ∧ (0 < stay N sup f g p → q p = 0)) ∧
  (∀ a, a < nA N → (f a < ncp N a → q (nto N a) ≤ q (nfr N a) + ntl N a) ∧ (0 < f a → q (nfr N a) + ntl N a ≤ q (nto N a))) ∧
  (∀ j, j < nW N → (g j < nnd N j → nwo N j - q (npl N j) ≤ b) ∧ (0 < g j → b ≤ nwo N j - q (npl N j)))
def pz (z : Int) : Int := if 0 ≤ z then z else 0
def DD (N : Net) (sup : Nat → Nat) (q : Nat → Int) (b : Int) : Int := smI (fun j => nnd N j * pz (nwo N j - q (npl N j) - b)) (nW N) + smI (fun a => ncp N a * pz (q (nto N a) - q (nfr N a) - ntl N a)) (nA N) + smI (fun p => q p * sup p) (nP N)
theorem prof_id {N : Net} (hN : NOk N) (sup : Nat → Nat) (f g q : Nat → Int) (b : Int) : prof N f g = smI (fun j => (nwo N j - q (npl N j) - b) * g j) (nW N) + b * smI g (nW N) + smI (fun a => (q (nto N a) - q (nfr N a) - ntl N a) * f a) (nA N) + smI (fun p => q p * sup p) (nP N) - smI (fun p => q p * stay N sup f g p) (nP N) := by
  obtain ⟨-, -, -, hA, hW⟩ := hN
  have e1 : smI (fun p => q p * stay N sup f g p) (nP N) = smI (fun p => q p * sup p) (nP N) + smI (fun a => q (nto N a) * f a) (nA N) - smI (fun a => q (nfr N a) * f a) (nA N) - smI (fun j => q (npl N j) * g j) (nW N) := by
    unfold stay dv
    rw [← smI_at q (nto N) f (nP N) (nA N) (fun a ha => (hA a ha).2.1), ← smI_at q (nfr N) f (nP N) (nA N) (fun a ha => (hA a ha).1), ← smI_at q (npl N) g (nP N) (nW N) (fun j hj => (hW j hj).1), ← smI_add, ← smI_sub, ← smI_sub]
    apply smI_ext
    intro p _
    grind
  have e2 : ∀ n, smI (fun j => (nwo N j - q (npl N j) - b) * g j) n = smI (fun j => (nwo N j : Int) * g j) n - smI (fun j => q (npl N j) * g j) n - b * smI g n := by
    intro n
    rw [← smI_mul, ← smI_sub, ← smI_sub]
    apply smI_ext
    intro p _
    grind
  have e3 : ∀ n, smI (fun a => (q (nto N a) - q (nfr N a) - ntl N a) * f a) n = smI (fun a => q (nto N a) * f a) n - smI (fun a => q (nfr N a) * f a) n - smI (fun a => (ntl N a : Int) * f a) n := by
    intro n
    rw [← smI_sub, ← smI_sub]
    apply smI_ext
    intro p _
    grind
  rw [e1, e2, e3]
  unfold prof
  omega
theorem pz_le {z x c : Int} (h0 : 0 ≤ x) (h1 : x ≤ c) : z * x ≤ c * pz z := by
  unfold pz
  by_cases h : 0 ≤ z
  · rw [if_pos h, Int.mul_comm z x]
    exact Int.mul_le_mul_of_nonneg_right h1 h
  · rw [if_neg h, Int.mul_zero]
    exact Int.mul_nonpos_of_nonpos_of_nonneg (by omega) h0
theorem pz_eq {z x c : Int} (h0 : 0 ≤ x) (h1 : x ≤ c) (g1 : x < c → z ≤ 0) (g2 : 0 < x → 0 ≤ z) : z * x = c * pz z := by
  unfold pz
  by_cases h : 0 ≤ z
  · rw [if_pos h]
    by_cases e : x = c
    · rw [e, Int.mul_comm]
    · have : z = 0 := by have := g1 (by omega); omega
      rw [this]; simp
  · rw [if_neg h, Int.mul_zero]
    have : x = 0 := by
      by_cases e : 0 < x
      · have := g2 e; omega
      · omega
    rw [this, Int.mul_zero]
theorem dual_le {N : Net} (hN : NOk N) {sup : Nat → Nat} {f g q : Nat → Int} {b : Int} (hF : Feas N sup f g) (hq : ∀ p, p < nP N → 0 ≤ q p) : prof N f g ≤ b * smI g (nW N) + DD N sup q b := by
  rw [prof_id hN sup f g q b]
  unfold DD
  have h1 : smI (fun j => (nwo N j - q (npl N j) - b) * g j) (nW N) ≤ smI (fun j => nnd N j * pz (nwo N j - q (npl N j) - b)) (nW N) := smI_le fun j hj => pz_le (hF.2.1 j hj).1 (hF.2.1 j hj).2
  have h2 : smI (fun a => (q (nto N a) - q (nfr N a) - ntl N a) * f a) (nA N) ≤ smI (fun a => ncp N a * pz (q (nto N a) - q (nfr N a) - ntl N a)) (nA N) := smI_le fun a ha => pz_le (hF.1 a ha).1 (hF.1 a ha).2
  have h3 : smI (fun _ => 0) (nP N) ≤ smI (fun p => q p * stay N sup f g p) (nP N) := smI_le fun p hp => Int.mul_nonneg (hq p hp) (hF.2.2 p hp)
  rw [smI_zero] at h3
  omega
theorem dual_eq {N : Net} (hN : NOk N) {sup : Nat → Nat} {f g q : Nat → Int} {b : Int} (h : JJ N sup f g q b) : prof N f g = b * smI g (nW N) + DD N sup q b := by
  obtain ⟨hF, hb, hp, ha, hj⟩ := h
  rw [prof_id hN sup f g q b]
  unfold DD
  have h1 : smI (fun j => (nwo N j - q (npl N j) - b) * g j) (nW N) = smI (fun j => nnd N j * pz (nwo N j - q (npl N j) - b)) (nW N) := smI_ext fun j h => pz_eq (hF.2.1 j h).1 (hF.2.1 j h).2 (fun c => by have := (hj j h).1 c; omega) (fun c => by have := (hj j h).2 c; omega)
  have h2 : smI (fun a => (q (nto N a) - q (nfr N a) - ntl N a) * f a) (nA N) = smI (fun a => ncp N a * pz (q (nto N a) - q (nfr N a) - ntl N a)) (nA N) := smI_ext fun a h => pz_eq (hF.1 a h).1 (hF.1 a h).2 (fun c => by have := (ha a h).1 c; omega) (fun c => by have := (ha a h).2 c; omega)
  have h3 : smI (fun p => q p * stay N sup f g p) (nP N) = smI (fun _ => 0) (nP N) := smI_ext fun p h => by
    by_cases c : 0 < stay N sup f g p
    · rw [(hp p h).2 c, Int.zero_mul]
    · have := hF.2.2 p h
      rw [show stay N sup f g p = 0 by omega, Int.mul_zero]
  rw [smI_zero] at h3
  omega
theorem JJ.opt {N : Net} (hN : NOk N) {sup : Nat → Nat} {f g q : Nat → Int} (h : JJ N sup f g q 0) : IsOpt N sup (prof N f g) := by
  refine ⟨⟨f, g, h.1, rfl⟩, fun f' g' h' => ?_⟩
  have h1 := dual_eq hN h
  have h2 := dual_le hN h' (q := q) (b := 0) (fun p hp => (h.2.2.1 p hp).1)
  omega
/-- the same prices: what more is brought -/
theorem JJ.more {N : Net} (hN : NOk N) {sup : Nat → Nat} {f g f' g' q : Nat → Int} {b : Int} (h : JJ N sup f g q b) (h' : JJ N sup f' g' q b) : prof N f' g' = prof N f g + b * (smI g' (nW N) - smI g (nW N)) := by
  rw [dual_eq hN h, dual_eq hN h', Int.mul_sub]
  omega
/-- all that is wanted is there -/
theorem JJ.full {N : Net} {sup : Nat → Nat} {f g q : Nat → Int} {b : Int} (h : JJ N sup f g q b) (hf : ∀ j, j < nW N → g j = nnd N j) : JJ N sup f g q 0 := by
  obtain ⟨hF, hb, hp, ha, hj⟩ := h
  refine ⟨hF, by omega, hp, ha, fun j h => ⟨fun c => ?_, fun c => ?_⟩⟩
  · have := hf j h; omega
  · have := (hj j h).2 c; omega
/-- new prices by distances -/
def FAR : Int := 1000000
def nq (q d : Nat → Int) (c : Int) (p : Nat) : Int := if d p < FAR ∧ d p ≤ q p + c then d p else q p + c
theorem JJ.level {N : Net} (hN : NOk N) {sup : Nat → Nat} {f g q d : Nat → Int} {b b' : Int} (h : JJ N sup f g q b) (hb : 0 ≤ b' ∧ b' ≤ b)
    (h1 : ∀ p, p < nP N → 0 < stay N sup f g p → d p = 0)
    (h2 : ∀ a, a < nA N → f a < ncp N a → d (nfr N a) < FAR → d (nto N a) < FAR ∧ d (nto N a) ≤ d (nfr N a) + ntl N a)
    (h3 : ∀ a, a < nA N → 0 < f a → d (nto N a) < FAR → d (nfr N a) < FAR ∧ d (nfr N a) ≤ d (nto N a) - ntl N a)
    (h4 : ∀ p, p < nP N → d p < FAR → q p ≤ d p)
    (h5 : ∀ j, j < nW N → g j < nnd N j → d (npl N j) < FAR → nwo N j - d (npl N j) ≤ b') : JJ N sup f g (nq q d (b - b')) b' := by
  obtain ⟨hF, hb0, hp, ha, hj⟩ := h
  obtain ⟨-, -, -, hA, hW⟩ := hN
  refine ⟨hF, by omega, fun p hp' => ?_, fun a ha' => ?_, fun j hj' => ?_⟩
  · have i1 := hp p hp'
    have i2 := h1 p hp'
    have i4 := h4 p hp'
    unfold nq FAR at *
    refine ⟨?_, fun c => ?_⟩
    · split <;> omega
    · have := i2 c
      have := i1.2 c
      rw [if_pos (by omega)]
      omega
  · have i1 := ha a ha'
    have i2 := h2 a ha'
    have i3 := h3 a ha'
    have i4 := h4 _ (hA a ha').1
    have i5 := h4 _ (hA a ha').2.1
    unfold nq FAR at *
    refine ⟨fun c => ?_, fun c => ?_⟩
    · have := i1.1 c
      have := i2 c
      split <;> split <;> omega
    · have := i1.2 c
      have := i3 c
      split <;> split <;> omega
  · have i1 := hj j hj'
    have i2 := h5 j hj'
    have i4 := h4 _ (hW j hj').1
    unfold nq FAR at *
    refine ⟨fun c => ?_, fun c => ?_⟩
    · have := i1.1 c
      have := i2 c
      split <;> omega
    · have := i1.2 c
      split <;> omega
/-- a change along what is tight -/
theorem JJ.move {N : Net} {sup : Nat → Nat} {f g f' g' q : Nat → Int} {b : Int} (h : JJ N sup f g q b) (hF' : Feas N sup f' g')
    (h1 : ∀ p, p < nP N → stay N sup f' g' p ≤ stay N sup f g p ∨ q p = 0)
    (h2 : ∀ a, a < nA N → f' a = f a ∨ q (nto N a) = q (nfr N a) + ntl N a)
    (h3 : ∀ j, j < nW N → g' j = g j ∨ b = nwo N j - q (npl N j)) : JJ N sup f' g' q b := by
  obtain ⟨hF, hb, hp, ha, hj⟩ := h
  refine ⟨hF', hb, fun p hp' => ⟨(hp p hp').1, fun c => ?_⟩, fun a ha' => ?_, fun j hj' => ?_⟩
  · rcases h1 p hp' with i | i
    · exact (hp p hp').2 (by omega)
    · exact i
  · have i1 := ha a ha'
    rcases h2 a ha' with i | i
    · rw [i]; exact i1
    · omega
  · have i1 := hj j hj'
    rcases h3 j hj' with i | i
    · rw [i]; exact i1
    · omega
