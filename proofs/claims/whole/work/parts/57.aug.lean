/-! one way more, in the class and in the reference -/
def cG (N : Net) (f : Nat → Int) : Gra := rG (nP N) (nA N) (nfr N) (nto N) (fun a => ntl N a) (fun a => ncp N a) f
theorem JJ.pot {N : Net} (hN : NOk N) {sup : Nat → Nat} {f g q : Nat → Int} {b : Int} (h : JJ N sup f g q b) : Pot (cG N f) q := by
  obtain ⟨hF, hb, hp, ha, hj⟩ := h
  obtain ⟨n1, n2, n3, n4, n5⟩ := hN
  refine ⟨by show nP N ≤ 10; omega, fun k hk => ?_⟩
  have hk' : k / 2 < nA N := by have : k < 2 * nA N := hk; omega
  obtain ⟨a1, a2, a3, a4⟩ := n4 _ hk'
  obtain ⟨b1, b2⟩ := ha _ hk'
  unfold cG
  rw [rG_F, rG_T, rG_W, rG_R, rG_N]
  by_cases c : k % 2 = 0
  · simp only [c, if_true]; exact ⟨a1, a2, by omega, fun x => b1 (by omega)⟩
  · simp only [c, if_false]; exact ⟨a2, a1, by omega, fun x => by have := b2 x; omega⟩
/-- what Fix says of the arcs of the class -/
theorem cFix {N : Net} {f d : Nat → Int} (h : Fix (cG N f) d) {a : Nat} (ha : a < nA N) : (f a < ncp N a → d (nfr N a) < FAR → d (nto N a) ≤ d (nfr N a) + ntl N a) ∧ (0 < f a → d (nto N a) < FAR → d (nfr N a) ≤ d (nto N a) - ntl N a) := by
  have e1 : 2 * a / 2 = a := by omega
  have e2 : (2 * a + 1) / 2 = a := by omega
  have h1 := h (2 * a) (show 2 * a < 2 * nA N by omega)
  have h2 := h (2 * a + 1) (show 2 * a + 1 < 2 * nA N by omega)
  unfold cG at h1 h2
  rw [rG_F, rG_T, rG_W, rG_R] at h1 h2
  simp only [e1, e2, show 2 * a % 2 = 0 by omega, show ¬ (2 * a + 1) % 2 = 0 by omega, if_true, if_false] at h1 h2
  exact ⟨fun x y => h1 (by omega) y, fun x y => by have := h2 x y; omega⟩
theorem cLevel {N : Net} (hN : NOk N) {sup : Nat → Nat} {f g q d : Nat → Int} {b b' : Int} {by_ : Nat → Nat} {rt : Nat → Prop} (h : JJ N sup f g q b) (hb : 0 ≤ b' ∧ b' ≤ b) (hB : BF (cG N f) (fun p => 0 < stay N sup f g p) q d by_ rt) (hx : Fix (cG N f) d)
    (h5 : ∀ j, j < nW N → g j < nnd N j → nwo N j - d (npl N j) ≤ b') : JJ N sup f g (nq q d (b - b')) b' := by
  have hq := h.pot hN
  have n4 := hN.2.2.2.1
  have far : ∀ p, p < nP N → d p = FAR ∨ (q p ≤ d p ∧ d p ≤ 1000) := fun p hp => BF.far hq hB hp
  refine h.level hN hb (fun p hp c => ?_) (fun a ha c1 c2 => ?_) (fun a ha c1 c2 => ?_) (fun p hp c => ?_) (fun j hj c1 _ => h5 j hj c1)
  · obtain ⟨t, T, hB⟩ := hB
    have i1 := (hB p hp).2.1 c
    have i2 := (h.2.2.1 p hp).2 c
    have := far p hp
    unfold FAR at this
    omega
  · have i := (cFix hx ha).1 c1 c2
    have := far _ (n4 a ha).1
    have := (n4 a ha).2.2.1
    unfold FAR at *
    omega
  · have i := (cFix hx ha).2 c1 c2
    have := far _ (n4 a ha).2.1
    have := (n4 a ha).2.2.1
    unfold FAR at *
    omega
  · have := far p hp
    unfold FAR at *
    omega
theorem cOpt {N : Net} (hN : NOk N) {sup : Nat → Nat} {f g q d : Nat → Int} {b : Int} {by_ : Nat → Nat} {rt : Nat → Prop} (h : JJ N sup f g q b) (hB : BF (cG N f) (fun p => 0 < stay N sup f g p) q d by_ rt) (hx : Fix (cG N f) d)
    (h5 : ∀ j, j < nW N → g j < nnd N j → nwo N j - d (npl N j) ≤ 0) : IsOpt N sup (prof N f g) := (cLevel hN h ⟨Int.le_refl _, h.2.1.1⟩ hB hx h5).opt hN
theorem smI_up (g : Nat → Int) {j n : Nat} (v : Int) (hj : j < n) : smI (up g j v) n = smI g n + (v - g j) := by
  have := smI_upd g j v n
  rw [if_pos hj] at this
  exact this
theorem cAug {N : Net} (hN : NOk N) {sup : Nat → Nat} {f g q d : Nat → Int} {b : Int} {by_ : Nat → Nat} {rt : Nat → Prop} (h : JJ N sup f g q b) (hB : BF (cG N f) (fun p => 0 < stay N sup f g p) q d by_ rt) (hx : Fix (cG N f) d)
    {j : Nat} (hj : j < nW N) (hg : g j < nnd N j) (hv : 0 < nwo N j - d (npl N j)) (h5 : ∀ j', j' < nW N → g j' < nnd N j' → nwo N j' - d (npl N j') ≤ nwo N j - d (npl N j)) :
    ∃ l r, Pth (cG N f) by_ rt (npl N j) l r ∧ r < nP N ∧ rt r ∧ 0 < stay N sup f g r ∧ l.length < nP N ∧ Dis l ∧ (∀ k ∈ l, k < 2 * nA N ∧ 0 < zR (cG N f) k) ∧
      ∀ u, 0 ≤ u → u ≤ nnd N j - g j → (∀ k ∈ l, u ≤ zR (cG N f) k) → u ≤ stay N sup f g r → ∃ q', JJ N sup (mvL u l f) (up g j (g j + u)) q' (nwo N j - d (npl N j)) ∧ prof N (mvL u l f) (up g j (g j + u)) = prof N f g + (nwo N j - d (npl N j)) * u ∧ smI (up g j (g j + u)) (nW N) = smI g (nW N) + u ∧ ∀ p, stay N sup (mvL u l f) (up g j (g j + u)) p = stay N sup f g p - (if p = r then u else 0) := by
  have hq := h.pot hN
  obtain ⟨n1, n2, n3, n4, n5⟩ := id hN
  obtain ⟨w1, w2, w3⟩ := n5 j hj
  have hd : d (npl N j) < FAR := by unfold FAR; omega
  have far := BF.far hq hB (n := npl N j) w1
  have qd : q (npl N j) ≤ d (npl N j) := by unfold FAR at *; omega
  have hjj := (h.2.2.2.2 j hj).1 hg
  have lev := cLevel hN h (b' := nwo N j - d (npl N j)) ⟨by omega, by omega⟩ hB hx h5
  obtain ⟨t, ht⟩ := hB.tight hx
  obtain ⟨l, r, p1, ⟨r1, r2, r3, r4, -⟩, pf, V, v1, -⟩ := Hng.path hq ht _ (npl N j) (Nat.le_refl _) w1 hd
  have hdis := (Pth.dis (t := t) p1 (fun k hk => ⟨(pf k hk).2.2.2.2.1, (pf k hk).2.2.2.2.2.1⟩)).1
  refine ⟨l, r, p1, r1, r2, r3, ?_, hdis, fun k hk => ⟨(pf k hk).1, (pf k hk).2.1⟩, fun u u0 u1 u2 u3 => ?_⟩
  · have := cn_le V (zN (cG N f))
    have : zN (cG N f) = nP N := rfl
    omega
  have st : ∀ p, stay N sup (mvL u l f) (up g j (g j + u)) p = stay N sup f g p - (if p = r then u else 0) := by
    intro p
    have e1 := Pth.dv (bw := fun a => (ntl N a : Int)) (cap := fun a => (ncp N a : Int)) (y := f) u p (x := f) p1 (fun k hk => (pf k hk).1)
    have e2 := smI_if_up (npl N) g p j (g j + u) (nW N)
    unfold stay
    rw [e1, e2, if_pos hj]
    simp only [eq_comm (a := p)]
    split <;> split <;> omega
  have hF : Feas N sup (mvL u l f) (up g j (g j + u)) := by
    refine ⟨mvL_bd hdis u0 u2 (fun e he => h.1.1 e he), fun i hi => ?_, fun p hp => ?_⟩
    · have := h.1.2.1 i hi
      by_cases e : i = j
      · subst e; rw [up_self]; omega
      · rw [up_ne _ _ e]; exact this
    · rw [st p]
      have := h.1.2.2 p hp
      by_cases e : p = r
      · subst e; rw [if_pos rfl]; omega
      · rw [if_neg e]; omega
  have nqd : ∀ p, d p < FAR → d p - q p ≤ d (npl N j) - q (npl N j) → nq q d (b - (nwo N j - d (npl N j))) p = d p := fun p c1 c2 => by
    unfold nq
    rw [if_pos ⟨c1, by omega⟩]
  have lev' : JJ N sup (mvL u l f) (up g j (g j + u)) (nq q d (b - (nwo N j - d (npl N j)))) (nwo N j - d (npl N j)) := by
    refine lev.move hF (fun p hp => Or.inl ?_) (fun a ha => ?_) (fun i hi => ?_)
    · rw [st p]; split <;> omega
    · by_cases c : ∃ k ∈ l, k / 2 = a
      · obtain ⟨k, hk, rfl⟩ := c
        obtain ⟨-, -, ⟨b1, b2⟩, b3, -, -, b4, b5⟩ := pf k hk
        unfold cG at b1 b2 b3 b4 b5
        rw [rG_F] at b1 b4
        rw [rG_T] at b2 b5
        rw [rG_F, rG_T, rG_W] at b3
        refine Or.inr ?_
        by_cases c : k % 2 = 0
        · rw [if_pos c] at b1 b2 b4 b5
          simp only [c, if_true] at b3
          rw [nqd _ b1 b4, nqd _ b2 b5]
          exact b3.symm
        · rw [if_neg c] at b1 b2 b4 b5
          simp only [c, if_false] at b3
          rw [nqd _ b1 b4, nqd _ b2 b5]
          omega
      · exact Or.inl (mvL_ne u (fun k hk e => c ⟨k, hk, e⟩))
    · by_cases e : i = j
      · subst e
        exact Or.inr (by rw [nqd _ hd (Int.le_refl _)])
      · exact Or.inl (up_ne _ _ e)
  have sg := smI_up g (g j + u) hj
  refine ⟨_, lev', ?_, by omega, st⟩
  rw [lev.more hN lev', show smI (up g j (g j + u)) (nW N) - smI g (nW N) = u by omega]
/-- at first nothing is sent -/
theorem stay_zero (N : Net) (sup : Nat → Nat) (p : Nat) : stay N sup (fun _ => 0) (fun _ => 0) p = sup p := by
  unfold stay dv
  have z : ∀ (t : Nat → Nat) n, smI (fun e => if t e = p then (0 : Int) else 0) n = 0 := fun t n => by
    rw [show (fun e => if t e = p then (0 : Int) else 0) = fun _ => 0 by funext e; split <;> rfl]
    exact smI_zero n
  rw [z, z, z]
  omega
theorem JJ.zero {N : Net} (hN : NOk N) (sup : Nat → Nat) : JJ N sup (fun _ => 0) (fun _ => 0) (fun _ => 0) 99 := by
  obtain ⟨n1, n2, n3, n4, n5⟩ := hN
  refine ⟨⟨fun a ha => ⟨Int.le_refl _, by show (0 : Int) ≤ _; omega⟩, fun j hj => ⟨Int.le_refl _, by show (0 : Int) ≤ _; omega⟩, fun p hp => by rw [stay_zero]; omega⟩, by omega, fun p hp => ⟨Int.le_refl _, fun _ => rfl⟩, fun a ha => ⟨fun _ => by show (0 : Int) ≤ 0 + _; omega, fun c => absurd c (by show ¬ (0 : Int) < 0; omega)⟩, fun j hj => ⟨fun _ => ?_, fun c => absurd c (by show ¬ (0 : Int) < 0; omega)⟩⟩
  have := (n5 j hj).2.2
  show (_ : Int) - 0 ≤ 99
  omega
theorem prof_zero (N : Net) : prof N (fun _ => 0) (fun _ => 0) = 0 := by
  unfold prof
  simp only [Int.mul_zero, smI_zero]
  omega
theorem smI_full {g : Nat → Int} {c : Nat → Int} : ∀ {n : Nat}, (∀ j, j < n → g j ≤ c j) → smI c n ≤ smI g n → ∀ j, j < n → g j = c j
  | 0, _, _, j, hj => absurd hj (Nat.not_lt_zero j)
  | n + 1, h, hs, j, hj => by
    simp only [smI] at hs
    have h1 := smI_le (f := g) (g := c) (n := n) (fun i hi => h i (by omega))
    have h2 := h n (by omega)
    rcases Nat.lt_or_ge j n with c' | c'
    · exact smI_full (fun i hi => h i (by omega)) (by omega) j c'
    · rw [show j = n by omega]; omega
/-- all is brought when as many are there as can be wanted -/
theorem JJ.done {N : Net} (hN : NOk N) {sup : Nat → Nat} {f g q : Nat → Int} {b : Int} (h : JJ N sup f g q b) (hs : 72 ≤ smI g (nW N)) : IsOpt N sup (prof N f g) := by
  have hb := smI_bd (f := fun j => (nnd N j : Int)) (c := 9) (n := nW N) (fun j hj => ⟨by omega, by have := (hN.2.2.2.2 j hj).2.1; omega⟩)
  have h3 := hN.2.2.1
  refine (h.full (fun j hj => ?_)).opt hN
  exact smI_full (c := fun j => (nnd N j : Int)) (fun i hi => (h.1.2.1 i hi).2) (by omega) j hj
theorem JJ.sum {N : Net} (hN : NOk N) {sup : Nat → Nat} {f g q : Nat → Int} {b : Int} (h : JJ N sup f g q b) : 0 ≤ smI g (nW N) ∧ smI g (nW N) ≤ 72 := by
  have hb := smI_bd (f := g) (c := 9) (n := nW N) (fun j hj => ⟨(h.1.2.1 j hj).1, by have := (hN.2.2.2.2 j hj).2.1; have := (h.1.2.1 j hj).2; omega⟩)
  have h3 := hN.2.2.1
  omega
