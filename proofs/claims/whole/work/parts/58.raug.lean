/-! the reference's ways: from the source to each place, the works, from places to the sink -/
theorem smI_split (f : Nat → Int) (m : Nat) : ∀ n, smI f (m + n) = smI f m + smI (fun i => f (m + i)) n
  | 0 => by simp [smI]
  | n + 1 => by
    rw [← Nat.add_assoc]
    simp only [smI]
    rw [smI_split f m n]
    omega
def rE (N : Net) : Nat := nP N + nA N + nW N
def rf (N : Net) (e : Nat) : Nat := if e < nP N then 8 else if e < nP N + nA N then nfr N (e - nP N) else npl N (e - nP N - nA N)
def rt_ (N : Net) (e : Nat) : Nat := if e < nP N then e else if e < nP N + nA N then nto N (e - nP N) else 9
def rw_ (N : Net) (e : Nat) : Int := if e < nP N then 0 else if e < nP N + nA N then (ntl N (e - nP N) : Int) else - (nwo N (e - nP N - nA N) : Int)
def rc (N : Net) (sup : Nat → Nat) (e : Nat) : Int := if e < nP N then (sup e : Int) else if e < nP N + nA N then (ncp N (e - nP N) : Int) else (nnd N (e - nP N - nA N) : Int)
def xf (N : Net) (x : Nat → Int) (a : Nat) : Int := x (nP N + a)
def xg (N : Net) (x : Nat → Int) (j : Nat) : Int := x (nP N + nA N + j)
def zG (N : Net) (sup : Nat → Nat) (x : Nat → Int) : Gra := rG 10 (rE N) (rf N) (rt_ N) (rw_ N) (rc N sup) x
theorem rf_0 {N : Net} {p : Nat} (h : p < nP N) : rf N p = 8 ∧ rt_ N p = p ∧ rw_ N p = 0 ∧ ∀ sup, rc N sup p = sup p := by simp [rf, rt_, rw_, rc, h]
theorem rf_1 {N : Net} {a : Nat} (h : a < nA N) : rf N (nP N + a) = nfr N a ∧ rt_ N (nP N + a) = nto N a ∧ rw_ N (nP N + a) = ntl N a ∧ ∀ sup, rc N sup (nP N + a) = ncp N a := by
  have c : ¬ nP N + a < nP N := by omega
  have e : nP N + a - nP N = a := by omega
  simp only [rf, rt_, rw_, rc, c, e, if_false, show nP N + a < nP N + nA N by omega, if_true, true_and, implies_true]
theorem rf_2 {N : Net} (j : Nat) : rf N (nP N + nA N + j) = npl N j ∧ rt_ N (nP N + nA N + j) = 9 ∧ rw_ N (nP N + nA N + j) = - (nwo N j : Int) ∧ ∀ sup, rc N sup (nP N + nA N + j) = nnd N j := by
  have e : nP N + nA N + j - nP N - nA N = j := by omega
  simp only [rf, rt_, rw_, rc, e, show ¬ nP N + nA N + j < nP N by omega, show ¬ nP N + nA N + j < nP N + nA N by omega, if_false, true_and, implies_true]
theorem r_cases {N : Net} {e : Nat} (h : e < rE N) : e < nP N ∨ (∃ a, a < nA N ∧ e = nP N + a) ∨ ∃ j, j < nW N ∧ e = nP N + nA N + j := by
  unfold rE at h
  by_cases c : e < nP N
  · exact Or.inl c
  · by_cases c2 : e < nP N + nA N
    · exact Or.inr (Or.inl ⟨e - nP N, by omega, by omega⟩)
    · exact Or.inr (Or.inr ⟨e - nP N - nA N, by omega, by omega⟩)
theorem smI_no {f : Nat → Int} {n : Nat} (h : ∀ i, i < n → f i = 0) : smI f n = 0 := by rw [smI_ext h]; exact smI_zero n
theorem dv_p {N : Net} (hN : NOk N) (x : Nat → Int) {p : Nat} (hp : p < nP N) : dv (rE N) (rf N) (rt_ N) x p = x p + dv (nA N) (nfr N) (nto N) (xf N x) p - smI (fun j => if npl N j = p then xg N x j else 0) (nW N) := by
  obtain ⟨n1, n2, n3, n4, n5⟩ := hN
  unfold dv rE
  rw [smI_split, smI_split, smI_split, smI_split]
  have e1 : smI (fun e => if rt_ N e = p then x e else 0) (nP N) = x p := by
    rw [smI_ext (g := fun e => if e = p then x p else 0) (fun e he => by rw [(rf_0 he).2.1]; by_cases c : e = p; subst c; simp; simp [c]), smI_pick, if_pos hp]
  have e2 : smI (fun e => if rf N e = p then x e else 0) (nP N) = 0 := smI_no fun e he => by rw [(rf_0 he).1, if_neg (by omega)]
  have e3 : smI (fun i => (fun e => if rt_ N e = p then x e else 0) (nP N + i)) (nA N) = smI (fun a => if nto N a = p then xf N x a else 0) (nA N) := smI_ext fun a ha => by simp only [(rf_1 ha).2.1]; rfl
  have e4 : smI (fun i => (fun e => if rf N e = p then x e else 0) (nP N + i)) (nA N) = smI (fun a => if nfr N a = p then xf N x a else 0) (nA N) := smI_ext fun a ha => by simp only [(rf_1 ha).1]; rfl
  have e5 : smI (fun i => (fun e => if rt_ N e = p then x e else 0) (nP N + nA N + i)) (nW N) = 0 := smI_no fun j hj => by simp only [(rf_2 j).2.1]; rw [if_neg (by omega)]
  have e6 : smI (fun i => (fun e => if rf N e = p then x e else 0) (nP N + nA N + i)) (nW N) = smI (fun j => if npl N j = p then xg N x j else 0) (nW N) := smI_ext fun j hj => by simp only [(rf_2 j).1]; rfl
  rw [e1, e2, e3, e4, e5, e6]
  omega
theorem dv_9 {N : Net} (hN : NOk N) (x : Nat → Int) : dv (rE N) (rf N) (rt_ N) x 9 = smI (xg N x) (nW N) := by
  obtain ⟨n1, n2, n3, n4, n5⟩ := hN
  unfold dv rE
  rw [smI_split, smI_split, smI_split, smI_split]
  have e1 : smI (fun e => if rt_ N e = 9 then x e else 0) (nP N) = 0 := smI_no fun e he => by rw [(rf_0 he).2.1, if_neg (by omega)]
  have e2 : smI (fun e => if rf N e = 9 then x e else 0) (nP N) = 0 := smI_no fun e he => by rw [(rf_0 he).1, if_neg (by omega)]
  have e3 : smI (fun i => (fun e => if rt_ N e = 9 then x e else 0) (nP N + i)) (nA N) = 0 := smI_no fun a ha => by simp only [(rf_1 ha).2.1]; have := n4 a ha; rw [if_neg (by omega)]
  have e4 : smI (fun i => (fun e => if rf N e = 9 then x e else 0) (nP N + i)) (nA N) = 0 := smI_no fun a ha => by simp only [(rf_1 ha).1]; have := n4 a ha; rw [if_neg (by omega)]
  have e5 : smI (fun i => (fun e => if rt_ N e = 9 then x e else 0) (nP N + nA N + i)) (nW N) = smI (xg N x) (nW N) := smI_ext fun j hj => by simp only [(rf_2 j).2.1, if_true]; rfl
  have e6 : smI (fun i => (fun e => if rf N e = 9 then x e else 0) (nP N + nA N + i)) (nW N) = 0 := smI_no fun j hj => by simp only [(rf_2 j).1]; have := n5 j hj; rw [if_neg (by omega)]
  rw [e1, e2, e3, e4, e5, e6]
  omega
/-- a state of the reference -/
def XX (N : Net) (sup : Nat → Nat) (x q : Nat → Int) (b : Int) : Prop := (∀ e, e < rE N → 0 ≤ x e ∧ x e ≤ rc N sup e) ∧ (∀ p, p < nP N → dv (rE N) (rf N) (rt_ N) x p = 0) ∧ JJ N sup (xf N x) (xg N x) q b
theorem x_stay {N : Net} (hN : NOk N) {sup : Nat → Nat} {x : Nat → Int} {p : Nat} (hp : p < nP N) (h : dv (rE N) (rf N) (rt_ N) x p = 0) : stay N sup (xf N x) (xg N x) p = sup p - x p := by
  have := dv_p hN x hp
  unfold stay
  omega
def Q10 (q : Nat → Int) (b : Int) (n : Nat) : Int := if n < 8 then q n else if n = 8 then 0 else - b
theorem XX.pot {N : Net} (hN : NOk N) {sup : Nat → Nat} {x q : Nat → Int} {b : Int} (h : XX N sup x q b) : Pot (zG N sup x) (Q10 q b) := by
  obtain ⟨hx, hv, hF, hb, hp, ha, hj⟩ := h
  obtain ⟨n1, n2, n3, n4, n5⟩ := id hN
  refine ⟨Nat.le_refl 10, fun k hk => ?_⟩
  have hk' : k / 2 < rE N := by have : k < 2 * rE N := hk; omega
  unfold zG
  rw [rG_F, rG_T, rG_W, rG_R, rG_N]
  have hxe := hx _ hk'
  rcases r_cases hk' with c | ⟨a, c, e⟩ | ⟨j, c, e⟩
  · obtain ⟨r1, r2, r3, r4⟩ := rf_0 c
    rw [r1, r2, r3, r4]
    rw [r4] at hxe
    have st := x_stay (sup := sup) hN c (hv _ c)
    have hp' := hp _ c
    simp only [Q10]
    by_cases c2 : k % 2 = 0
    · simp only [c2, if_true, if_false, show k / 2 < 8 by omega]
      exact ⟨by omega, by omega, by omega, fun y => by have := hp'.2 (by omega); omega⟩
    · simp only [c2, if_true, if_false, show k / 2 < 8 by omega]
      exact ⟨by omega, by omega, by omega, fun y => by have := hp'.1; omega⟩
  · rw [e] at hxe ⊢
    obtain ⟨r1, r2, r3, r4⟩ := rf_1 c
    rw [r1, r2, r3, r4]
    rw [r4] at hxe
    obtain ⟨a1, a2, a3, a4⟩ := n4 a c
    obtain ⟨b1, b2⟩ := ha a c
    unfold xf at b1 b2
    by_cases c2 : k % 2 = 0
    · simp only [c2, if_true, Q10, show nfr N a < 8 by omega, show nto N a < 8 by omega]
      exact ⟨by omega, by omega, by omega, fun y => b1 (by omega)⟩
    · simp only [c2, if_false, if_true, Q10, show nfr N a < 8 by omega, show nto N a < 8 by omega]
      exact ⟨by omega, by omega, by omega, fun y => by have := b2 y; omega⟩
  · rw [e] at hxe ⊢
    obtain ⟨r1, r2, r3, r4⟩ := rf_2 (N := N) j
    rw [r1, r2, r3, r4]
    rw [r4] at hxe
    obtain ⟨a1, a2, a3⟩ := n5 j c
    obtain ⟨b1, b2⟩ := hj j c
    unfold xg at b1 b2
    by_cases c2 : k % 2 = 0
    · simp only [c2, if_true, if_false, Q10, show npl N j < 8 by omega, show ¬ 9 < 8 by omega, show ¬ 9 = 8 by omega]
      exact ⟨by omega, by omega, by omega, fun y => by have := b1 (by omega); omega⟩
    · simp only [c2, if_true, if_false, Q10, show npl N j < 8 by omega, show ¬ 9 < 8 by omega, show ¬ 9 = 8 by omega]
      exact ⟨by omega, by omega, by omega, fun y => by have := b2 y; omega⟩
theorem zFix {N : Net} {sup : Nat → Nat} {x d : Nat → Int} (h : Fix (zG N sup x) d) {e : Nat} (he : e < rE N) : (x e < rc N sup e → d (rf N e) < FAR → d (rt_ N e) ≤ d (rf N e) + rw_ N e) ∧ (0 < x e → d (rt_ N e) < FAR → d (rf N e) ≤ d (rt_ N e) - rw_ N e) := by
  have e1 : 2 * e / 2 = e := by omega
  have e2 : (2 * e + 1) / 2 = e := by omega
  have h1 := h (2 * e) (show 2 * e < 2 * rE N by omega)
  have h2 := h (2 * e + 1) (show 2 * e + 1 < 2 * rE N by omega)
  unfold zG at h1 h2
  rw [rG_F, rG_T, rG_W, rG_R] at h1 h2
  simp only [e1, e2, show 2 * e % 2 = 0 by omega, show ¬ (2 * e + 1) % 2 = 0 by omega, if_true, if_false] at h1 h2
  exact ⟨fun x y => h1 (by omega) y, fun x y => by have := h2 x y; omega⟩
def is8 (n : Nat) : Prop := n = 8
theorem zLevel {N : Net} (hN : NOk N) {sup : Nat → Nat} {x q d : Nat → Int} {b b' : Int} {by_ : Nat → Nat} (h : XX N sup x q b) (hb : 0 ≤ b' ∧ b' ≤ b) (hB : BF (zG N sup x) is8 (Q10 q b) d by_ is8) (hx : Fix (zG N sup x) d) (h9 : - d 9 ≤ b') : JJ N sup (xf N x) (xg N x) (nq q d (b - b')) b' := by
  have hq := h.pot hN
  obtain ⟨n1, n2, n3, n4, n5⟩ := id hN
  have far : ∀ p, p < 10 → d p = FAR ∨ (Q10 q b p ≤ d p ∧ d p ≤ 1000) := fun p hp => BF.far hq hB hp
  have farp : ∀ p, p < nP N → d p = FAR ∨ (q p ≤ d p ∧ d p ≤ 1000) := fun p hp => by
    have := far p (by omega)
    simp only [Q10, show p < 8 by omega, if_true] at this
    exact this
  have d8 : d 8 ≤ 0 := by obtain ⟨t, T, hB⟩ := hB; exact (hB 8 (by show 8 < 10; omega)).2.1 rfl
  refine h.2.2.level hN hb (fun p hp c => ?_) (fun a ha c1 c2 => ?_) (fun a ha c1 c2 => ?_) (fun p hp c => ?_) (fun j hj c1 c2 => ?_)
  · have i1 := zFix hx (e := p) (by unfold rE; omega)
    obtain ⟨r1, r2, r3, r4⟩ := rf_0 hp
    rw [r1, r2, r3, r4] at i1
    rw [x_stay hN hp (h.2.1 p hp)] at c
    have i2 := (h.2.2.2.2.1 p hp).2 (by rw [x_stay hN hp (h.2.1 p hp)]; exact c)
    have := i1.1 (by omega) (by unfold FAR; omega)
    have := farp p hp
    unfold FAR at *
    omega
  · have i1 := zFix hx (e := nP N + a) (by unfold rE; omega)
    obtain ⟨r1, r2, r3, r4⟩ := rf_1 ha
    rw [r1, r2, r3, r4] at i1
    have := i1.1 c1 c2
    have := farp _ (n4 a ha).1
    have := (n4 a ha).2.2.1
    unfold FAR at *
    omega
  · have i1 := zFix hx (e := nP N + a) (by unfold rE; omega)
    obtain ⟨r1, r2, r3, r4⟩ := rf_1 ha
    rw [r1, r2, r3, r4] at i1
    have := i1.2 c1 c2
    have := farp _ (n4 a ha).2.1
    have := (n4 a ha).2.2.1
    unfold FAR at *
    omega
  · have := farp p hp
    unfold FAR at *
    omega
  · have i1 := zFix hx (e := nP N + nA N + j) (by unfold rE; omega)
    obtain ⟨r1, r2, r3, r4⟩ := rf_2 (N := N) j
    rw [r1, r2, r3, r4] at i1
    have := i1.1 c1 c2
    omega
theorem zOpt {N : Net} (hN : NOk N) {sup : Nat → Nat} {x q d : Nat → Int} {b : Int} {by_ : Nat → Nat} (h : XX N sup x q b) (hB : BF (zG N sup x) is8 (Q10 q b) d by_ is8) (hx : Fix (zG N sup x) d) (h9 : - d 9 ≤ 0) : IsOpt N sup (prof N (xf N x) (xg N x)) := (zLevel hN h ⟨Int.le_refl _, h.2.2.2.1.1⟩ hB hx h9).opt hN
theorem zAug {N : Net} (hN : NOk N) {sup : Nat → Nat} {x q d : Nat → Int} {b : Int} {by_ : Nat → Nat} (h : XX N sup x q b) (hB : BF (zG N sup x) is8 (Q10 q b) d by_ is8) (hx : Fix (zG N sup x) d) (hv : 0 < - d 9) :
    ∃ l, Pth (zG N sup x) by_ is8 9 l 8 ∧ Dis l ∧ (∀ k ∈ l, k < 2 * rE N ∧ 0 < zR (zG N sup x) k ∧ d (zT (zG N sup x) k) < FAR) ∧
      ∀ u, 0 ≤ u → (∀ k ∈ l, u ≤ zR (zG N sup x) k) → ∃ q', XX N sup (mvL u l x) q' (- d 9) ∧ prof N (xf N (mvL u l x)) (xg N (mvL u l x)) = prof N (xf N x) (xg N x) + - d 9 * u ∧ smI (xg N (mvL u l x)) (nW N) = smI (xg N x) (nW N) + u := by
  have hq := h.pot hN
  obtain ⟨n1, n2, n3, n4, n5⟩ := id hN
  have hd : d 9 < FAR := by unfold FAR; omega
  have far := BF.far hq hB (n := 9) (by show 9 < 10; omega)
  have hb : - d 9 ≤ b := by
    simp only [Q10, show ¬ 9 < 8 by omega, show ¬ 9 = 8 by omega, if_false] at far
    unfold FAR at far
    omega
  have lev := zLevel hN h (b' := - d 9) ⟨by omega, hb⟩ hB hx (Int.le_refl _)
  obtain ⟨t, ht⟩ := hB.tight hx
  obtain ⟨l, r, p1, ⟨r1, r2, r3, r4, -⟩, pf, V, v1, -⟩ := Hng.path hq ht _ 9 (Nat.le_refl _) (by show 9 < 10; omega) hd
  have hr : r = 8 := r2
  subst hr
  have hdis := (Pth.dis (t := t) p1 (fun k hk => ⟨(pf k hk).2.2.2.2.1, (pf k hk).2.2.2.2.2.1⟩)).1
  refine ⟨l, p1, hdis, fun k hk => ⟨(pf k hk).1, (pf k hk).2.1, (pf k hk).2.2.1.2⟩, fun u u0 u2 => ?_⟩
  have hX : ∀ e, e < rE N → 0 ≤ mvL u l x e ∧ mvL u l x e ≤ rc N sup e := mvL_bd hdis u0 u2 h.1
  have hD : ∀ p, p < nP N → dv (rE N) (rf N) (rt_ N) (mvL u l x) p = 0 := fun p hp => by
    rw [Pth.dv (bw := rw_ N) (cap := rc N sup) (y := x) u p (x := x) p1 (fun k hk => (pf k hk).1), h.2.1 p hp, if_neg (by omega), if_neg (by omega)]
    omega
  have hS : smI (xg N (mvL u l x)) (nW N) = smI (xg N x) (nW N) + u := by
    rw [← dv_9 hN, ← dv_9 hN, Pth.dv (bw := rw_ N) (cap := rc N sup) (y := x) u 9 (x := x) p1 (fun k hk => (pf k hk).1), if_pos rfl, if_neg (by omega)]
    omega
  have hF : Feas N sup (xf N (mvL u l x)) (xg N (mvL u l x)) := by
    refine ⟨fun a ha => ?_, fun j hj => ?_, fun p hp => ?_⟩
    · have := hX (nP N + a) (by unfold rE; omega)
      rw [(rf_1 ha).2.2.2] at this
      exact this
    · have := hX (nP N + nA N + j) (by unfold rE; omega)
      rw [(rf_2 j).2.2.2] at this
      exact this
    · have := hX p (by unfold rE; omega)
      rw [(rf_0 hp).2.2.2] at this
      rw [x_stay hN hp (hD p hp)]
      omega
  have nqd : ∀ p, p < 8 → d p < FAR → d p - Q10 q b p ≤ d 9 - Q10 q b 9 → nq q d (b - - d 9) p = d p := fun p c0 c1 c2 => by
    simp only [Q10, c0, show ¬ 9 < 8 by omega, show ¬ 9 = 8 by omega, if_true, if_false] at c2
    unfold nq
    rw [if_pos ⟨c1, by omega⟩]
  /- an arc on the way is tight -/
  have tgt : ∀ e, (∃ k ∈ l, k / 2 = e) → (d (rf N e) < FAR ∧ d (rf N e) - Q10 q b (rf N e) ≤ d 9 - Q10 q b 9) ∧ (d (rt_ N e) < FAR ∧ d (rt_ N e) - Q10 q b (rt_ N e) ≤ d 9 - Q10 q b 9) ∧ d (rt_ N e) = d (rf N e) + rw_ N e := by
    rintro e ⟨k, hk, rfl⟩
    obtain ⟨-, -, ⟨b1, b2⟩, b3, -, -, b4, b5⟩ := pf k hk
    unfold zG at b1 b2 b3 b4 b5
    rw [rG_F] at b1 b4
    rw [rG_T] at b2 b5
    rw [rG_F, rG_T, rG_W] at b3
    by_cases c : k % 2 = 0
    · rw [if_pos c] at b1 b2 b4 b5
      simp only [c, if_true] at b3
      exact ⟨⟨b1, b4⟩, ⟨b2, b5⟩, b3.symm⟩
    · rw [if_neg c] at b1 b2 b4 b5
      simp only [c, if_false] at b3
      exact ⟨⟨b2, b5⟩, ⟨b1, b4⟩, by omega⟩
  have lev' : JJ N sup (xf N (mvL u l x)) (xg N (mvL u l x)) (nq q d (b - - d 9)) (- d 9) := by
    refine lev.move hF (fun p hp => ?_) (fun a ha => ?_) (fun j hj => ?_)
    · by_cases c : ∃ k ∈ l, k / 2 = p
      · obtain ⟨-, ⟨t1, t2⟩, t3⟩ := tgt p c
        obtain ⟨s1, s2, s3, -⟩ := rf_0 hp
        rw [s2] at t1 t2
        rw [s1, s2, s3, r4] at t3
        exact Or.inr (by rw [nqd p (by omega) t1 t2]; omega)
      · refine Or.inl ?_
        rw [x_stay hN hp (hD p hp), x_stay hN hp (h.2.1 p hp), mvL_ne u (fun k hk e => c ⟨k, hk, e⟩)]
        exact Int.le_refl _
    · by_cases c : ∃ k ∈ l, k / 2 = nP N + a
      · obtain ⟨⟨t0, t0'⟩, ⟨t1, t2⟩, t3⟩ := tgt _ c
        obtain ⟨s1, s2, s3, -⟩ := rf_1 ha
        have := n4 a ha
        rw [s1] at t0 t0'
        rw [s2] at t1 t2
        rw [s1, s2, s3] at t3
        exact Or.inr (by rw [nqd _ (by omega) t0 t0', nqd _ (by omega) t1 t2]; exact t3)
      · exact Or.inl (mvL_ne u (fun k hk e => c ⟨k, hk, e⟩))
    · by_cases c : ∃ k ∈ l, k / 2 = nP N + nA N + j
      · obtain ⟨⟨t0, t0'⟩, -, t3⟩ := tgt _ c
        obtain ⟨s1, s2, s3, -⟩ := rf_2 (N := N) j
        have := n5 j hj
        rw [s1] at t0 t0'
        rw [s1, s2, s3] at t3
        exact Or.inr (by rw [nqd _ (by omega) t0 t0']; omega)
      · exact Or.inl (mvL_ne u (fun k hk e => c ⟨k, hk, e⟩))
  refine ⟨_, ⟨hX, hD, lev'⟩, ?_, hS⟩
  rw [lev.more hN lev', show smI (xg N (mvL u l x)) (nW N) - smI (xg N x) (nW N) = u by omega]
theorem XX.zero {N : Net} (hN : NOk N) (sup : Nat → Nat) : XX N sup (fun _ => 0) (fun _ => 0) 99 := by
  refine ⟨fun e he => ⟨Int.le_refl _, ?_⟩, fun p hp => ?_, JJ.zero hN sup⟩
  · show (0 : Int) ≤ rc N sup e
    unfold rc
    split
    · omega
    · split <;> omega
  · unfold dv
    have z : ∀ (t : Nat → Nat) n, smI (fun e => if t e = p then (0 : Int) else 0) n = 0 := fun t n => by
      rw [show (fun e => if t e = p then (0 : Int) else 0) = fun _ => 0 by funext e; split <;> rfl]
      exact smI_zero n
    rw [z, z]
    omega
theorem Pth.by {G : Gra} {by_ : Nat → Nat} {rt : Nat → Prop} : ∀ {l : List Nat} {n r : Nat}, Pth G by_ rt n l r → ∀ k ∈ l, by_ (zT G k) = k ∧ ¬ rt (zT G k)
  | [], _, _, _, k, hk => absurd hk List.not_mem_nil
  | a :: l, n, r, h, k, hk => by
    obtain ⟨h1, h2, h3, h4⟩ := h
    rcases List.mem_cons.mp hk with e | e
    · subst e; rw [h3]; exact ⟨h2, h1⟩
    · exact Pth.by h4 k e
/-- prices of no place are nothing -/
theorem XX.cut {N : Net} (hN : NOk N) {sup : Nat → Nat} {x q : Nat → Int} {b : Int} (h : XX N sup x q b) : XX N sup x (fun p => if p < nP N then q p else 0) b ∧ ∀ p, 0 ≤ (fun p => if p < nP N then q p else 0) p := by
  obtain ⟨hx, hv, hF, hb, hp, ha, hj⟩ := h
  obtain ⟨n1, n2, n3, n4, n5⟩ := hN
  refine ⟨⟨hx, hv, hF, hb, fun p h => ?_, fun a h => ?_, fun j h => ?_⟩, fun p => ?_⟩
  · simp only [h, if_true]; exact hp p h
  · simp only [(n4 a h).1, (n4 a h).2.1, if_true]; exact ha a h
  · simp only [(n5 j h).1, if_true]; exact hj j h
  · by_cases c : p < nP N
    · simp only [c, if_true]; exact (hp p c).1
    · simp only [c, if_false]; exact Int.le_refl _
