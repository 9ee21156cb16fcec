/-! a way back to a source, and units moved along it -/
def rG (n E : Nat) (bf bt : Nat → Nat) (bw cap x : Nat → Int) : Gra := ((n, 2 * E), fun k => if k % 2 = 0 then bf (k / 2) else bt (k / 2), fun k => if k % 2 = 0 then bt (k / 2) else bf (k / 2), fun k => if k % 2 = 0 then bw (k / 2) else - bw (k / 2), fun k => if k % 2 = 0 then cap (k / 2) - x (k / 2) else x (k / 2))
theorem rG_N (n E : Nat) (bf bt : Nat → Nat) (bw cap x : Nat → Int) : zN (rG n E bf bt bw cap x) = n := rfl
theorem rG_M (n E : Nat) (bf bt : Nat → Nat) (bw cap x : Nat → Int) : zM (rG n E bf bt bw cap x) = 2 * E := rfl
theorem rG_F (n E : Nat) (bf bt : Nat → Nat) (bw cap x : Nat → Int) (k : Nat) : zF (rG n E bf bt bw cap x) k = if k % 2 = 0 then bf (k / 2) else bt (k / 2) := rfl
theorem rG_T (n E : Nat) (bf bt : Nat → Nat) (bw cap x : Nat → Int) (k : Nat) : zT (rG n E bf bt bw cap x) k = if k % 2 = 0 then bt (k / 2) else bf (k / 2) := rfl
theorem rG_W (n E : Nat) (bf bt : Nat → Nat) (bw cap x : Nat → Int) (k : Nat) : zW (rG n E bf bt bw cap x) k = if k % 2 = 0 then bw (k / 2) else - bw (k / 2) := rfl
theorem rG_R (n E : Nat) (bf bt : Nat → Nat) (bw cap x : Nat → Int) (k : Nat) : zR (rG n E bf bt bw cap x) k = if k % 2 = 0 then cap (k / 2) - x (k / 2) else x (k / 2) := rfl
def Pth (G : Gra) (by_ : Nat → Nat) (rt : Nat → Prop) : Nat → List Nat → Nat → Prop
  | n, [], r => n = r ∧ rt n
  | n, k :: l, r => ¬ rt n ∧ by_ n = k ∧ zT G k = n ∧ Pth G by_ rt (zF G k) l r
def Hng (G : Gra) (src : Nat → Prop) (d : Nat → Int) (by_ : Nat → Nat) (rt : Nat → Prop) (t : Nat → Nat) : Prop := ∀ n, n < zN G → d n < FAR → (rt n ∧ src n ∧ d n = 0) ∨ (¬ rt n ∧ by_ n < zM G ∧ zT G (by_ n) = n ∧ 0 < zR G (by_ n) ∧ d (zF G (by_ n)) < FAR ∧ d (zF G (by_ n)) + zW G (by_ n) = d n ∧ t (zF G (by_ n)) < t n)
def PF (G : Gra) (q d : Nat → Int) (t : Nat → Nat) (n : Nat) (l : List Nat) : Prop := ∀ k ∈ l, k < zM G ∧ 0 < zR G k ∧ (d (zF G k) < FAR ∧ d (zT G k) < FAR) ∧ d (zF G k) + zW G k = d (zT G k) ∧ t (zF G k) < t (zT G k) ∧ t (zT G k) ≤ t n ∧ (d (zF G k) - q (zF G k) ≤ d n - q n ∧ d (zT G k) - q (zT G k) ≤ d n - q n)
theorem Hng.path {G : Gra} {src : Nat → Prop} {q d : Nat → Int} {by_ : Nat → Nat} {rt : Nat → Prop} {t : Nat → Nat} (hq : Pot G q) (h : Hng G src d by_ rt t) : ∀ (T n : Nat), t n ≤ T → n < zN G → d n < FAR → ∃ l r, Pth G by_ rt n l r ∧ (r < zN G ∧ rt r ∧ src r ∧ d r = 0 ∧ d r - q r ≤ d n - q n) ∧ PF G q d t n l ∧ ∃ V, cn V (zN G) = l.length + 1 ∧ ∀ v, V v = true → t v ≤ t n
  | T, n, hT, hn, hd => by
    rcases h n hn hd with ⟨g1, g2, g3⟩ | ⟨g1, g2, g3, g4, g5, g6, g7⟩
    · refine ⟨[], n, ⟨rfl, g1⟩, ⟨hn, g1, g2, g3, Int.le_refl _⟩, fun k hk => absurd hk List.not_mem_nil, up (fun _ => false) n true, ?_, fun v hv => ?_⟩
      · rw [cn_up rfl, cn_false, if_pos hn]; rfl
      · by_cases e : v = n
        · rw [e]; exact Nat.le_refl _
        · rw [up_ne _ _ e] at hv; exact absurd hv (by decide)
    · obtain ⟨a1, a2, a3, a4⟩ := hq.2 _ g2
      have a4 := a4 g4
      rw [g3] at a4
      cases T with
      | zero => omega
      | succ T =>
        obtain ⟨l, r, p1, p2, p3, V, p4, p5⟩ := Hng.path hq h T (zF G (by_ n)) (by omega) a1 g5
        have vn : V n = false := by
          cases c : V n with
          | false => rfl
          | true => have := p5 n c; omega
        refine ⟨by_ n :: l, r, ⟨g1, rfl, g3, p1⟩, ⟨p2.1, p2.2.1, p2.2.2.1, p2.2.2.2.1, by have := p2.2.2.2.2; omega⟩, fun k hk => ?_, up V n true, ?_, fun v hv => ?_⟩
        · rcases List.mem_cons.mp hk with e | e
          · subst e
            rw [g3]
            exact ⟨g2, g4, ⟨g5, hd⟩, g6, g7, Nat.le_refl _, by omega, Int.le_refl _⟩
          · obtain ⟨b1, b2, b3, b4, b5, b6, b7, b8⟩ := p3 k e
            exact ⟨b1, b2, b3, b4, b5, by omega, by omega, by omega⟩
        · rw [cn_up vn, if_pos hn, p4]; rfl
        · by_cases e : v = n
          · rw [e]; exact Nat.le_refl _
          · rw [up_ne _ _ e] at hv
            have := p5 v hv
            omega
def mv (u : Int) (k : Nat) (x : Nat → Int) : Nat → Int := up x (k / 2) (x (k / 2) + if k % 2 = 0 then u else - u)
def mvL (u : Int) : List Nat → (Nat → Int) → Nat → Int
  | [], x => x
  | k :: l, x => mvL u l (mv u k x)
def Dis : List Nat → Prop
  | [] => True
  | k :: l => (∀ k' ∈ l, k' / 2 ≠ k / 2) ∧ Dis l
theorem Pth.dis {n E : Nat} {bf bt : Nat → Nat} {bw cap x : Nat → Int} {by_ : Nat → Nat} {rt : Nat → Prop} {t : Nat → Nat} : ∀ {l : List Nat} {y r : Nat}, Pth (rG n E bf bt bw cap x) by_ rt y l r → (∀ k ∈ l, t (zF (rG n E bf bt bw cap x) k) < t (zT (rG n E bf bt bw cap x) k) ∧ t (zT (rG n E bf bt bw cap x) k) ≤ t y) → Dis l ∧ ∀ k ∈ l, t (zT (rG n E bf bt bw cap x) k) ≤ t y
  | [], y, r, _, _ => ⟨trivial, fun k hk => absurd hk List.not_mem_nil⟩
  | k :: l, y, r, h, ht => by
    obtain ⟨h1, h2, h3, h4⟩ := h
    have hk := ht k List.mem_cons_self
    have tl : ∀ k' ∈ l, t (zF (rG n E bf bt bw cap x) k') < t (zT (rG n E bf bt bw cap x) k') := fun k' hk' => (ht k' (List.mem_cons_of_mem _ hk')).1
    have inner : ∀ {l : List Nat} {y : Nat}, Pth (rG n E bf bt bw cap x) by_ rt y l r → (∀ k ∈ l, t (zF (rG n E bf bt bw cap x) k) < t (zT (rG n E bf bt bw cap x) k)) → ∀ k ∈ l, t (zT (rG n E bf bt bw cap x) k) ≤ t y := by
      intro l
      induction l with
      | nil => intro y _ _ k hk; exact absurd hk List.not_mem_nil
      | cons a l ih =>
        intro y g gt k hk
        obtain ⟨-, -, g3, g4⟩ := g
        rcases List.mem_cons.mp hk with e | e
        · subst e; rw [g3]; exact Nat.le_refl _
        · have := ih g4 (fun k hk => gt k (List.mem_cons_of_mem _ hk)) k e
          have := gt a List.mem_cons_self
          rw [g3] at this
          omega
    have low := inner h4 tl
    have := Pth.dis h4 (fun k' hk' => ⟨tl k' hk', low k' hk'⟩)
    refine ⟨⟨fun k' hk' e => ?_, this.1⟩, fun k' hk' => (ht k' hk').2⟩
    have l1 := low k' hk'
    have l2 := tl k' hk'
    by_cases par : k' % 2 = k % 2
    · have : k' = k := by omega
      subst this
      omega
    · rw [rG_T, rG_F, e] at l1
      rw [rG_T, rG_F, e] at l2
      rw [rG_T, rG_F] at hk
      rcases Nat.mod_two_eq_zero_or_one k with c | c
      · rw [if_neg (show ¬ k' % 2 = 0 by omega), if_pos c] at l1
        rw [if_neg (show ¬ k' % 2 = 0 by omega), if_neg (show ¬ k' % 2 = 0 by omega)] at l2
        rw [if_pos c, if_pos c] at hk
        omega
      · rw [if_pos (show k' % 2 = 0 by omega), if_neg (show ¬ k % 2 = 0 by omega)] at l1
        rw [if_pos (show k' % 2 = 0 by omega), if_pos (show k' % 2 = 0 by omega)] at l2
        rw [if_neg (show ¬ k % 2 = 0 by omega), if_neg (show ¬ k % 2 = 0 by omega)] at hk
        omega
theorem mvL_ne (u : Int) : ∀ {l : List Nat} {x : Nat → Int} {e : Nat}, (∀ k ∈ l, k / 2 ≠ e) → mvL u l x e = x e
  | [], _, _, _ => rfl
  | k :: l, x, e, h => by
    simp only [mvL]
    rw [mvL_ne u (fun k' hk' => h k' (List.mem_cons_of_mem _ hk'))]
    exact up_ne _ _ (Ne.symm (h k List.mem_cons_self))
theorem mvL_at (u : Int) : ∀ {l : List Nat} {x : Nat → Int} {k : Nat}, Dis l → k ∈ l → mvL u l x (k / 2) = x (k / 2) + if k % 2 = 0 then u else - u
  | [], _, _, _, hk => absurd hk List.not_mem_nil
  | a :: l, x, k, h, hk => by
    simp only [mvL]
    rcases List.mem_cons.mp hk with e | e
    · subst e
      rw [mvL_ne u h.1]
      exact up_self _ _ _
    · rw [mvL_at u h.2 e]
      rw [show mv u a x (k / 2) = x (k / 2) from up_ne _ _ (h.1 k e)]
theorem mvL_bd {n E : Nat} {bf bt : Nat → Nat} {bw cap x : Nat → Int} {u : Int} {l : List Nat} (hD : Dis l) (hu : 0 ≤ u) (hl : ∀ k ∈ l, u ≤ zR (rG n E bf bt bw cap x) k) (hx : ∀ e, e < E → 0 ≤ x e ∧ x e ≤ cap e) : ∀ e, e < E → 0 ≤ mvL u l x e ∧ mvL u l x e ≤ cap e := by
  intro e he
  have := hx e he
  by_cases c : ∃ k ∈ l, k / 2 = e
  · obtain ⟨k, hk, rfl⟩ := c
    rw [mvL_at u hD hk]
    have := hl k hk
    rw [rG_R] at this
    by_cases c : k % 2 = 0
    · rw [if_pos c] at this ⊢; omega
    · rw [if_neg c] at this ⊢; omega
  · rw [mvL_ne u (fun k hk e' => c ⟨k, hk, e'⟩)]
    exact this
theorem smI_if_up (f : Nat → Nat) (x : Nat → Int) (p e : Nat) (v : Int) (E : Nat) : smI (fun i => if f i = p then up x e v i else 0) E = smI (fun i => if f i = p then x i else 0) E + (if e < E then (if f e = p then v - x e else 0) else 0) := by
  have : (fun i => if f i = p then up x e v i else 0) = fun i => if i = e then (if f e = p then v else 0) else (if f i = p then x i else 0) := by
    funext i
    by_cases h : i = e
    · subst h; simp [up_self]
    · simp [up_ne x v h, h]
  rw [this, smI_upd]
  by_cases c : e < E
  · simp only [c, if_true]; split <;> omega
  · simp only [c, if_false]
theorem dv_mv {n E : Nat} {bf bt : Nat → Nat} {bw cap y : Nat → Int} (x : Nat → Int) (u : Int) {k : Nat} (hk : k < 2 * E) (p : Nat) : dv E bf bt (mv u k x) p = dv E bf bt x p + (if p = zT (rG n E bf bt bw cap y) k then u else 0) - (if p = zF (rG n E bf bt bw cap y) k then u else 0) := by
  unfold dv mv
  rw [smI_if_up, smI_if_up]
  have : k / 2 < E := by omega
  rw [rG_T, rG_F]
  simp only [this, if_true, eq_comm (a := p)]
  by_cases c : k % 2 = 0
  · simp only [c, if_true]; split <;> split <;> omega
  · simp only [c, if_false]; split <;> split <;> omega
theorem Pth.dv {n E : Nat} {bf bt : Nat → Nat} {bw cap y : Nat → Int} {by_ : Nat → Nat} {rt : Nat → Prop} (u : Int) (p : Nat) : ∀ {l : List Nat} {x : Nat → Int} {a r : Nat}, Pth (rG n E bf bt bw cap y) by_ rt a l r → (∀ k ∈ l, k < 2 * E) → dv E bf bt (mvL u l x) p = dv E bf bt x p + (if p = a then u else 0) - (if p = r then u else 0)
  | [], x, a, r, h, _ => by
    obtain ⟨rfl, -⟩ := h
    simp only [mvL]
    omega
  | k :: l, x, a, r, h, hl => by
    obtain ⟨h1, h2, h3, h4⟩ := h
    simp only [mvL]
    rw [Pth.dv u p h4 (fun k' hk' => hl k' (List.mem_cons_of_mem _ hk')), dv_mv (n := n) (bw := bw) (cap := cap) (y := y) x u (hl k List.mem_cons_self) p, h3]
    omega
def mnL (G : Gra) : List Nat → Int → Int
  | [], u => u
  | k :: l, u => mnL G l (if u ≤ zR G k then u else zR G k)
theorem mnL_le (G : Gra) : ∀ (l : List Nat) (u : Int), mnL G l u ≤ u ∧ ∀ k ∈ l, mnL G l u ≤ zR G k
  | [], u => ⟨Int.le_refl _, fun k hk => absurd hk List.not_mem_nil⟩
  | a :: l, u => by
    have h := mnL_le G l (if u ≤ zR G a then u else zR G a)
    have e1 : (if u ≤ zR G a then u else zR G a) ≤ u ∧ (if u ≤ zR G a then u else zR G a) ≤ zR G a := by split <;> omega
    simp only [mnL]
    generalize (if u ≤ zR G a then u else zR G a) = w at *
    refine ⟨by omega, fun k hk => ?_⟩
    rcases List.mem_cons.mp hk with e | e
    · subst e; omega
    · exact h.2 k e
theorem mnL_pos (G : Gra) : ∀ (l : List Nat) (u : Int), 0 < u → (∀ k ∈ l, 0 < zR G k) → 0 < mnL G l u
  | [], u, h, _ => h
  | a :: l, u, h, hl => by
    simp only [mnL]
    refine mnL_pos G l _ ?_ (fun k hk => hl k (List.mem_cons_of_mem _ hk))
    have := hl a List.mem_cons_self
    split <;> omega
