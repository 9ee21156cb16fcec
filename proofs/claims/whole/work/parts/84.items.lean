/-! what items tell -/
def M0 : Lnd := ((1, 0, 0, 0, 0), fun _ => 0, fun _ => 0, fun _ => 0, fun _ => 0, fun _ => 0, fun k => if k % 3 = 1 then 10 else 0)
theorem M0_ok : LOk M0 := by
  refine ⟨⟨Nat.le_refl 1, by decide⟩, by decide, by decide, by decide, by decide, fun p _ => Or.inl rfl, fun k _ => by show 0 ≤ 30; decide, fun i hi => absurd hi (Nat.not_lt_zero i), fun i hi => absurd hi (Nat.not_lt_zero i), fun k hk => ?_⟩
  show (if k % 3 = 1 then 10 else 0) ≤ 10
  split <;> omega
def num (cb : Nat → Nat) (n j lo hi : Nat) : Prop := tK cb n j = 7 ∧ lo ≤ tV cb n j ∧ tV cb n j ≤ hi
def nF (c : Nat) : Nat := if c = 1 then 1 else if c = 2 then 14 else if c = 3 then 5 else if c = 4 then 6 else if c = 5 then 2 else 4
/-- what must hold of the j-th token behind an item's word -/
def cnd (cb : Nat → Nat) (n : Nat) (M : Lnd) (i c j : Nat) : Prop :=
  if j = nF c + 1 then tK cb n (i + j) = 8
  else if c = 1 then num cb n (i + j) 1 8
  else if c = 2 then (if j = 1 then num cb n (i + j) 0 (lP M - 1) ∧ lrv M (tV cb n (i + 1)) = 0 else num cb n (i + j) 0 30)
  else if c = 3 then (if j = 1 then num cb n (i + j) 0 (lP M - 1) ∧ ∀ t, t < lT M → ltw M (5 * t) ≠ tV cb n (i + 1) else num cb n (i + j) 0 (if j = 3 then 99 else if j = 5 then tV cb n (i + 3) else 9))
  else if c = 4 then (if j = 1 then num cb n (i + j) 0 (lP M - 1) else if j = 2 then num cb n (i + j) 0 (lP M - 1) ∧ tV cb n (i + 1) ≠ tV cb n (i + 2) else if j = 3 then num cb n (i + j) 1 30 else if j = 4 then num cb n (i + j) 0 20 else if j = 5 then num cb n (i + j) 0 99 else num cb n (i + j) 1 5)
  else if c = 5 then (if j = 1 then num cb n (i + j) 0 (lP M - 1) else num cb n (i + j) 1 9)
  else (if j = 1 then num cb n (i + j) 0 2 else if j = 4 then num cb n (i + j) 0 10 ∧ tV cb n (i + 2) + tV cb n (i + 3) + tV cb n (i + 4) = 10 else num cb n (i + j) 0 10)
def cW (cb : Nat → Nat) (n : Nat) (M : Lnd) (i it : Nat) : Prop := (1 ≤ tK cb n i ∧ tK cb n i ≤ 6) ∧ (it = 0 ↔ tK cb n i = 1) ∧ (tK cb n i = 3 → lT M < 4) ∧ (tK cb n i = 4 → lK M < 8) ∧ (tK cb n i = 5 → ldh M = 0)
def m1 (V : Nat → Nat) (M : Lnd) (i : Nat) : Lnd := ((V (i + 1), lT M, lK M, ldp M, ldh M), M.2)
def m2 (V : Nat → Nat) (M : Lnd) (i : Nat) : Lnd := (M.1, fun q => if q = V (i + 1) then 1 else lrv M q, fun q => if q = V (i + 1) then V (i + 2) else lkp M q, fun k => if 12 * V (i + 1) ≤ k ∧ k < 12 * V (i + 1) + 12 then V (i + 3 + (k - 12 * V (i + 1))) else lwa M k, M.2.2.2.2)
def m3 (V : Nat → Nat) (M : Lnd) (i : Nat) : Lnd := ((lP M, lT M + 1, lK M, ldp M, ldh M), lrv M, lkp M, lwa M, fun k => if 5 * lT M ≤ k then V (i + 1 + (k - 5 * lT M)) else ltw M k, lwk M, lfo M)
def m4 (V : Nat → Nat) (M : Lnd) (i : Nat) : Lnd := ((lP M, lT M, lK M + 1, ldp M, ldh M), lrv M, lkp M, lwa M, ltw M, fun k => if 6 * lK M ≤ k then V (i + 1 + (k - 6 * lK M)) else lwk M k, lfo M)
def m5 (V : Nat → Nat) (M : Lnd) (i : Nat) : Lnd := ((lP M, lT M, lK M, V (i + 1), V (i + 2)), M.2)
def m6 (V : Nat → Nat) (M : Lnd) (i : Nat) : Lnd := (M.1, lrv M, lkp M, lwa M, ltw M, lwk M, fun k => if 3 * V (i + 1) ≤ k ∧ k < 3 * V (i + 1) + 3 then V (i + 2 + (k - 3 * V (i + 1))) else lfo M k)
def mkM (cb : Nat → Nat) (n : Nat) (M : Lnd) (i : Nat) : Lnd := if tK cb n i = 1 then m1 (tV cb n) M i else if tK cb n i = 2 then m2 (tV cb n) M i else if tK cb n i = 3 then m3 (tV cb n) M i else if tK cb n i = 4 then m4 (tV cb n) M i else if tK cb n i = 5 then m5 (tV cb n) M i else m6 (tV cb n) M i
theorem cnd_s {cb : Nat → Nat} {n : Nat} {M : Lnd} {i c j : Nat} (h : j = nF c + 1) : cnd cb n M i c j ↔ tK cb n (i + j) = 8 := by
  unfold cnd
  rw [if_pos h]
theorem cnd_1 {cb : Nat → Nat} {n : Nat} {M : Lnd} {i : Nat} : cnd cb n M i 1 1 ↔ num cb n (i + 1) 1 8 := by
  unfold cnd; simp [nF]
theorem cnd_2a {cb : Nat → Nat} {n : Nat} {M : Lnd} {i : Nat} : cnd cb n M i 2 1 ↔ num cb n (i + 1) 0 (lP M - 1) ∧ lrv M (tV cb n (i + 1)) = 0 := by
  unfold cnd; simp [nF]
theorem cnd_2 {cb : Nat → Nat} {n : Nat} {M : Lnd} {i j : Nat} (h1 : 2 ≤ j) (h2 : j ≤ 14) : cnd cb n M i 2 j ↔ num cb n (i + j) 0 30 := by
  unfold cnd; simp [nF, show j ≠ 15 by omega, show j ≠ 1 by omega]
theorem cnd_3a {cb : Nat → Nat} {n : Nat} {M : Lnd} {i : Nat} : cnd cb n M i 3 1 ↔ num cb n (i + 1) 0 (lP M - 1) ∧ ∀ t, t < lT M → ltw M (5 * t) ≠ tV cb n (i + 1) := by
  unfold cnd; simp [nF]
theorem cnd_3 {cb : Nat → Nat} {n : Nat} {M : Lnd} {i j : Nat} (h1 : 2 ≤ j) (h2 : j ≤ 5) : cnd cb n M i 3 j ↔ num cb n (i + j) 0 (if j = 3 then 99 else if j = 5 then tV cb n (i + 3) else 9) := by
  unfold cnd; simp [nF, show j ≠ 6 by omega, show j ≠ 1 by omega]
theorem cnd_4a {cb : Nat → Nat} {n : Nat} {M : Lnd} {i : Nat} : cnd cb n M i 4 1 ↔ num cb n (i + 1) 0 (lP M - 1) := by
  unfold cnd; simp [nF]
theorem cnd_4b {cb : Nat → Nat} {n : Nat} {M : Lnd} {i : Nat} : cnd cb n M i 4 2 ↔ num cb n (i + 2) 0 (lP M - 1) ∧ tV cb n (i + 1) ≠ tV cb n (i + 2) := by
  unfold cnd; simp [nF]
theorem cnd_4c {cb : Nat → Nat} {n : Nat} {M : Lnd} {i : Nat} : (cnd cb n M i 4 3 ↔ num cb n (i + 3) 1 30) ∧ (cnd cb n M i 4 4 ↔ num cb n (i + 4) 0 20) ∧ (cnd cb n M i 4 5 ↔ num cb n (i + 5) 0 99) ∧ (cnd cb n M i 4 6 ↔ num cb n (i + 6) 1 5) := by
  unfold cnd; simp [nF]
theorem cnd_5 {cb : Nat → Nat} {n : Nat} {M : Lnd} {i : Nat} : (cnd cb n M i 5 1 ↔ num cb n (i + 1) 0 (lP M - 1)) ∧ (cnd cb n M i 5 2 ↔ num cb n (i + 2) 1 9) := by
  unfold cnd; simp [nF]
theorem cnd_6 {cb : Nat → Nat} {n : Nat} {M : Lnd} {i : Nat} : (cnd cb n M i 6 1 ↔ num cb n (i + 1) 0 2) ∧ (cnd cb n M i 6 2 ↔ num cb n (i + 2) 0 10) ∧ (cnd cb n M i 6 3 ↔ num cb n (i + 3) 0 10) ∧ (cnd cb n M i 6 4 ↔ num cb n (i + 4) 0 10 ∧ tV cb n (i + 2) + tV cb n (i + 3) + tV cb n (i + 4) = 10) := by
  unfold cnd; simp [nF]
/-- the land stays well told -/
theorem mk_ok {cb : Nat → Nat} {n : Nat} {M : Lnd} {i it : Nat} (hO : LOk M) (h0 : it = 0 → M = M0) (hW : cW cb n M i it) (hc : ∀ k, 1 ≤ k → k ≤ nF (tK cb n i) + 1 → cnd cb n M i (tK cb n i) k) : LOk (mkM cb n M i) := by
  obtain ⟨⟨w1, w6⟩, wi, w3, w4, w5⟩ := hW
  obtain ⟨o1, o2, o3, o4, o5, o6, o7, o8, o9, o10⟩ := id hO
  unfold mkM
  rcases (show tK cb n i = 1 ∨ tK cb n i = 2 ∨ tK cb n i = 3 ∨ tK cb n i = 4 ∨ tK cb n i = 5 ∨ tK cb n i = 6 by omega) with e | e | e | e | e | e <;> rw [e] at hc w3 w4 w5 wi ⊢
  · rw [if_pos rfl]
    have hM := h0 (wi.mpr rfl)
    subst hM
    have c1 := cnd_1.mp (hc 1 (by decide) (by decide))
    refine ⟨⟨c1.2.1, c1.2.2⟩, o2, o3, ?_, o5, fun p _ => Or.inl rfl, fun k _ => by show 0 ≤ 30; decide, fun i hi => absurd hi (Nat.not_lt_zero i), fun i hi => absurd hi (Nat.not_lt_zero i), o10⟩
    show 0 < tV cb n (i + 1)
    have := c1.2.1
    omega
  · rw [if_neg (by decide), if_pos rfl]
    have c1 := cnd_2a.mp (hc 1 (by decide) (by decide))
    have c2 := (cnd_2 (by decide) (by decide)).mp (hc 2 (by decide) (by decide))
    have cj : ∀ j, j < 12 → tV cb n (i + 3 + j) ≤ 30 := fun j hj => by
      have := ((cnd_2 (j := 3 + j) (by omega) (by omega)).mp (hc (3 + j) (by omega) (by show 3 + j ≤ 15; omega))).2.2
      rw [← Nat.add_assoc] at this
      exact this
    have p1 := c1.1.2.2
    refine ⟨o1, o2, o3, o4, o5, fun p hp => ?_, fun k hk => ?_, o8, o9, o10⟩
    · show (if p = tV cb n (i + 1) then 1 else lrv M p) = 0 ∨ ((if p = tV cb n (i + 1) then 1 else lrv M p) = 1 ∧ p < lP M ∧ (if p = tV cb n (i + 1) then tV cb n (i + 2) else lkp M p) ≤ 30)
      by_cases c : p = tV cb n (i + 1)
      · simp only [if_pos c]
        exact Or.inr ⟨trivial, by omega, c2.2.2⟩
      · simp only [if_neg c]
        exact o6 p hp
    · show (if 12 * tV cb n (i + 1) ≤ k ∧ k < 12 * tV cb n (i + 1) + 12 then tV cb n (i + 3 + (k - 12 * tV cb n (i + 1))) else lwa M k) ≤ 30
      split
      · exact cj _ (by omega)
      · exact o7 k hk
  · rw [if_neg (by decide), if_neg (by decide), if_pos rfl]
    have c1 := cnd_3a.mp (hc 1 (by decide) (by decide))
    have c2 := (cnd_3 (j := 2) (by decide) (by decide)).mp (hc 2 (by decide) (by decide))
    have c3 := (cnd_3 (j := 3) (by decide) (by decide)).mp (hc 3 (by decide) (by decide))
    have c4 := (cnd_3 (j := 4) (by decide) (by decide)).mp (hc 4 (by decide) (by decide))
    have c5 := (cnd_3 (j := 5) (by decide) (by decide)).mp (hc 5 (by decide) (by decide))
    simp only [if_true, if_false, Nat.reduceEqDiff] at c2 c3 c4 c5
    have p1 := c1.1.2.2
    have t4 := w3 rfl
    refine ⟨o1, by show lT M + 1 ≤ 4; omega, o3, o4, o5, o6, o7, fun t ht => ?_, o9, o10⟩
    have ht' : t < lT M + 1 := ht
    have e : ∀ x, ltw (m3 (tV cb n) M i) x = if 5 * lT M ≤ x then tV cb n (i + 1 + (x - 5 * lT M)) else ltw M x := fun x => rfl
    rw [e, e, e, e, e]
    show _ < lP M ∧ _
    by_cases c : t = lT M
    · subst c
      rw [if_pos (by omega), if_pos (by omega), if_pos (by omega), if_pos (by omega), if_pos (by omega)]
      rw [show i + 1 + (5 * lT M - 5 * lT M) = i + 1 by omega, show i + 1 + (5 * lT M + 1 - 5 * lT M) = i + 2 by omega, show i + 1 + (5 * lT M + 2 - 5 * lT M) = i + 3 by omega, show i + 1 + (5 * lT M + 3 - 5 * lT M) = i + 4 by omega, show i + 1 + (5 * lT M + 4 - 5 * lT M) = i + 5 by omega]
      exact ⟨by omega, c2.2.2, c3.2.2, c4.2.2, c5.2.2⟩
    · rw [if_neg (by omega), if_neg (by omega), if_neg (by omega), if_neg (by omega), if_neg (by omega)]
      exact o8 t (by omega)
  · rw [if_neg (by decide), if_neg (by decide), if_neg (by decide), if_pos rfl]
    have c1 := cnd_4a.mp (hc 1 (by decide) (by decide))
    have c2 := cnd_4b.mp (hc 2 (by decide) (by decide))
    have c3 := cnd_4c.1.mp (hc 3 (by decide) (by decide))
    have c4 := cnd_4c.2.1.mp (hc 4 (by decide) (by decide))
    have c5 := cnd_4c.2.2.1.mp (hc 5 (by decide) (by decide))
    have c6 := cnd_4c.2.2.2.mp (hc 6 (by decide) (by decide))
    have p1 := c1.2.2
    have p2 := c2.1.2.2
    have k8 := w4 rfl
    refine ⟨o1, o2, by show lK M + 1 ≤ 8; omega, o4, o5, o6, o7, o8, fun t ht => ?_, o10⟩
    have ht' : t < lK M + 1 := ht
    have e : ∀ x, lwk (m4 (tV cb n) M i) x = if 6 * lK M ≤ x then tV cb n (i + 1 + (x - 6 * lK M)) else lwk M x := fun x => rfl
    rw [e, e, e, e, e, e]
    show _ < lP M ∧ _ < lP M ∧ _
    by_cases c : t = lK M
    · subst c
      rw [if_pos (by omega), if_pos (by omega), if_pos (by omega), if_pos (by omega), if_pos (by omega), if_pos (by omega)]
      rw [show i + 1 + (6 * lK M - 6 * lK M) = i + 1 by omega, show i + 1 + (6 * lK M + 1 - 6 * lK M) = i + 2 by omega, show i + 1 + (6 * lK M + 2 - 6 * lK M) = i + 3 by omega, show i + 1 + (6 * lK M + 3 - 6 * lK M) = i + 4 by omega, show i + 1 + (6 * lK M + 4 - 6 * lK M) = i + 5 by omega, show i + 1 + (6 * lK M + 5 - 6 * lK M) = i + 6 by omega]
      exact ⟨by omega, by omega, ⟨c3.2.1, c3.2.2⟩, c4.2.2, c5.2.2, c6.2.1, c6.2.2⟩
    · rw [if_neg (by omega), if_neg (by omega), if_neg (by omega), if_neg (by omega), if_neg (by omega), if_neg (by omega)]
      exact o9 t (by omega)
  · rw [if_neg (by decide), if_neg (by decide), if_neg (by decide), if_neg (by decide), if_pos rfl]
    have c1 := cnd_5.1.mp (hc 1 (by decide) (by decide))
    have c2 := cnd_5.2.mp (hc 2 (by decide) (by decide))
    have p1 := c1.2.2
    exact ⟨o1, o2, o3, by show tV cb n (i + 1) < lP M; omega, c2.2.2, o6, o7, o8, o9, o10⟩
  · rw [if_neg (by decide), if_neg (by decide), if_neg (by decide), if_neg (by decide), if_neg (by decide)]
    have c2 := cnd_6.2.1.mp (hc 2 (by decide) (by decide))
    have c3 := cnd_6.2.2.1.mp (hc 3 (by decide) (by decide))
    have c4 := cnd_6.2.2.2.mp (hc 4 (by decide) (by decide))
    refine ⟨o1, o2, o3, o4, o5, o6, o7, o8, o9, fun k hk => ?_⟩
    show (if 3 * tV cb n (i + 1) ≤ k ∧ k < 3 * tV cb n (i + 1) + 3 then tV cb n (i + 2 + (k - 3 * tV cb n (i + 1))) else lfo M k) ≤ 10
    by_cases z : 3 * tV cb n (i + 1) ≤ k ∧ k < 3 * tV cb n (i + 1) + 3
    · rw [if_pos z]
      rcases (show k - 3 * tV cb n (i + 1) = 0 ∨ k - 3 * tV cb n (i + 1) = 1 ∨ k - 3 * tV cb n (i + 1) = 2 by omega) with y | y | y <;> rw [y]
      · exact c2.2.2
      · exact c3.2.2
      · exact c4.1.2.2
    · rw [if_neg z]; exact o10 k hk
/-! what a text tells, by its items -/
abbrev Res : Type := Nat ⊕ (Nat × Lnd)
def Clo (cb : Nat → Nat) (n : Nat) (I : Nat → Lnd → Nat → Res → Prop) : Prop :=
  (∀ i M it, tK cb n i = 0 → I i M it (.inr (it, M))) ∧
  (∀ i M it, tK cb n i ≠ 0 → ¬ cW cb n M i it → I i M it (.inl (tB cb n i))) ∧
  (∀ i M it j, cW cb n M i it → 1 ≤ j → j ≤ nF (tK cb n i) + 1 → (∀ k, 1 ≤ k → k < j → cnd cb n M i (tK cb n i) k) → ¬ cnd cb n M i (tK cb n i) j → I i M it (.inl (tB cb n (i + j)))) ∧
  (∀ i M it R, cW cb n M i it → (∀ k, 1 ≤ k → k ≤ nF (tK cb n i) + 1 → cnd cb n M i (tK cb n i) k) → I (i + nF (tK cb n i) + 2) (mkM cb n M i) (it + 1) R → I i M it R)
def Par (cb : Nat → Nat) (n i : Nat) (M : Lnd) (it : Nat) (R : Res) : Prop := ∀ I, Clo cb n I → I i M it R
theorem Par.e {cb : Nat → Nat} {n i : Nat} {M : Lnd} {it : Nat} (h : tK cb n i = 0) : Par cb n i M it (.inr (it, M)) := fun _ hI => hI.1 i M it h
theorem Par.w {cb : Nat → Nat} {n i : Nat} {M : Lnd} {it : Nat} (h : tK cb n i ≠ 0) (hw : ¬ cW cb n M i it) : Par cb n i M it (.inl (tB cb n i)) := fun _ hI => hI.2.1 i M it h hw
theorem Par.f {cb : Nat → Nat} {n i : Nat} {M : Lnd} {it j : Nat} (hw : cW cb n M i it) (h1 : 1 ≤ j) (h2 : j ≤ nF (tK cb n i) + 1) (h3 : ∀ k, 1 ≤ k → k < j → cnd cb n M i (tK cb n i) k) (h4 : ¬ cnd cb n M i (tK cb n i) j) : Par cb n i M it (.inl (tB cb n (i + j))) := fun _ hI => hI.2.2.1 i M it j hw h1 h2 h3 h4
theorem Par.s {cb : Nat → Nat} {n i : Nat} {M : Lnd} {it : Nat} {R : Res} (hw : cW cb n M i it) (h : ∀ k, 1 ≤ k → k ≤ nF (tK cb n i) + 1 → cnd cb n M i (tK cb n i) k) (hp : Par cb n (i + nF (tK cb n i) + 2) (mkM cb n M i) (it + 1) R) : Par cb n i M it R := fun I hI => hI.2.2.2 i M it R hw h (hp I hI)
/-- tokens of an item are well -/
theorem cnd_K {cb : Nat → Nat} {n : Nat} {M : Lnd} {i c j : Nat} (h : cnd cb n M i c j) : tK cb n (i + j) = 7 ∨ tK cb n (i + j) = 8 := by
  unfold cnd num at h
  by_cases hs : j = nF c + 1
  · rw [if_pos hs] at h; exact Or.inr h
  · rw [if_neg hs] at h
    repeat' split at h
    all_goals first | exact Or.inl h.1 | exact Or.inl h.1.1
theorem GU.it {cb : Nat → Nat} {n : Nat} {M : Lnd} {i c : Nat} (hg : GU cb n i) (hw : 1 ≤ tK cb n i ∧ tK cb n i ≤ 6) : ∀ {j : Nat}, (∀ k, 1 ≤ k → k < j → cnd cb n M i c k) → GU cb n (i + j)
  | 0, _ => hg
  | 1, _ => hg.s (by omega) (by omega)
  | j + 2, h => by
    have ih := GU.it (c := c) (j := j + 1) hg hw (fun k h1 h2 => h k h1 (by omega))
    have := cnd_K (h (j + 1) (by omega) (by omega))
    exact ih.s (by omega) (by omega)
