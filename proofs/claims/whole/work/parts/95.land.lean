/-! land -/
theorem pr_land : PairI (F_TR_land LW) (F_MD_land LW) [] := by
  intro S hI
  obtain ⟨t, M, n, hR, hM⟩ := id hI
  obtain ⟨ht, e3, e4, hO, hL, hML, ⟨hn, rx, rm, rb⟩, hs, hf, htr⟩ := id hR
  obtain ⟨cb, hX, hX2⟩ := tx_ex rb
  have hd : isT (20 - t) := by
    rcases ht with e | e
    · rw [e]; exact Or.inr rfl
    · rw [e]; exact Or.inl rfl
  have ht2 : t = 7 ∨ t = 13 := ht
  refine landX ht hd e3 e4 rx hn hX (fun b S1 hb hP k1 => ⟨_, rfl, ?_⟩) (fun it M' S1 hit hP hO' hX1 => ⟨_, rfl, ?_⟩)
  · have hT : MT cb n S1 := ⟨hn, by rw [k1.1 58 (by omega)]; exact hX2, by rw [k1.1 57 (by omega)]; exact rm⟩
    refine landM hT hP (fun v S2 hv => ?_)
    obtain ⟨rfl, k2⟩ := hv
    have r : ∀ b, b ≠ 57 → ¬ (59 ≤ b ∧ b ≤ 69) → ¬ (2 ≤ b ∧ b ≤ 6) → ¬ (20 - t ≤ b ∧ b ≤ 20 - t + 5) → S2.1 b = S.1 b := fun b h1 h2 h3 h4 => by rw [k2.1 b h1 h2, k1.1 b (by omega)]
    have rh : ∀ b k, 59 ≤ b → b ≤ 69 → k < hB b → S2.1 b k = S.1 b k := fun b k h1 h2 h3 => by rw [k2.2.1 b k h1 h2 h3, k1.1 b (by omega)]
    have p2 : S2.2 = S.2 := by rw [k2.2.2.2, k1.2]
    have hbb := hb_all
    have hT4 := hO.2.1
    have hK8 := hO.2.2.1
    refine ⟨rfl, t, M, n, ⟨ht, by rw [p2]; exact e3, by rw [p2]; exact e4, hO, ?_, ?_, ⟨hn, ?_, ?_, fun i hi => ?_⟩, fun i hi => ?_, fun i hi => ?_, by rw [p2]; exact htr⟩, ?_⟩
    · exact hL.r2 (fun b h1 h2 => r b (by omega) (by omega) (by omega) (by omega))
    · refine ⟨⟨?_, ?_, ?_, ?_, ?_⟩, fun p hp => ⟨?_, fun z => ?_⟩, fun k hk => ?_, fun k hk => ?_, fun k hk => ?_, fun k hk => ?_⟩
      · rw [rh 59 0 (by decide) (by decide) (by decide)]; exact hML.1.1
      · rw [rh 63 0 (by decide) (by decide) (by decide)]; exact hML.1.2.1
      · rw [rh 65 0 (by decide) (by decide) (by decide)]; exact hML.1.2.2.1
      · rw [rh 67 0 (by decide) (by decide) (by decide)]; exact hML.1.2.2.2.1
      · rw [rh 68 0 (by decide) (by decide) (by decide)]; exact hML.1.2.2.2.2
      · rw [rh 60 p (by decide) (by decide) (by omega)]; exact (hML.2.1 p hp).1
      · rw [rh 61 p (by decide) (by decide) (by omega)]; exact (hML.2.1 p hp).2 z
      · rw [rh 62 k (by decide) (by decide) (by omega)]; exact hML.2.2.1 k hk
      · rw [rh 64 k (by decide) (by decide) (by omega)]; exact hML.2.2.2.1 k hk
      · rw [rh 66 k (by decide) (by decide) (by omega)]; exact hML.2.2.2.2.1 k hk
      · rw [rh 69 k (by decide) (by decide) (by omega)]; exact hML.2.2.2.2.2 k hk
    · rw [r 0 (by decide) (by decide) (by decide) (by omega)]; exact rx
    · rw [k2.2.2.1 2 (by decide), k1.1 57 (by omega)]; exact rm
    · rw [r 1 (by decide) (by decide) (by decide) (by omega), r 58 (by decide) (by decide) (by decide) (by omega)]; exact rb i hi
    · have g := hs i hi
      unfold RSI at g ⊢
      have sv := sbv hi
      rw [r (sb i + 1) (by omega) (by omega) (by omega) (by omega), r (sb i + 2) (by omega) (by omega) (by omega) (by omega), r (sb i + 3) (by omega) (by omega) (by omega) (by omega), r 77 (by decide) (by decide) (by decide) (by omega), r 84 (by decide) (by decide) (by decide) (by omega), r 85 (by decide) (by decide) (by decide) (by omega)]
      exact g
    · rw [r 48 (by decide) (by decide) (by decide) (by omega), r 86 (by decide) (by decide) (by decide) (by omega)]; exact hf i hi
    · exact RM.fr hM (r 33 (by decide) (by decide) (by decide) (by omega))
  · obtain ⟨⟨p1, p3, p4⟩, x01, x33, x44, x46, x48, xL, xr⟩ := hX1
    have hT : MT cb n S1 := ⟨hn, by rw [xr 58 (by decide) (by decide) (by omega) (by decide) (by decide) (by decide) (by decide)]; exact hX2, by rw [xr 57 (by decide) (by decide) (by omega) (by decide) (by decide) (by decide) (by decide)]; exact rm⟩
    refine landM hT hP (fun v S2 hv => ?_)
    obtain ⟨rfl, mL, m57, m77, m85, m86, mr, mp⟩ := hv
    have r : ∀ b, b < 57 → S2.1 b = S1.1 b := fun b hb => mr b (by omega) (by omega) (by omega) (by omega) (by omega)
    have q2 : S2.2.1 = S.2.1 := by rw [mp]; exact p1
    have e20 : 20 - (20 - t) = t := by omega
    refine ⟨rfl, 20 - t, M', 0, ⟨hd, by rw [mp]; exact p3, by rw [mp, e20]; exact p4, hO', ?_, mL, ⟨Nat.zero_le _, ?_, m57, fun i hi => absurd hi (Nat.not_lt_zero i)⟩, fun i hi => ?_, fun i hi => ?_, by rw [q2]; exact htr⟩, fun k d hk hd2 => Or.inl ?_⟩
    · exact xL.r2 (fun b h1 h2 => r b (by omega))
    · rw [r 0 (by decide)]; exact x01
    · have g := hs i hi
      unfold RSI at g ⊢
      have sv := sbv hi
      have e84 : S2.1 84 = S.1 84 := by rw [mr 84 (by decide) (by decide) (by decide) (by decide) (by decide), xr 84 (by decide) (by decide) (by omega) (by decide) (by decide) (by decide) (by decide)]
      have o77 : S1.1 77 = S.1 77 := xr 77 (by decide) (by decide) (by omega) (by decide) (by decide) (by decide) (by decide)
      have o85 : S1.1 85 = S.1 85 := xr 85 (by decide) (by decide) (by omega) (by decide) (by decide) (by decide) (by decide)
      rw [r (sb i + 1) (by omega), r (sb i + 2) (by omega), r (sb i + 3) (by omega), e84]
      by_cases c : i = 0
      · subst c
        refine ⟨fun w hw => ⟨?_, 0, by omega, ?_⟩, fun k hk => ?_, fun w hw => ⟨?_, 0, by omega, ?_⟩⟩
        · show S1.1 44 w = S2.1 77 (8 * 0 + w)
          rw [x44 w hw, show 8 * 0 + w = w by omega, m77.1 w hw]
        · exact x44 w hw
        · have := g.2.1 k hk
          rw [show S1.1 (sb 0 + 2) = S.1 (sb 0 + 2) from xr 45 (by decide) (by decide) (by omega) (by decide) (by decide) (by decide) (by decide)]
          exact this
        · show S1.1 46 w = S2.1 85 (4 * 0 + w)
          rw [x46 w hw, show 4 * 0 + w = w by omega, m85.1 w hw]
        · exact x46 w hw
      · have sv2 : sb i = 49 ∨ sb i = 53 := by
          rcases (show i = 1 ∨ i = 2 by omega) with rfl | rfl
          · exact Or.inl rfl
          · exact Or.inr rfl
        rw [xr (sb i + 1) (by omega) (by omega) (by omega) (by omega) (by omega) (by omega) (by omega), xr (sb i + 2) (by omega) (by omega) (by omega) (by omega) (by omega) (by omega) (by omega), xr (sb i + 3) (by omega) (by omega) (by omega) (by omega) (by omega) (by omega) (by omega)]
        refine ⟨fun w hw => ?_, g.2.1, fun w hw => ?_⟩
        · rw [m77.2 _ (by omega), o77]; exact g.1 w hw
        · rw [m85.2 _ (by omega), o85]; exact g.2.2 w hw
    · rw [r 48 (by decide), x48 i hi, m86 i hi]
      exact ⟨rfl, Or.inl rfl⟩
    · have h8 := two8 hO'
      rw [r 33 (by decide)]
      exact x33 _ (by omega)
