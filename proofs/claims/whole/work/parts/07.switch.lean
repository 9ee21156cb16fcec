def t_sw (cs : List (Int32 × List Nat × Nat)) (kd : List Nat) (td : Nat) : Opn := fun K _ lo st S => match st with
  | .int x :: r => (∀ q ∈ cs, x = q.1 → K q.2.2 (keepL q.2.1 lo) r S) ∧ ((∀ q ∈ cs, ¬ x = q.1) → K td (keepL kd lo) r S)
  | _ => False
theorem s_sw {lay : List Ent} {cc : ByteArray} {nL : Nat} {own : String} {d pc : Nat} {cs : List (Int32 × List Nat × Nat)} {kd : List Nat} {td : Nat} {dflt l0 hi : Int} {offs : Array Int} {len : Nat} (hd : decode cc pc = .ok (.tableswitch dflt l0 hi offs, len))
    (hc : (cs.zipIdx.all fun q => decide (q.1.1.toInt = l0 + (q.2 : Int)) && decide ((offs[q.2]?.map (fun o => (pc : Int) + o)) = some (q.1.2.2 : Int))) = true) (hh : hi + 1 = l0 + (cs.length : Int)) (ht : (pc : Int) + dflt = (td : Int)) : OSg lay cc nL own d pc (t_sw cs kd td) := by
  have hcs : ∀ (j : Nat) (q : Int32 × List Nat × Nat), cs[j]? = some q → q.1.toInt = l0 + (j : Int) ∧ offs[j]?.map (fun o => (pc : Int) + o) = some (q.2.2 : Int) := by
    intro j q hj
    have := List.all_eq_true.mp hc (q, j) (by
      rw [List.mem_iff_getElem?]
      exact ⟨j, by simp [hj]⟩)
    simpa using this
  refine ⟨?_, ?_⟩
  · intro K K' Q Q' lo st S hK
    unfold t_sw
    split
    · exact fun h => ⟨fun q hq e => hK _ _ _ _ (h.1 q hq e), fun g => hK _ _ _ _ (h.2 g)⟩
    · exact id
  · intro p l e R s m args below meth c D cA ad A ret c9 sl Qm Q K lo st S hR C hk h H locs ls hP hD hS hl
    unfold t_sw at h
    split at h
    · rename_i x r
      by_cases h1 : x.toInt < l0 ∨ hi < x.toInt
      · refine lv_tableOut C.1 C.2.1 hd h1 ht (hk _ _ _ _ (h.2 fun q hq e => ?_) H locs ls hP hD hS (keepL_has hl))
        obtain ⟨j, hj⟩ := List.mem_iff_getElem?.mp hq
        have h2 := (hcs j q hj).1
        have h3 := (List.getElem?_eq_some_iff.mp hj).1
        rw [e] at h1
        omega
      · have h4 : ¬ x.toInt < l0 := fun z => h1 (Or.inl z)
        have h5 : ¬ hi < x.toInt := fun z => h1 (Or.inr z)
        have hj : (x.toInt - l0).toNat < cs.length := by omega
        obtain ⟨q, hq⟩ : ∃ q, cs[(x.toInt - l0).toNat]? = some q := ⟨_, List.getElem?_eq_getElem hj⟩
        obtain ⟨g1, g2⟩ := hcs _ q hq
        have ex : x = q.1 := Int32.toInt_inj.mp (by rw [g1]; omega)
        obtain ⟨o, ho, eo⟩ := Option.map_eq_some_iff.mp g2
        exact lv_tableIn C.1 C.2.1 hd h4 h5 ho eo (hk _ _ _ _ (h.1 q (List.mem_of_getElem? hq) ex) H locs ls hP hD hS (keepL_has hl))
    · exact h.elim
