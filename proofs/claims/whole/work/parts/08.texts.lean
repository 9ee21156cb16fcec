/-! the six texts: their places are 1000 .. 1005, their rows of bytes 2000 .. 2005 -/
theorem off_1000 {a : Nat} (h : 1000 ≤ a ∧ a < 1006) : ∃ i : Nat, a = 1000 + i ∧ i < 6 ∧ a + 1000 = 2000 + i := ⟨a - 1000, by omega, by omega, by omega⟩
theorem off_2000 {a : Nat} (h : 2000 ≤ a ∧ a < 2006) : ∃ i : Nat, a = 2000 + i ∧ i < 6 ∧ a - 2000 = i := ⟨a - 2000, by omega, by omega, rfl⟩
def o_ldS (i : Nat) : Op1 := fun k lo st S => k lo (.ref (1000 + i) :: st) S
theorem s_ldS {lay : List Ent} {cc : ByteArray} {nL : Nat} {d pc i : Nat} {ix : Nat} (hi : i < 6) (hx : six.getD i 0 = ix) (hd : decode cc pc = .ok (.ldc ix, 2)) : OS1 lay cc nL "TurnedRivers$Tokens" d pc (pc + 2) (o_ldS i) := by
  refine ⟨fun k k' lo st S hk h => hk _ _ _ h, ?_⟩
  intro p l e R s m args below meth c D cA ad A ret cs sl Qm k lo st S hR C hk h H locs ls hP hD hS hl
  subst hx
  exact va_ldcS C.1 C.2.1 C.2.2.2.2.2.1 (C.2.2.2.2.2.2.2.2.2.1 i hi) hd (hk _ _ _ h H locs ls hP hD hS hl)
def o_gSv : Op1 := fun k lo st S => match st with
  | .ref a :: r => (1000 ≤ a ∧ a < 1006) ∧ k lo (.ref (a + 1000) :: r) S
  | _ => False
theorem s_gSv {lay : List Ent} {cc : ByteArray} {nL : Nat} {own : String} {d pc ix : Nat} (hw : Cond.fieldLink own ix "java/lang/String" "value" "[B" ∈ gw) (hd : decode cc pc = .ok (.getfield ix, 3)) : OS1 lay cc nL own d pc (pc + 3) o_gSv := by
  refine ⟨?_, ?_⟩
  · intro k k' lo st S hk
    unfold o_gSv
    split
    · exact fun h => ⟨h.1, hk _ _ _ h.2⟩
    · exact id
  · intro p l e R s m args below meth c D cA ad A ret cs sl Qm k lo st S hR C hk h H locs ls hP hD hS hl
    unfold o_gSv at h
    split at h
    · rename_i a r
      obtain ⟨i, e1, hi, e2⟩ := off_1000 h.1
      have h2 := h.2
      rw [e2] at h2
      subst e1
      have hX := (C.2.2.2.2.2.2.2.2.1.1 i hi).2.2.1
      exact vk_getf C.1 C.2.1 hX hS C.2.2.2.2.2.1 (C.2.2.2.2.2.2.1 _ hw) (fun _ h9 => h9) hd (hk _ _ _ h2 H locs ls hP hD hS hl)
    · exact h.elim
def o_gSc : Op1 := fun k lo st S => match st with
  | .ref a :: r => (1000 ≤ a ∧ a < 1006) ∧ k lo (.int 0 :: r) S
  | _ => False
theorem s_gSc {lay : List Ent} {cc : ByteArray} {nL : Nat} {own : String} {d pc ix : Nat} (hw : Cond.fieldLink own ix "java/lang/String" "coder" "B" ∈ gw) (hd : decode cc pc = .ok (.getfield ix, 3)) : OS1 lay cc nL own d pc (pc + 3) o_gSc := by
  refine ⟨?_, ?_⟩
  · intro k k' lo st S hk
    unfold o_gSc
    split
    · exact fun h => ⟨h.1, hk _ _ _ h.2⟩
    · exact id
  · intro p l e R s m args below meth c D cA ad A ret cs sl Qm k lo st S hR C hk h H locs ls hP hD hS hl
    unfold o_gSc at h
    split at h
    · rename_i a r
      obtain ⟨i, e1, hi, e2⟩ := off_1000 h.1
      subst e1
      have hX := (C.2.2.2.2.2.2.2.2.1.1 i hi).2.1
      exact vk_getf C.1 C.2.1 hX hS C.2.2.2.2.2.1 (C.2.2.2.2.2.2.1 _ hw) (fun _ h9 => h9) hd (hk _ _ _ h.2 H locs ls hP hD hS hl)
    · exact h.elim
def o_gCS : Op1 := fun k lo st S => k lo (.int 1 :: st) S
theorem s_gCS {lay : List Ent} {cc : ByteArray} {nL : Nat} {own : String} {d pc ix : Nat} (hw : Cond.fieldLink own ix "java/lang/String" "COMPACT_STRINGS" "Z" ∈ gw) (hd : decode cc pc = .ok (.getstatic ix, 3)) : OS1 lay cc nL own d pc (pc + 3) o_gCS := by
  refine ⟨fun k k' lo st S hk h => hk _ _ _ h, ?_⟩
  intro p l e R s m args below meth c D cA ad A ret cs sl Qm k lo st S hR C hk h H locs ls hP hD hS hl
  exact va_gets C.1 C.2.1 C.2.2.2.2.2.2.2.2.2.2.1 hS C.2.2.2.2.2.1 (C.2.2.2.2.2.2.1 _ hw) (fun _ h9 => h9) hd (hk _ _ _ h H locs ls hP hD hS hl)
def o_sLen : Op1 := fun k lo st S => match st with
  | .ref a :: r => (2000 ≤ a ∧ a < 2006) ∧ k lo (.int (Int32.ofNat (slen.getD (a - 2000) 0)) :: r) S
  | _ => False
theorem s_sLen {lay : List Ent} {cc : ByteArray} {nL : Nat} {own : String} {d pc : Nat} (hd : decode cc pc = .ok (.arraylength, 1)) : OS1 lay cc nL own d pc (pc + 1) o_sLen := by
  refine ⟨?_, ?_⟩
  · intro k k' lo st S hk
    unfold o_sLen
    split
    · exact fun h => ⟨h.1, hk _ _ _ h.2⟩
    · exact id
  · intro p l e R s m args below meth c D cA ad A ret cs sl Qm k lo st S hR C hk h H locs ls hP hD hS hl
    unfold o_sLen at h
    split at h
    · rename_i a r
      obtain ⟨i, e1, hi, e2⟩ := off_2000 h.1
      have h2 := h.2
      rw [e2] at h2
      subst e1
      have hX := (C.2.2.2.2.2.2.2.2.1.1 i hi).2.2.2
      exact va_tlen C.1 C.2.1 hX hS rfl hd (hk _ _ _ h2 H locs ls hP hD hS hl)
    · exact h.elim
def o_sGet : Op1 := fun k lo st S => match st with
  | .int j :: .ref a :: r => ((2000 ≤ a ∧ a < 2006) ∧ vp_in j (slen.getD (a - 2000) 0)) ∧ k lo (.int ((sbyt.getD (a - 2000) []).getD j.toNatClampNeg 0) :: r) S
  | _ => False
theorem s_sGet {lay : List Ent} {cc : ByteArray} {nL : Nat} {own : String} {d pc : Nat} (hd : decode cc pc = .ok (.baload, 1)) : OS1 lay cc nL own d pc (pc + 1) o_sGet := by
  refine ⟨?_, ?_⟩
  · intro k k' lo st S hk
    unfold o_sGet
    split
    · exact fun h => ⟨h.1, hk _ _ _ h.2⟩
    · exact id
  · intro p l e R s m args below meth c D cA ad A ret cs sl Qm k lo st S hR C hk h H locs ls hP hD hS hl
    unfold o_sGet at h
    split at h
    · rename_i j a r
      obtain ⟨⟨h0, h1⟩, h2⟩ := h
      obtain ⟨i, e1, hi, e2⟩ := off_2000 h0
      rw [e2] at h1 h2
      subst e1
      have hX := (C.2.2.2.2.2.2.2.2.1.1 i hi).2.2.2
      exact va_tb C.1 C.2.1 hX hS h1 rfl hd (hk _ _ _ h2 H locs ls hP hD hS hl)
    · exact h.elim
/-- a call on a text -/
def o_cvS (F : Fun) (n : Nat) : Op1 := fun k lo st S => match st.drop n with
  | .ref a :: r => ((1000 ≤ a ∧ a < 1006) ∧ (r.map Value.category).sum ≤ 8) ∧ F (.ref a :: (st.take n).reverse) S (fun v S' => k lo (v.toList ++ r) S')
  | _ => False
theorem s_cvS {lay : List Ent} {cc : ByteArray} {nL : Nat} {own : String} {d pc : Nat} {nm ds : String} {bb : ByteArray} {mL d' n ix : Nat} {rt : Option FieldType} {F : Fun}
    (hF : Con lay ⟨"java/lang/String", nm, ds⟩ bb mL rt d' F) (hM : MoF F) (hdd : d' + 1 ≤ d ∧ mL ≤ 19)
    (hw1 : Cond.methodLink own ix ⟨"java/lang/String", nm, ds⟩ ∈ gw) (hw2 : Cond.instanceMethod ⟨"java/lang/String", nm, ds⟩ ∈ gw) (hw3 : Cond.selects "java/lang/String" ⟨"java/lang/String", nm, ds⟩ ⟨"java/lang/String", nm, ds⟩ ∈ gw) (hw4 : Cond.initialized "java/lang/String" ∈ gw) (hw5 : Cond.code ⟨"java/lang/String", nm, ds⟩ bb mL rt ∈ gw)
    (hy : (parseMethodDescriptor ds).map (fun d => d.parameters.length) = some n)
    (hd : decode cc pc = .ok (.invokevirtual ix, 3)) : OS1 lay cc nL own d pc (pc + 3) (o_cvS F n) := by
  refine ⟨?_, ?_⟩
  · intro k k' lo st S hk
    unfold o_cvS
    split
    · exact fun h => ⟨h.1, hM _ _ _ _ (fun r S' h => hk _ _ _ h) h.2⟩
    · exact id
  · intro p l e R s m args below meth c D cA ad A ret cs sl Qm k lo st S hR C hk h H locs ls hP hD hS hl
    unfold o_cvS at h
    split at h
    · rename_i a r hq
      obtain ⟨⟨ha, hr8⟩, hf⟩ := h
      obtain ⟨i, e1, hi, e2⟩ := off_1000 ha
      subst e1
      have hts : ∀ w ∈ gw, w.before args s = true := C.2.2.2.2.2.2.1
      have hgi := gw_in (mL := mL) hw5
      have hdL : (st.drop n).length = r.length + 1 := by rw [hq]; rfl
      have hlen : (st.take n).length = n := by
        rw [List.length_drop] at hdL
        rw [List.length_take]
        omega
      have hst : st.map (vt ad) = (((st.take n).reverse.map (vt ad))).reverse ++ .ref (ad (1000 + i)) :: r.map (vt ad) := by
        rw [List.map_reverse, List.reverse_reverse]
        conv => lhs; rw [← List.take_append_drop n st, List.map_append, hq]
        rfl
      refine W.back (va_runV (y := ⟨"java/lang/String", nm, ds⟩) (bytes := bb) (maxL := mL) (ret := rt) (C := "java/lang/String") (b := ad (1000 + i)) (As := (st.take n).reverse.map (vt ad)) (rest := r.map (vt ad)) (n := n) ⟨C.1, C.2.1, C.2.2.2.2.1, C.2.2.2.2.2.1, hts⟩ (hF l D cA ad A _ S _ hf) ⟨callB_of n hts hgi rfl rfl rfl (hts _ hw4) (hts _ hw1) ⟨show "java/lang/String" ≠ _ by decide, show "java/lang/String" ≠ _ by decide, hy⟩ ⟨Nat.le_trans hdd.1 hR.1, ?_⟩, hts _ hw2, hts _ hw3⟩ ⟨PcO_blind, vk_recv (i := i) C.2.2.2.2.2.2.2.2.1 hi hS, fun U hU hW => ⟨rfl, by rw [hU]; exact hP, va_K.moved hW.alike C.2.2.2.2.2.2.2.1, hD, C.2.2.2.2.2.2.2.2.next hU hW hS⟩⟩ rfl ?_ hl.1 hst ?_ hd ⟨hR.2.2.1, hR.2.2.2⟩) hS hl (fun v S' hQ => hk _ _ _ hQ)
      · refine Nat.le_trans (?_ : 8 + (mL + 11) + 38 * d' ≤ 38 * d) hR.2.1
        omega
      · rw [List.length_map, List.length_reverse]; exact hlen
      · have := lv_room (m := m) (pc := pc) (ls := ls) (rest := st.map (vt ad)) (st := r.map (vt ad)) (by rw [cat_map]; exact hr8)
        exact this
    · exact h.elim
/-- a place that is never reached -/
def t_bad : Opn := fun _ _ _ _ _ => False
theorem s_bad {lay : List Ent} {cc : ByteArray} {nL : Nat} {own : String} {d pc : Nat} : OSg lay cc nL own d pc t_bad := ⟨fun _ _ _ _ _ _ _ _ h => h, by intros; contradiction⟩
def o_gFm : Op1 := fun k lo st S => k lo (.ref 3000 :: st) S ∧ k lo (.null :: st) S
theorem s_gFm {lay : List Ent} {cc : ByteArray} {nL : Nat} {own : String} {d pc ix : Nat} (hw : Cond.fieldLink own ix "jdk/internal/util/Preconditions" "SIOOBE_FORMATTER" "Ljava/util/function/BiFunction;" ∈ gw) (hd : decode cc pc = .ok (.getstatic ix, 3)) : OS1 lay cc nL own d pc (pc + 3) o_gFm := by
  refine ⟨fun k k' lo st S hk h => ⟨hk _ _ _ h.1, hk _ _ _ h.2⟩, ?_⟩
  intro p l e R s m args below meth c D cA ad A ret cs sl Qm k lo st S hR C hk h H locs ls hP hD hS hl
  rcases C.2.2.2.2.2.2.2.2.2.2.2 with z | z
  · exact va_gets C.1 C.2.1 z hS C.2.2.2.2.2.1 (C.2.2.2.2.2.2.1 _ hw) (fun _ h9 => h9) hd (hk _ _ _ h.2 H locs ls hP hD hS hl)
  · exact va_gets C.1 C.2.1 z hS C.2.2.2.2.2.1 (C.2.2.2.2.2.2.1 _ hw) (fun _ h9 => h9) hd (hk _ _ _ h.1 H locs ls hP hD hS hl)
