theorem fvs_at {ci j : Nat} {kd : Nat × Nat} (ad : Nat → Nat) (S : Sto) (a : Nat) (h : (fks ci)[j]? = some kd) : ((fks ci).zipIdx.map (fv ad S a))[j]? = some (fv ad S a (kd, j)) := by
  simp [h]
theorem fvs_len {ci : Nat} (ad : Nat → Nat) (S : Sto) (a : Nat) : ((fks ci).zipIdx.map (fv ad S a)).length = (fks ci).length := by simp
/-- a field's store, seen in the list of its cell's values -/
theorem fvs_set {ci j : Nat} {kd : Nat × Nat} {v : Value} (ad : Nat → Nat) (S S' : Sto) (a : Nat) (h : (fks ci)[j]? = some kd) (hv : fv ad S' a (kd, j) = v) (hs : ∀ (q : Nat × Nat) (i : Nat), i ≠ j → fv ad S' a (q, i) = fv ad S a (q, i)) :
    ((fks ci).zipIdx.map (fv ad S a)).set j v = (fks ci).zipIdx.map (fv ad S' a) := by
  apply List.ext_getElem?
  intro i
  by_cases hi : i = j
  · subst hi
    have hl : i < ((fks ci).zipIdx.map (fv ad S a)).length := by
      rw [fvs_len]; exact (List.getElem?_eq_some_iff.mp h).1
    rw [List.getElem?_set_self hl, fvs_at ad S' a h, hv]
  · rw [List.getElem?_set_ne (fun q => hi q.symm)]
    simp only [List.getElem?_map, List.getElem?_zipIdx]
    cases hq : (fks ci)[i]? with
    | none => rfl
    | some q => simp only [Option.map_some, Nat.zero_add, hs q i hi]
def o_gI (lay : List Ent) (ci j : Nat) : Op1 := fun k lo st S => match st with
  | .ref a :: r => lay[a]? = some (0, ci, 0, 0) ∧ k lo (.int (S.1 a j) :: r) S
  | _ => False
theorem s_gI {lay : List Ent} {cc : ByteArray} {nL : Nat} {own : String} {d pc : Nat} {ci N j : Nat} {z : Nat} {Cn : String} {T : u_T} {ty : Nat → FieldType} (co : CO ci Cn T N ty) (hj : (fks ci)[j]? = some (0, z)) {ix : Nat} (hw : Cond.fieldLink own ix (T j).1 (T j).2.1 (T j).2.2.1 ∈ gw) (hd : decode cc pc = .ok (.getfield ix, 3)) : OS1 lay cc nL own d pc (pc + 3) (o_gI lay ci j) := by
  refine ⟨?_, ?_⟩
  · intro k k' lo st S hk
    unfold o_gI
    split <;> (first | exact hk _ _ _ | exact id | exact fun h => ⟨h.1, hk _ _ _ h.2⟩ | exact fun h => ⟨h.1, h.2.1, hk _ _ _ h.2.2⟩)
  · intro p l e R s m args below meth c D cA ad A ret cs sl Qm k lo st S hR C hk h H locs ls hP hD hS hl
    unfold o_gI at h
    split at h
    · rename_i a r
      have hjN : j < N := by rw [← co.2.2.2.2]; exact (List.getElem?_eq_some_iff.mp hj).1
      exact va_get C.1 C.2.1 C.2.2.2.2.2.2.1 co.2.1 C.2.2.2.2.2.1 C.2.2.2.2.2.2.2.1 hP a (wsL_at h.1) co.1 j hjN (C.2.2.2.2.2.2.1 _ hw) (fun _ h9 => h9) (fvs_at ad S a hj) hd (hk _ _ _ h.2 H locs ls hP hD hS hl)
    all_goals exact h.elim
def o_gL (lay : List Ent) (ci j : Nat) : Op1 := fun k lo st S => match st with
  | .ref a :: r => lay[a]? = some (0, ci, 0, 0) ∧ k lo (.long (S.2.1 a j) :: r) S
  | _ => False
theorem s_gL {lay : List Ent} {cc : ByteArray} {nL : Nat} {own : String} {d pc : Nat} {ci N j : Nat} {z : Nat} {Cn : String} {T : u_T} {ty : Nat → FieldType} (co : CO ci Cn T N ty) (hj : (fks ci)[j]? = some (1, z)) {ix : Nat} (hw : Cond.fieldLink own ix (T j).1 (T j).2.1 (T j).2.2.1 ∈ gw) (hd : decode cc pc = .ok (.getfield ix, 3)) : OS1 lay cc nL own d pc (pc + 3) (o_gL lay ci j) := by
  refine ⟨?_, ?_⟩
  · intro k k' lo st S hk
    unfold o_gL
    split <;> (first | exact hk _ _ _ | exact id | exact fun h => ⟨h.1, hk _ _ _ h.2⟩ | exact fun h => ⟨h.1, h.2.1, hk _ _ _ h.2.2⟩)
  · intro p l e R s m args below meth c D cA ad A ret cs sl Qm k lo st S hR C hk h H locs ls hP hD hS hl
    unfold o_gL at h
    split at h
    · rename_i a r
      have hjN : j < N := by rw [← co.2.2.2.2]; exact (List.getElem?_eq_some_iff.mp hj).1
      exact va_get C.1 C.2.1 C.2.2.2.2.2.2.1 co.2.1 C.2.2.2.2.2.1 C.2.2.2.2.2.2.2.1 hP a (wsL_at h.1) co.1 j hjN (C.2.2.2.2.2.2.1 _ hw) (fun _ h9 => h9) (fvs_at ad S a hj) hd (hk _ _ _ h.2 H locs ls hP hD hS hl)
    all_goals exact h.elim
def o_gC (lay : List Ent) (ci z : Nat) : Op1 := fun k lo st S => match st with
  | .ref a :: r => lay[a]? = some (0, ci, 0, 0) ∧ k lo (.ref (a + z) :: r) S
  | _ => False
theorem s_gC {lay : List Ent} {cc : ByteArray} {nL : Nat} {own : String} {d pc : Nat} {ci N j : Nat} {z : Nat} {Cn : String} {T : u_T} {ty : Nat → FieldType} (co : CO ci Cn T N ty) (hj : (fks ci)[j]? = some (2, z)) {ix : Nat} (hw : Cond.fieldLink own ix (T j).1 (T j).2.1 (T j).2.2.1 ∈ gw) (hd : decode cc pc = .ok (.getfield ix, 3)) : OS1 lay cc nL own d pc (pc + 3) (o_gC lay ci z) := by
  refine ⟨?_, ?_⟩
  · intro k k' lo st S hk
    unfold o_gC
    split <;> (first | exact hk _ _ _ | exact id | exact fun h => ⟨h.1, hk _ _ _ h.2⟩ | exact fun h => ⟨h.1, h.2.1, hk _ _ _ h.2.2⟩)
  · intro p l e R s m args below meth c D cA ad A ret cs sl Qm k lo st S hR C hk h H locs ls hP hD hS hl
    unfold o_gC at h
    split at h
    · rename_i a r
      have hjN : j < N := by rw [← co.2.2.2.2]; exact (List.getElem?_eq_some_iff.mp hj).1
      exact va_get C.1 C.2.1 C.2.2.2.2.2.2.1 co.2.1 C.2.2.2.2.2.1 C.2.2.2.2.2.2.2.1 hP a (wsL_at h.1) co.1 j hjN (C.2.2.2.2.2.2.1 _ hw) (fun _ h9 => h9) (fvs_at ad S a hj) hd (hk _ _ _ h.2 H locs ls hP hD hS hl)
    all_goals exact h.elim
def o_gR (lay : List Ent) (ci j : Nat) : Op1 := fun k lo st S => match st with
  | .ref a :: r => lay[a]? = some (0, ci, 0, 0) ∧ k lo (.ref (S.2.2 a j) :: r) S
  | _ => False
theorem s_gR {lay : List Ent} {cc : ByteArray} {nL : Nat} {own : String} {d pc : Nat} {ci N j : Nat} {z : Nat} {Cn : String} {T : u_T} {ty : Nat → FieldType} (co : CO ci Cn T N ty) (hj : (fks ci)[j]? = some (3, z)) {ix : Nat} (hw : Cond.fieldLink own ix (T j).1 (T j).2.1 (T j).2.2.1 ∈ gw) (hd : decode cc pc = .ok (.getfield ix, 3)) : OS1 lay cc nL own d pc (pc + 3) (o_gR lay ci j) := by
  refine ⟨?_, ?_⟩
  · intro k k' lo st S hk
    unfold o_gR
    split <;> (first | exact hk _ _ _ | exact id | exact fun h => ⟨h.1, hk _ _ _ h.2⟩ | exact fun h => ⟨h.1, h.2.1, hk _ _ _ h.2.2⟩)
  · intro p l e R s m args below meth c D cA ad A ret cs sl Qm k lo st S hR C hk h H locs ls hP hD hS hl
    unfold o_gR at h
    split at h
    · rename_i a r
      have hjN : j < N := by rw [← co.2.2.2.2]; exact (List.getElem?_eq_some_iff.mp hj).1
      exact va_get C.1 C.2.1 C.2.2.2.2.2.2.1 co.2.1 C.2.2.2.2.2.1 C.2.2.2.2.2.2.2.1 hP a (wsL_at h.1) co.1 j hjN (C.2.2.2.2.2.2.1 _ hw) (fun _ h9 => h9) (fvs_at ad S a hj) hd (hk _ _ _ h.2 H locs ls hP hD hS hl)
    all_goals exact h.elim
def o_pI (lay : List Ent) (ci j : Nat) : Op1 := fun k lo st S => match st with
  | .int v :: .ref a :: r => lay[a]? = some (0, ci, 0, 0) ∧ k lo r (sI S a j v)
  | _ => False
theorem s_pI {lay : List Ent} {cc : ByteArray} {nL : Nat} {own : String} {d pc : Nat} {ci N j : Nat} {z : Nat} {Cn : String} {T : u_T} {ty : Nat → FieldType} (co : CO ci Cn T N ty) (hj : (fks ci)[j]? = some (0, z)) {ix : Nat} (hw : Cond.fieldLink own ix (T j).1 (T j).2.1 (T j).2.2.1 ∈ gw) (hfin : (T j).2.2.2 = false) (ht : ty j = .int) (hd : decode cc pc = .ok (.putfield ix, 3)) : OS1 lay cc nL own d pc (pc + 3) (o_pI lay ci j) := by
  refine ⟨?_, ?_⟩
  · intro k k' lo st S hk
    unfold o_pI
    split <;> (first | exact hk _ _ _ | exact id | exact fun h => ⟨h.1, hk _ _ _ h.2⟩ | exact fun h => ⟨h.1, h.2.1, hk _ _ _ h.2.2⟩)
  · intro p l e R s m args below meth c D cA ad A ret cs sl Qm k lo st S hR C hk h H locs ls hP hD hS hl
    unfold o_pI at h
    split at h
    · rename_i v a r
      have hjN : j < N := by rw [← co.2.2.2.2]; exact (List.getElem?_eq_some_iff.mp hj).1
      have hty : parseFieldDescriptor (T j).2.2.1 = some (.int) := by rw [co.2.2.1 j hjN, ht]
      have e1 : ((fks ci).zipIdx.map (fv ad S a)).set j (.int v) = (fks ci).zipIdx.map (fv ad (sI S a j v) a) := by
        refine fvs_set ad S (sI S a j v) a hj ?_ ?_
        · simp [fv, sI, upd]
        · intro q i hi
          simp [fv, sI, upd, hi]
      have e2 : ((wsL lay cA ad S).set a (ad a, .inr (ci, ((fks ci).zipIdx.map (fv ad S a)).set j (.int v)))) = wsL lay cA ad (sI S a j v) := by
        rw [e1]
        exact wsL_set (S' := sI S a j v) (e := (0, ci, 0, 0)) h.1 (fun b hb => by simp [sI, hb]) (fun b hb => by simp [sI, hb]) (fun b hb => by simp [sI, hb])
      refine va_put C.1 C.2.1 C.2.2.2.2.2.2.1 co.2.1 ty co.2.2.1 co.2.2.2.1 C.2.2.2.2.2.1 C.2.2.2.2.2.2.2.1 hP hD hS a (wsL_at h.1) co.1 j hjN (C.2.2.2.2.2.2.1 _ hw) (fun _ h9 => h9) hfin hty (v := .int v) rfl rfl (by rw [fvs_len, co.2.2.2.2]; exact hjN) hd (fun H1 locs1 hP1 hD1 hS1 => ?_)
      rw [e2] at hP1 hD1
      exact hk _ _ _ h.2 H1 locs1 ls hP1 hD1 hS1 hl
    all_goals exact h.elim
def o_pL (lay : List Ent) (ci j : Nat) : Op1 := fun k lo st S => match st with
  | .long v :: .ref a :: r => lay[a]? = some (0, ci, 0, 0) ∧ k lo r (sL S a j v)
  | _ => False
theorem s_pL {lay : List Ent} {cc : ByteArray} {nL : Nat} {own : String} {d pc : Nat} {ci N j : Nat} {z : Nat} {Cn : String} {T : u_T} {ty : Nat → FieldType} (co : CO ci Cn T N ty) (hj : (fks ci)[j]? = some (1, z)) {ix : Nat} (hw : Cond.fieldLink own ix (T j).1 (T j).2.1 (T j).2.2.1 ∈ gw) (hfin : (T j).2.2.2 = false) (ht : ty j = .long) (hd : decode cc pc = .ok (.putfield ix, 3)) : OS1 lay cc nL own d pc (pc + 3) (o_pL lay ci j) := by
  refine ⟨?_, ?_⟩
  · intro k k' lo st S hk
    unfold o_pL
    split <;> (first | exact hk _ _ _ | exact id | exact fun h => ⟨h.1, hk _ _ _ h.2⟩ | exact fun h => ⟨h.1, h.2.1, hk _ _ _ h.2.2⟩)
  · intro p l e R s m args below meth c D cA ad A ret cs sl Qm k lo st S hR C hk h H locs ls hP hD hS hl
    unfold o_pL at h
    split at h
    · rename_i v a r
      have hjN : j < N := by rw [← co.2.2.2.2]; exact (List.getElem?_eq_some_iff.mp hj).1
      have hty : parseFieldDescriptor (T j).2.2.1 = some (.long) := by rw [co.2.2.1 j hjN, ht]
      have e1 : ((fks ci).zipIdx.map (fv ad S a)).set j (.long v) = (fks ci).zipIdx.map (fv ad (sL S a j v) a) := by
        refine fvs_set ad S (sL S a j v) a hj ?_ ?_
        · simp [fv, sL, vp_updL]
        · intro q i hi
          simp [fv, sL, vp_updL, hi]
      have e2 : ((wsL lay cA ad S).set a (ad a, .inr (ci, ((fks ci).zipIdx.map (fv ad S a)).set j (.long v)))) = wsL lay cA ad (sL S a j v) := by
        rw [e1]
        exact wsL_set (S' := sL S a j v) (e := (0, ci, 0, 0)) h.1 (fun b hb => by simp [sL, hb]) (fun b hb => by simp [sL, hb]) (fun b hb => by simp [sL, hb])
      refine va_put C.1 C.2.1 C.2.2.2.2.2.2.1 co.2.1 ty co.2.2.1 co.2.2.2.1 C.2.2.2.2.2.1 C.2.2.2.2.2.2.2.1 hP hD hS a (wsL_at h.1) co.1 j hjN (C.2.2.2.2.2.2.1 _ hw) (fun _ h9 => h9) hfin hty (v := .long v) rfl rfl (by rw [fvs_len, co.2.2.2.2]; exact hjN) hd (fun H1 locs1 hP1 hD1 hS1 => ?_)
      rw [e2] at hP1 hD1
      exact hk _ _ _ h.2 H1 locs1 ls hP1 hD1 hS1 hl
    all_goals exact h.elim
def o_pR (lay : List Ent) (ci j : Nat) : Op1 := fun k lo st S => match st with
  | .ref v :: .ref a :: r => lay[a]? = some (0, ci, 0, 0) ∧ k lo r (sR S a j v)
  | _ => False
theorem s_pR {lay : List Ent} {cc : ByteArray} {nL : Nat} {own : String} {d pc : Nat} {ci N j : Nat} {z : Nat} {Cn : String} {T : u_T} {ty : Nat → FieldType} (co : CO ci Cn T N ty) (hj : (fks ci)[j]? = some (3, z)) {ix : Nat} (hw : Cond.fieldLink own ix (T j).1 (T j).2.1 (T j).2.2.1 ∈ gw) (hfin : (T j).2.2.2 = false) {Cf : String} (ht : ty j = .object Cf) (hd : decode cc pc = .ok (.putfield ix, 3)) : OS1 lay cc nL own d pc (pc + 3) (o_pR lay ci j) := by
  refine ⟨?_, ?_⟩
  · intro k k' lo st S hk
    unfold o_pR
    split <;> (first | exact hk _ _ _ | exact id | exact fun h => ⟨h.1, hk _ _ _ h.2⟩ | exact fun h => ⟨h.1, h.2.1, hk _ _ _ h.2.2⟩)
  · intro p l e R s m args below meth c D cA ad A ret cs sl Qm k lo st S hR C hk h H locs ls hP hD hS hl
    unfold o_pR at h
    split at h
    · rename_i v a r
      have hjN : j < N := by rw [← co.2.2.2.2]; exact (List.getElem?_eq_some_iff.mp hj).1
      have hty : parseFieldDescriptor (T j).2.2.1 = some (.object Cf) := by rw [co.2.2.1 j hjN, ht]
      have e1 : ((fks ci).zipIdx.map (fv ad S a)).set j (.ref (ad v)) = (fks ci).zipIdx.map (fv ad (sR S a j v) a) := by
        refine fvs_set ad S (sR S a j v) a hj ?_ ?_
        · simp [fv, sR]
        · intro q i hi
          simp [fv, sR, hi]
      have e2 : ((wsL lay cA ad S).set a (ad a, .inr (ci, ((fks ci).zipIdx.map (fv ad S a)).set j (.ref (ad v))))) = wsL lay cA ad (sR S a j v) := by
        rw [e1]
        exact wsL_set (S' := sR S a j v) (e := (0, ci, 0, 0)) h.1 (fun b hb => by simp [sR, hb]) (fun b hb => by simp [sR, hb]) (fun b hb => by simp [sR, hb])
      refine va_put C.1 C.2.1 C.2.2.2.2.2.2.1 co.2.1 ty co.2.2.1 co.2.2.2.1 C.2.2.2.2.2.1 C.2.2.2.2.2.2.2.1 hP hD hS a (wsL_at h.1) co.1 j hjN (C.2.2.2.2.2.2.1 _ hw) (fun _ h9 => h9) hfin hty (v := .ref (ad v)) rfl rfl (by rw [fvs_len, co.2.2.2.2]; exact hjN) hd (fun H1 locs1 hP1 hD1 hS1 => ?_)
      rw [e2] at hP1 hD1
      exact hk _ _ _ h.2 H1 locs1 ls hP1 hD1 hS1 hl
    all_goals exact h.elim
def alen (lay : List Ent) (t a : Nat) : Nat := match lay[a]? with
  | some (1, n, u, 0) => if u = t then n else 0
  | _ => 0
def llen (lay : List Ent) (a : Nat) : Nat := match lay[a]? with
  | some (2, n, 0, 0) => n
  | _ => 0
theorem alen_at {lay : List Ent} {t a : Nat} {i : Int32} (h : vp_in i (alen lay t a)) : lay[a]? = some (1, alen lay t a, t, 0) := by
  unfold alen at h ⊢
  split
  · rename_i n u hq
    rw [hq] at h
    have h : vp_in i (if u = t then n else 0) := h
    by_cases hu : u = t
    · subst hu; rw [if_pos rfl]; exact hq
    · rw [if_neg hu] at h
      exact absurd (Or.inr (Nat.zero_le _)) h
  · rename_i hx
    exfalso
    split at h
    · rename_i n u hq
      exact hx _ _ hq
    · exact absurd (Or.inr (Nat.zero_le _)) h
theorem llen_at {lay : List Ent} {a : Nat} {i : Int32} (h : vp_in i (llen lay a)) : lay[a]? = some (2, llen lay a, 0, 0) := by
  unfold llen at h ⊢
  split
  · rename_i n hq
    exact hq
  · rename_i hx
    exfalso
    split at h
    · rename_i n hq
      exact hx _ hq
    · exact absurd (Or.inr (Nat.zero_le _)) h
def o_aget (lay : List Ent) (t : Nat) : Op1 := fun k lo st S => match st with
  | .int i :: .ref a :: r => vp_in i (alen lay t a) ∧ k lo (.int (S.1 a i.toNatClampNeg) :: r) S
  | _ => False
theorem s_iald {lay : List Ent} {cc : ByteArray} {nL : Nat} {own : String} {d pc : Nat} (hd : decode cc pc = .ok (.iaload, 1)) : OS1 lay cc nL own d pc (pc + 1) (o_aget lay 0) := by
  refine ⟨?_, ?_⟩
  · intro k k' lo st S hk
    unfold o_aget
    split <;> (first | exact hk _ _ _ | exact id | exact fun h => ⟨h.1, hk _ _ _ h.2⟩ | exact fun h => ⟨h.1, h.2.1, hk _ _ _ h.2.2⟩)
  · intro p l e R s m args below meth c D cA ad A ret cs sl Qm k lo st S hR C hk h H locs ls hP hD hS hl
    unfold o_aget at h
    split at h
    · rename_i i a r
      exact va_iald C.1 C.2.1 C.2.2.2.2.2.2.2.1 hP a 0 (wsL_at (alen_at h.1)) rfl h.1 hd (hk _ _ _ h.2 H locs ls hP hD hS hl)
    all_goals exact h.elim
theorem s_bald {lay : List Ent} {cc : ByteArray} {nL : Nat} {own : String} {d pc : Nat} (hd : decode cc pc = .ok (.baload, 1)) : OS1 lay cc nL own d pc (pc + 1) (o_aget lay 1) := by
  refine ⟨?_, ?_⟩
  · intro k k' lo st S hk
    unfold o_aget
    split <;> (first | exact hk _ _ _ | exact id | exact fun h => ⟨h.1, hk _ _ _ h.2⟩ | exact fun h => ⟨h.1, h.2.1, hk _ _ _ h.2.2⟩)
  · intro p l e R s m args below meth c D cA ad A ret cs sl Qm k lo st S hR C hk h H locs ls hP hD hS hl
    unfold o_aget at h
    split at h
    · rename_i i a r
      exact va_bald C.1 C.2.1 C.2.2.2.2.2.2.2.1 hP a 1 (wsL_at (alen_at h.1)) rfl h.1 hd (hk _ _ _ h.2 H locs ls hP hD hS hl)
    all_goals exact h.elim
theorem s_zald {lay : List Ent} {cc : ByteArray} {nL : Nat} {own : String} {d pc : Nat} (hd : decode cc pc = .ok (.baload, 1)) : OS1 lay cc nL own d pc (pc + 1) (o_aget lay 2) := by
  refine ⟨?_, ?_⟩
  · intro k k' lo st S hk
    unfold o_aget
    split <;> (first | exact hk _ _ _ | exact id | exact fun h => ⟨h.1, hk _ _ _ h.2⟩ | exact fun h => ⟨h.1, h.2.1, hk _ _ _ h.2.2⟩)
  · intro p l e R s m args below meth c D cA ad A ret cs sl Qm k lo st S hR C hk h H locs ls hP hD hS hl
    unfold o_aget at h
    split at h
    · rename_i i a r
      exact va_zald C.1 C.2.1 C.2.2.2.2.2.2.2.1 hP a 2 (wsL_at (alen_at h.1)) rfl h.1 hd (hk _ _ _ h.2 H locs ls hP hD hS hl)
    all_goals exact h.elim
def o_lget (lay : List Ent) : Op1 := fun k lo st S => match st with
  | .int i :: .ref a :: r => vp_in i (llen lay a) ∧ k lo (.long (S.2.1 a i.toNatClampNeg) :: r) S
  | _ => False
theorem s_lald {lay : List Ent} {cc : ByteArray} {nL : Nat} {own : String} {d pc : Nat} (hd : decode cc pc = .ok (.laload, 1)) : OS1 lay cc nL own d pc (pc + 1) (o_lget lay) := by
  refine ⟨?_, ?_⟩
  · intro k k' lo st S hk
    unfold o_lget
    split <;> (first | exact hk _ _ _ | exact id | exact fun h => ⟨h.1, hk _ _ _ h.2⟩ | exact fun h => ⟨h.1, h.2.1, hk _ _ _ h.2.2⟩)
  · intro p l e R s m args below meth c D cA ad A ret cs sl Qm k lo st S hR C hk h H locs ls hP hD hS hl
    unfold o_lget at h
    split at h
    · rename_i i a r
      exact va_lald C.1 C.2.1 C.2.2.2.2.2.2.2.1 hP a 3 (wsL_at (llen_at h.1)) rfl h.1 hd (hk _ _ _ h.2 H locs ls hP hD hS hl)
    all_goals exact h.elim
def o_aput (lay : List Ent) : Op1 := fun k lo st S => match st with
  | .int x :: .int i :: .ref a :: r => vp_in i (alen lay 0 a) ∧ k lo r (sI S a i.toNatClampNeg (x))
  | _ => False
theorem s_iast {lay : List Ent} {cc : ByteArray} {nL : Nat} {own : String} {d pc : Nat} (hd : decode cc pc = .ok (.iastore, 1)) : OS1 lay cc nL own d pc (pc + 1) (o_aput lay) := by
  refine ⟨?_, ?_⟩
  · intro k k' lo st S hk
    unfold o_aput
    split <;> (first | exact hk _ _ _ | exact id | exact fun h => ⟨h.1, hk _ _ _ h.2⟩ | exact fun h => ⟨h.1, h.2.1, hk _ _ _ h.2.2⟩)
  · intro p l e R s m args below meth c D cA ad A ret cs sl Qm k lo st S hR C hk h H locs ls hP hD hS hl
    unfold o_aput at h
    split at h
    · rename_i x i a r
      refine va_iast C.1 C.2.1 C.2.2.2.2.2.2.2.1 hP hD hS a 0 (wsL_at (alen_at h.1)) rfl h.1 hd (fun H1 locs1 hP1 hD1 hS1 => ?_)
      have e2 : ((wsL lay cA ad S).set a (ad a, .inl (cA 0, alen lay 0 a, .inl (upd (S.1 a) i.toNatClampNeg (x))))) = wsL lay cA ad (sI S a i.toNatClampNeg (x)) := by
        have e3 : (.inl (cA 0, alen lay 0 a, .inl (upd (S.1 a) i.toNatClampNeg (x))) : va_E) = mkC cA ad (sI S a i.toNatClampNeg (x)) a (1, alen lay 0 a, 0, 0) := by
          simp [mkC, sI]
        rw [e3]
        exact wsL_set (S' := sI S a i.toNatClampNeg (x)) (alen_at h.1) (fun b hb => by simp [sI, hb]) (fun b hb => by simp [sI, hb]) (fun b hb => by simp [sI, hb])
      rw [e2] at hP1 hD1
      exact hk _ _ _ h.2 H1 locs1 ls hP1 hD1 hS1 hl
    all_goals exact h.elim
def o_bput (lay : List Ent) : Op1 := fun k lo st S => match st with
  | .int x :: .int i :: .ref a :: r => vp_in i (alen lay 1 a) ∧ k lo r (sI S a i.toNatClampNeg (vp_nar .byte x))
  | _ => False
theorem s_bast {lay : List Ent} {cc : ByteArray} {nL : Nat} {own : String} {d pc : Nat} (hd : decode cc pc = .ok (.bastore, 1)) : OS1 lay cc nL own d pc (pc + 1) (o_bput lay) := by
  refine ⟨?_, ?_⟩
  · intro k k' lo st S hk
    unfold o_bput
    split <;> (first | exact hk _ _ _ | exact id | exact fun h => ⟨h.1, hk _ _ _ h.2⟩ | exact fun h => ⟨h.1, h.2.1, hk _ _ _ h.2.2⟩)
  · intro p l e R s m args below meth c D cA ad A ret cs sl Qm k lo st S hR C hk h H locs ls hP hD hS hl
    unfold o_bput at h
    split at h
    · rename_i x i a r
      refine va_bast C.1 C.2.1 C.2.2.2.2.2.2.2.1 hP hD hS a 1 (wsL_at (alen_at h.1)) rfl h.1 hd (fun H1 locs1 hP1 hD1 hS1 => ?_)
      have e2 : ((wsL lay cA ad S).set a (ad a, .inl (cA 1, alen lay 1 a, .inl (upd (S.1 a) i.toNatClampNeg (vp_nar .byte x))))) = wsL lay cA ad (sI S a i.toNatClampNeg (vp_nar .byte x)) := by
        have e3 : (.inl (cA 1, alen lay 1 a, .inl (upd (S.1 a) i.toNatClampNeg (vp_nar .byte x))) : va_E) = mkC cA ad (sI S a i.toNatClampNeg (vp_nar .byte x)) a (1, alen lay 1 a, 1, 0) := by
          simp [mkC, sI]
        rw [e3]
        exact wsL_set (S' := sI S a i.toNatClampNeg (vp_nar .byte x)) (alen_at h.1) (fun b hb => by simp [sI, hb]) (fun b hb => by simp [sI, hb]) (fun b hb => by simp [sI, hb])
      rw [e2] at hP1 hD1
      exact hk _ _ _ h.2 H1 locs1 ls hP1 hD1 hS1 hl
    all_goals exact h.elim
def o_zput (lay : List Ent) : Op1 := fun k lo st S => match st with
  | .int x :: .int i :: .ref a :: r => vp_in i (alen lay 2 a) ∧ k lo r (sI S a i.toNatClampNeg (vp_nar .boolean x))
  | _ => False
theorem s_zast {lay : List Ent} {cc : ByteArray} {nL : Nat} {own : String} {d pc : Nat} (hd : decode cc pc = .ok (.bastore, 1)) : OS1 lay cc nL own d pc (pc + 1) (o_zput lay) := by
  refine ⟨?_, ?_⟩
  · intro k k' lo st S hk
    unfold o_zput
    split <;> (first | exact hk _ _ _ | exact id | exact fun h => ⟨h.1, hk _ _ _ h.2⟩ | exact fun h => ⟨h.1, h.2.1, hk _ _ _ h.2.2⟩)
  · intro p l e R s m args below meth c D cA ad A ret cs sl Qm k lo st S hR C hk h H locs ls hP hD hS hl
    unfold o_zput at h
    split at h
    · rename_i x i a r
      refine va_zast C.1 C.2.1 C.2.2.2.2.2.2.2.1 hP hD hS a 2 (wsL_at (alen_at h.1)) rfl h.1 hd (fun H1 locs1 hP1 hD1 hS1 => ?_)
      have e2 : ((wsL lay cA ad S).set a (ad a, .inl (cA 2, alen lay 2 a, .inl (upd (S.1 a) i.toNatClampNeg (vp_nar .boolean x))))) = wsL lay cA ad (sI S a i.toNatClampNeg (vp_nar .boolean x)) := by
        have e3 : (.inl (cA 2, alen lay 2 a, .inl (upd (S.1 a) i.toNatClampNeg (vp_nar .boolean x))) : va_E) = mkC cA ad (sI S a i.toNatClampNeg (vp_nar .boolean x)) a (1, alen lay 2 a, 2, 0) := by
          simp [mkC, sI]
        rw [e3]
        exact wsL_set (S' := sI S a i.toNatClampNeg (vp_nar .boolean x)) (alen_at h.1) (fun b hb => by simp [sI, hb]) (fun b hb => by simp [sI, hb]) (fun b hb => by simp [sI, hb])
      rw [e2] at hP1 hD1
      exact hk _ _ _ h.2 H1 locs1 ls hP1 hD1 hS1 hl
    all_goals exact h.elim
def o_lput (lay : List Ent) : Op1 := fun k lo st S => match st with
  | .long x :: .int i :: .ref a :: r => vp_in i (llen lay a) ∧ k lo r (sL S a i.toNatClampNeg x)
  | _ => False
theorem s_last {lay : List Ent} {cc : ByteArray} {nL : Nat} {own : String} {d pc : Nat} (hd : decode cc pc = .ok (.lastore, 1)) : OS1 lay cc nL own d pc (pc + 1) (o_lput lay) := by
  refine ⟨?_, ?_⟩
  · intro k k' lo st S hk
    unfold o_lput
    split <;> (first | exact hk _ _ _ | exact id | exact fun h => ⟨h.1, hk _ _ _ h.2⟩ | exact fun h => ⟨h.1, h.2.1, hk _ _ _ h.2.2⟩)
  · intro p l e R s m args below meth c D cA ad A ret cs sl Qm k lo st S hR C hk h H locs ls hP hD hS hl
    unfold o_lput at h
    split at h
    · rename_i x i a r
      refine va_last C.1 C.2.1 C.2.2.2.2.2.2.2.1 hP hD hS a 3 (wsL_at (llen_at h.1)) rfl h.1 hd (fun H1 locs1 hP1 hD1 hS1 => ?_)
      have e2 : ((wsL lay cA ad S).set a (ad a, .inl (cA 3, llen lay a, .inr (.inl (vp_updL (S.2.1 a) i.toNatClampNeg x))))) = wsL lay cA ad (sL S a i.toNatClampNeg x) := by
        have e3 : (.inl (cA 3, llen lay a, .inr (.inl (vp_updL (S.2.1 a) i.toNatClampNeg x))) : va_E) = mkC cA ad (sL S a i.toNatClampNeg x) a (2, llen lay a, 0, 0) := by
          simp [mkC, sL]
        rw [e3]
        exact wsL_set (S' := sL S a i.toNatClampNeg x) (llen_at h.1) (fun b hb => by simp [sL, hb]) (fun b hb => by simp [sL, hb]) (fun b hb => by simp [sL, hb])
      rw [e2] at hP1 hD1
      exact hk _ _ _ h.2 H1 locs1 ls hP1 hD1 hS1 hl
    all_goals exact h.elim
def o_rget (lay : List Ent) (n b z : Nat) : Op1 := fun k lo st S => match st with
  | .int i :: .ref a :: r => (lay[a]? = some (3, n, b, z) ∧ vp_in i n) ∧ k lo (.ref (b + z * i.toNatClampNeg) :: r) S
  | _ => False
theorem s_aald {lay : List Ent} {cc : ByteArray} {nL : Nat} {own : String} {d pc : Nat} {n b z : Nat} (hd : decode cc pc = .ok (.aaload, 1)) : OS1 lay cc nL own d pc (pc + 1) (o_rget lay n b z) := by
  refine ⟨?_, ?_⟩
  · intro k k' lo st S hk
    unfold o_rget
    split <;> (first | exact hk _ _ _ | exact id | exact fun h => ⟨h.1, hk _ _ _ h.2⟩ | exact fun h => ⟨h.1, h.2.1, hk _ _ _ h.2.2⟩)
  · intro p l e R s m args below meth c D cA ad A ret cs sl Qm k lo st S hR C hk h H locs ls hP hD hS hl
    unfold o_rget at h
    split at h
    · rename_i i a r
      exact va_aldq C.1 C.2.1 C.2.2.2.2.2.2.2.1 hP a 4 (wsL_at h.1.1) rfl h.1.2 hd (hk _ _ _ h.2 H locs ls hP hD hS hl)
    all_goals exact h.elim
def o_alen (lay : List Ent) : Op1 := fun k lo st S => match st with
  | .ref a :: r => lay[a]? = some (1, alen lay 0 a, 0, 0) ∧ k lo (.int (Int32.ofNat (alen lay 0 a)) :: r) S
  | _ => False
def o_llen (lay : List Ent) : Op1 := fun k lo st S => match st with
  | .ref a :: r => lay[a]? = some (2, llen lay a, 0, 0) ∧ k lo (.int (Int32.ofNat (llen lay a)) :: r) S
  | _ => False
theorem s_alen {lay : List Ent} {cc : ByteArray} {nL : Nat} {own : String} {d pc : Nat} (hd : decode cc pc = .ok (.arraylength, 1)) : OS1 lay cc nL own d pc (pc + 1) (o_alen lay) := by
  refine ⟨?_, ?_⟩
  · intro k k' lo st S hk
    unfold o_alen
    split <;> (first | exact hk _ _ _ | exact id | exact fun h => ⟨h.1, hk _ _ _ h.2⟩ | exact fun h => ⟨h.1, h.2.1, hk _ _ _ h.2.2⟩)
  · intro p l e R s m args below meth c D cA ad A ret cs sl Qm k lo st S hR C hk h H locs ls hP hD hS hl
    unfold o_alen at h
    split at h
    · rename_i a r
      exact va_alen C.1 C.2.1 C.2.2.2.2.2.2.2.1 hP a 0 (wsL_at h.1) rfl rfl hd (hk _ _ _ h.2 H locs ls hP hD hS hl)
    all_goals exact h.elim
theorem s_llen {lay : List Ent} {cc : ByteArray} {nL : Nat} {own : String} {d pc : Nat} (hd : decode cc pc = .ok (.arraylength, 1)) : OS1 lay cc nL own d pc (pc + 1) (o_llen lay) := by
  refine ⟨?_, ?_⟩
  · intro k k' lo st S hk
    unfold o_llen
    split <;> (first | exact hk _ _ _ | exact id | exact fun h => ⟨h.1, hk _ _ _ h.2⟩ | exact fun h => ⟨h.1, h.2.1, hk _ _ _ h.2.2⟩)
  · intro p l e R s m args below meth c D cA ad A ret cs sl Qm k lo st S hR C hk h H locs ls hP hD hS hl
    unfold o_llen at h
    split at h
    · rename_i a r
      exact va_alen C.1 C.2.1 C.2.2.2.2.2.2.2.1 hP a 3 (wsL_at h.1) rfl rfl hd (hk _ _ _ h.2 H locs ls hP hD hS hl)
    all_goals exact h.elim
