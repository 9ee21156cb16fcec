def o_push (v : Value) : Op1 := fun k lo st S => k lo (v :: st) S
theorem s_iconst {lay : List Ent} {cc : ByteArray} {nL : Nat} {own : String} {d pc : Nat} {n : Int} {v : Int32} (hd : decode cc pc = .ok (.iconst n, 1)) (hv : Int32.ofInt n = v) : OS1 lay cc nL own d pc (pc + 1) (o_push (.int v)) := by
  refine ⟨fun k k' lo st S hk h => hk _ _ _ h, ?_⟩
  intro p l e R s m args below meth c D cA ad A ret cs sl Qm k lo st S hR C hk h H locs ls hP hD hS hl
  exact lv_iconst C.1 C.2.1 hd hv (hk _ _ _ h H locs ls hP hD hS hl)
theorem s_bipush {lay : List Ent} {cc : ByteArray} {nL : Nat} {own : String} {d pc : Nat} {n : Int} {v : Int32} (hd : decode cc pc = .ok (.bipush n, 2)) (hv : (Int8.ofInt n).toInt32 = v) : OS1 lay cc nL own d pc (pc + 2) (o_push (.int v)) := by
  refine ⟨fun k k' lo st S hk h => hk _ _ _ h, ?_⟩
  intro p l e R s m args below meth c D cA ad A ret cs sl Qm k lo st S hR C hk h H locs ls hP hD hS hl
  exact lv_bipush C.1 C.2.1 hd hv (hk _ _ _ h H locs ls hP hD hS hl)
theorem s_sipush {lay : List Ent} {cc : ByteArray} {nL : Nat} {own : String} {d pc : Nat} {n : Int} {v : Int32} (hd : decode cc pc = .ok (.sipush n, 3)) (hv : (Int16.ofInt n).toInt32 = v) : OS1 lay cc nL own d pc (pc + 3) (o_push (.int v)) := by
  refine ⟨fun k k' lo st S hk h => hk _ _ _ h, ?_⟩
  intro p l e R s m args below meth c D cA ad A ret cs sl Qm k lo st S hR C hk h H locs ls hP hD hS hl
  exact lv_sipush C.1 C.2.1 hd hv (hk _ _ _ h H locs ls hP hD hS hl)
theorem s_lconst {lay : List Ent} {cc : ByteArray} {nL : Nat} {own : String} {d pc : Nat} {n : Fin 2} {v : Int64} (hd : decode cc pc = .ok (.lconst n, 1)) (hv : Int64.ofNat (n : Nat) = v) : OS1 lay cc nL own d pc (pc + 1) (o_push (.long v)) := by
  refine ⟨fun k k' lo st S hk h => hk _ _ _ h, ?_⟩
  intro p l e R s m args below meth c D cA ad A ret cs sl Qm k lo st S hR C hk h H locs ls hP hD hS hl
  exact lv_lconst C.1 C.2.1 hd hv (hk _ _ _ h H locs ls hP hD hS hl)
theorem s_ldc {lay : List Ent} {cc : ByteArray} {nL : Nat} {own : String} {d pc : Nat} {ix : Nat} {v : Int32} (hd : decode cc pc = .ok (.ldc ix, 2)) (hw : Cond.constant own ix v ∈ gw) : OS1 lay cc nL own d pc (pc + 2) (o_push (.int v)) := by
  refine ⟨fun k k' lo st S hk h => hk _ _ _ h, ?_⟩
  intro p l e R s m args below meth c D cA ad A ret cs sl Qm k lo st S hR C hk h H locs ls hP hD hS hl
  exact lv_ldc C.1 C.2.1 C.2.2.2.2.2.1 (C.2.2.2.2.2.2.1 _ hw) hd (hk _ _ _ h H locs ls hP hD hS hl)
theorem s_ldcw {lay : List Ent} {cc : ByteArray} {nL : Nat} {own : String} {d pc : Nat} {ix : Nat} {v : Int32} (hd : decode cc pc = .ok (.ldc_w ix, 3)) (hw : Cond.constant own ix v ∈ gw) : OS1 lay cc nL own d pc (pc + 3) (o_push (.int v)) := by
  refine ⟨fun k k' lo st S hk h => hk _ _ _ h, ?_⟩
  intro p l e R s m args below meth c D cA ad A ret cs sl Qm k lo st S hR C hk h H locs ls hP hD hS hl
  exact lv_ldcw C.1 C.2.1 C.2.2.2.2.2.1 (C.2.2.2.2.2.2.1 _ hw) hd (hk _ _ _ h H locs ls hP hD hS hl)
theorem s_ldc2 {lay : List Ent} {cc : ByteArray} {nL : Nat} {own : String} {d pc : Nat} {ix : Nat} {v : Int64} (hd : decode cc pc = .ok (.ldc2_w ix, 3)) (hw : Cond.constantLong own ix v ∈ gw) : OS1 lay cc nL own d pc (pc + 3) (o_push (.long v)) := by
  refine ⟨fun k k' lo st S hk h => hk _ _ _ h, ?_⟩
  intro p l e R s m args below meth c D cA ad A ret cs sl Qm k lo st S hR C hk h H locs ls hP hD hS hl
  exact lv_ldc2 C.1 C.2.1 C.2.2.2.2.2.1 (C.2.2.2.2.2.2.1 _ hw) hd (hk _ _ _ h H locs ls hP hD hS hl)
def o_ild (i : Nat) : Op1 := fun k lo st S => match lo.lookup i with
  | some (.int x) => k lo (.int x :: st) S
  | _ => False
theorem s_ild_n {lay : List Ent} {cc : ByteArray} {nL : Nat} {own : String} {d pc : Nat} {j : Fin 4} {i : Nat} (hd : decode cc pc = .ok (.iload_n j, 1)) (hi : (j : Nat) = i) : OS1 lay cc nL own d pc (pc + 1) (o_ild i) := by
  refine ⟨?_, ?_⟩
  · intro k k' lo st S hk
    unfold o_ild
    split <;> (first | exact hk _ _ _ | exact id | exact fun h => ⟨h.1, hk _ _ _ h.2⟩ | exact fun h => ⟨h.1, h.2.1, hk _ _ _ h.2.2⟩)
  · intro p l e R s m args below meth c D cA ad A ret cs sl Qm k lo st S hR C hk h H locs ls hP hD hS hl
    unfold o_ild at h
    split at h
    · rename_i hq
      exact lv_iload_n C.1 C.2.1 hd hi (lget hl hq) (hk _ _ _ h H locs ls hP hD hS hl)
    all_goals exact h.elim
theorem s_ild {lay : List Ent} {cc : ByteArray} {nL : Nat} {own : String} {d pc : Nat} {i : Nat} (hd : decode cc pc = .ok (.iload i, 2)) : OS1 lay cc nL own d pc (pc + 2) (o_ild i) := by
  refine ⟨?_, ?_⟩
  · intro k k' lo st S hk
    unfold o_ild
    split <;> (first | exact hk _ _ _ | exact id | exact fun h => ⟨h.1, hk _ _ _ h.2⟩ | exact fun h => ⟨h.1, h.2.1, hk _ _ _ h.2.2⟩)
  · intro p l e R s m args below meth c D cA ad A ret cs sl Qm k lo st S hR C hk h H locs ls hP hD hS hl
    unfold o_ild at h
    split at h
    · rename_i hq
      exact lv_iload C.1 C.2.1 hd (lget hl hq) (hk _ _ _ h H locs ls hP hD hS hl)
    all_goals exact h.elim
def o_lld (i : Nat) : Op1 := fun k lo st S => match lo.lookup i with
  | some (.long x) => k lo (.long x :: st) S
  | _ => False
theorem s_lld_n {lay : List Ent} {cc : ByteArray} {nL : Nat} {own : String} {d pc : Nat} {j : Fin 4} {i : Nat} (hd : decode cc pc = .ok (.lload_n j, 1)) (hi : (j : Nat) = i) : OS1 lay cc nL own d pc (pc + 1) (o_lld i) := by
  refine ⟨?_, ?_⟩
  · intro k k' lo st S hk
    unfold o_lld
    split <;> (first | exact hk _ _ _ | exact id | exact fun h => ⟨h.1, hk _ _ _ h.2⟩ | exact fun h => ⟨h.1, h.2.1, hk _ _ _ h.2.2⟩)
  · intro p l e R s m args below meth c D cA ad A ret cs sl Qm k lo st S hR C hk h H locs ls hP hD hS hl
    unfold o_lld at h
    split at h
    · rename_i hq
      exact lv_lload_n C.1 C.2.1 hd hi (lget hl hq) (hk _ _ _ h H locs ls hP hD hS hl)
    all_goals exact h.elim
theorem s_lld {lay : List Ent} {cc : ByteArray} {nL : Nat} {own : String} {d pc : Nat} {i : Nat} (hd : decode cc pc = .ok (.lload i, 2)) : OS1 lay cc nL own d pc (pc + 2) (o_lld i) := by
  refine ⟨?_, ?_⟩
  · intro k k' lo st S hk
    unfold o_lld
    split <;> (first | exact hk _ _ _ | exact id | exact fun h => ⟨h.1, hk _ _ _ h.2⟩ | exact fun h => ⟨h.1, h.2.1, hk _ _ _ h.2.2⟩)
  · intro p l e R s m args below meth c D cA ad A ret cs sl Qm k lo st S hR C hk h H locs ls hP hD hS hl
    unfold o_lld at h
    split at h
    · rename_i hq
      exact lv_lload C.1 C.2.1 hd (lget hl hq) (hk _ _ _ h H locs ls hP hD hS hl)
    all_goals exact h.elim
def o_ald (i : Nat) : Op1 := fun k lo st S => match lo.lookup i with
  | some (.ref x) => k lo (.ref x :: st) S
  | _ => False
theorem s_ald_n {lay : List Ent} {cc : ByteArray} {nL : Nat} {own : String} {d pc : Nat} {j : Fin 4} {i : Nat} (hd : decode cc pc = .ok (.aload_n j, 1)) (hi : (j : Nat) = i) : OS1 lay cc nL own d pc (pc + 1) (o_ald i) := by
  refine ⟨?_, ?_⟩
  · intro k k' lo st S hk
    unfold o_ald
    split <;> (first | exact hk _ _ _ | exact id | exact fun h => ⟨h.1, hk _ _ _ h.2⟩ | exact fun h => ⟨h.1, h.2.1, hk _ _ _ h.2.2⟩)
  · intro p l e R s m args below meth c D cA ad A ret cs sl Qm k lo st S hR C hk h H locs ls hP hD hS hl
    unfold o_ald at h
    split at h
    · rename_i hq
      exact lv_aload_n C.1 C.2.1 hd hi (lget hl hq) (hk _ _ _ h H locs ls hP hD hS hl)
    all_goals exact h.elim
theorem s_ald {lay : List Ent} {cc : ByteArray} {nL : Nat} {own : String} {d pc : Nat} {i : Nat} (hd : decode cc pc = .ok (.aload i, 2)) : OS1 lay cc nL own d pc (pc + 2) (o_ald i) := by
  refine ⟨?_, ?_⟩
  · intro k k' lo st S hk
    unfold o_ald
    split <;> (first | exact hk _ _ _ | exact id | exact fun h => ⟨h.1, hk _ _ _ h.2⟩ | exact fun h => ⟨h.1, h.2.1, hk _ _ _ h.2.2⟩)
  · intro p l e R s m args below meth c D cA ad A ret cs sl Qm k lo st S hR C hk h H locs ls hP hD hS hl
    unfold o_ald at h
    split at h
    · rename_i hq
      exact lv_aload C.1 C.2.1 hd (lget hl hq) (hk _ _ _ h H locs ls hP hD hS hl)
    all_goals exact h.elim
def o_ist (i : Nat) : Op1 := fun k lo st S => match st with
  | .int x :: r => k (lset i (.int x) lo) r S
  | _ => False
theorem s_ist_n {lay : List Ent} {cc : ByteArray} {nL : Nat} {own : String} {d pc : Nat} {j : Fin 4} {i : Nat} (hd : decode cc pc = .ok (.istore_n j, 1)) (hi : (j : Nat) = i) (hn : i < nL) : OS1 lay cc nL own d pc (pc + 1) (o_ist i) := by
  refine ⟨?_, ?_⟩
  · intro k k' lo st S hk
    unfold o_ist
    split <;> (first | exact hk _ _ _ | exact id | exact fun h => ⟨h.1, hk _ _ _ h.2⟩ | exact fun h => ⟨h.1, h.2.1, hk _ _ _ h.2.2⟩)
  · intro p l e R s m args below meth c D cA ad A ret cs sl Qm k lo st S hR C hk h H locs ls hP hD hS hl
    unfold o_ist at h
    split at h
    · exact lv_istore_n C.1 C.2.1 hd hi hl hn rfl (fun ls' hl' => hk _ _ _ h H locs ls' hP hD hS (lset_has hl'))
    all_goals exact h.elim
theorem s_ist {lay : List Ent} {cc : ByteArray} {nL : Nat} {own : String} {d pc : Nat} {i : Nat} (hd : decode cc pc = .ok (.istore i, 2)) (hn : i < nL) : OS1 lay cc nL own d pc (pc + 2) (o_ist i) := by
  refine ⟨?_, ?_⟩
  · intro k k' lo st S hk
    unfold o_ist
    split <;> (first | exact hk _ _ _ | exact id | exact fun h => ⟨h.1, hk _ _ _ h.2⟩ | exact fun h => ⟨h.1, h.2.1, hk _ _ _ h.2.2⟩)
  · intro p l e R s m args below meth c D cA ad A ret cs sl Qm k lo st S hR C hk h H locs ls hP hD hS hl
    unfold o_ist at h
    split at h
    · exact lv_istore C.1 C.2.1 hd hl hn rfl (fun ls' hl' => hk _ _ _ h H locs ls' hP hD hS (lset_has hl'))
    all_goals exact h.elim
def o_lst (i : Nat) : Op1 := fun k lo st S => match st with
  | .long x :: r => k (lsetL i (.long x) lo) r S
  | _ => False
theorem s_lst_n {lay : List Ent} {cc : ByteArray} {nL : Nat} {own : String} {d pc : Nat} {j : Fin 4} {i : Nat} (hd : decode cc pc = .ok (.lstore_n j, 1)) (hi : (j : Nat) = i) (hn : i + 1 < nL) : OS1 lay cc nL own d pc (pc + 1) (o_lst i) := by
  refine ⟨?_, ?_⟩
  · intro k k' lo st S hk
    unfold o_lst
    split <;> (first | exact hk _ _ _ | exact id | exact fun h => ⟨h.1, hk _ _ _ h.2⟩ | exact fun h => ⟨h.1, h.2.1, hk _ _ _ h.2.2⟩)
  · intro p l e R s m args below meth c D cA ad A ret cs sl Qm k lo st S hR C hk h H locs ls hP hD hS hl
    unfold o_lst at h
    split at h
    · exact lv_lstore_n C.1 C.2.1 hd hi hl hn rfl (fun ls' hl' => hk _ _ _ h H locs ls' hP hD hS (lsetL_has hl'))
    all_goals exact h.elim
theorem s_lst {lay : List Ent} {cc : ByteArray} {nL : Nat} {own : String} {d pc : Nat} {i : Nat} (hd : decode cc pc = .ok (.lstore i, 2)) (hn : i + 1 < nL) : OS1 lay cc nL own d pc (pc + 2) (o_lst i) := by
  refine ⟨?_, ?_⟩
  · intro k k' lo st S hk
    unfold o_lst
    split <;> (first | exact hk _ _ _ | exact id | exact fun h => ⟨h.1, hk _ _ _ h.2⟩ | exact fun h => ⟨h.1, h.2.1, hk _ _ _ h.2.2⟩)
  · intro p l e R s m args below meth c D cA ad A ret cs sl Qm k lo st S hR C hk h H locs ls hP hD hS hl
    unfold o_lst at h
    split at h
    · exact lv_lstore C.1 C.2.1 hd hl hn rfl (fun ls' hl' => hk _ _ _ h H locs ls' hP hD hS (lsetL_has hl'))
    all_goals exact h.elim
def o_ast (i : Nat) : Op1 := fun k lo st S => match st with
  | .ref x :: r => k (lset i (.ref x) lo) r S
  | _ => False
theorem s_ast_n {lay : List Ent} {cc : ByteArray} {nL : Nat} {own : String} {d pc : Nat} {j : Fin 4} {i : Nat} (hd : decode cc pc = .ok (.astore_n j, 1)) (hi : (j : Nat) = i) (hn : i < nL) : OS1 lay cc nL own d pc (pc + 1) (o_ast i) := by
  refine ⟨?_, ?_⟩
  · intro k k' lo st S hk
    unfold o_ast
    split <;> (first | exact hk _ _ _ | exact id | exact fun h => ⟨h.1, hk _ _ _ h.2⟩ | exact fun h => ⟨h.1, h.2.1, hk _ _ _ h.2.2⟩)
  · intro p l e R s m args below meth c D cA ad A ret cs sl Qm k lo st S hR C hk h H locs ls hP hD hS hl
    unfold o_ast at h
    split at h
    · exact lv_astore_n C.1 C.2.1 hd hi hl hn rfl (fun ls' hl' => hk _ _ _ h H locs ls' hP hD hS (lset_has hl'))
    all_goals exact h.elim
theorem s_ast {lay : List Ent} {cc : ByteArray} {nL : Nat} {own : String} {d pc : Nat} {i : Nat} (hd : decode cc pc = .ok (.astore i, 2)) (hn : i < nL) : OS1 lay cc nL own d pc (pc + 2) (o_ast i) := by
  refine ⟨?_, ?_⟩
  · intro k k' lo st S hk
    unfold o_ast
    split <;> (first | exact hk _ _ _ | exact id | exact fun h => ⟨h.1, hk _ _ _ h.2⟩ | exact fun h => ⟨h.1, h.2.1, hk _ _ _ h.2.2⟩)
  · intro p l e R s m args below meth c D cA ad A ret cs sl Qm k lo st S hR C hk h H locs ls hP hD hS hl
    unfold o_ast at h
    split at h
    · exact lv_astore C.1 C.2.1 hd hl hn rfl (fun ls' hl' => hk _ _ _ h H locs ls' hP hD hS (lset_has hl'))
    all_goals exact h.elim
def o_iinc (i : Nat) (n : Int32) : Op1 := fun k lo st S => match lo.lookup i with
  | some (.int x) => k (lset i (.int (x + n)) lo) st S
  | _ => False
theorem s_iinc {lay : List Ent} {cc : ByteArray} {nL : Nat} {own : String} {d pc : Nat} {i : Nat} {n : Int} {v : Int32} (hd : decode cc pc = .ok (.iinc i n, 3)) (hv : Int32.ofInt n = v) (hn : i < nL) : OS1 lay cc nL own d pc (pc + 3) (o_iinc i v) := by
  refine ⟨?_, ?_⟩
  · intro k k' lo st S hk
    unfold o_iinc
    split <;> (first | exact hk _ _ _ | exact id | exact fun h => ⟨h.1, hk _ _ _ h.2⟩ | exact fun h => ⟨h.1, h.2.1, hk _ _ _ h.2.2⟩)
  · intro p l e R s m args below meth c D cA ad A ret cs sl Qm k lo st S hR C hk h H locs ls hP hD hS hl
    unfold o_iinc at h
    split at h
    · rename_i x hq
      obtain ⟨ls', e', h'⟩ := lv_store1 (v := .int (x + v)) hl hn rfl
      have hg := lget hl hq
      intro T hT X
      obtain ⟨t, a, b⟩ := hk _ _ _ h H locs ls' hP hD hS (lset_has h') T hT X
      refine ⟨t, ?_, b⟩
      subst hv
      have hx := C.1
      have hb := C.2.1
      jvm_step X.here [X.here.top, ↓top_set X.here.top, hx, hb, hd, hg, vt, e']
      exact a
    all_goals exact h.elim
def o_ib (f : Int32 → Int32 → Int32) : Op1 := fun k lo st S => match st with
  | .int y :: .int x :: r => k lo (.int (f x y) :: r) S
  | _ => False
theorem s_iadd {lay : List Ent} {cc : ByteArray} {nL : Nat} {own : String} {d pc : Nat} (hd : decode cc pc = .ok (.iadd, 1)) : OS1 lay cc nL own d pc (pc + 1) (o_ib (fun x y => x + y)) := by
  refine ⟨?_, ?_⟩
  · intro k k' lo st S hk
    unfold o_ib
    split <;> (first | exact hk _ _ _ | exact id | exact fun h => ⟨h.1, hk _ _ _ h.2⟩ | exact fun h => ⟨h.1, h.2.1, hk _ _ _ h.2.2⟩)
  · intro p l e R s m args below meth c D cA ad A ret cs sl Qm k lo st S hR C hk h H locs ls hP hD hS hl
    unfold o_ib at h
    split at h
    · exact lv_iadd C.1 C.2.1 hd (hk _ _ _ h H locs ls hP hD hS hl)
    all_goals exact h.elim
theorem s_isub {lay : List Ent} {cc : ByteArray} {nL : Nat} {own : String} {d pc : Nat} (hd : decode cc pc = .ok (.isub, 1)) : OS1 lay cc nL own d pc (pc + 1) (o_ib (fun x y => x - y)) := by
  refine ⟨?_, ?_⟩
  · intro k k' lo st S hk
    unfold o_ib
    split <;> (first | exact hk _ _ _ | exact id | exact fun h => ⟨h.1, hk _ _ _ h.2⟩ | exact fun h => ⟨h.1, h.2.1, hk _ _ _ h.2.2⟩)
  · intro p l e R s m args below meth c D cA ad A ret cs sl Qm k lo st S hR C hk h H locs ls hP hD hS hl
    unfold o_ib at h
    split at h
    · exact lv_isub C.1 C.2.1 hd (hk _ _ _ h H locs ls hP hD hS hl)
    all_goals exact h.elim
theorem s_imul {lay : List Ent} {cc : ByteArray} {nL : Nat} {own : String} {d pc : Nat} (hd : decode cc pc = .ok (.imul, 1)) : OS1 lay cc nL own d pc (pc + 1) (o_ib (fun x y => x * y)) := by
  refine ⟨?_, ?_⟩
  · intro k k' lo st S hk
    unfold o_ib
    split <;> (first | exact hk _ _ _ | exact id | exact fun h => ⟨h.1, hk _ _ _ h.2⟩ | exact fun h => ⟨h.1, h.2.1, hk _ _ _ h.2.2⟩)
  · intro p l e R s m args below meth c D cA ad A ret cs sl Qm k lo st S hR C hk h H locs ls hP hD hS hl
    unfold o_ib at h
    split at h
    · exact lv_imul C.1 C.2.1 hd (hk _ _ _ h H locs ls hP hD hS hl)
    all_goals exact h.elim
theorem s_iand {lay : List Ent} {cc : ByteArray} {nL : Nat} {own : String} {d pc : Nat} (hd : decode cc pc = .ok (.iand, 1)) : OS1 lay cc nL own d pc (pc + 1) (o_ib (fun x y => x &&& y)) := by
  refine ⟨?_, ?_⟩
  · intro k k' lo st S hk
    unfold o_ib
    split <;> (first | exact hk _ _ _ | exact id | exact fun h => ⟨h.1, hk _ _ _ h.2⟩ | exact fun h => ⟨h.1, h.2.1, hk _ _ _ h.2.2⟩)
  · intro p l e R s m args below meth c D cA ad A ret cs sl Qm k lo st S hR C hk h H locs ls hP hD hS hl
    unfold o_ib at h
    split at h
    · exact lv_iand C.1 C.2.1 hd (hk _ _ _ h H locs ls hP hD hS hl)
    all_goals exact h.elim
theorem s_ior {lay : List Ent} {cc : ByteArray} {nL : Nat} {own : String} {d pc : Nat} (hd : decode cc pc = .ok (.ior, 1)) : OS1 lay cc nL own d pc (pc + 1) (o_ib (fun x y => x ||| y)) := by
  refine ⟨?_, ?_⟩
  · intro k k' lo st S hk
    unfold o_ib
    split <;> (first | exact hk _ _ _ | exact id | exact fun h => ⟨h.1, hk _ _ _ h.2⟩ | exact fun h => ⟨h.1, h.2.1, hk _ _ _ h.2.2⟩)
  · intro p l e R s m args below meth c D cA ad A ret cs sl Qm k lo st S hR C hk h H locs ls hP hD hS hl
    unfold o_ib at h
    split at h
    · exact lv_ior C.1 C.2.1 hd (hk _ _ _ h H locs ls hP hD hS hl)
    all_goals exact h.elim
theorem s_ixor {lay : List Ent} {cc : ByteArray} {nL : Nat} {own : String} {d pc : Nat} (hd : decode cc pc = .ok (.ixor, 1)) : OS1 lay cc nL own d pc (pc + 1) (o_ib (fun x y => x ^^^ y)) := by
  refine ⟨?_, ?_⟩
  · intro k k' lo st S hk
    unfold o_ib
    split <;> (first | exact hk _ _ _ | exact id | exact fun h => ⟨h.1, hk _ _ _ h.2⟩ | exact fun h => ⟨h.1, h.2.1, hk _ _ _ h.2.2⟩)
  · intro p l e R s m args below meth c D cA ad A ret cs sl Qm k lo st S hR C hk h H locs ls hP hD hS hl
    unfold o_ib at h
    split at h
    · exact lv_ixor C.1 C.2.1 hd (hk _ _ _ h H locs ls hP hD hS hl)
    all_goals exact h.elim
theorem s_ishl {lay : List Ent} {cc : ByteArray} {nL : Nat} {own : String} {d pc : Nat} (hd : decode cc pc = .ok (.ishl, 1)) : OS1 lay cc nL own d pc (pc + 1) (o_ib (fun x y => x <<< (y &&& 31))) := by
  refine ⟨?_, ?_⟩
  · intro k k' lo st S hk
    unfold o_ib
    split <;> (first | exact hk _ _ _ | exact id | exact fun h => ⟨h.1, hk _ _ _ h.2⟩ | exact fun h => ⟨h.1, h.2.1, hk _ _ _ h.2.2⟩)
  · intro p l e R s m args below meth c D cA ad A ret cs sl Qm k lo st S hR C hk h H locs ls hP hD hS hl
    unfold o_ib at h
    split at h
    · exact lv_ishl C.1 C.2.1 hd (hk _ _ _ h H locs ls hP hD hS hl)
    all_goals exact h.elim
theorem s_ishr {lay : List Ent} {cc : ByteArray} {nL : Nat} {own : String} {d pc : Nat} (hd : decode cc pc = .ok (.ishr, 1)) : OS1 lay cc nL own d pc (pc + 1) (o_ib (fun x y => x >>> (y &&& 31))) := by
  refine ⟨?_, ?_⟩
  · intro k k' lo st S hk
    unfold o_ib
    split <;> (first | exact hk _ _ _ | exact id | exact fun h => ⟨h.1, hk _ _ _ h.2⟩ | exact fun h => ⟨h.1, h.2.1, hk _ _ _ h.2.2⟩)
  · intro p l e R s m args below meth c D cA ad A ret cs sl Qm k lo st S hR C hk h H locs ls hP hD hS hl
    unfold o_ib at h
    split at h
    · exact lv_ishr C.1 C.2.1 hd (hk _ _ _ h H locs ls hP hD hS hl)
    all_goals exact h.elim
theorem s_iushr {lay : List Ent} {cc : ByteArray} {nL : Nat} {own : String} {d pc : Nat} (hd : decode cc pc = .ok (.iushr, 1)) : OS1 lay cc nL own d pc (pc + 1) (o_ib (fun x y => (x.toUInt32 >>> (y.toUInt32 &&& Int32.toUInt32 31)).toInt32)) := by
  refine ⟨?_, ?_⟩
  · intro k k' lo st S hk
    unfold o_ib
    split <;> (first | exact hk _ _ _ | exact id | exact fun h => ⟨h.1, hk _ _ _ h.2⟩ | exact fun h => ⟨h.1, h.2.1, hk _ _ _ h.2.2⟩)
  · intro p l e R s m args below meth c D cA ad A ret cs sl Qm k lo st S hR C hk h H locs ls hP hD hS hl
    unfold o_ib at h
    split at h
    · exact lv_iushr C.1 C.2.1 hd rfl (hk _ _ _ h H locs ls hP hD hS hl)
    all_goals exact h.elim
def o_idiv : Op1 := fun k lo st S => match st with
  | .int y :: .int x :: r => ¬ y = 0 ∧ k lo (.int (x / y) :: r) S
  | _ => False
theorem s_idiv {lay : List Ent} {cc : ByteArray} {nL : Nat} {own : String} {d pc : Nat} (hd : decode cc pc = .ok (.idiv, 1)) : OS1 lay cc nL own d pc (pc + 1) (o_idiv) := by
  refine ⟨?_, ?_⟩
  · intro k k' lo st S hk
    unfold o_idiv
    split <;> (first | exact hk _ _ _ | exact id | exact fun h => ⟨h.1, hk _ _ _ h.2⟩ | exact fun h => ⟨h.1, h.2.1, hk _ _ _ h.2.2⟩)
  · intro p l e R s m args below meth c D cA ad A ret cs sl Qm k lo st S hR C hk h H locs ls hP hD hS hl
    unfold o_idiv at h
    split at h
    · exact lv_idiv C.1 C.2.1 hd h.1 (hk _ _ _ h.2 H locs ls hP hD hS hl)
    all_goals exact h.elim
def o_irem : Op1 := fun k lo st S => match st with
  | .int y :: .int x :: r => ¬ y = 0 ∧ k lo (.int (x - x / y * y) :: r) S
  | _ => False
theorem s_irem {lay : List Ent} {cc : ByteArray} {nL : Nat} {own : String} {d pc : Nat} (hd : decode cc pc = .ok (.irem, 1)) : OS1 lay cc nL own d pc (pc + 1) (o_irem) := by
  refine ⟨?_, ?_⟩
  · intro k k' lo st S hk
    unfold o_irem
    split <;> (first | exact hk _ _ _ | exact id | exact fun h => ⟨h.1, hk _ _ _ h.2⟩ | exact fun h => ⟨h.1, h.2.1, hk _ _ _ h.2.2⟩)
  · intro p l e R s m args below meth c D cA ad A ret cs sl Qm k lo st S hR C hk h H locs ls hP hD hS hl
    unfold o_irem at h
    split at h
    · exact lv_irem C.1 C.2.1 hd h.1 (hk _ _ _ h.2 H locs ls hP hD hS hl)
    all_goals exact h.elim
def o_lb (f : Int64 → Int64 → Int64) : Op1 := fun k lo st S => match st with
  | .long y :: .long x :: r => k lo (.long (f x y) :: r) S
  | _ => False
theorem s_ladd {lay : List Ent} {cc : ByteArray} {nL : Nat} {own : String} {d pc : Nat} (hd : decode cc pc = .ok (.ladd, 1)) : OS1 lay cc nL own d pc (pc + 1) (o_lb (fun x y => x + y)) := by
  refine ⟨?_, ?_⟩
  · intro k k' lo st S hk
    unfold o_lb
    split <;> (first | exact hk _ _ _ | exact id | exact fun h => ⟨h.1, hk _ _ _ h.2⟩ | exact fun h => ⟨h.1, h.2.1, hk _ _ _ h.2.2⟩)
  · intro p l e R s m args below meth c D cA ad A ret cs sl Qm k lo st S hR C hk h H locs ls hP hD hS hl
    unfold o_lb at h
    split at h
    · exact lv_ladd C.1 C.2.1 hd (hk _ _ _ h H locs ls hP hD hS hl)
    all_goals exact h.elim
theorem s_lmul {lay : List Ent} {cc : ByteArray} {nL : Nat} {own : String} {d pc : Nat} (hd : decode cc pc = .ok (.lmul, 1)) : OS1 lay cc nL own d pc (pc + 1) (o_lb (fun x y => x * y)) := by
  refine ⟨?_, ?_⟩
  · intro k k' lo st S hk
    unfold o_lb
    split <;> (first | exact hk _ _ _ | exact id | exact fun h => ⟨h.1, hk _ _ _ h.2⟩ | exact fun h => ⟨h.1, h.2.1, hk _ _ _ h.2.2⟩)
  · intro p l e R s m args below meth c D cA ad A ret cs sl Qm k lo st S hR C hk h H locs ls hP hD hS hl
    unfold o_lb at h
    split at h
    · exact lv_lmul C.1 C.2.1 hd (hk _ _ _ h H locs ls hP hD hS hl)
    all_goals exact h.elim
theorem s_land {lay : List Ent} {cc : ByteArray} {nL : Nat} {own : String} {d pc : Nat} (hd : decode cc pc = .ok (.land, 1)) : OS1 lay cc nL own d pc (pc + 1) (o_lb (fun x y => x &&& y)) := by
  refine ⟨?_, ?_⟩
  · intro k k' lo st S hk
    unfold o_lb
    split <;> (first | exact hk _ _ _ | exact id | exact fun h => ⟨h.1, hk _ _ _ h.2⟩ | exact fun h => ⟨h.1, h.2.1, hk _ _ _ h.2.2⟩)
  · intro p l e R s m args below meth c D cA ad A ret cs sl Qm k lo st S hR C hk h H locs ls hP hD hS hl
    unfold o_lb at h
    split at h
    · exact lv_land C.1 C.2.1 hd (hk _ _ _ h H locs ls hP hD hS hl)
    all_goals exact h.elim
theorem s_lor {lay : List Ent} {cc : ByteArray} {nL : Nat} {own : String} {d pc : Nat} (hd : decode cc pc = .ok (.lor, 1)) : OS1 lay cc nL own d pc (pc + 1) (o_lb (fun x y => x ||| y)) := by
  refine ⟨?_, ?_⟩
  · intro k k' lo st S hk
    unfold o_lb
    split <;> (first | exact hk _ _ _ | exact id | exact fun h => ⟨h.1, hk _ _ _ h.2⟩ | exact fun h => ⟨h.1, h.2.1, hk _ _ _ h.2.2⟩)
  · intro p l e R s m args below meth c D cA ad A ret cs sl Qm k lo st S hR C hk h H locs ls hP hD hS hl
    unfold o_lb at h
    split at h
    · exact lv_lor C.1 C.2.1 hd (hk _ _ _ h H locs ls hP hD hS hl)
    all_goals exact h.elim
def o_lsh (f : Int64 → Int32 → Int64) : Op1 := fun k lo st S => match st with
  | .int y :: .long x :: r => k lo (.long (f x y) :: r) S
  | _ => False
theorem s_lshl {lay : List Ent} {cc : ByteArray} {nL : Nat} {own : String} {d pc : Nat} (hd : decode cc pc = .ok (.lshl, 1)) : OS1 lay cc nL own d pc (pc + 1) (o_lsh (fun x y => x <<< (y.toInt64 &&& 63))) := by
  refine ⟨?_, ?_⟩
  · intro k k' lo st S hk
    unfold o_lsh
    split <;> (first | exact hk _ _ _ | exact id | exact fun h => ⟨h.1, hk _ _ _ h.2⟩ | exact fun h => ⟨h.1, h.2.1, hk _ _ _ h.2.2⟩)
  · intro p l e R s m args below meth c D cA ad A ret cs sl Qm k lo st S hR C hk h H locs ls hP hD hS hl
    unfold o_lsh at h
    split at h
    · exact lv_lshl C.1 C.2.1 hd rfl (hk _ _ _ h H locs ls hP hD hS hl)
    all_goals exact h.elim
theorem s_lshr {lay : List Ent} {cc : ByteArray} {nL : Nat} {own : String} {d pc : Nat} (hd : decode cc pc = .ok (.lshr, 1)) : OS1 lay cc nL own d pc (pc + 1) (o_lsh (fun x y => x >>> (y.toInt64 &&& 63))) := by
  refine ⟨?_, ?_⟩
  · intro k k' lo st S hk
    unfold o_lsh
    split <;> (first | exact hk _ _ _ | exact id | exact fun h => ⟨h.1, hk _ _ _ h.2⟩ | exact fun h => ⟨h.1, h.2.1, hk _ _ _ h.2.2⟩)
  · intro p l e R s m args below meth c D cA ad A ret cs sl Qm k lo st S hR C hk h H locs ls hP hD hS hl
    unfold o_lsh at h
    split at h
    · exact lv_lshr C.1 C.2.1 hd rfl (hk _ _ _ h H locs ls hP hD hS hl)
    all_goals exact h.elim
theorem s_lushr {lay : List Ent} {cc : ByteArray} {nL : Nat} {own : String} {d pc : Nat} (hd : decode cc pc = .ok (.lushr, 1)) : OS1 lay cc nL own d pc (pc + 1) (o_lsh (fun x y => (x.toUInt64 >>> (y.toInt64.toUInt64 &&& Int64.toUInt64 63)).toInt64)) := by
  refine ⟨?_, ?_⟩
  · intro k k' lo st S hk
    unfold o_lsh
    split <;> (first | exact hk _ _ _ | exact id | exact fun h => ⟨h.1, hk _ _ _ h.2⟩ | exact fun h => ⟨h.1, h.2.1, hk _ _ _ h.2.2⟩)
  · intro p l e R s m args below meth c D cA ad A ret cs sl Qm k lo st S hR C hk h H locs ls hP hD hS hl
    unfold o_lsh at h
    split at h
    · exact lv_lushr C.1 C.2.1 hd rfl (hk _ _ _ h H locs ls hP hD hS hl)
    all_goals exact h.elim
def o_iu (f : Int32 → Int32) : Op1 := fun k lo st S => match st with
  | .int x :: r => k lo (.int (f x) :: r) S
  | _ => False
theorem s_ineg {lay : List Ent} {cc : ByteArray} {nL : Nat} {own : String} {d pc : Nat} (hd : decode cc pc = .ok (.ineg, 1)) : OS1 lay cc nL own d pc (pc + 1) (o_iu (fun x => -x)) := by
  refine ⟨?_, ?_⟩
  · intro k k' lo st S hk
    unfold o_iu
    split <;> (first | exact hk _ _ _ | exact id | exact fun h => ⟨h.1, hk _ _ _ h.2⟩ | exact fun h => ⟨h.1, h.2.1, hk _ _ _ h.2.2⟩)
  · intro p l e R s m args below meth c D cA ad A ret cs sl Qm k lo st S hR C hk h H locs ls hP hD hS hl
    unfold o_iu at h
    split at h
    · exact lv_ineg C.1 C.2.1 hd (hk _ _ _ h H locs ls hP hD hS hl)
    all_goals exact h.elim
theorem s_i2b {lay : List Ent} {cc : ByteArray} {nL : Nat} {own : String} {d pc : Nat} (hd : decode cc pc = .ok (.i2b, 1)) : OS1 lay cc nL own d pc (pc + 1) (o_iu (fun x => x.toInt8.toInt32)) := by
  refine ⟨?_, ?_⟩
  · intro k k' lo st S hk
    unfold o_iu
    split <;> (first | exact hk _ _ _ | exact id | exact fun h => ⟨h.1, hk _ _ _ h.2⟩ | exact fun h => ⟨h.1, h.2.1, hk _ _ _ h.2.2⟩)
  · intro p l e R s m args below meth c D cA ad A ret cs sl Qm k lo st S hR C hk h H locs ls hP hD hS hl
    unfold o_iu at h
    split at h
    · exact lv_i2b C.1 C.2.1 hd rfl (hk _ _ _ h H locs ls hP hD hS hl)
    all_goals exact h.elim
theorem s_i2c {lay : List Ent} {cc : ByteArray} {nL : Nat} {own : String} {d pc : Nat} (hd : decode cc pc = .ok (.i2c, 1)) : OS1 lay cc nL own d pc (pc + 1) (o_iu (fun x => (x.toUInt32 % 65536).toInt32)) := by
  refine ⟨?_, ?_⟩
  · intro k k' lo st S hk
    unfold o_iu
    split <;> (first | exact hk _ _ _ | exact id | exact fun h => ⟨h.1, hk _ _ _ h.2⟩ | exact fun h => ⟨h.1, h.2.1, hk _ _ _ h.2.2⟩)
  · intro p l e R s m args below meth c D cA ad A ret cs sl Qm k lo st S hR C hk h H locs ls hP hD hS hl
    unfold o_iu at h
    split at h
    · exact lv_i2c C.1 C.2.1 hd rfl (hk _ _ _ h H locs ls hP hD hS hl)
    all_goals exact h.elim
def o_i2l : Op1 := fun k lo st S => match st with
  | .int x :: r => k lo (.long x.toInt64 :: r) S
  | _ => False
theorem s_i2l {lay : List Ent} {cc : ByteArray} {nL : Nat} {own : String} {d pc : Nat} (hd : decode cc pc = .ok (.i2l, 1)) : OS1 lay cc nL own d pc (pc + 1) (o_i2l) := by
  refine ⟨?_, ?_⟩
  · intro k k' lo st S hk
    unfold o_i2l
    split <;> (first | exact hk _ _ _ | exact id | exact fun h => ⟨h.1, hk _ _ _ h.2⟩ | exact fun h => ⟨h.1, h.2.1, hk _ _ _ h.2.2⟩)
  · intro p l e R s m args below meth c D cA ad A ret cs sl Qm k lo st S hR C hk h H locs ls hP hD hS hl
    unfold o_i2l at h
    split at h
    · exact lv_i2l C.1 C.2.1 hd rfl (hk _ _ _ h H locs ls hP hD hS hl)
    all_goals exact h.elim
def o_l2i : Op1 := fun k lo st S => match st with
  | .long x :: r => k lo (.int x.toInt32 :: r) S
  | _ => False
theorem s_l2i {lay : List Ent} {cc : ByteArray} {nL : Nat} {own : String} {d pc : Nat} (hd : decode cc pc = .ok (.l2i, 1)) : OS1 lay cc nL own d pc (pc + 1) (o_l2i) := by
  refine ⟨?_, ?_⟩
  · intro k k' lo st S hk
    unfold o_l2i
    split <;> (first | exact hk _ _ _ | exact id | exact fun h => ⟨h.1, hk _ _ _ h.2⟩ | exact fun h => ⟨h.1, h.2.1, hk _ _ _ h.2.2⟩)
  · intro p l e R s m args below meth c D cA ad A ret cs sl Qm k lo st S hR C hk h H locs ls hP hD hS hl
    unfold o_l2i at h
    split at h
    · exact lv_l2i C.1 C.2.1 hd rfl (hk _ _ _ h H locs ls hP hD hS hl)
    all_goals exact h.elim
def o_dup : Op1 := fun k lo st S => match st with
  | .int x :: r => k lo (.int x :: .int x :: r) S
  | .ref x :: r => k lo (.ref x :: .ref x :: r) S
  | _ => False
theorem s_dup {lay : List Ent} {cc : ByteArray} {nL : Nat} {own : String} {d pc : Nat} (hd : decode cc pc = .ok (.dup, 1)) : OS1 lay cc nL own d pc (pc + 1) (o_dup) := by
  refine ⟨?_, ?_⟩
  · intro k k' lo st S hk
    unfold o_dup
    split <;> (first | exact hk _ _ _ | exact id | exact fun h => ⟨h.1, hk _ _ _ h.2⟩ | exact fun h => ⟨h.1, h.2.1, hk _ _ _ h.2.2⟩)
  · intro p l e R s m args below meth c D cA ad A ret cs sl Qm k lo st S hR C hk h H locs ls hP hD hS hl
    unfold o_dup at h
    split at h
    · exact lv_dup (va := .int _) C.1 C.2.1 hd rfl (hk _ _ _ h H locs ls hP hD hS hl)
    · exact lv_dup (va := .ref _) C.1 C.2.1 hd rfl (hk _ _ _ h H locs ls hP hD hS hl)
    all_goals exact h.elim
def o_dup2 : Op1 := fun k lo st S => match st with
  | .int x :: .ref y :: r => k lo (.int x :: .ref y :: .int x :: .ref y :: r) S
  | _ => False
theorem s_dup2 {lay : List Ent} {cc : ByteArray} {nL : Nat} {own : String} {d pc : Nat} (hd : decode cc pc = .ok (.dup2, 1)) : OS1 lay cc nL own d pc (pc + 1) (o_dup2) := by
  refine ⟨?_, ?_⟩
  · intro k k' lo st S hk
    unfold o_dup2
    split <;> (first | exact hk _ _ _ | exact id | exact fun h => ⟨h.1, hk _ _ _ h.2⟩ | exact fun h => ⟨h.1, h.2.1, hk _ _ _ h.2.2⟩)
  · intro p l e R s m args below meth c D cA ad A ret cs sl Qm k lo st S hR C hk h H locs ls hP hD hS hl
    unfold o_dup2 at h
    split at h
    · exact lv_dup2_11 (va := .int _) (vb := .ref _) C.1 C.2.1 hd rfl rfl (hk _ _ _ h H locs ls hP hD hS hl)
    all_goals exact h.elim
def o_pop : Op1 := fun k lo st S => match st with
  | .int _ :: r => k lo r S
  | _ => False
theorem s_pop {lay : List Ent} {cc : ByteArray} {nL : Nat} {own : String} {d pc : Nat} (hd : decode cc pc = .ok (.pop, 1)) : OS1 lay cc nL own d pc (pc + 1) (o_pop) := by
  refine ⟨?_, ?_⟩
  · intro k k' lo st S hk
    unfold o_pop
    split <;> (first | exact hk _ _ _ | exact id | exact fun h => ⟨h.1, hk _ _ _ h.2⟩ | exact fun h => ⟨h.1, h.2.1, hk _ _ _ h.2.2⟩)
  · intro p l e R s m args below meth c D cA ad A ret cs sl Qm k lo st S hR C hk h H locs ls hP hD hS hl
    unfold o_pop at h
    split at h
    · exact lv_pop (va := .int _) C.1 C.2.1 hd rfl (hk _ _ _ h H locs ls hP hD hS hl)
    all_goals exact h.elim
def t_go (ks : List Nat) (tg : Nat) : Opn := fun K _ lo st S => K tg (keepL ks lo) st S
theorem s_goto {lay : List Ent} {cc : ByteArray} {nL : Nat} {own : String} {d pc : Nat} {ks : List Nat} {tg : Nat} {off : Int} (hd : decode cc pc = .ok (.goto off, 3)) (ht : (pc : Int) + off = (tg : Int)) : OSg lay cc nL own d pc (t_go ks tg) := by
  refine ⟨fun K K' Q Q' lo st S hK h => hK _ _ _ _ h, ?_⟩
  intro p l e R s m args below meth c D cA ad A ret cs sl Qm Q K lo st S hR C hk h H locs ls hP hD hS hl
  exact lv_goto C.1 C.2.1 hd ht (hk _ _ _ _ h H locs ls hP hD hS (keepL_has hl))
theorem s_fall {lay : List Ent} {cc : ByteArray} {nL : Nat} {own : String} {d pc : Nat} {ks : List Nat} : OSg lay cc nL own d pc (t_go ks pc) := by
  refine ⟨fun K K' Q Q' lo st S hK h => hK _ _ _ _ h, ?_⟩
  intro p l e R s m args below meth c D cA ad A ret cs sl Qm Q K lo st S hR C hk h H locs ls hP hD hS hl
  exact hk _ _ _ _ h H locs ls hP hD hS (keepL_has hl)
def t_if1 (q : Int32 → Prop) (ka : List Nat) (ta : Nat) (kb : List Nat) (tb : Nat) : Opn := fun K _ lo st S => match st with
  | .int x :: r => (q x → K ta (keepL ka lo) r S) ∧ (¬ q x → K tb (keepL kb lo) r S)
  | _ => False
def t_if2 (q : Int32 → Int32 → Prop) (ka : List Nat) (ta : Nat) (kb : List Nat) (tb : Nat) : Opn := fun K _ lo st S => match st with
  | .int y :: .int x :: r => (q x y → K ta (keepL ka lo) r S) ∧ (¬ q x y → K tb (keepL kb lo) r S)
  | _ => False
theorem s_ifeq {lay : List Ent} {cc : ByteArray} {nL : Nat} {own : String} {d pc : Nat} {ka kb : List Nat} {tg : Nat} {off : Int} (hd : decode cc pc = .ok (.ifCond .eq off, 3)) (ht : (pc : Int) + off = (tg : Int)) : OSg lay cc nL own d pc (t_if1 (fun x => x = 0) ka tg kb (pc + 3)) := by
  refine ⟨?_, ?_⟩
  · intro K K' Q Q' lo st S hK
    unfold t_if1
    split
    · exact fun h => ⟨fun c => hK _ _ _ _ (h.1 c), fun c => hK _ _ _ _ (h.2 c)⟩
    all_goals exact id
  · intro p l e R s m args below meth c D cA ad A ret cs sl Qm Q K lo st S hR C hk h H locs ls hP hD hS hl
    unfold t_if1 at h
    split at h
    · exact lv_if_eq C.1 C.2.1 hd ht (fun c => hk _ _ _ _ (h.1 c) H locs ls hP hD hS (keepL_has hl)) (fun c => hk _ _ _ _ (h.2 c) H locs ls hP hD hS (keepL_has hl))
    all_goals exact h.elim
theorem s_iflt {lay : List Ent} {cc : ByteArray} {nL : Nat} {own : String} {d pc : Nat} {ka kb : List Nat} {tg : Nat} {off : Int} (hd : decode cc pc = .ok (.ifCond .lt off, 3)) (ht : (pc : Int) + off = (tg : Int)) : OSg lay cc nL own d pc (t_if1 (fun x => x < 0) ka tg kb (pc + 3)) := by
  refine ⟨?_, ?_⟩
  · intro K K' Q Q' lo st S hK
    unfold t_if1
    split
    · exact fun h => ⟨fun c => hK _ _ _ _ (h.1 c), fun c => hK _ _ _ _ (h.2 c)⟩
    all_goals exact id
  · intro p l e R s m args below meth c D cA ad A ret cs sl Qm Q K lo st S hR C hk h H locs ls hP hD hS hl
    unfold t_if1 at h
    split at h
    · exact lv_if_lt C.1 C.2.1 hd ht (fun c => hk _ _ _ _ (h.1 c) H locs ls hP hD hS (keepL_has hl)) (fun c => hk _ _ _ _ (h.2 c) H locs ls hP hD hS (keepL_has hl))
    all_goals exact h.elim
theorem s_ifge {lay : List Ent} {cc : ByteArray} {nL : Nat} {own : String} {d pc : Nat} {ka kb : List Nat} {tg : Nat} {off : Int} (hd : decode cc pc = .ok (.ifCond .ge off, 3)) (ht : (pc : Int) + off = (tg : Int)) : OSg lay cc nL own d pc (t_if1 (fun x => 0 ≤ x) ka tg kb (pc + 3)) := by
  refine ⟨?_, ?_⟩
  · intro K K' Q Q' lo st S hK
    unfold t_if1
    split
    · exact fun h => ⟨fun c => hK _ _ _ _ (h.1 c), fun c => hK _ _ _ _ (h.2 c)⟩
    all_goals exact id
  · intro p l e R s m args below meth c D cA ad A ret cs sl Qm Q K lo st S hR C hk h H locs ls hP hD hS hl
    unfold t_if1 at h
    split at h
    · exact lv_if_ge C.1 C.2.1 hd ht (fun c => hk _ _ _ _ (h.1 c) H locs ls hP hD hS (keepL_has hl)) (fun c => hk _ _ _ _ (h.2 c) H locs ls hP hD hS (keepL_has hl))
    all_goals exact h.elim
theorem s_ifgt {lay : List Ent} {cc : ByteArray} {nL : Nat} {own : String} {d pc : Nat} {ka kb : List Nat} {tg : Nat} {off : Int} (hd : decode cc pc = .ok (.ifCond .gt off, 3)) (ht : (pc : Int) + off = (tg : Int)) : OSg lay cc nL own d pc (t_if1 (fun x => 0 < x) ka tg kb (pc + 3)) := by
  refine ⟨?_, ?_⟩
  · intro K K' Q Q' lo st S hK
    unfold t_if1
    split
    · exact fun h => ⟨fun c => hK _ _ _ _ (h.1 c), fun c => hK _ _ _ _ (h.2 c)⟩
    all_goals exact id
  · intro p l e R s m args below meth c D cA ad A ret cs sl Qm Q K lo st S hR C hk h H locs ls hP hD hS hl
    unfold t_if1 at h
    split at h
    · exact lv_if_gt C.1 C.2.1 hd ht (fun c => hk _ _ _ _ (h.1 c) H locs ls hP hD hS (keepL_has hl)) (fun c => hk _ _ _ _ (h.2 c) H locs ls hP hD hS (keepL_has hl))
    all_goals exact h.elim
theorem s_ifle {lay : List Ent} {cc : ByteArray} {nL : Nat} {own : String} {d pc : Nat} {ka kb : List Nat} {tg : Nat} {off : Int} (hd : decode cc pc = .ok (.ifCond .le off, 3)) (ht : (pc : Int) + off = (tg : Int)) : OSg lay cc nL own d pc (t_if1 (fun x => x ≤ 0) ka tg kb (pc + 3)) := by
  refine ⟨?_, ?_⟩
  · intro K K' Q Q' lo st S hK
    unfold t_if1
    split
    · exact fun h => ⟨fun c => hK _ _ _ _ (h.1 c), fun c => hK _ _ _ _ (h.2 c)⟩
    all_goals exact id
  · intro p l e R s m args below meth c D cA ad A ret cs sl Qm Q K lo st S hR C hk h H locs ls hP hD hS hl
    unfold t_if1 at h
    split at h
    · exact lv_if_le C.1 C.2.1 hd ht (fun c => hk _ _ _ _ (h.1 c) H locs ls hP hD hS (keepL_has hl)) (fun c => hk _ _ _ _ (h.2 c) H locs ls hP hD hS (keepL_has hl))
    all_goals exact h.elim
theorem s_ifne {lay : List Ent} {cc : ByteArray} {nL : Nat} {own : String} {d pc : Nat} {ka kb : List Nat} {tg : Nat} {off : Int} (hd : decode cc pc = .ok (.ifCond .ne off, 3)) (ht : (pc : Int) + off = (tg : Int)) : OSg lay cc nL own d pc (t_if1 (fun x => x = 0) ka (pc + 3) kb tg) := by
  refine ⟨?_, ?_⟩
  · intro K K' Q Q' lo st S hK
    unfold t_if1
    split
    · exact fun h => ⟨fun c => hK _ _ _ _ (h.1 c), fun c => hK _ _ _ _ (h.2 c)⟩
    all_goals exact id
  · intro p l e R s m args below meth c D cA ad A ret cs sl Qm Q K lo st S hR C hk h H locs ls hP hD hS hl
    unfold t_if1 at h
    split at h
    · exact lv_if_ne C.1 C.2.1 hd ht (fun c => hk _ _ _ _ (h.2 c) H locs ls hP hD hS (keepL_has hl)) (fun c => hk _ _ _ _ (h.1 c) H locs ls hP hD hS (keepL_has hl))
    all_goals exact h.elim
theorem s_icmpeq {lay : List Ent} {cc : ByteArray} {nL : Nat} {own : String} {d pc : Nat} {ka kb : List Nat} {tg : Nat} {off : Int} (hd : decode cc pc = .ok (.if_icmp .eq off, 3)) (ht : (pc : Int) + off = (tg : Int)) : OSg lay cc nL own d pc (t_if2 (fun x y => x = y) ka tg kb (pc + 3)) := by
  refine ⟨?_, ?_⟩
  · intro K K' Q Q' lo st S hK
    unfold t_if2
    split
    · exact fun h => ⟨fun c => hK _ _ _ _ (h.1 c), fun c => hK _ _ _ _ (h.2 c)⟩
    all_goals exact id
  · intro p l e R s m args below meth c D cA ad A ret cs sl Qm Q K lo st S hR C hk h H locs ls hP hD hS hl
    unfold t_if2 at h
    split at h
    · exact lv_icmp_eq C.1 C.2.1 hd ht (fun c => hk _ _ _ _ (h.1 c) H locs ls hP hD hS (keepL_has hl)) (fun c => hk _ _ _ _ (h.2 c) H locs ls hP hD hS (keepL_has hl))
    all_goals exact h.elim
theorem s_icmplt {lay : List Ent} {cc : ByteArray} {nL : Nat} {own : String} {d pc : Nat} {ka kb : List Nat} {tg : Nat} {off : Int} (hd : decode cc pc = .ok (.if_icmp .lt off, 3)) (ht : (pc : Int) + off = (tg : Int)) : OSg lay cc nL own d pc (t_if2 (fun x y => x < y) ka tg kb (pc + 3)) := by
  refine ⟨?_, ?_⟩
  · intro K K' Q Q' lo st S hK
    unfold t_if2
    split
    · exact fun h => ⟨fun c => hK _ _ _ _ (h.1 c), fun c => hK _ _ _ _ (h.2 c)⟩
    all_goals exact id
  · intro p l e R s m args below meth c D cA ad A ret cs sl Qm Q K lo st S hR C hk h H locs ls hP hD hS hl
    unfold t_if2 at h
    split at h
    · exact lv_icmp_lt C.1 C.2.1 hd ht (fun c => hk _ _ _ _ (h.1 c) H locs ls hP hD hS (keepL_has hl)) (fun c => hk _ _ _ _ (h.2 c) H locs ls hP hD hS (keepL_has hl))
    all_goals exact h.elim
theorem s_icmpge {lay : List Ent} {cc : ByteArray} {nL : Nat} {own : String} {d pc : Nat} {ka kb : List Nat} {tg : Nat} {off : Int} (hd : decode cc pc = .ok (.if_icmp .ge off, 3)) (ht : (pc : Int) + off = (tg : Int)) : OSg lay cc nL own d pc (t_if2 (fun x y => y ≤ x) ka tg kb (pc + 3)) := by
  refine ⟨?_, ?_⟩
  · intro K K' Q Q' lo st S hK
    unfold t_if2
    split
    · exact fun h => ⟨fun c => hK _ _ _ _ (h.1 c), fun c => hK _ _ _ _ (h.2 c)⟩
    all_goals exact id
  · intro p l e R s m args below meth c D cA ad A ret cs sl Qm Q K lo st S hR C hk h H locs ls hP hD hS hl
    unfold t_if2 at h
    split at h
    · exact lv_icmp_ge C.1 C.2.1 hd ht (fun c => hk _ _ _ _ (h.1 c) H locs ls hP hD hS (keepL_has hl)) (fun c => hk _ _ _ _ (h.2 c) H locs ls hP hD hS (keepL_has hl))
    all_goals exact h.elim
theorem s_icmpgt {lay : List Ent} {cc : ByteArray} {nL : Nat} {own : String} {d pc : Nat} {ka kb : List Nat} {tg : Nat} {off : Int} (hd : decode cc pc = .ok (.if_icmp .gt off, 3)) (ht : (pc : Int) + off = (tg : Int)) : OSg lay cc nL own d pc (t_if2 (fun x y => y < x) ka tg kb (pc + 3)) := by
  refine ⟨?_, ?_⟩
  · intro K K' Q Q' lo st S hK
    unfold t_if2
    split
    · exact fun h => ⟨fun c => hK _ _ _ _ (h.1 c), fun c => hK _ _ _ _ (h.2 c)⟩
    all_goals exact id
  · intro p l e R s m args below meth c D cA ad A ret cs sl Qm Q K lo st S hR C hk h H locs ls hP hD hS hl
    unfold t_if2 at h
    split at h
    · exact lv_icmp_gt C.1 C.2.1 hd ht (fun c => hk _ _ _ _ (h.1 c) H locs ls hP hD hS (keepL_has hl)) (fun c => hk _ _ _ _ (h.2 c) H locs ls hP hD hS (keepL_has hl))
    all_goals exact h.elim
theorem s_icmple {lay : List Ent} {cc : ByteArray} {nL : Nat} {own : String} {d pc : Nat} {ka kb : List Nat} {tg : Nat} {off : Int} (hd : decode cc pc = .ok (.if_icmp .le off, 3)) (ht : (pc : Int) + off = (tg : Int)) : OSg lay cc nL own d pc (t_if2 (fun x y => x ≤ y) ka tg kb (pc + 3)) := by
  refine ⟨?_, ?_⟩
  · intro K K' Q Q' lo st S hK
    unfold t_if2
    split
    · exact fun h => ⟨fun c => hK _ _ _ _ (h.1 c), fun c => hK _ _ _ _ (h.2 c)⟩
    all_goals exact id
  · intro p l e R s m args below meth c D cA ad A ret cs sl Qm Q K lo st S hR C hk h H locs ls hP hD hS hl
    unfold t_if2 at h
    split at h
    · exact lv_icmp_le C.1 C.2.1 hd ht (fun c => hk _ _ _ _ (h.1 c) H locs ls hP hD hS (keepL_has hl)) (fun c => hk _ _ _ _ (h.2 c) H locs ls hP hD hS (keepL_has hl))
    all_goals exact h.elim
theorem s_icmpne {lay : List Ent} {cc : ByteArray} {nL : Nat} {own : String} {d pc : Nat} {ka kb : List Nat} {tg : Nat} {off : Int} (hd : decode cc pc = .ok (.if_icmp .ne off, 3)) (ht : (pc : Int) + off = (tg : Int)) : OSg lay cc nL own d pc (t_if2 (fun x y => x = y) ka (pc + 3) kb tg) := by
  refine ⟨?_, ?_⟩
  · intro K K' Q Q' lo st S hK
    unfold t_if2
    split
    · exact fun h => ⟨fun c => hK _ _ _ _ (h.1 c), fun c => hK _ _ _ _ (h.2 c)⟩
    all_goals exact id
  · intro p l e R s m args below meth c D cA ad A ret cs sl Qm Q K lo st S hR C hk h H locs ls hP hD hS hl
    unfold t_if2 at h
    split at h
    · exact lv_icmp_ne C.1 C.2.1 hd ht (fun c => hk _ _ _ _ (h.2 c) H locs ls hP hD hS (keepL_has hl)) (fun c => hk _ _ _ _ (h.1 c) H locs ls hP hD hS (keepL_has hl))
    all_goals exact h.elim
def t_iret : Opn := fun _ Q _ st S => match st with
  | [.int v] => Q (some (.int v)) S
  | _ => False
theorem s_iret {lay : List Ent} {cc : ByteArray} {nL : Nat} {own : String} {d pc : Nat} (hd : decode cc pc = .ok (.ireturn, 1)) : OSn lay cc nL own (some .int) d pc (t_iret) := by
  refine ⟨?_, ?_⟩
  · intro K K' Q Q' lo st S hK hQ
    unfold t_iret
    split
    · exact hQ _ _
    all_goals exact id
  · intro p l e s m args below meth c D cA ad A Q K lo st S C hk h H locs ls hP hD hS hl
    unfold t_iret at h
    split at h
    · exact W.iret C.1 C.2.1 C.2.2.1 (fun t ht hW => ⟨⟨some (.int _), S, h, rfl, by rw [ht]; exact hP, va_K.moved hW.alike C.2.2.2.2.2.2.2.1, hD⟩, hS.F ht⟩) hS.2.2 hd C.2.2.2.1
    all_goals exact h.elim
def t_zret (ty : FieldType) : Opn := fun _ Q _ st S => match st with
  | [.int v] => narrow ty (.int v) = .int v ∧ Q (some (.int v)) S
  | _ => False
theorem s_zret {lay : List Ent} {cc : ByteArray} {nL : Nat} {own : String} {d pc : Nat} {ty : FieldType} (hd : decode cc pc = .ok (.ireturn, 1)) : OSn lay cc nL own (some ty) d pc (t_zret ty) := by
  refine ⟨?_, ?_⟩
  · intro K K' Q Q' lo st S hK hQ
    unfold t_zret
    split
    · exact fun h => ⟨h.1, hQ _ _ h.2⟩
    all_goals exact id
  · intro p l e s m args below meth c D cA ad A Q K lo st S C hk h H locs ls hP hD hS hl
    unfold t_zret at h
    split at h
    · exact W.zret C.1 C.2.1 C.2.2.1 h.1 (fun t ht hW => ⟨⟨some (.int _), S, h.2, rfl, by rw [ht]; exact hP, va_K.moved hW.alike C.2.2.2.2.2.2.2.1, hD⟩, hS.F ht⟩) hS.2.2 hd C.2.2.2.1
    all_goals exact h.elim
def t_lret : Opn := fun _ Q _ st S => match st with
  | [.long v] => Q (some (.long v)) S
  | _ => False
theorem s_lret {lay : List Ent} {cc : ByteArray} {nL : Nat} {own : String} {d pc : Nat} (hd : decode cc pc = .ok (.lreturn, 1)) : OSn lay cc nL own (some .long) d pc (t_lret) := by
  refine ⟨?_, ?_⟩
  · intro K K' Q Q' lo st S hK hQ
    unfold t_lret
    split
    · exact hQ _ _
    all_goals exact id
  · intro p l e s m args below meth c D cA ad A Q K lo st S C hk h H locs ls hP hD hS hl
    unfold t_lret at h
    split at h
    · exact W.lret C.1 C.2.1 C.2.2.1 (fun t ht hW => ⟨⟨some (.long _), S, h, rfl, by rw [ht]; exact hP, va_K.moved hW.alike C.2.2.2.2.2.2.2.1, hD⟩, hS.F ht⟩) hS.2.2 hd C.2.2.2.1
    all_goals exact h.elim
def t_vret : Opn := fun _ Q _ st S => match st with
  | [] => Q none S
  | _ => False
theorem s_vret {lay : List Ent} {cc : ByteArray} {nL : Nat} {own : String} {d pc : Nat} (hd : decode cc pc = .ok (.return_, 1)) : OSn lay cc nL own (none) d pc (t_vret) := by
  refine ⟨?_, ?_⟩
  · intro K K' Q Q' lo st S hK hQ
    unfold t_vret
    split
    · exact hQ _ _
    all_goals exact id
  · intro p l e s m args below meth c D cA ad A Q K lo st S C hk h H locs ls hP hD hS hl
    unfold t_vret at h
    split at h
    · exact W.vret C.1 C.2.1 C.2.2.1 (fun t ht hW => ⟨⟨none, S, h, rfl, by rw [ht]; exact hP, va_K.moved hW.alike C.2.2.2.2.2.2.2.1, hD⟩, hS.F ht⟩) hS.2.2 hd C.2.2.2.1
    all_goals exact h.elim
