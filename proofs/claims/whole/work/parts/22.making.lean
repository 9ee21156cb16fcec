/-! making cells: the world grows at its end; an object in the making has null in its fields of references from some place on -/
abbrev mkD (cA : Nat → ClassId) (ad : Nat → Nat) (S : Sto) (a : Nat) (e : Ent) : va_E := mkC cA ad S a e
def wsD (lay : List Ent) (cA : Nat → ClassId) (ad : Nat → Nat) (S : Sto) : va_W := lay.zipIdx.map (fun q => (ad q.2, mkD cA ad S q.2 q.1))
theorem wsD_at {lay : List Ent} {cA : Nat → ClassId} {ad : Nat → Nat} {S : Sto} {a : Nat} {e : Ent} (h : lay[a]? = some e) : (wsD lay cA ad S)[a]? = some (ad a, mkD cA ad S a e) := by
  simp [wsD, h]
theorem wsD_of {lay : List Ent} {cA : Nat → ClassId} {ad : Nat → Nat} {S : Sto} {k : Nat} {q : Nat × va_E} (h : (wsD lay cA ad S)[k]? = some q) : ∃ e, lay[k]? = some e ∧ q = (ad k, mkD cA ad S k e) := by
  simp only [wsD, List.getElem?_map, List.getElem?_zipIdx] at h
  cases hq : lay[k]? with
  | none => rw [hq] at h; cases h
  | some e =>
    rw [hq] at h
    simp at h
    exact ⟨e, rfl, h.symm⟩
theorem wsD_len {lay : List Ent} {cA : Nat → ClassId} {ad : Nat → Nat} {S : Sto} : (wsD lay cA ad S).length = lay.length := by simp [wsD]
theorem wsD_full {lay : List Ent} {cA : Nat → ClassId} {ad : Nat → Nat} {S : Sto} : wsD lay cA ad S = wsL lay cA ad S := rfl
theorem wsD_push {lay : List Ent} {cA : Nat → ClassId} {ad : Nat → Nat} {S : Sto} {e : Ent} : wsD (lay ++ [e]) cA ad S = wsD lay cA ad S ++ [(ad lay.length, mkD cA ad S lay.length e)] := by
  simp [wsD, List.zipIdx_append]
theorem wsD_D {lay : List Ent} {cA : Nat → ClassId} {ad : Nat → Nat} {S : Sto} {base : Nat} (had : ∀ k, k < 1000 → ad k = base + k) (hl : lay.length ≤ 1000) : va_D (fun q => base ≤ q) (wsD lay cA ad S) := by
  refine ⟨fun i j p q hi hj hpq => ?_, fun k q hk => ?_⟩
  · obtain ⟨e1, h1, rfl⟩ := wsD_of hi
    obtain ⟨e2, h2, rfl⟩ := wsD_of hj
    have hi' := (List.getElem?_eq_some_iff.mp h1).1
    have hj' := (List.getElem?_eq_some_iff.mp h2).1
    have : ad i = ad j := hpq
    rw [had i (by omega), had j (by omega)] at this
    omega
  · obtain ⟨e1, h1, rfl⟩ := wsD_of hk
    have hk' := (List.getElem?_eq_some_iff.mp h1).1
    show base ≤ ad k
    rw [had k (by omega)]
    omega
/-- a place's new contents -/
theorem wsD_set {lay : List Ent} {cA : Nat → ClassId} {ad : Nat → Nat} {S S' : Sto} {a : Nat} {e' : Ent} (ha : a < lay.length) (hS : ∀ b e, b ≠ a → lay[b]? = some e → mkD cA ad S' b e = mkD cA ad S b e) : (wsD lay cA ad S).set a (ad a, mkD cA ad S' a e') = wsD (lay.set a e') cA ad S' := by
  apply List.ext_getElem?
  intro k
  by_cases hk : k = a
  · subst hk
    rw [List.getElem?_set_self (by rw [wsD_len]; exact ha), wsD_at (e := e') (by rw [List.getElem?_set_self ha])]
  · rw [List.getElem?_set_ne (fun q => hk q.symm)]
    simp only [wsD, List.getElem?_map, List.getElem?_zipIdx]
    rw [List.getElem?_set_ne (fun q => hk q.symm)]
    cases hq : lay[k]? with
    | none => rfl
    | some e => simp [hS k e hk hq]
def dfl (ci : Nat) : List Value := (fks ci).map (fun k => match k.1 with
  | 0 => .int 0
  | 1 => .long 0
  | _ => .null)
theorem mkD_new {cA : Nat → ClassId} {ad : Nat → Nat} {S : Sto} {a ci : Nat} (h1 : S.1 a = fun _ => 0) (h2 : S.2.1 a = fun _ => 0) : mkD cA ad S a (4, ci, 0, 0) = .inr (ci, dfl ci) := by
  show Sum.inr (ci, _) = Sum.inr (ci, _)
  congr 2
  apply List.ext_getElem?
  intro k
  simp only [dfl, List.getElem?_map, List.getElem?_zipIdx]
  cases hq : (fks ci)[k]? with
  | none => rfl
  | some kd =>
    obtain ⟨x, z⟩ := kd
    simp only [Option.map_some, Nat.zero_add, Nat.zero_le, and_true]
    match x with
    | 0 => simp [fv, h1]
    | 1 => simp [fv, h2]
    | x + 2 => simp
section MK
variable {p : Program} {l : Launch} {e : Env} {R : Room} {s : State} {m : MethodId} {args : Array Value} {below : List Frame} {meth : Method} {c : Code} {H : Heap} {locs : List Loc} {cells slots : Nat} {Q : State → Prop}
variable {cc : ByteArray} {pc : Nat} {ls : Array Slot} {rest : List Value} {D : va_G} {cA : Nat → ClassId} {ad : Nat → Nat} {base : Nat} {lay : List Ent} {S : Sto}
theorem dn_new (hx : p.tables.exec = Jvm.exec) (hb : c.code = cc) (hts : ∀ w ∈ gw, w.before args s = true) {own C : String} (hown : s.vm.findClass own = some m.cls) (hK : va_K D cls (tysA cA) s) (had : ∀ k, k < 1000 → ad k = base + k)
    {ci N ix : Nat} {T : u_T} {ty : Nat → FieldType} (co : CO ci C T N ty) (hdf : ∀ j, j < N → defaultValue (ty j) = vp_V (dfl ci) j) (hw1 : Cond.classLink own ix C ∈ gw) (hw2 : Cond.instantiable C N ∈ gw) (hw3 : Cond.initialized C ∈ gw)
    (hP : va_P D cls (wsD lay cA ad S) H) (hz : H.size = base + lay.length) (hS : va_S (fun q => base ≤ q) s.heap H locs) (hl : lay.length < 1000) (h1 : S.1 lay.length = fun _ => 0) (h2 : S.2.1 lay.length = fun _ => 0) (hc : cells + 1 ≤ R.cells) (hs : slots + N ≤ R.slots) (hd : decode cc pc = .ok (.new ix, 3))
    (kk : ∀ H1 : Heap, va_P D cls (wsD (lay ++ [(4, ci, 0, 0)]) cA ad S) H1 → H1.size = base + (lay.length + 1) → va_S (fun q => base ≤ q) s.heap H1 locs → W p l e R s m args below meth c H1 locs (cells + 1) (slots + N) Q (F0 m (pc + 3) ls (.ref (ad lay.length) :: rest))) :
    W p l e R s m args below meth c H locs cells slots Q (F0 m pc ls rest) := by
  have hKn := hK.1 ci _ co.1
  refine W.newcK hx hb hown (hts _ hw1) (hts _ hw2) (hts _ hw3) rfl hd hc hs hKn.2.1 rfl fun H1 kC hkC e1 z1 o1 => ?_
  have ea : H.size = ad lay.length := by rw [hz, had _ hl]
  have hk : ∀ (k : Nat) (x : Nat × va_E), (wsD lay cA ad S)[k]? = some x → H1[x.1]? = H[x.1]? := fun k x hx => o1 x.1 ((hP k x hx).lt)
  have hP1 : va_P D cls (wsD (lay ++ [(4, ci, 0, 0)]) cA ad S) H1 := by
    rw [wsD_push, mkD_new h1 h2]
    refine (hP.kept hk).app (fun k x hx => ?_)
    have hz : k < 1 := (List.getElem?_eq_some_iff.mp hx).1
    rw [show k = 0 by omega] at hx
    cases hx
    rw [← ea]
    exact ⟨_, co.1, (u_born ty hts co.2.1 hKn hkC e1 co.2.2.1).to hdf⟩
  rw [ea] at z1
  have := kk H1 hP1 (by rw [z1, had _ hl]; omega) ⟨Nat.le_trans hS.1 (by omega), fun x h1 h2 => (o1 x (Nat.lt_of_lt_of_le h1 hS.1)).trans (hS.2.1 x h1 h2), hS.2.2⟩
  rw [ea]
  exact this
theorem dn_arr (hx : p.tables.exec = Jvm.exec) (hb : c.code = cc) (hts : ∀ w ∈ gw, w.before args s = true) (hK : va_K D cls (tysA cA) s) (had : ∀ k, k < 1000 → ad k = base + k)
    {atype : ArrayType} {ty : FieldType} {t N : Nat} {n : Int32} (hty : newarray.typeOf atype = ty) (hw1 : Cond.arrayClass ty ∈ gw) (ht : (tysA cA)[t]? = some (cA t, ty)) (hra : ∀ x : ClassId, va_RA s x ty → s.vm.findClass ("[" ++ ty.toString) = some x)
    {a0 : vp_A} (ha : ∀ cA : ClassId, vp_cell cA a0 = arrV cA N (fun _ => defaultValue ty)) {en : Ent} (hen : mkD cA ad S lay.length en = .inl (cA t, a0))
    (hP : va_P D cls (wsD lay cA ad S) H) (hz : H.size = base + lay.length) (hS : va_S (fun q => base ≤ q) s.heap H locs) (hl : lay.length < 1000) (hn : ¬ n < 0) (hN : n.toNatClampNeg = N) (hby : N * componentBytes ty ≤ 536870912) (hc : cells + 1 ≤ R.cells) (hs : slots + N ≤ R.slots) (hd : decode cc pc = .ok (.newarray atype, 2))
    (kk : ∀ H1 : Heap, va_P D cls (wsD (lay ++ [en]) cA ad S) H1 → H1.size = base + (lay.length + 1) → va_S (fun q => base ≤ q) s.heap H1 locs → W p l e R s m args below meth c H1 locs (cells + 1) (slots + N) Q (F0 m (pc + 2) ls (.ref (ad lay.length) :: rest))) :
    W p l e R s m args below meth c H locs cells slots Q (F0 m pc ls (.int n :: rest)) := by
  subst hty
  refine va_newaK hx hb (hts _ hw1) rfl hd rfl hn hN hby hc hs rfl fun H1 cB e1 z1 o1 hAr hNm => ?_
  have ea : H.size = ad lay.length := by rw [hz, had _ hl]
  have hk : ∀ (k : Nat) (x : Nat × va_E), (wsD lay cA ad S)[k]? = some x → H1[x.1]? = H[x.1]? := fun k x hx => o1 x.1 ((hP k x hx).lt)
  have eB : cB = cA t := Option.some.inj (hNm.symm.trans (hra _ (hK.2 t _ ht).2))
  subst eB
  have hP1 : va_P D cls (wsD (lay ++ [en]) cA ad S) H1 := by
    rw [wsD_push, hen]
    refine (hP.kept hk).app (fun k x hx => ?_)
    have hz : k < 1 := (List.getElem?_eq_some_iff.mp hx).1
    rw [show k = 0 by omega] at hx
    cases hx
    rw [← ea]
    show H1[H.size]? = some (vp_cell _ _)
    rw [ha]
    exact e1
  rw [ea] at z1
  have := kk H1 hP1 (by rw [z1, had _ hl]; omega) ⟨Nat.le_trans hS.1 (by omega), fun x h1 h2 => (o1 x (Nat.lt_of_lt_of_le h1 hS.1)).trans (hS.2.1 x h1 h2), hS.2.2⟩
  rw [ea]
  exact this
end MK
