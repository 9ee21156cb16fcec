theorem mkD_other {cA : Nat → ClassId} {ad : Nat → Nat} {S S' : Sto} {b : Nat} (e : Ent) (h1 : S'.1 b = S.1 b) (h2 : S'.2.1 b = S.2.1 b) (h3 : S'.2.2 b = S.2.2 b) : mkD cA ad S' b e = mkD cA ad S b e := by
  have hf : (fv ad S' b) = (fv ad S b) := by
    funext q
    unfold fv
    rw [h1, h2, h3]
  show mkC cA ad S' b e = mkC cA ad S b e
  unfold mkC
  rw [h1, h2, hf]
theorem ref_set {ci j j0 z : Nat} {x : Nat} {v : Value} (ad : Nat → Nat) (S S' : Sto) (a : Nat) (hj : (fks ci)[j]? = some (x, z)) (hx : 2 ≤ x) (h0 : j0 ≤ j) (hgap : ∀ i kd, j0 ≤ i → i < j → (fks ci)[i]? = some kd → kd.1 < 2) (hv : fv ad S' a ((x, z), j) = v) (hs : ∀ (q : Nat × Nat) (i : Nat), i ≠ j → fv ad S' a (q, i) = fv ad S a (q, i)) :
    ((fks ci).zipIdx.map (fun q => if 2 ≤ q.1.1 ∧ j0 ≤ q.2 then Value.null else fv ad S a q)).set j v = (fks ci).zipIdx.map (fun q => if 2 ≤ q.1.1 ∧ j + 1 ≤ q.2 then Value.null else fv ad S' a q) := by
  apply List.ext_getElem?
  intro i
  by_cases hi : i = j
  · subst hi
    have hl : i < ((fks ci).zipIdx.map (fun q => if 2 ≤ q.1.1 ∧ j0 ≤ q.2 then Value.null else fv ad S a q)).length := by
      simp; exact (List.getElem?_eq_some_iff.mp hj).1
    rw [List.getElem?_set_self hl]
    simp only [List.getElem?_map, List.getElem?_zipIdx, hj, Option.map_some, Nat.zero_add]
    rw [if_neg (by omega), hv]
  · rw [List.getElem?_set_ne (fun q => hi q.symm)]
    simp only [List.getElem?_map, List.getElem?_zipIdx]
    cases hq : (fks ci)[i]? with
    | none => rfl
    | some q =>
      simp only [Option.map_some, Nat.zero_add]
      rw [hs q i hi]
      by_cases hk : 2 ≤ q.1
      · by_cases h1 : j0 ≤ i
        · by_cases h2 : i < j
          · exact absurd (hgap i q h1 h2 hq) (by omega)
          · rw [if_pos ⟨hk, h1⟩, if_pos ⟨hk, by omega⟩]
        · rw [if_neg (fun z => h1 z.2), if_neg (fun z => h1 (by omega))]
      · rw [if_neg (fun z => hk z.1), if_neg (fun z => hk z.1)]
def NL (U : State) : Prop := va_Nw (.methodLinkNest "TurnedRivers" 15 ⟨"TurnedRivers$Reader", "<init>", "()V"⟩ "TurnedRivers") U ∧ va_Nw (.methodLinkNest "TurnedRivers$Reader" 11 ⟨"TurnedRivers$Tokens", "<init>", "()V"⟩ "TurnedRivers") U ∧ va_Nw (.methodLinkNest "TurnedRivers" 32 ⟨"TurnedRivers$Flow", "<init>", "()V"⟩ "TurnedRivers") U ∧ va_Nw (.methodLinkNest "TurnedRivers" 46 ⟨"TurnedRivers$Digging", "<init>", "()V"⟩ "TurnedRivers") U ∧ va_Nw (.methodLinkNest "TurnedRivers" 53 ⟨"TurnedRivers$DamPlan", "<init>", "()V"⟩ "TurnedRivers") U ∧ va_Nw (.methodLinkNest "TurnedRivers" 60 ⟨"TurnedRivers$Standing", "<init>", "()V"⟩ "TurnedRivers") U
theorem NL.warm {s U : State} (hW : s.WarmedH U.vm) (h : NL s) : NL U := ⟨va_Nw.warmM hW h.1, va_Nw.warmM hW h.2.1, va_Nw.warmM hW h.2.2.1, va_Nw.warmM hW h.2.2.2.1, va_Nw.warmM hW h.2.2.2.2.1, va_Nw.warmM hW h.2.2.2.2.2⟩
theorem NL.same {s U : State} (hv : s.vm = U.vm) (h : NL s) : NL U := ⟨va_tabs rfl hv h.1, va_tabs rfl hv h.2.1, va_tabs rfl hv h.2.2.1, va_tabs rfl hv h.2.2.2.1, va_tabs rfl hv h.2.2.2.2.1, va_tabs rfl hv h.2.2.2.2.2⟩
def BI (lay : List Ent) (D : va_G) (cA : Nat → ClassId) (ad : Nat → Nat) (base : Nat) (S : Sto) (U : State) : Prop := U.heap.size = base + lay.length ∧ va_P D cls (wsD lay cA ad S) U.heap ∧ va_K D cls (tysA cA) U ∧ XS ad (fun q => base ≤ q) U ∧ va_AO "TurnedRivers$Standing" U ∧ NL U
def rmI (d mc ms : Nat) : Room := { frames := d, cells := mc, slots := ms, locals := 38 * d }
def ConI (y : MethodName) (cc : ByteArray) (nL d mc ms a : Nat) (lay : List Ent) (S : Sto) (layF : List Ent) (S' : Sto) : Prop :=
  ∀ (l : Launch) (D : va_G) (cA : Nat → ClassId) (ad : Nat → Nat) (base : Nat), (∀ k, k < 1000 → ad k = base + k) → Met l y (wsM y cc nL none) (rmI d mc ms) (va_Pc [.ref (ad a)] (BI lay D cA ad base S)) (va_Qv (fun _ : Unit => True) (fun _ t => BI layF D cA ad base S' t) (fun q => base ≤ q)) mc ms (fun q => base ≤ q)
theorem BI_blind {lay : List Ent} {D : va_G} {cA : Nat → ClassId} {ad : Nat → Nat} {base : Nat} {S : Sto} {as : List Value} : FrameBlind (va_Pc as (BI lay D cA ad base S)) := by
  intro a U g mk q
  obtain ⟨q0, q1, qP, qK, qX, qO, qN⟩ := q
  exact ⟨q0, q1, qP, va_K.moved (u := U) (U := U.calling g mk a) (Vm.Alike.refl U.vm) qK, qX.call, va_AO.moved (u := U) (U := U.calling g mk a) (Vm.Alike.refl U.vm) qO, NL.same (s := U) (U := U.calling g mk a) rfl qN⟩
section MK2
variable {p : Program} {l : Launch} {e : Env} {R : Room} {s : State} {m : MethodId} {args : Array Value} {below : List Frame} {meth : Method} {c : Code} {H : Heap} {locs : List Loc} {cells slots : Nat} {Q : State → Prop}
variable {cc : ByteArray} {pc : Nat} {ls : Array Slot} {rest : List Value} {D : va_G} {cA : Nat → ClassId} {ad : Nat → Nat} {base : Nat} {lay : List Ent} {S : Sto}
theorem dn_putF (hx : p.tables.exec = Jvm.exec) (hb : c.code = cc) (hts : ∀ w ∈ gw, w.before args s = true) {own : String} (hown : s.vm.findClass own = some m.cls) (hin : meth.name = "<init>") (hK : va_K D cls (tysA cA) s) (had : ∀ k, k < 1000 → ad k = base + k)
    {ci N ix a j j0 z : Nat} {C : String} {T : u_T} {ty : Nat → FieldType} (co : CO ci C T N ty) (hj : (fks ci)[j]? = some (2, z)) (h0 : j0 ≤ j) (hgap : ∀ i kd, j0 ≤ i → i < j → (fks ci)[i]? = some kd → kd.1 < 2) (hw : Cond.fieldLink own ix (T j).1 (T j).2.1 (T j).2.2.1 ∈ gw) (hfin : (T j).2.2.2 = true) (hdecl : (T j).1 = own)
    (hnar : ∀ x, narrow (ty j) (.ref x) = .ref x) (hfit : ∀ x, fits (ty j) (.ref x) = true) (ha : lay[a]? = some (4, ci, j0, 0))
    (hP : va_P D cls (wsD lay cA ad S) H) (hz : H.size = base + lay.length) (hS : va_S (fun q => base ≤ q) s.heap H locs) (hl : lay.length ≤ 1000) (hd : decode cc pc = .ok (.putfield ix, 3))
    (kk : ∀ (H1 : Heap) (locs1 : List Loc), va_P D cls (wsD (lay.set a (4, ci, j + 1, 0)) cA ad S) H1 → H1.size = base + lay.length → va_S (fun q => base ≤ q) s.heap H1 locs1 → W p l e R s m args below meth c H1 locs1 cells slots Q (F0 m (pc + 3) ls rest)) :
    W p l e R s m args below meth c H locs cells slots Q (F0 m pc ls (.ref (ad (a + z)) :: .ref (ad a) :: rest)) := by
  have hjN : j < N := by rw [← co.2.2.2.2]; exact (List.getElem?_eq_some_iff.mp hj).1
  have hal : a < lay.length := (List.getElem?_eq_some_iff.mp ha).1
  have e1 := ref_set (v := .ref (ad (a + z))) ad S S a hj (Nat.le_refl 2) h0 hgap rfl (fun _ _ _ => rfl)
  have hD := wsD_D (cA := cA) (S := S) had hl
  have hap := va_apart (own := own) hts co.2.1 ty co.2.2.1 co.2.2.2.1 hK co.1
  obtain ⟨r, h1, cell, q1, q2, q3, q4⟩ := hP a _ (wsD_at ha)
  have hr : r = (C, T, N) := Option.some.inj (h1.symm.trans co.1)
  subst hr
  obtain ⟨hSl, hfc, kC, hkC, hkind⟩ := hK.1 ci _ co.1
  obtain ⟨cf, kf, fi, f, hi, hsl⟩ := hSl j hjN
  have hlay := hts _ (co.2.1 _ (u_in_lay hjN))
  unfold u_lay at hlay
  rw [if_pos hfin] at hlay
  have hst := (u_facts hfc hkC (u_lays hts co.2.1 hjN) hi).1
  have hcf : m.cls = cf := by
    obtain ⟨_, _, c', _, _, _, -, -, hf', -, -, -, hown2, -⟩ := Cond.laysFinal_spec hlay
    have e1 : c' = cf := by have := hi.symm.trans hf'; simp at this; exact this.1.symm
    rw [hdecl] at hown2
    rw [← e1]; exact Option.some.inj (hown.symm.trans hown2)
  have h6 := u_fits hfc hkC hkind (Or.inr hlay) hi (co.2.2.1 j hjN) (hnar (ad (a + z))) (hfit (ad (a + z)))
  refine W.putFinK hx hb hown (hts _ hw) hi hst hcf hin (by rw [q2]; exact h6) q1 q3 (by rw [hsl]; exact k2_hasslot (q4 j hjN)) rfl rfl hd fun H' e1' e2 e3 => ?_
  rw [hsl] at e1' ⊢
  have hlen : j < ((fks ci).zipIdx.map (fun q => if 2 ≤ q.1.1 ∧ j0 ≤ q.2 then Value.null else fv ad S a q)).length := by
    simp; exact (List.getElem?_eq_some_iff.mp hj).1
  have hP1 := hP.set hD (wsD_at ha) (e := .inr (ci, ((fks ci).zipIdx.map (fun q => if 2 ≤ q.1.1 ∧ j0 ≤ q.2 then Value.null else fv ad S a q)).set j (.ref (ad (a + z))))) ⟨_, co.1, t_OB.to (V := updV (vp_V ((fks ci).zipIdx.map (fun q => if 2 ≤ q.1.1 ∧ j0 ≤ q.2 then Value.null else fv ad S a q))) j (.ref (ad (a + z)))) ⟨_, e1', q2, q3, t_set q4 hap hjN _⟩ (fun i _ => vp_updV_set hlen _ i)⟩ e3
  rw [e1] at hP1
  have e5 := wsD_set (cA := cA) (ad := ad) (S := S) (S' := S) (e' := (4, ci, j + 1, 0)) hal (fun _ _ _ _ => rfl)
  have hP2 : va_P D cls (wsD (lay.set a (4, ci, j + 1, 0)) cA ad S) H' := by
    rw [← e5]
    exact hP1
  exact kk H' _ hP2 (e2.trans hz) (hS.put e2 e3 (hD.2 a _ (wsD_at ha)))
theorem dn_putR (hx : p.tables.exec = Jvm.exec) (hb : c.code = cc) (hts : ∀ w ∈ gw, w.before args s = true) {own : String} (hown : s.vm.findClass own = some m.cls) (hK : va_K D cls (tysA cA) s) (had : ∀ k, k < 1000 → ad k = base + k)
    {ci N ix a j j0 z b : Nat} {C : String} {T : u_T} {ty : Nat → FieldType} (co : CO ci C T N ty) (hj : (fks ci)[j]? = some (3, z)) (h0 : j0 ≤ j) (hgap : ∀ i kd, j0 ≤ i → i < j → (fks ci)[i]? = some kd → kd.1 < 2) (hw : Cond.fieldLink own ix (T j).1 (T j).2.1 (T j).2.2.1 ∈ gw) (hfin : (T j).2.2.2 = false)
    (hnar : ∀ x, narrow (ty j) (.ref x) = .ref x) (hfit : ∀ x, fits (ty j) (.ref x) = true) (ha : lay[a]? = some (4, ci, j0, 0))
    (hP : va_P D cls (wsD lay cA ad S) H) (hz : H.size = base + lay.length) (hS : va_S (fun q => base ≤ q) s.heap H locs) (hl : lay.length ≤ 1000) (hd : decode cc pc = .ok (.putfield ix, 3))
    (kk : ∀ (H1 : Heap) (locs1 : List Loc), va_P D cls (wsD (lay.set a (4, ci, j + 1, 0)) cA ad (sR S a j b)) H1 → H1.size = base + lay.length → va_S (fun q => base ≤ q) s.heap H1 locs1 → W p l e R s m args below meth c H1 locs1 cells slots Q (F0 m (pc + 3) ls rest)) :
    W p l e R s m args below meth c H locs cells slots Q (F0 m pc ls (.ref (ad b) :: .ref (ad a) :: rest)) := by
  have hjN : j < N := by rw [← co.2.2.2.2]; exact (List.getElem?_eq_some_iff.mp hj).1
  have hal : a < lay.length := (List.getElem?_eq_some_iff.mp ha).1
  have e1 := ref_set (v := .ref (ad b)) ad S (sR S a j b) a hj (by decide) h0 hgap (by simp [fv, sR]) (fun q i hi => by simp [fv, sR, hi])
  have hD := wsD_D (cA := cA) (S := S) had hl
  have hlen : j < ((fks ci).zipIdx.map (fun q => if 2 ≤ q.1.1 ∧ j0 ≤ q.2 then Value.null else fv ad S a q)).length := by
    simp; exact (List.getElem?_eq_some_iff.mp hj).1
  have hap := va_apart (own := own) hts co.2.1 ty co.2.2.1 co.2.2.2.1 hK co.1
  obtain ⟨r, h1, cell, q1, q2, q3, q4⟩ := hP a _ (wsD_at ha)
  have hr : r = (C, T, N) := Option.some.inj (h1.symm.trans co.1)
  subst hr
  obtain ⟨hSl, hfc, kC, hkC, hkind⟩ := hK.1 ci _ co.1
  obtain ⟨cf, kf, fi, f, hi, hsl⟩ := hSl j hjN
  have hlay := hts _ (co.2.1 _ (u_in_lay hjN))
  unfold u_lay at hlay
  rw [if_neg (by rw [hfin]; decide)] at hlay
  have hst := (u_facts hfc hkC (u_lays hts co.2.1 hjN) hi).1
  have h6 := u_store hfc hkC hkind hlay hi (co.2.2.1 j hjN) (hnar (ad b)) (hfit (ad b))
  refine W.putK hx hb (f := f) ⟨hown, hts _ hw, ⟨_, _, _, hi⟩, hst⟩ (by rw [q2]; exact h6) q1 q3 (by rw [hsl]; exact k2_hasslot (q4 j hjN)) rfl rfl hd fun H' e1' e2 e3 => ?_
  rw [hsl] at e1' ⊢
  have hP1 := hP.set hD (wsD_at ha) (e := .inr (ci, ((fks ci).zipIdx.map (fun q => if 2 ≤ q.1.1 ∧ j0 ≤ q.2 then Value.null else fv ad S a q)).set j (.ref (ad b)))) ⟨_, co.1, t_OB.to (V := updV (vp_V ((fks ci).zipIdx.map (fun q => if 2 ≤ q.1.1 ∧ j0 ≤ q.2 then Value.null else fv ad S a q))) j (.ref (ad b))) ⟨_, e1', q2, q3, t_set q4 hap hjN _⟩ (fun i _ => vp_updV_set hlen _ i)⟩ e3
  rw [e1] at hP1
  have e5 := wsD_set (cA := cA) (ad := ad) (S := S) (S' := sR S a j b) (e' := (4, ci, j + 1, 0)) hal (fun b e hb _ => mkD_other e rfl rfl (by simp [sR, hb]))
  have hP2 : va_P D cls (wsD (lay.set a (4, ci, j + 1, 0)) cA ad (sR S a j b)) H' := by
    rw [← e5]
    exact hP1
  exact kk H' _ hP2 (e2.trans hz) (hS.put e2 e3 (hD.2 a _ (wsD_at ha)))
theorem dn_done {a ci j : Nat} (hP : va_P D cls (wsD lay cA ad S) H) (ha : lay[a]? = some (4, ci, j, 0)) (hd : ∀ i kd, j ≤ i → (fks ci)[i]? = some kd → kd.1 < 2) : va_P D cls (wsD (lay.set a (0, ci, 0, 0)) cA ad S) H := by
  have hal : a < lay.length := (List.getElem?_eq_some_iff.mp ha).1
  have e5 := wsD_set (cA := cA) (ad := ad) (S := S) (S' := S) (e' := (0, ci, 0, 0)) hal (fun _ _ _ _ => rfl)
  have e6 : mkD cA ad S a (0, ci, 0, 0) = mkD cA ad S a (4, ci, j, 0) := by
    show Sum.inr (ci, _) = Sum.inr (ci, _)
    congr 2
    apply List.ext_getElem?
    intro i
    simp only [List.getElem?_map, List.getElem?_zipIdx]
    cases hq : (fks ci)[i]? with
    | none => rfl
    | some q =>
      simp only [Option.map_some, Nat.zero_add]
      rw [if_neg]
      intro h
      have := hd i q h.2 hq
      omega
  rw [← e5, e6]
  have : (wsD lay cA ad S).set a (ad a, mkD cA ad S a (4, ci, j, 0)) = wsD lay cA ad S := by
    apply List.ext_getElem?
    intro k
    by_cases hk : k = a
    · subst hk
      rw [List.getElem?_set_self (by rw [wsD_len]; exact hal), wsD_at ha]
    · rw [List.getElem?_set_ne (fun q => hk q.symm)]
  rw [this]
  exact hP
end MK2
