section MK3
variable {p : Program} {l : Launch} {e : Env} {R : Room} {s : State} {m : MethodId} {args : Array Value} {below : List Frame} {meth : Method} {c : Code} {H : Heap} {locs : List Loc} {cells slots : Nat} {Q : State → Prop}
variable {cc : ByteArray} {pc : Nat} {ls : Array Slot} {rest : List Value} {D : va_G} {cA : Nat → ClassId} {ad : Nat → Nat} {base : Nat} {lay : List Ent} {S : Sto}
theorem dn_anew (hx : p.tables.exec = Jvm.exec) (hb : c.code = cc) (hts : ∀ w ∈ gw, w.before args s = true) {own : String} (hown : s.vm.findClass own = some m.cls) (hK : va_K D cls (tysA cA) s) (hAO : va_AO "TurnedRivers$Standing" s) (had : ∀ k, k < 1000 → ad k = base + k)
    {ix N b z : Nat} {n : Int32} (hw1 : Cond.classLink own ix "TurnedRivers$Standing" ∈ gw)
    (hP : va_P D cls (wsD lay cA ad S) H) (hz : H.size = base + lay.length) (hS : va_S (fun q => base ≤ q) s.heap H locs) (hl : lay.length < 1000) (hn : ¬ n < 0) (hN : n.toNatClampNeg = N) (hby : N * 4 ≤ 536870912) (hc : cells + 1 ≤ R.cells) (hs : slots + N ≤ R.slots) (hd : decode cc pc = .ok (.anewarray ix, 3))
    (kk : ∀ H1 : Heap, va_P D cls (wsD (lay ++ [(5, N, b, z)]) cA ad S) H1 → H1.size = base + (lay.length + 1) → va_S (fun q => base ≤ q) s.heap H1 locs → W p l e R s m args below meth c H1 locs (cells + 1) (slots + N) Q (F0 m (pc + 3) ls (.ref (ad lay.length) :: rest))) :
    W p l e R s m args below meth c H locs cells slots Q (F0 m pc ls (.int n :: rest)) := by
  subst hN
  refine W.anew hx hb hown (hts _ hw1) (va_AO.use hAO) rfl hd rfl hn hby hc hs fun cB kA comp f1 f2 f3 f4 => ?_
  have ea : H.size = ad lay.length := by rw [hz, had _ hl]
  generalize hH1 : H.push ({ cls := cB, slots := Array.replicate n.toNatClampNeg .null, vm := .none } : Cell) = H1
  have z1 : H1.size = H.size + 1 := by rw [← hH1, Array.size_push]
  have e1 : H1[H.size]? = some (arrV cB n.toNatClampNeg (fun _ => .null)) := by rw [← hH1, Array.getElem?_push_size, ← arrV_new]
  have o1 : ∀ q : Nat, q < H.size → H1[q]? = H[q]? := fun q hq => by rw [← hH1, Array.getElem?_push, if_neg (Nat.ne_of_lt hq)]
  have hk : ∀ (k : Nat) (x : Nat × va_E), (wsD lay cA ad S)[k]? = some x → H1[x.1]? = H[x.1]? := fun k x hx => o1 x.1 ((hP k x hx).lt)
  obtain ⟨kA', comp', r1, r2, r3, r4⟩ := (hK.2 4 (cA 4, .object "TurnedRivers$Standing") rfl).2
  have eB : cB = cA 4 := Option.some.inj (f1.symm.trans r4)
  subst eB
  have hP1 : va_P D cls (wsD (lay ++ [(5, n.toNatClampNeg, b, z)]) cA ad S) H1 := by
    rw [wsD_push]
    refine (hP.kept hk).app (fun k x hx => ?_)
    have hz : k < 1 := (List.getElem?_eq_some_iff.mp hx).1
    rw [show k = 0 by omega] at hx
    cases hx
    rw [← ea]
    show H1[H.size]? = some (vp_cell _ _)
    simp only [Nat.not_lt_zero, if_false, vp_cell_q]
    exact e1
  rw [ea] at z1
  have := kk H1 hP1 (by rw [z1, had _ hl]; omega) ⟨Nat.le_trans hS.1 (by omega), fun x h1 h2 => (o1 x (Nat.lt_of_lt_of_le h1 hS.1)).trans (hS.2.1 x h1 h2), hS.2.2⟩
  rw [ea]
  exact this
theorem dn_aast (hx : p.tables.exec = Jvm.exec) (hb : c.code = cc) (hK : va_K D cls (tysA cA) s) (had : ∀ k, k < 1000 → ad k = base + k)
    {a k n b z v : Nat} {i : Int32} (ha : lay[a]? = some (k + 5, n, b, z)) (hi : i.toNatClampNeg = k) (hin : vp_in i n) (hv : b + z * k = v) (hvl : lay[v]? = some (0, 5, 0, 0))
    (hP : va_P D cls (wsD lay cA ad S) H) (hz : H.size = base + lay.length) (hS : va_S (fun q => base ≤ q) s.heap H locs) (hl : lay.length ≤ 1000) (hd : decode cc pc = .ok (.aastore, 1))
    (kk : ∀ (H1 : Heap) (locs1 : List Loc), va_P D cls (wsD (lay.set a (k + 1 + 5, n, b, z)) cA ad S) H1 → H1.size = base + lay.length → va_S (fun q => base ≤ q) s.heap H1 locs1 → W p l e R s m args below meth c H1 locs1 cells slots Q (F0 m (pc + 1) ls rest)) :
    W p l e R s m args below meth c H locs cells slots Q (F0 m pc ls (.ref (ad v) :: .int i :: .ref (ad a) :: rest)) := by
  subst hi
  have hD := wsD_D (cA := cA) (S := S) had hl
  have hal : a < lay.length := (List.getElem?_eq_some_iff.mp ha).1
  have hlt : i.toNatClampNeg < n := Nat.not_le.mp fun q => hin (Or.inr q)
  have h0 : ¬ i < 0 := fun q => hin (Or.inl q)
  obtain ⟨r', hr', cellV, g1, g2, g3, -⟩ := hP v _ (wsD_at hvl)
  have hcls := (hK.1 5 (cR5, cT5, 3) rfl).2
  obtain ⟨kA, comp, k1, k2, k3, -⟩ := (hK.2 4 (cA 4, .object "TurnedRivers$Standing") rfl).2
  have hcomp : comp = D.1 5 := Option.some.inj (k3.symm.trans hcls.1)
  subst hcomp
  obtain ⟨kC, hkC, -⟩ := hcls.2
  have e6 : mkD cA ad S a (i.toNatClampNeg + 1 + 5, n, b, z) = .inl (cA 4, n, .inr (.inr (.inr (.inr (va_up (fun j => if j < i.toNatClampNeg then some (ad (b + z * j)) else none) i.toNatClampNeg (some (ad v))))))) := by
    show Sum.inl (cA 4, n, _) = Sum.inl (cA 4, n, _)
    congr 7
    funext j
    subst hv
    by_cases h1 : j = i.toNatClampNeg
    · subst h1; simp [va_up]
    · by_cases h2 : j < i.toNatClampNeg
      · simp [va_up, h1, h2, show j < i.toNatClampNeg + 1 by omega]
      · simp [va_up, h1, h2, show ¬ j < i.toNatClampNeg + 1 by omega]
  refine W.aast hx hb (hP a _ (wsD_at ha)) (fun q h => by cases h) (fun h => by cases h) k1 k2 rfl hkC ⟨h0, by show _ < (arrV _ _ _).slots.size; rw [arrV_size]; exact hlt⟩ g1 (fun q h => by rw [g3] at h; cases h) (by rw [g2]; exact hkC) (by rw [g2]; exact va_assign hcls) rfl rfl hd fun H1 e1 z1 oq => ?_
  have e5 := wsD_set (cA := cA) (ad := ad) (S := S) (S' := S) (e' := (i.toNatClampNeg + 1 + 5, n, b, z)) hal (fun _ _ _ _ => rfl)
  have hP1 : va_P D cls ((wsD lay cA ad S).set a (ad a, mkD cA ad S a (i.toNatClampNeg + 1 + 5, n, b, z))) H1 := by
    rw [e6]
    refine hP.set hD (wsD_at ha) ?_ oq
    refine Eq.trans e1 ?_
    show some ((arrV (cA 4) n (fun j => va_rf (if j < i.toNatClampNeg then some (ad (b + z * j)) else none))).setSlot i.toNatClampNeg (.ref (ad v))) = some (arrV (cA 4) n (fun j => va_rf (va_up (fun j => if j < i.toNatClampNeg then some (ad (b + z * j)) else none) i.toNatClampNeg (some (ad v)) j)))
    rw [arrV_store]
    congr 2
    funext q
    by_cases hq : q = i.toNatClampNeg
    · subst hq
      simp [updV, va_up, va_rf]
    · simp [updV, va_up, hq]
  rw [e5] at hP1
  exact kk H1 _ hP1 (z1.trans hz) (hS.put z1 oq (hD.2 a _ (wsD_at ha)))
theorem dn_img {a n b z : Nat} (hP : va_P D cls (wsD lay cA ad S) H) (ha : lay[a]? = some (n + 5, n, b, z)) : va_P D cls (wsD (lay.set a (3, n, b, z)) cA ad S) H := by
  have hal : a < lay.length := (List.getElem?_eq_some_iff.mp ha).1
  have e5 := wsD_set (cA := cA) (ad := ad) (S := S) (S' := S) (e' := (3, n, b, z)) hal (fun _ _ _ _ => rfl)
  rw [← e5]
  intro k q hk
  by_cases hka : k = a
  · subst hka
    rw [List.getElem?_set_self (by rw [wsD_len]; exact hal)] at hk
    cases hk
    have h1 := hP k _ (wsD_at ha)
    show H[ad k]? = some (vp_cell _ _)
    have h2 : H[ad k]? = some (vp_cell _ _) := h1
    rw [h2]
    congr 1
    show vp_cell (cA 4) (n, .inr (.inr (.inr (.inr _)))) = vp_cell (cA 4) (n, .inr (.inr (.inr (.inr _))))
    rw [vp_cell_q, vp_cell_q]
    unfold arrV
    congr 2
    funext j
    simp [j.isLt]
  · rw [List.getElem?_set_ne (fun q => hka q.symm)] at hk
    exact hP k q hk
theorem dn_get (hx : p.tables.exec = Jvm.exec) (hb : c.code = cc) (hts : ∀ w ∈ gw, w.before args s = true) {own : String} (hown : s.vm.findClass own = some m.cls) (hK : va_K D cls (tysA cA) s)
    {ci N ix a j z : Nat} {C : String} {T : u_T} {ty : Nat → FieldType} (co : CO ci C T N ty) (hj : (fks ci)[j]? = some (2, z)) (hw : Cond.fieldLink own ix (T j).1 (T j).2.1 (T j).2.2.1 ∈ gw) (ha : lay[a]? = some (0, ci, 0, 0)) (hP : va_P D cls (wsD lay cA ad S) H) (hd : decode cc pc = .ok (.getfield ix, 3))
    (kk : W p l e R s m args below meth c H locs cells slots Q (F0 m (pc + 3) ls (.ref (ad (a + z)) :: rest))) :
    W p l e R s m args below meth c H locs cells slots Q (F0 m pc ls (.ref (ad a) :: rest)) := by
  have hjN : j < N := by rw [← co.2.2.2.2]; exact (List.getElem?_eq_some_iff.mp hj).1
  exact va_get hx hb hts co.2.1 hown hK hP a (wsD_at ha) co.1 j hjN (hts _ hw) (fun _ h9 => h9) (fvs_at ad S a hj) hd kk
/-- a call of a constructor -/
theorem dn_init (hx : p.tables.exec = Jvm.exec) (hb : c.code = cc) {nL : Nat} (hml : c.maxLocals = nL) (hls : ls.size = nL) (hts : ∀ w ∈ gw, w.before args s = true) {own : String} (hown : s.vm.findClass own = some m.cls) (hK : va_K D cls (tysA cA) s) (hXS : XS ad (fun q => base ≤ q) s) (hAO : va_AO "TurnedRivers$Standing" s) (hNL : NL s) (had : ∀ k, k < 1000 → ad k = base + k)
    {y : MethodName} {bb : ByteArray} {mL d d' mc ms a ix : Nat} {layF : List Ent} {S' : Sto} (hM : ConI y bb mL d' mc ms a lay S layF S') (hR : d ≤ R.frames ∧ 38 * d ≤ R.locals) (hdd : d' + 1 ≤ d ∧ mL ≤ 19)
    (hlk : Cond.methodLink own ix y ∈ gw ∨ va_Nw (.methodLinkNest own ix y "TurnedRivers") s) (hw2 : Cond.instanceMethod y ∈ gw) (hw4 : Cond.initialized y.cls ∈ gw) (hw5 : Cond.code y bb mL none ∈ gw)
    (hy : y.cls ≠ "java/lang/invoke/MethodHandle" ∧ y.cls ≠ "java/lang/invoke/VarHandle" ∧ (parseMethodDescriptor y.desc).map (fun d => d.parameters.length) = some 0) (hyn : y.name = "<init>")
    (hP : va_P D cls (wsD lay cA ad S) H) (hz : H.size = base + lay.length) (hS : va_S (fun q => base ≤ q) s.heap H locs) (h8 : (rest.map fun v => v.category).sum ≤ 8) (hc : cells + mc ≤ R.cells) (hs : slots + ms ≤ R.slots) (hd : decode cc pc = .ok (.invokespecial ix, 3))
    (kk : ∀ (H1 : Heap) (locs1 : List Loc), va_P D cls (wsD layF cA ad S') H1 → H1.size = base + layF.length → va_S (fun q => base ≤ q) s.heap H1 locs1 → W p l e R s m args below meth c H1 locs1 (cells + mc) (slots + ms) Q (F0 m (pc + 3) ls rest)) :
    W p l e R s m args below meth c H locs cells slots Q (F0 m pc ls (.ref (ad a) :: rest)) := by
  have hgi := gw_in (mL := mL) hw5
  have hlo : 8 + (mL + 11) + 38 * d' ≤ R.locals := Nat.le_trans (by omega) hR.2
  have hpre : PreS s H (va_Pc [.ref (ad a)] (BI lay D cA ad base S)) (.ref (ad a) :: []) := ⟨BI_blind, fun U hU hW => ⟨rfl, by rw [hU]; exact hz, by rw [hU]; exact hP, va_K.moved hW.alike hK, hXS.next hU hW hS, va_AO.moved hW.alike hAO, hNL.warm hW⟩⟩
  have hrun : va_Run p l e R s m args below meth c H locs cells slots mc ms (F0 m pc ls (.ref (ad a) :: rest)) rest (va_Qv (fun _ : Unit => True) (fun _ t => BI layF D cA ad base S' t) (fun q => base ≤ q) [Value.ref (ad a)].toArray) (fun q => base ≤ q) := by
    rcases hlk with hlk | hlk
    · exact va_runI (As := []) (rest := rest) (bytes := bb) (maxL := mL) (n := 0) ⟨hx, hb, hml, hown, hts⟩ (hM l D cA ad base had) ⟨callB_of 0 hts hgi rfl rfl rfl (hts _ hw4) (hts _ hlk) hy ⟨Nat.le_trans hdd.1 hR.1, hlo⟩, hyn, hts _ hw2⟩ hpre rfl rfl hls rfl (lv_room h8) hd ⟨hc, hs⟩
    · exact va_runIN (As := []) (rest := rest) (bytes := bb) (maxL := mL) (n := 0) (host := "TurnedRivers") ⟨hx, hb, hml, hown, hts⟩ (hM l D cA ad base had) ⟨va_cnB 0 hts hgi rfl rfl rfl hlk (hts _ hw4) hy ⟨Nat.le_trans hdd.1 hR.1, hlo⟩, hyn, hts _ hw2⟩ hpre rfl rfl hls rfl (lv_room h8) hd ⟨hc, hs⟩
  refine va_callv hrun hS (fun _ _ h => h) (fun _ h => h) (fun u t H1 locs1 ht hvm _ hB hz1 hk1 hS1 => ?_)
  obtain ⟨b1, b2, b3, b4, b5, b6⟩ := hB
  rw [ht] at b1 b2
  exact kk H1 locs1 b2 b1 hS1
end MK3
/-! what is left of a constructor once its object is whole is a run of the machine -/
def OSx (lay : List Ent) (cc : ByteArray) (nL : Nat) (own : String) (d pc : Nat) (op : Opn) : Prop :=
  (∀ (K K' : Kon) (Q Q' : Out) (lo : Lcs) (st : List Value) (S : Sto), (∀ a b c d, K a b c d → K' a b c d) → (∀ r S, Q r S → Q' r S) → op K Q lo st S → op K' Q' lo st S) ∧
  ∀ (p : Program) (l : Launch) (e : Env) (R : Room) (s : State) (m : MethodId) (args : Array Value) (below : List Frame) (meth : Method) (c : Code) (D : va_G) (cA : Nat → ClassId) (ad : Nat → Nat) (A : Nat → Prop) (ret : Option FieldType) (cs sl : Nat) (Qm : State → Prop) (Q : Out) (K : Kon) (lo : Lcs) (st : List Value) (S : Sto),
    RO R d cs sl → CX p s m args meth c D cA ad A cc nL own ret → (∀ pc' lo' st' S', K pc' lo' st' S' → WS lay p l e R s m args below meth c D cA ad A nL cs sl Qm pc' lo' st' S') →
    (∀ (S : Sto) (pc : Nat) (ls : Array Slot) (H : Heap) (locs : List Loc), Q none S → decode cc pc = .ok (.return_, 1) → va_P D cls (wsL lay cA ad S) H → va_S A s.heap H locs → W p l e R s m args below meth c H locs cs sl Qm (F0 m pc ls [])) → op K Q lo st S → WS lay p l e R s m args below meth c D cA ad A nL cs sl Qm pc lo st S
theorem OSx.g {lay : List Ent} {cc : ByteArray} {nL : Nat} {own : String} {d pc : Nat} {op : Opn} (h : OSg lay cc nL own d pc op) : OSx lay cc nL own d pc op :=
  ⟨fun K K' Q Q' lo st S hK _ h1 => h.1 K K' Q Q' lo st S hK h1, fun p l e R s m args below meth c D cA ad A ret cs sl Qm Q K lo st S hR C hK _ h1 => h.2 p l e R s m args below meth c D cA ad A ret cs sl Qm Q K lo st S hR C hK h1⟩
theorem OSx.cons {lay : List Ent} {cc : ByteArray} {nL : Nat} {own : String} {d pc nx : Nat} {f : Op1} {g : Opn} (h1 : OS1 lay cc nL own d pc nx f) (h2 : OSx lay cc nL own d nx g) : OSx lay cc nL own d pc (sq f g) :=
  ⟨fun K K' Q Q' lo st S hK hQ h => h1.1 _ _ lo st S (fun a b c h => h2.1 K K' Q Q' a b c hK hQ h) h, fun p l e R s m args below meth c D cA ad A ret cs sl Qm Q K lo st S hR C hK hret h => h1.2 p l e R s m args below meth c D cA ad A ret cs sl Qm _ lo st S hR C (fun lo' st' S' h => h2.2 p l e R s m args below meth c D cA ad A ret cs sl Qm Q K lo' st' S' hR C hK hret h) h⟩
theorem OSx.ret {lay : List Ent} {cc : ByteArray} {nL : Nat} {own : String} {d pc : Nat} (hd : decode cc pc = .ok (.return_, 1)) : OSx lay cc nL own d pc t_vret := by
  refine ⟨?_, ?_⟩
  · intro K K' Q Q' lo st S hK hQ
    unfold t_vret
    split
    · exact hQ _ _
    · exact id
  · intro p l e R s m args below meth c D cA ad A ret cs sl Qm Q K lo st S hR C hK hret h H locs ls hP hD hS hl
    unfold t_vret at h
    split at h
    · exact hret S pc ls H locs h hd hP hS
    · exact h.elim
def TlOk (lay : List Ent) (cc : ByteArray) (nL : Nat) (own : String) (d : Nat) (P : Prg) : Prop := ∀ q ∈ P, OSx lay cc nL own d q.1 q.2
theorem TlOk.nil {lay : List Ent} {cc : ByteArray} {nL : Nat} {own : String} {d : Nat} : TlOk lay cc nL own d [] := fun _ h => absurd h List.not_mem_nil
theorem TlOk.cons {lay : List Ent} {cc : ByteArray} {nL : Nat} {own : String} {d pc : Nat} {o : Opn} {P : Prg} (h1 : OSx lay cc nL own d pc o) (h2 : TlOk lay cc nL own d P) : TlOk lay cc nL own d ((pc, o) :: P) := fun q h => by
  rcases List.mem_cons.mp h with rfl | h
  · exact h1
  · exact h2 q h
theorem TlOk.go {lay : List Ent} {cc : ByteArray} {nL : Nat} {own : String} {d : Nat} {P : Prg} (h : TlOk lay cc nL own d P) {pc : Nat} {Q : Out} {lo : Lcs} {st : List Value} {S : Sto} {o : Opn} (ho : P.lookup pc = some o) (h1 : o (Rn P Q) Q lo st S) : Rn P Q pc lo st S := by
  intro I hI
  refine hI pc lo st S ?_
  unfold at_
  rw [ho]
  exact (h _ (lk_mem ho)).1 _ _ Q Q lo st S (fun _ _ _ _ h2 => h2 I hI) (fun _ _ h => h) h1
theorem TlOk.run {lay : List Ent} {cc : ByteArray} {nL : Nat} {own : String} {d : Nat} {P : Prg} (hP : TlOk lay cc nL own d P) {p : Program} {l : Launch} {e : Env} {R : Room} {s : State} {m : MethodId} {args : Array Value} {below : List Frame} {meth : Method} {c : Code} {D : va_G} {cA : Nat → ClassId} {ad : Nat → Nat} {A : Nat → Prop} {ret : Option FieldType} {cs sl : Nat} {Qm : State → Prop} {Q : Out} {pc : Nat} {lo : Lcs} {st : List Value} {S : Sto}
    (hR : RO R d cs sl) (C : CX p s m args meth c D cA ad A cc nL own ret)
    (hret : ∀ (S : Sto) (pc : Nat) (ls : Array Slot) (H : Heap) (locs : List Loc), Q none S → decode cc pc = .ok (.return_, 1) → va_P D cls (wsL lay cA ad S) H → va_S A s.heap H locs → W p l e R s m args below meth c H locs cs sl Qm (F0 m pc ls []))
    (h : Rn P Q pc lo st S) : WS lay p l e R s m args below meth c D cA ad A nL cs sl Qm pc lo st S := by
  refine h (WS lay p l e R s m args below meth c D cA ad A nL cs sl Qm) fun pc lo st S h => ?_
  unfold at_ at h
  cases hq : P.lookup pc with
  | none => rw [hq] at h; exact h.elim
  | some o =>
    rw [hq] at h
    exact (hP _ (lk_mem hq)).2 p l e R s m args below meth c D cA ad A ret cs sl Qm Q _ lo st S hR C (fun _ _ _ _ h => h) hret h
