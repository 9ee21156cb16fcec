/-! calls -/
theorem gw_mem {w : Cond} (i : Nat) (h : lw_tbl[i]? = some w) (hg : goodWord w = true) : w ∈ gw := List.mem_filter.mpr ⟨List.mem_of_getElem? h, hg⟩
theorem tb_app {w : Cond} {a b : List Cond} (h : w ∈ b) : w ∈ a ++ b := List.mem_append_right _ h
theorem gm_0 {w : Cond} (i : Nat) (h : (k2_sels lw_privs)[i]? = some w) (hg : goodWord w = true) : w ∈ gw := List.mem_filter.mpr ⟨List.mem_append_left _ (List.mem_of_getElem? h), hg⟩
theorem gm_1 {w : Cond} (i : Nat) (h : tables_1_1[i]? = some w) (hg : goodWord w = true) : w ∈ gw := List.mem_filter.mpr ⟨tb_app (List.mem_append_left _ (List.mem_of_getElem? h)), hg⟩
theorem gm_2 {w : Cond} (i : Nat) (h : tables_1_2[i]? = some w) (hg : goodWord w = true) : w ∈ gw := List.mem_filter.mpr ⟨tb_app (tb_app (List.mem_append_left _ (List.mem_of_getElem? h))), hg⟩
theorem gm_3 {w : Cond} (i : Nat) (h : tables_1_3[i]? = some w) (hg : goodWord w = true) : w ∈ gw := List.mem_filter.mpr ⟨tb_app (tb_app (tb_app (List.mem_append_left _ (List.mem_of_getElem? h)))), hg⟩
theorem gm_4 {w : Cond} (i : Nat) (h : tables_1_4[i]? = some w) (hg : goodWord w = true) : w ∈ gw := List.mem_filter.mpr ⟨tb_app (tb_app (tb_app (tb_app (List.mem_append_left _ (List.mem_of_getElem? h))))), hg⟩
theorem gm_5 {w : Cond} (i : Nat) (h : tables_1_5[i]? = some w) (hg : goodWord w = true) : w ∈ gw := List.mem_filter.mpr ⟨tb_app (tb_app (tb_app (tb_app (tb_app (List.mem_append_left _ (List.mem_of_getElem? h)))))), hg⟩
theorem gm_6 {w : Cond} (i : Nat) (h : tables_1_6[i]? = some w) (hg : goodWord w = true) : w ∈ gw := List.mem_filter.mpr ⟨tb_app (tb_app (tb_app (tb_app (tb_app (tb_app (List.mem_of_getElem? h)))))), hg⟩
theorem gw_good {w : Cond} (h : w ∈ gw) : (w.onTables && w.keeps) = true ∨ ∃ ty, w = .arrayClass ty := good_of_word (List.mem_filter.mp h).2
theorem gw_in {y : MethodName} {bb : ByteArray} {mL : Nat} {rt : Option FieldType} (hc : Cond.code y bb mL rt ∈ gw) : GoodIn gw (wsM y bb mL rt) := fun w hw => by
  rcases List.mem_cons.mp hw with rfl | hw
  · exact ⟨hc, gw_good hc⟩
  · exact ⟨hw, gw_good hw⟩
theorem PcO_blind {lay : List Ent} {D : va_G} {cA : Nat → ClassId} {ad : Nat → Nat} {A : Nat → Prop} {as : List Value} {S : Sto} : FrameBlind (PcO lay D cA ad A as S) := by
  intro a U g mk q
  obtain ⟨q0, qP, qK, qD, qX⟩ := q
  exact ⟨q0, qP, va_K.moved (u := U) (U := U.calling g mk a) (Vm.Alike.refl U.vm) qK, qD, qX.call⟩
/-- behind a call -/
theorem W.back {lay : List Ent} {p : Program} {l : Launch} {e : Env} {R : Room} {s : State} {m : MethodId} {args : Array Value} {below : List Frame} {meth : Method} {c : Code} {D : va_G} {cA : Nat → ClassId} {ad : Nat → Nat} {A : Nat → Prop} {nL cs sl : Nat} {Qm : State → Prop} {Qf : Out} {a : Array Value} {H : Heap} {locs : List Loc} {ls : Array Slot} {lo : Lcs} {pc : Nat} {st0 : List Value} {r : List Value}
    (hr : va_Run p l e R s m args below meth c H locs cs sl 0 0 (F0 m pc ls st0) (r.map (vt ad)) (QcO lay D cA ad A Qf a) A) (hS : va_S A s.heap H locs) (hl : lv_has ls nL (lmap ad lo))
    (kk : ∀ v S', Qf v S' → WS lay p l e R s m args below meth c D cA ad A nL cs sl Qm (pc + 3) lo (v.toList ++ r) S') :
    W p l e R s m args below meth c H locs cs sl Qm (F0 m pc ls st0) := by
  intro T hT X
  obtain ⟨v, st₀, t, T', L, h0, X', hL, e1, e2, ⟨⟨r', S', hQ, hv, hP', hK', hD'⟩, hz, hk⟩, stp⟩ := hr T hT X
  have hv : v = r'.map (vt ad) := by injection hv
  subst hv
  rw [h0] at hz hk
  have hS' : va_S A s.heap T'.heap (locs ++ L) := ⟨Nat.le_trans hS.1 (by rw [e1]; exact hz), fun q h1 h2 => by rw [e1, hk q (Nat.lt_of_lt_of_le h1 hS.1) h2]; exact hS.2.1 q h1 h2, fun q hq => by
      rcases List.mem_append.mp hq with h | h
      · exact hS.2.2 q h
      · exact hL q h⟩
  obtain ⟨t2, a1, b1⟩ := kk r' S' hQ T'.heap (locs ++ L) ls (by rw [e1]; exact hP') hD' hS' hl T' rfl X'
  refine ⟨t2, stp t2 ?_, b1⟩
  have es : (Option.map (vt ad) r').toList ++ List.map (vt ad) r = List.map (vt ad) (r'.toList ++ r) := by
    cases r' <;> simp
  rw [es]
  exact a1
def o_cv (lay : List Ent) (F : Fun) (n ci : Nat) : Op1 := fun k lo st S => match st.drop n with
  | .ref a :: r => (lay[a]? = some (0, ci, 0, 0) ∧ (r.map Value.category).sum ≤ 8) ∧ F (.ref a :: (st.take n).reverse) S (fun v S' => k lo (v.toList ++ r) S')
  | _ => False
def o_cs (F : Fun) (n : Nat) : Op1 := fun k lo st S => (n ≤ st.length ∧ ((st.drop n).map Value.category).sum ≤ 8) ∧ F (st.take n).reverse S (fun v S' => k lo (v.toList ++ st.drop n) S')
theorem cat_map (ad : Nat → Nat) (r : List Value) : ((r.map (vt ad)).map fun v => v.category).sum = (r.map Value.category).sum := by
  rw [List.map_map]
  congr 1
  apply List.map_congr_left
  intro v _
  exact vt_cat ad v
theorem s_cv {lay : List Ent} {cc : ByteArray} {nL : Nat} {own : String} {d pc : Nat} {y : MethodName} {bb : ByteArray} {mL d' n ci N ix : Nat} {rt : Option FieldType} {F : Fun} {T : u_T} {ty : Nat → FieldType}
    (hF : Con lay y bb mL rt d' F) (hM : MoF F) (co : CO ci y.cls T N ty) (hdd : d' + 1 ≤ d ∧ mL ≤ 19)
    (hw1 : Cond.methodLink own ix y ∈ gw) (hw2 : Cond.instanceMethod y ∈ gw) (hw3 : Cond.selects y.cls y y ∈ gw) (hw4 : Cond.initialized y.cls ∈ gw) (hw5 : Cond.code y bb mL rt ∈ gw)
    (hy : y.cls ≠ "java/lang/invoke/MethodHandle" ∧ y.cls ≠ "java/lang/invoke/VarHandle" ∧ (parseMethodDescriptor y.desc).map (fun d => d.parameters.length) = some n)
    (hd : decode cc pc = .ok (.invokevirtual ix, 3)) : OS1 lay cc nL own d pc (pc + 3) (o_cv lay F n ci) := by
  refine ⟨?_, ?_⟩
  · intro k k' lo st S hk
    unfold o_cv
    split
    · exact fun h => ⟨h.1, hM _ _ _ _ (fun r S' h => hk _ _ _ h) h.2⟩
    · exact id
  · intro p l e R s m args below meth c D cA ad A ret cs sl Qm k lo st S hR C hk h H locs ls hP hD hS hl
    unfold o_cv at h
    split at h
    · rename_i a r hq
      obtain ⟨⟨ha, hr8⟩, hf⟩ := h
      have hts : ∀ w ∈ gw, w.before args s = true := C.2.2.2.2.2.2.1
      have hgi := gw_in (mL := mL) hw5
      have hdL : (st.drop n).length = r.length + 1 := by rw [hq]; rfl
      have hlen : (st.take n).length = n := by
        rw [List.length_drop] at hdL
        rw [List.length_take]
        omega
      have hst : st.map (vt ad) = (((st.take n).reverse.map (vt ad))).reverse ++ .ref (ad a) :: r.map (vt ad) := by
        rw [List.map_reverse, List.reverse_reverse]
        conv => lhs; rw [← List.take_append_drop n st, List.map_append, hq]
        rfl
      refine W.back (va_runV (y := y) (bytes := bb) (maxL := mL) (ret := rt) (C := y.cls) (b := ad a) (As := (st.take n).reverse.map (vt ad)) (rest := r.map (vt ad)) (n := n) ⟨C.1, C.2.1, C.2.2.2.2.1, C.2.2.2.2.2.1, hts⟩ (hF l D cA ad A _ S _ hf) ⟨callB_of n hts hgi rfl rfl rfl (hts _ hw4) (hts _ hw1) hy ⟨Nat.le_trans hdd.1 hR.1, ?_⟩, hts _ hw2, hts _ hw3⟩ ⟨PcO_blind, va_recv C.2.2.2.2.2.2.2.1 hP co.1 (wsL_at ha), fun U hU hW => ⟨rfl, by rw [hU]; exact hP, va_K.moved hW.alike C.2.2.2.2.2.2.2.1, hD, C.2.2.2.2.2.2.2.2.next hU hW hS⟩⟩ rfl ?_ hl.1 hst ?_ hd ⟨hR.2.2.1, hR.2.2.2⟩) hS hl (fun v S' hQ => hk _ _ _ hQ)
      · refine Nat.le_trans (?_ : 8 + (mL + 11) + 38 * d' ≤ 38 * d) hR.2.1
        omega
      · rw [List.length_map, List.length_reverse]; exact hlen
      · have := lv_room (m := m) (pc := pc) (ls := ls) (rest := st.map (vt ad)) (st := r.map (vt ad)) (by rw [cat_map]; exact hr8)
        exact this
    · exact h.elim
theorem s_cs {lay : List Ent} {cc : ByteArray} {nL : Nat} {own : String} {d pc : Nat} {y : MethodName} {bb : ByteArray} {mL d' n ix : Nat} {rt : Option FieldType} {F : Fun}
    (hF : Con lay y bb mL rt d' F) (hM : MoF F) (hdd : d' + 1 ≤ d ∧ mL ≤ 19)
    (hw1 : Cond.methodLink own ix y ∈ gw) (hw2 : Cond.static y ∈ gw) (hw4 : Cond.initialized y.cls ∈ gw) (hw5 : Cond.code y bb mL rt ∈ gw)
    (hy : y.cls ≠ "java/lang/invoke/MethodHandle" ∧ y.cls ≠ "java/lang/invoke/VarHandle" ∧ (parseMethodDescriptor y.desc).map (fun d => d.parameters.length) = some n)
    (hd : decode cc pc = .ok (.invokestatic ix, 3)) : OS1 lay cc nL own d pc (pc + 3) (o_cs F n) := by
  refine ⟨?_, ?_⟩
  · intro k k' lo st S hk h
    exact ⟨h.1, hM _ _ _ _ (fun r S' h => hk _ _ _ h) h.2⟩
  · intro p l e R s m args below meth c D cA ad A ret cs sl Qm k lo st S hR C hk h H locs ls hP hD hS hl
    obtain ⟨⟨hn, hr8⟩, hf⟩ := h
    have hts : ∀ w ∈ gw, w.before args s = true := C.2.2.2.2.2.2.1
    have hgi := gw_in (mL := mL) hw5
    have hlen : (st.take n).length = n := by rw [List.length_take]; omega
    have hst : st.map (vt ad) = (((st.take n).reverse.map (vt ad))).reverse ++ (st.drop n).map (vt ad) := by
      rw [List.map_reverse, List.reverse_reverse]
      conv => lhs; rw [← List.take_append_drop n st, List.map_append]
    refine W.back (va_runS (y := y) (bytes := bb) (maxL := mL) (ret := rt) (As := (st.take n).reverse.map (vt ad)) (rest := (st.drop n).map (vt ad)) (n := n) ⟨C.1, C.2.1, C.2.2.2.2.1, C.2.2.2.2.2.1, hts⟩ (hF l D cA ad A _ S _ hf) ⟨callB_of n hts hgi rfl rfl rfl (hts _ hw4) (hts _ hw1) hy ⟨Nat.le_trans hdd.1 hR.1, ?_⟩, hts _ hw2⟩ ⟨PcO_blind, fun U hU hW => ⟨rfl, by rw [hU]; exact hP, va_K.moved hW.alike C.2.2.2.2.2.2.2.1, hD, C.2.2.2.2.2.2.2.2.next hU hW hS⟩⟩ rfl ?_ hl.1 hst ?_ hd ⟨hR.2.2.1, hR.2.2.2⟩) hS hl (fun v S' hQ => hk _ _ _ hQ)
    · refine Nat.le_trans (?_ : 8 + (mL + 11) + 38 * d' ≤ 38 * d) hR.2.1
      omega
    · rw [List.length_map, List.length_reverse]; exact hlen
    · have := lv_room (m := m) (pc := pc) (ls := ls) (rest := st.map (vt ad)) (st := (st.drop n).map (vt ad)) (by rw [cat_map]; exact hr8)
      exact this
/-- Math.max, Math.min -/
def o_max : Op1 := fun k lo st S => match st with
  | .int y :: .int x :: r => (r.map Value.category).sum ≤ 8 ∧ k lo (.int (if x < y then y else x) :: r) S
  | _ => False
def o_min : Op1 := fun k lo st S => match st with
  | .int y :: .int x :: r => (r.map Value.category).sum ≤ 8 ∧ k lo (.int (if y < x then y else x) :: r) S
  | _ => False
theorem s_max {lay : List Ent} {cc : ByteArray} {nL : Nat} {own : String} {d pc ix : Nat} (hdd : 1 ≤ d) (hw1 : Cond.methodLink own ix Lib.Math.max.name ∈ gw) (hw2 : Cond.static Lib.Math.max.name ∈ gw) (hw3 : Cond.initialized "java/lang/Math" ∈ gw) (hw4 : Cond.code Lib.Math.max.name Lib.Math.max.code 2 (some .int) ∈ gw) (hd : decode cc pc = .ok (.invokestatic ix, 3)) : OS1 lay cc nL own d pc (pc + 3) o_max := by
  refine ⟨?_, ?_⟩
  · intro k k' lo st S hk
    unfold o_max
    split
    · exact fun h => ⟨h.1, hk _ _ _ h.2⟩
    · exact id
  · intro p l e R s m args below meth c D cA ad A ret cs sl Qm k lo st S hR C hk h H locs ls hP hD hS hl
    unfold o_max at h
    split at h
    · rename_i y x r
      have hts : ∀ w ∈ gw, w.before args s = true := C.2.2.2.2.2.2.1
      exact va_mmax (rest := r.map (vt ad)) C.1 C.2.1 (C.2.2.2.2.1.trans hl.1.symm) C.2.2.2.2.2.1 (hts _ hw1) (hts _ hw2) (hts _ hw3) (hts _ hw4) (Nat.le_trans hdd hR.1) (Nat.le_trans (by rw [cat_map]; have h8 := h.1; omega : _ ≤ 38 * d) hR.2.1) hR.2.2.1 hR.2.2.2 hd (hk _ _ _ h.2 H locs ls hP hD hS hl)
    · exact h.elim
theorem s_min {lay : List Ent} {cc : ByteArray} {nL : Nat} {own : String} {d pc ix : Nat} (hdd : 1 ≤ d) (hw1 : Cond.methodLink own ix Lib.Math.min.name ∈ gw) (hw2 : Cond.static Lib.Math.min.name ∈ gw) (hw3 : Cond.initialized "java/lang/Math" ∈ gw) (hw4 : Cond.code Lib.Math.min.name Lib.Math.min.code 2 (some .int) ∈ gw) (hd : decode cc pc = .ok (.invokestatic ix, 3)) : OS1 lay cc nL own d pc (pc + 3) o_min := by
  refine ⟨?_, ?_⟩
  · intro k k' lo st S hk
    unfold o_min
    split
    · exact fun h => ⟨h.1, hk _ _ _ h.2⟩
    · exact id
  · intro p l e R s m args below meth c D cA ad A ret cs sl Qm k lo st S hR C hk h H locs ls hP hD hS hl
    unfold o_min at h
    split at h
    · rename_i y x r
      have hts : ∀ w ∈ gw, w.before args s = true := C.2.2.2.2.2.2.1
      exact va_mmin (rest := r.map (vt ad)) C.1 C.2.1 (C.2.2.2.2.1.trans hl.1.symm) C.2.2.2.2.2.1 (hts _ hw1) (hts _ hw2) (hts _ hw3) (hts _ hw4) (Nat.le_trans hdd hR.1) (Nat.le_trans (by rw [cat_map]; have h8 := h.1; omega : _ ≤ 38 * d) hR.2.1) hR.2.2.1 hR.2.2.2 hd (hk _ _ _ h.2 H locs ls hP hD hS hl)
    · exact h.elim
/-- System.arraycopy between two rows -/
def o_cpI (lay : List Ent) : Op1 := fun k lo st S => match st with
  | .int n :: .int dp :: .ref b :: .int sp :: .ref a :: r => ((lay[a]? = some (1, alen lay 0 a, 0, 0) ∧ lay[b]? = some (1, alen lay 0 b, 0, 0)) ∧ (¬ sp < 0 ∧ ¬ dp < 0 ∧ ¬ n < 0) ∧ (sp.toNatClampNeg + n.toNatClampNeg ≤ alen lay 0 a ∧ dp.toNatClampNeg + n.toNatClampNeg ≤ alen lay 0 b) ∧ (r.map Value.category).sum ≤ 8) ∧ k lo r (sIr S b (va_cpy (S.1 a) (S.1 b) sp.toNatClampNeg dp.toNatClampNeg n.toNatClampNeg))
  | _ => False
def o_cpL (lay : List Ent) : Op1 := fun k lo st S => match st with
  | .int n :: .int dp :: .ref b :: .int sp :: .ref a :: r => ((lay[a]? = some (2, llen lay a, 0, 0) ∧ lay[b]? = some (2, llen lay b, 0, 0)) ∧ (¬ sp < 0 ∧ ¬ dp < 0 ∧ ¬ n < 0) ∧ (sp.toNatClampNeg + n.toNatClampNeg ≤ llen lay a ∧ dp.toNatClampNeg + n.toNatClampNeg ≤ llen lay b) ∧ (r.map Value.category).sum ≤ 8) ∧ k lo r (sLr S b (va_cpy (S.2.1 a) (S.2.1 b) sp.toNatClampNeg dp.toNatClampNeg n.toNatClampNeg))
  | _ => False
theorem nfw : nativeFrameWords "java/lang/System" "arraycopy" 5 + 11 ≤ 30 := by decide +kernel
theorem s_cpI {lay : List Ent} {cc : ByteArray} {nL : Nat} {own : String} {d pc ix : Nat} (hdd : 1 ≤ d) (hw1 : Cond.methodLink own ix arraycopyName ∈ gw) (hw2 : Cond.native arraycopyName ∈ gw) (hw3 : Cond.static arraycopyName ∈ gw) (hw4 : Cond.initialized "java/lang/System" ∈ gw) (hd : decode cc pc = .ok (.invokestatic ix, 3)) : OS1 lay cc nL own d pc (pc + 3) (o_cpI lay) := by
  refine ⟨?_, ?_⟩
  · intro k k' lo st S hk
    unfold o_cpI
    split
    · exact fun h => ⟨h.1, hk _ _ _ h.2⟩
    · exact id
  · intro p l e R s m args below meth c D cA ad A ret cs sl Qm k lo st S hR C hk h H locs ls hP hD hS hl
    unfold o_cpI at h
    split at h
    · rename_i n dp b sp a r
      obtain ⟨⟨⟨ha, hb⟩, ⟨h1, h2, h3⟩, ⟨h4, h5⟩, h8⟩, hf⟩ := h
      have hts : ∀ w ∈ gw, w.before args s = true := C.2.2.2.2.2.2.1
      refine va_copyi (rest := r.map (vt ad)) (f := S.1 a) (g := S.1 b) (ty := .int) C.1 C.2.1 (C.2.2.2.2.1.trans hl.1.symm) C.2.2.2.2.2.1 (hts _ hw1) (hts _ hw2) (hts _ hw3) (hts _ hw4) C.2.2.2.2.2.2.2.1 hP hD hS a b 0 0 (wsL_at ha) (wsL_at hb) rfl rfl rfl h1 h2 h3 h4 h5 (fun _ _ => rfl) (Nat.le_trans hdd hR.1) (Nat.le_trans (by rw [cat_map]; have := nfw; omega : _ ≤ 38 * d) hR.2.1) hd (fun H1 locs1 hP1 hD1 hS1 => ?_)
      have e2 : ((wsL lay cA ad S).set b (ad b, .inl (cA 0, alen lay 0 b, .inl (va_cpy (S.1 a) (S.1 b) sp.toNatClampNeg dp.toNatClampNeg n.toNatClampNeg)))) = wsL lay cA ad (sIr S b (va_cpy (S.1 a) (S.1 b) sp.toNatClampNeg dp.toNatClampNeg n.toNatClampNeg)) := by
        have e3 : (.inl (cA 0, alen lay 0 b, .inl (va_cpy (S.1 a) (S.1 b) sp.toNatClampNeg dp.toNatClampNeg n.toNatClampNeg)) : va_E) = mkC cA ad (sIr S b (va_cpy (S.1 a) (S.1 b) sp.toNatClampNeg dp.toNatClampNeg n.toNatClampNeg)) b (1, alen lay 0 b, 0, 0) := by
          simp [mkC, sIr]
        rw [e3]
        exact wsL_set hb (fun b hb => by simp [sIr, hb]) (fun b hb => by simp [sIr]) (fun b hb => by simp [sIr])
      rw [e2] at hP1 hD1
      exact hk _ _ _ hf H1 locs1 ls hP1 hD1 hS1 hl
    · exact h.elim
theorem s_cpL {lay : List Ent} {cc : ByteArray} {nL : Nat} {own : String} {d pc ix : Nat} (hdd : 1 ≤ d) (hw1 : Cond.methodLink own ix arraycopyName ∈ gw) (hw2 : Cond.native arraycopyName ∈ gw) (hw3 : Cond.static arraycopyName ∈ gw) (hw4 : Cond.initialized "java/lang/System" ∈ gw) (hd : decode cc pc = .ok (.invokestatic ix, 3)) : OS1 lay cc nL own d pc (pc + 3) (o_cpL lay) := by
  refine ⟨?_, ?_⟩
  · intro k k' lo st S hk
    unfold o_cpL
    split
    · exact fun h => ⟨h.1, hk _ _ _ h.2⟩
    · exact id
  · intro p l e R s m args below meth c D cA ad A ret cs sl Qm k lo st S hR C hk h H locs ls hP hD hS hl
    unfold o_cpL at h
    split at h
    · rename_i n dp b sp a r
      obtain ⟨⟨⟨ha, hb⟩, ⟨h1, h2, h3⟩, ⟨h4, h5⟩, h8⟩, hf⟩ := h
      have hts : ∀ w ∈ gw, w.before args s = true := C.2.2.2.2.2.2.1
      refine va_copyl (rest := r.map (vt ad)) (f := S.2.1 a) (g := S.2.1 b) (ty := .long) C.1 C.2.1 (C.2.2.2.2.1.trans hl.1.symm) C.2.2.2.2.2.1 (hts _ hw1) (hts _ hw2) (hts _ hw3) (hts _ hw4) C.2.2.2.2.2.2.2.1 hP hD hS a b 3 3 (wsL_at ha) (wsL_at hb) rfl rfl rfl h1 h2 h3 h4 h5 (fun _ _ => rfl) (Nat.le_trans hdd hR.1) (Nat.le_trans (by rw [cat_map]; have := nfw; omega : _ ≤ 38 * d) hR.2.1) hd (fun H1 locs1 hP1 hD1 hS1 => ?_)
      have e2 : ((wsL lay cA ad S).set b (ad b, .inl (cA 3, llen lay b, .inr (.inl (va_cpy (S.2.1 a) (S.2.1 b) sp.toNatClampNeg dp.toNatClampNeg n.toNatClampNeg))))) = wsL lay cA ad (sLr S b (va_cpy (S.2.1 a) (S.2.1 b) sp.toNatClampNeg dp.toNatClampNeg n.toNatClampNeg)) := by
        have e3 : (.inl (cA 3, llen lay b, .inr (.inl (va_cpy (S.2.1 a) (S.2.1 b) sp.toNatClampNeg dp.toNatClampNeg n.toNatClampNeg))) : va_E) = mkC cA ad (sLr S b (va_cpy (S.2.1 a) (S.2.1 b) sp.toNatClampNeg dp.toNatClampNeg n.toNatClampNeg)) b (2, llen lay b, 0, 0) := by
          simp [mkC, sLr]
        rw [e3]
        exact wsL_set hb (fun b hb => by simp [sLr]) (fun b hb => by simp [sLr, hb]) (fun b hb => by simp [sLr])
      rw [e2] at hP1 hD1
      exact hk _ _ _ hf H1 locs1 ls hP1 hD1 hS1 hl
    · exact h.elim
