/-! A small machine over a store of rows: the places of the world are numbers; what a method does is a predicate transformer, the least one that its blocks allow. -/
def vt (ad : Nat → Nat) (v : Value) : Value := match v with
  | .ref a => .ref (ad a)
  | .int x => .int x
  | .long x => .long x
  | .float x => .float x
  | .double x => .double x
  | .null => .null
  | .retAddr x => .retAddr x
theorem vt_cat (ad : Nat → Nat) (v : Value) : (vt ad v).category = v.category := by cases v <;> rfl
abbrev Sto : Type := (Nat → Nat → Int32) × (Nat → Nat → Int64) × (Nat → Nat → Nat)
abbrev Ent : Type := Nat × Nat × Nat × Nat
abbrev Lcs : Type := List (Nat × Value)
abbrev Kon : Type := Nat → Lcs → List Value → Sto → Prop
abbrev Out : Type := Option Value → Sto → Prop
abbrev Op1 : Type := (Lcs → List Value → Sto → Prop) → Lcs → List Value → Sto → Prop
abbrev Opn : Type := Kon → Out → Lcs → List Value → Sto → Prop
abbrev Fun : Type := List Value → Sto → Out → Prop
def fv (ad : Nat → Nat) (S : Sto) (a : Nat) (q : (Nat × Nat) × Nat) : Value := match q.1.1 with
  | 0 => .int (S.1 a q.2)
  | 1 => .long (S.2.1 a q.2)
  | 2 => .ref (ad (a + q.1.2))
  | _ => .ref (ad (S.2.2 a q.2))
def mkC (cA : Nat → ClassId) (ad : Nat → Nat) (S : Sto) (a : Nat) (e : Ent) : va_E := match e.1 with
  | 0 => .inr (e.2.1, (fks e.2.1).zipIdx.map (fv ad S a))
  | 1 => .inl (cA e.2.2.1, e.2.1, .inl (S.1 a))
  | 2 => .inl (cA 3, e.2.1, .inr (.inl (S.2.1 a)))
  | 3 => .inl (cA 4, e.2.1, .inr (.inr (.inr (.inr (fun j => some (ad (e.2.2.1 + e.2.2.2 * j)))))))
  | 4 => .inr (e.2.1, (fks e.2.1).zipIdx.map (fun q => if 2 ≤ q.1.1 ∧ e.2.2.1 ≤ q.2 then .null else fv ad S a q))
  | k + 5 => .inl (cA 4, e.2.1, .inr (.inr (.inr (.inr (fun j => if j < k then some (ad (e.2.2.1 + e.2.2.2 * j)) else none)))))
def wsL (lay : List Ent) (cA : Nat → ClassId) (ad : Nat → Nat) (S : Sto) : va_W := lay.zipIdx.map (fun q => (ad q.2, mkC cA ad S q.2 q.1))
def tysA (cA : Nat → ClassId) : List (ClassId × FieldType) := [(cA 0, .int), (cA 1, .byte), (cA 2, .boolean), (cA 3, .long), (cA 4, .object "TurnedRivers$Standing")]
theorem wsL_at {lay : List Ent} {cA : Nat → ClassId} {ad : Nat → Nat} {S : Sto} {a : Nat} {e : Ent} (h : lay[a]? = some e) : (wsL lay cA ad S)[a]? = some (ad a, mkC cA ad S a e) := by
  simp [wsL, h]
theorem wsL_len {lay : List Ent} {cA : Nat → ClassId} {ad : Nat → Nat} {S : Sto} : (wsL lay cA ad S).length = lay.length := by simp [wsL]
/-- a store that differs at one place -/
theorem wsL_set {lay : List Ent} {cA : Nat → ClassId} {ad : Nat → Nat} {S S' : Sto} {a : Nat} {e : Ent} (h : lay[a]? = some e) (h1 : ∀ b, b ≠ a → S'.1 b = S.1 b) (h2 : ∀ b, b ≠ a → S'.2.1 b = S.2.1 b) (h3 : ∀ b, b ≠ a → S'.2.2 b = S.2.2 b) :
    (wsL lay cA ad S).set a (ad a, mkC cA ad S' a e) = wsL lay cA ad S' := by
  apply List.ext_getElem?
  intro b
  by_cases hb : b = a
  · subst hb
    have hl : b < (wsL lay cA ad S).length := by
      rw [wsL_len]; exact (List.getElem?_eq_some_iff.mp h).1
    rw [List.getElem?_set_self hl, wsL_at h]
  · rw [List.getElem?_set_ne (fun q => hb q.symm)]
    simp only [wsL, List.getElem?_map, List.getElem?_zipIdx]
    cases hq : lay[b]? with
    | none => rfl
    | some e2 =>
      simp only [Option.map_some, Nat.zero_add]
      have : mkC cA ad S b e2 = mkC cA ad S' b e2 := by
        unfold mkC
        have hf : (fv ad S b) = (fv ad S' b) := by
          funext q
          unfold fv
          rw [h1 b hb, h2 b hb, h3 b hb]
        rw [h1 b hb, h2 b hb, hf]
      rw [this]
def sI (S : Sto) (a i : Nat) (v : Int32) : Sto := (fun b => if b = a then upd (S.1 a) i v else S.1 b, S.2.1, S.2.2)
def sL (S : Sto) (a i : Nat) (v : Int64) : Sto := (S.1, fun b => if b = a then vp_updL (S.2.1 a) i v else S.2.1 b, S.2.2)
def sR (S : Sto) (a i : Nat) (v : Nat) : Sto := (S.1, S.2.1, fun b => if b = a then (fun j => if j = i then v else S.2.2 a j) else S.2.2 b)
def sIr (S : Sto) (a : Nat) (f : Nat → Int32) : Sto := (fun b => if b = a then f else S.1 b, S.2.1, S.2.2)
def sLr (S : Sto) (a : Nat) (f : Nat → Int64) : Sto := (S.1, fun b => if b = a then f else S.2.1 b, S.2.2)
/-- locals: kept in the order of their places -/
def kpl (i : Nat) : Nat × Value → Bool
  | (j, .long _) => !(j == i) && !(j + 1 == i)
  | (j, .double _) => !(j == i) && !(j + 1 == i)
  | (j, _) => !(j == i)
def ins (i : Nat) (v : Value) : Lcs → Lcs
  | [] => [(i, v)]
  | (j, w) :: t => if i < j then (i, v) :: (j, w) :: t else (j, w) :: ins i v t
def lset (i : Nat) (v : Value) (l : Lcs) : Lcs := ins i v (l.filter (kpl i))
def lsetL (i : Nat) (v : Value) (l : Lcs) : Lcs := ins i v ((l.filter (kpl i)).filter (fun q => !(q.1 == i + 1)))
def keepL (ks : List Nat) (l : Lcs) : Lcs := l.filter (fun q => ks.contains q.1)
def lmap (ad : Nat → Nat) (l : Lcs) : Lcs := l.map (fun q => (q.1, vt ad q.2))
theorem ins_mem {i : Nat} {v : Value} {q : Nat × Value} : ∀ {l : Lcs}, q ∈ ins i v l → q = (i, v) ∨ q ∈ l
  | [], h => by simpa [ins] using h
  | (j, w) :: t, h => by
    unfold ins at h
    by_cases hij : i < j
    · rw [if_pos hij] at h
      simpa using h
    · rw [if_neg hij] at h
      rcases List.mem_cons.mp h with h | h
      · exact Or.inr (by rw [h]; exact List.mem_cons_self)
      · rcases ins_mem h with h | h
        · exact Or.inl h
        · exact Or.inr (List.mem_cons_of_mem _ h)
theorem lmap_mem {ad : Nat → Nat} {q : Nat × Value} {l : Lcs} (h : q ∈ lmap ad l) : ∃ r, r ∈ l ∧ q = (r.1, vt ad r.2) := by
  obtain ⟨r, h1, h2⟩ := List.mem_map.mp h
  exact ⟨r, h1, h2.symm⟩
theorem mem_lmap {ad : Nat → Nat} {q : Nat × Value} {l : Lcs} (h : q ∈ l) : (q.1, vt ad q.2) ∈ lmap ad l := List.mem_map.mpr ⟨q, h, rfl⟩
theorem lv_weak {ls : Array Slot} {nL : Nat} {l l' : Lcs} (h : lv_has ls nL l) (hs : ∀ q ∈ l', q ∈ l) : lv_has ls nL l' := ⟨h.1, h.2.1, fun q hq => h.2.2 q (hs q hq)⟩
theorem lset_has {ad : Nat → Nat} {ls : Array Slot} {nL i : Nat} {v : Value} {l : Lcs} (h : lv_has ls nL ((i, vt ad v) :: (lmap ad l).filter (fun q => !(q.1 == i) && !(q.1 + 1 == i && q.2.category == 2)))) : lv_has ls nL (lmap ad (lset i v l)) := by
  refine lv_weak h fun q hq => ?_
  obtain ⟨r, h1, rfl⟩ := lmap_mem hq
  rcases ins_mem h1 with rfl | h1
  · exact List.mem_cons_self
  · obtain ⟨h1, h2⟩ := List.mem_filter.mp h1
    refine List.mem_cons_of_mem _ (List.mem_filter.mpr ⟨mem_lmap h1, ?_⟩)
    obtain ⟨j, w⟩ := r
    cases w <;> simp_all [kpl, vt, Value.category]
theorem lsetL_has {ad : Nat → Nat} {ls : Array Slot} {nL i : Nat} {v : Value} {l : Lcs} (h : lv_has ls nL ((i, vt ad v) :: (lmap ad l).filter (fun q => !(q.1 == i) && (!(q.1 == i + 1) && !(q.1 + 1 == i && q.2.category == 2))))) : lv_has ls nL (lmap ad (lsetL i v l)) := by
  refine lv_weak h fun q hq => ?_
  obtain ⟨r, h1, rfl⟩ := lmap_mem hq
  rcases ins_mem h1 with rfl | h1
  · exact List.mem_cons_self
  · obtain ⟨h1, h3⟩ := List.mem_filter.mp h1
    obtain ⟨h1, h2⟩ := List.mem_filter.mp h1
    refine List.mem_cons_of_mem _ (List.mem_filter.mpr ⟨mem_lmap h1, ?_⟩)
    obtain ⟨j, w⟩ := r
    cases w <;> simp_all [kpl, vt, Value.category]
theorem keepL_has {ad : Nat → Nat} {ls : Array Slot} {nL : Nat} {ks : List Nat} {l : Lcs} (h : lv_has ls nL (lmap ad l)) : lv_has ls nL (lmap ad (keepL ks l)) := by
  refine lv_weak h fun q hq => ?_
  obtain ⟨r, h1, rfl⟩ := lmap_mem hq
  exact mem_lmap (List.mem_filter.mp h1).1
theorem lget {ad : Nat → Nat} {ls : Array Slot} {nL i : Nat} {v : Value} {l : Lcs} (h : lv_has ls nL (lmap ad l)) (hv : l.lookup i = some v) : ls[i]? = some (.val (vt ad v)) := by
  have hm : ∀ (l : Lcs), l.lookup i = some v → (i, v) ∈ l := by
    intro l
    induction l with
    | nil => intro h; cases h
    | cons q t ih =>
      obtain ⟨j, w⟩ := q
      intro h
      rw [List.lookup_cons] at h
      by_cases hij : i = j
      · subst hij
        simp at h
        subst h
        exact List.mem_cons_self
      · have : (i == j) = false := by simpa using hij
        rw [this] at h
        exact List.mem_cons_of_mem _ (ih h)
  exact h.2.2 _ (mem_lmap (hm l hv))
/-! the judgement -/
def slen : List Nat := [6, 5, 4, 4, 3, 6]
def sbyt : List (List Int32) := [[112, 108, 97, 99, 101, 115], [114, 105, 118, 101, 114], [116, 111, 119, 110], [119, 111, 114, 107], [100, 97, 109], [102, 111, 108, 108, 111, 119]]
def six : List Nat := [49, 55, 57, 59, 61, 63]
def stx : List String := ["places", "river", "town", "work", "dam", "follow"]
/-- the six texts, at places behind the world's, and String's own static -/
def XS (ad : Nat → Nat) (A : Nat → Prop) (U : State) : Prop := vk_S 6 slen sbyt (fun i => ad (1000 + i)) (fun i => ad (2000 + i)) A U U.heap ∧ (∀ i, i < 6 → vk_R "TurnedRivers$Tokens" (six.getD i 0) (stx.getD i "") (ad (1000 + i)) U) ∧ va_Z "java/lang/String" "COMPACT_STRINGS" "Z" (.int 1) A U U.heap ∧ (va_Z "jdk/internal/util/Preconditions" "SIOOBE_FORMATTER" "Ljava/util/function/BiFunction;" .null A U U.heap ∨ va_Z "jdk/internal/util/Preconditions" "SIOOBE_FORMATTER" "Ljava/util/function/BiFunction;" (.ref (ad 3000)) A U U.heap)
theorem XS.call {ad : Nat → Nat} {A : Nat → Prop} {U : State} {g : JFrame} {mk : MethodId} {a : Array Value} (h : XS ad A U) : XS ad A (U.calling g mk a) :=
  ⟨vk_S.moved (u := U) (U := U.calling g mk a) (Vm.Alike.refl U.vm) h.1, fun i hi => vk_R.same (u := U) (U := U.calling g mk a) rfl (h.2.1 i hi), va_Z.moved (u := U) (U := U.calling g mk a) (Vm.Alike.refl U.vm) h.2.2.1, h.2.2.2.imp (va_Z.moved (u := U) (U := U.calling g mk a) (Vm.Alike.refl U.vm)) (va_Z.moved (u := U) (U := U.calling g mk a) (Vm.Alike.refl U.vm))⟩
theorem XS.next {ad : Nat → Nat} {A : Nat → Prop} {s U : State} {H : Heap} {locs : List Loc} (h : XS ad A s) (hU : U.heap = H) (hW : s.WarmedH U.vm) (hS : va_S A s.heap H locs) : XS ad A U := by
  refine ⟨?_, fun i hi => vk_R.warm hW (h.2.1 i hi), ?_, ?_⟩
  · rw [hU]; exact vk_S.moved hW.alike (h.1.kept hS.2.1)
  · rw [hU]; exact va_Z.moved hW.alike (h.2.2.1.kept hS.2.1)
  · rw [hU]; exact h.2.2.2.imp (fun z => va_Z.moved hW.alike (z.kept hS.2.1)) (fun z => va_Z.moved hW.alike (z.kept hS.2.1))
def rmD (d : Nat) : Room := { frames := d, cells := 0, slots := 0, locals := 38 * d }
def QcO (lay : List Ent) (D : va_G) (cA : Nat → ClassId) (ad : Nat → Nat) (A : Nat → Prop) (Q : Out) : Array Value → State → Outcome → State → Prop := fun _ st oc t =>
  (∃ (r : Option Value) (S : Sto), Q r S ∧ oc = .returned (r.map (vt ad)) ∧ va_P D cls (wsL lay cA ad S) t.heap ∧ va_K D cls (tysA cA) t ∧ va_D A (wsL lay cA ad S)) ∧ va_F A st t
def PcO (lay : List Ent) (D : va_G) (cA : Nat → ClassId) (ad : Nat → Nat) (A : Nat → Prop) (as : List Value) (S : Sto) : Array Value → State → Prop :=
  va_Pc (as.map (vt ad)) (fun U => va_P D cls (wsL lay cA ad S) U.heap ∧ va_K D cls (tysA cA) U ∧ va_D A (wsL lay cA ad S) ∧ XS ad A U)
def wsM (y : MethodName) (cc : ByteArray) (nL : Nat) (ret : Option FieldType) : List Cond := Cond.code y cc nL ret :: gw
def Con (lay : List Ent) (y : MethodName) (cc : ByteArray) (nL : Nat) (ret : Option FieldType) (d : Nat) (F : Fun) : Prop :=
  ∀ (l : Launch) (D : va_G) (cA : Nat → ClassId) (ad : Nat → Nat) (A : Nat → Prop) (as : List Value) (S : Sto) (Q : Out), F as S Q → Met l y (wsM y cc nL ret) (rmD d) (PcO lay D cA ad A as S) (QcO lay D cA ad A Q) 0 0 A
def CX (p : Program) (s : State) (m : MethodId) (args : Array Value) (meth : Method) (c : Code) (D : va_G) (cA : Nat → ClassId) (ad : Nat → Nat) (A : Nat → Prop) (cc : ByteArray) (nL : Nat) (own : String) (ret : Option FieldType) : Prop :=
  p.tables.exec = Jvm.exec ∧ c.code = cc ∧ meth.sig.returnType = ret ∧ meth.locks = false ∧ c.maxLocals = nL ∧ s.vm.findClass own = some m.cls ∧ (∀ w ∈ gw, w.before args s = true) ∧ va_K D cls (tysA cA) s ∧ XS ad A s
def RO (R : Room) (d cs sl : Nat) : Prop := d ≤ R.frames ∧ 38 * d ≤ R.locals ∧ cs ≤ R.cells ∧ sl ≤ R.slots
def WS (lay : List Ent) (p : Program) (l : Launch) (e : Env) (R : Room) (s : State) (m : MethodId) (args : Array Value) (below : List Frame) (meth : Method) (c : Code) (D : va_G) (cA : Nat → ClassId) (ad : Nat → Nat) (A : Nat → Prop) (nL cs sl : Nat) (Qm : State → Prop) : Kon := fun pc lo st S =>
  ∀ (H : Heap) (locs : List Loc) (ls : Array Slot), va_P D cls (wsL lay cA ad S) H → va_D A (wsL lay cA ad S) → va_S A s.heap H locs → lv_has ls nL (lmap ad lo) →
    W p l e R s m args below meth c H locs cs sl Qm (F0 m pc ls (st.map (vt ad)))
/-- an instruction that goes on at nx -/
def OS1 (lay : List Ent) (cc : ByteArray) (nL : Nat) (own : String) (d pc nx : Nat) (op : Op1) : Prop :=
  (∀ (k k' : Lcs → List Value → Sto → Prop) (lo : Lcs) (st : List Value) (S : Sto), (∀ a b c, k a b c → k' a b c) → op k lo st S → op k' lo st S) ∧
  ∀ (p : Program) (l : Launch) (e : Env) (R : Room) (s : State) (m : MethodId) (args : Array Value) (below : List Frame) (meth : Method) (c : Code) (D : va_G) (cA : Nat → ClassId) (ad : Nat → Nat) (A : Nat → Prop) (ret : Option FieldType) (cs sl : Nat) (Qm : State → Prop) (k : Lcs → List Value → Sto → Prop) (lo : Lcs) (st : List Value) (S : Sto),
    RO R d cs sl → CX p s m args meth c D cA ad A cc nL own ret → (∀ lo' st' S', k lo' st' S' → WS lay p l e R s m args below meth c D cA ad A nL cs sl Qm nx lo' st' S') → op k lo st S → WS lay p l e R s m args below meth c D cA ad A nL cs sl Qm pc lo st S
/-- a jump -/
def OSg (lay : List Ent) (cc : ByteArray) (nL : Nat) (own : String) (d pc : Nat) (op : Opn) : Prop :=
  (∀ (K K' : Kon) (Q Q' : Out) (lo : Lcs) (st : List Value) (S : Sto), (∀ a b c d, K a b c d → K' a b c d) → op K Q lo st S → op K' Q' lo st S) ∧
  ∀ (p : Program) (l : Launch) (e : Env) (R : Room) (s : State) (m : MethodId) (args : Array Value) (below : List Frame) (meth : Method) (c : Code) (D : va_G) (cA : Nat → ClassId) (ad : Nat → Nat) (A : Nat → Prop) (ret : Option FieldType) (cs sl : Nat) (Qm : State → Prop) (Q : Out) (K : Kon) (lo : Lcs) (st : List Value) (S : Sto),
    RO R d cs sl → CX p s m args meth c D cA ad A cc nL own ret → (∀ pc' lo' st' S', K pc' lo' st' S' → WS lay p l e R s m args below meth c D cA ad A nL cs sl Qm pc' lo' st' S') → op K Q lo st S → WS lay p l e R s m args below meth c D cA ad A nL cs sl Qm pc lo st S
/-- a block -/
def OSn (lay : List Ent) (cc : ByteArray) (nL : Nat) (own : String) (ret : Option FieldType) (d pc : Nat) (op : Opn) : Prop :=
  (∀ (K K' : Kon) (Q Q' : Out) (lo : Lcs) (st : List Value) (S : Sto), (∀ a b c d, K a b c d → K' a b c d) → (∀ r S, Q r S → Q' r S) → op K Q lo st S → op K' Q' lo st S) ∧
  ∀ (p : Program) (l : Launch) (e : Env) (s : State) (m : MethodId) (args : Array Value) (below : List Frame) (meth : Method) (c : Code) (D : va_G) (cA : Nat → ClassId) (ad : Nat → Nat) (A : Nat → Prop) (Q : Out) (K : Kon) (lo : Lcs) (st : List Value) (S : Sto),
    CX p s m args meth c D cA ad A cc nL own ret → (∀ pc' lo' st' S', K pc' lo' st' S' → WS lay p l e (rmD d) s m args below meth c D cA ad A nL 0 0 (MQ below (QcO lay D cA ad A Q) args s 0 0 A) pc' lo' st' S') → op K Q lo st S → WS lay p l e (rmD d) s m args below meth c D cA ad A nL 0 0 (MQ below (QcO lay D cA ad A Q) args s 0 0 A) pc lo st S
theorem RO_d (d : Nat) : RO (rmD d) d 0 0 := ⟨Nat.le_refl _, Nat.le_refl _, Nat.le_refl _, Nat.le_refl _⟩
theorem OSn.g {lay : List Ent} {cc : ByteArray} {nL : Nat} {own : String} {ret : Option FieldType} {d pc : Nat} {op : Opn} (h : OSg lay cc nL own d pc op) : OSn lay cc nL own ret d pc op :=
  ⟨fun K K' Q Q' lo st S hK _ h1 => h.1 K K' Q Q' lo st S hK h1, fun p l e s m args below meth c D cA ad A Q K lo st S C hK h1 => h.2 p l e (rmD d) s m args below meth c D cA ad A ret 0 0 _ Q K lo st S (RO_d d) C hK h1⟩
def sq (f : Op1) (g : Opn) : Opn := fun K Q lo st S => f (fun lo st S => g K Q lo st S) lo st S
theorem OSn.cons {lay : List Ent} {cc : ByteArray} {nL : Nat} {own : String} {ret : Option FieldType} {d pc nx : Nat} {f : Op1} {g : Opn} (h1 : OS1 lay cc nL own d pc nx f) (h2 : OSn lay cc nL own ret d nx g) : OSn lay cc nL own ret d pc (sq f g) := by
  refine ⟨fun K K' Q Q' lo st S hK hQ h => ?_, fun p l e s m args below meth c D cA ad A Q K lo st S C hK h => ?_⟩
  · exact h1.1 _ _ lo st S (fun a b c h => h2.1 K K' Q Q' a b c hK hQ h) h
  · exact h1.2 p l e (rmD d) s m args below meth c D cA ad A ret 0 0 _ _ lo st S (RO_d d) C (fun lo' st' S' h => h2.2 p l e s m args below meth c D cA ad A Q K lo' st' S' C hK h) h
abbrev Prg : Type := List (Nat × Opn)
def at_ (P : Prg) (pc : Nat) : Opn := match P.lookup pc with
  | some o => o
  | none => fun _ _ _ _ _ => False
/-- the least predicate that the blocks allow -/
def Rn (P : Prg) (Q : Out) : Kon := fun pc lo st S => ∀ I : Kon, (∀ pc lo st S, at_ P pc I Q lo st S → I pc lo st S) → I pc lo st S
def Wpm (P : Prg) (nL : Nat) : Fun := fun as S Q => (lg_sl as).length ≤ nL ∧ Rn P Q 0 (lv_args 0 as) [] S
def PrgOk (lay : List Ent) (cc : ByteArray) (nL : Nat) (own : String) (ret : Option FieldType) (d : Nat) (P : Prg) : Prop := ∀ q ∈ P, OSn lay cc nL own ret d q.1 q.2
theorem PrgOk.nil {lay : List Ent} {cc : ByteArray} {nL : Nat} {own : String} {ret : Option FieldType} {d : Nat} : PrgOk lay cc nL own ret d [] := fun _ h => absurd h List.not_mem_nil
theorem PrgOk.cons {lay : List Ent} {cc : ByteArray} {nL : Nat} {own : String} {ret : Option FieldType} {d pc : Nat} {o : Opn} {P : Prg} (h1 : OSn lay cc nL own ret d pc o) (h2 : PrgOk lay cc nL own ret d P) : PrgOk lay cc nL own ret d ((pc, o) :: P) := fun q h => by
  rcases List.mem_cons.mp h with rfl | h
  · exact h1
  · exact h2 q h
theorem lk_mem {P : Prg} {pc : Nat} {o : Opn} (h : P.lookup pc = some o) : (pc, o) ∈ P := by
  induction P with
  | nil => cases h
  | cons q t ih =>
    obtain ⟨j, w⟩ := q
    rw [List.lookup_cons] at h
    by_cases hij : pc = j
    · subst hij
      simp at h
      subst h
      exact List.mem_cons_self
    · have : (pc == j) = false := by simpa using hij
      rw [this] at h
      exact List.mem_cons_of_mem _ (ih h)
theorem PrgOk.mono {lay : List Ent} {cc : ByteArray} {nL : Nat} {own : String} {ret : Option FieldType} {d : Nat} {P : Prg} (h : PrgOk lay cc nL own ret d P) {pc : Nat} {K K' : Kon} {Q Q' : Out} {lo : Lcs} {st : List Value} {S : Sto} (hK : ∀ a b c d, K a b c d → K' a b c d) (hQ : ∀ r S, Q r S → Q' r S) (h1 : at_ P pc K Q lo st S) : at_ P pc K' Q' lo st S := by
  unfold at_ at h1 ⊢
  cases hq : P.lookup pc with
  | none => rw [hq] at h1; exact h1
  | some o =>
    rw [hq] at h1
    exact (h _ (lk_mem hq)).1 K K' Q Q' lo st S hK hQ h1
/-- one block more -/
theorem Rn.step {lay : List Ent} {cc : ByteArray} {nL : Nat} {own : String} {ret : Option FieldType} {d : Nat} {P : Prg} (h : PrgOk lay cc nL own ret d P) {pc : Nat} {Q : Out} {lo : Lcs} {st : List Value} {S : Sto} (h1 : at_ P pc (Rn P Q) Q lo st S) : Rn P Q pc lo st S := fun I hI =>
  hI pc lo st S (h.mono (fun _ _ _ _ h2 => h2 I hI) (fun _ _ h => h) h1)
theorem Rn.mono {lay : List Ent} {cc : ByteArray} {nL : Nat} {own : String} {ret : Option FieldType} {d : Nat} {P : Prg} (h : PrgOk lay cc nL own ret d P) {pc : Nat} {Q Q' : Out} {lo : Lcs} {st : List Value} {S : Sto} (hQ : ∀ r S, Q r S → Q' r S) (h1 : Rn P Q pc lo st S) : Rn P Q' pc lo st S := fun I hI =>
  h1 I fun pc lo st S h2 => hI pc lo st S (h.mono (fun _ _ _ _ h => h) hQ h2)
def MoF (F : Fun) : Prop := ∀ as S (Q Q' : Out), (∀ r S, Q r S → Q' r S) → F as S Q → F as S Q'
theorem Wpm.mono {lay : List Ent} {cc : ByteArray} {nL : Nat} {own : String} {ret : Option FieldType} {d : Nat} {P : Prg} (h : PrgOk lay cc nL own ret d P) : MoF (Wpm P nL) := fun _ _ _ _ hQ h1 => ⟨h1.1, Rn.mono h hQ h1.2⟩
theorem lv_args_map (ad : Nat → Nat) : ∀ (vs : List Value) (i : Nat), lv_args i (vs.map (vt ad)) = lmap ad (lv_args i vs)
  | [], _ => rfl
  | v :: vs, i => by
    show (i, vt ad v) :: lv_args (if (vt ad v).category = 2 then i + 2 else i + 1) (vs.map (vt ad)) = (i, vt ad v) :: lmap ad (lv_args _ vs)
    rw [vt_cat, lv_args_map ad vs]
theorem lg_sl_map (ad : Nat → Nat) (vs : List Value) : (lg_sl (vs.map (vt ad))).length = (lg_sl vs).length := by
  induction vs with
  | nil => rfl
  | cons v t ih =>
    have e : ∀ (v : Value) (t : List Value), (lg_sl (v :: t)).length = (if v.category = 2 then 2 else 1) + (lg_sl t).length := by
      intro v t
      simp only [lg_sl, List.flatMap_cons, List.length_append]
      by_cases hc : v.category = 2 <;> simp [hc]
    rw [List.map_cons, e, e, ih, vt_cat]
/-- A METHOD'S CONTRACT OUT OF ITS BLOCKS -/
theorem Con.of {lay : List Ent} {y : MethodName} {cc : ByteArray} {nL : Nat} {ret : Option FieldType} {d : Nat} {P : Prg} (hy : plainName y.cls = true) (hP : PrgOk lay cc nL y.cls ret d P) : Con lay y cc nL ret d (Wpm P nL) := by
  intro l D cA ad A as S Q hF
  refine Met.ofW (cc := cc) (maxL := nL) (ret := ret) hy rfl ?_
  intro p e s m args below meth c s₁ B hml hv
  obtain ⟨rfl, hPp, hK, hD, hXS⟩ := hv
  have hts := atoms_spec (ws := wsM y cc nL ret) B.pre
  have hown : s.vm.findClass y.cls = some m.cls := findClass_of_methodNamed B.named
  have hC : CX p s m (as.map (vt ad)).toArray meth c D cA ad A cc nL y.cls ret := ⟨B.exec, B.bytes, B.returns, B.notSynchronized, hml, hown, fun w hw => hts w (List.mem_cons_of_mem _ hw), hK, hXS⟩
  have hl := lv_entry (as.map (vt ad)) (n := nL) (by rw [lg_sl_map]; exact hF.1)
  rw [lg_entry_eq]
  rw [lv_args_map] at hl
  have key : WS lay p l e (rmD d) s m (as.map (vt ad)).toArray below meth c D cA ad A nL 0 0 (MQ below (QcO lay D cA ad A Q) (as.map (vt ad)).toArray s 0 0 A) 0 (lv_args 0 as) [] S := by
    refine hF.2 (WS lay p l e (rmD d) s m (as.map (vt ad)).toArray below meth c D cA ad A nL 0 0 (MQ below (QcO lay D cA ad A Q) (as.map (vt ad)).toArray s 0 0 A)) fun pc lo st S h => ?_
    unfold at_ at h
    cases hq : P.lookup pc with
    | none => rw [hq] at h; exact h.elim
    | some o =>
      rw [hq] at h
      exact (hP _ (lk_mem hq)).2 p l e s m _ below meth c D cA ad A Q _ lo st S hC (fun _ _ _ _ h => h) h
  exact key s.heap [] _ hPp hD va_S.rf hl
