/-! the law as a run of the small machine, from its loop's head on; the script's place is 4000 -/
def o_lcmp : Op1 := fun k lo st S => match st with
  | .long y :: .long x :: r => k lo (.int (lg_cmp x y) :: r) S
  | _ => False
theorem s_lcmp {lay : List Ent} {cc : ByteArray} {nL : Nat} {own : String} {d pc : Nat} (hd : decode cc pc = .ok (.lcmp, 1)) : OS1 lay cc nL own d pc (pc + 1) (o_lcmp) := by
  refine ⟨?_, ?_⟩
  · intro k k' lo st S hk
    unfold o_lcmp
    split <;> (first | exact hk _ _ _ | exact id)
  · intro p l e R s m args below meth c D cA ad A ret cs sl Qm k lo st S hR C hk h H locs ls hP hD hS hl
    unfold o_lcmp at h
    split at h
    · exact W.lcmp C.1 C.2.1 hd (hk _ _ _ h H locs ls hP hD hS hl)
    all_goals exact h.elim
def LCx (p : Program) (s : State) (m : MethodId) (meth : Method) (c : Code) (b L : Nat) (xs : Nat → Int32) (D : va_G) (cA : Nat → ClassId) (ad : Nat → Nat) : Prop :=
  lw_At p s m meth c b L xs ∧ va_K D cls (tysA cA) s ∧ XS ad (fun q => s.heap.size ≤ q) s ∧ ad 4000 = b
theorem LCx.cx {p : Program} {s : State} {m : MethodId} {meth : Method} {c : Code} {b L : Nat} {xs : Nat → Int32} {D : va_G} {cA : Nat → ClassId} {ad : Nat → Nat} (h : LCx p s m meth c b L xs D cA ad) : CX p s m #[Value.ref b] meth c D cA ad (fun q => s.heap.size ≤ q) code 4 "TurnedRiversLaw" ret := by
  obtain ⟨⟨hx, hb, hr, hml, hown, hts, hX, hbl, hlocks, hgv⟩, hK, hXS, he⟩ := h
  exact ⟨hx, hb, hr, hlocks, hml, hown, fun w hw => hts w (List.mem_filter.mp hw).1, hK, hXS⟩
abbrev WL (p : Program) (l : Launch) (e : Env) (s : State) (m : MethodId) (below : List Frame) (meth : Method) (c : Code) (b : Nat) (D : va_G) (cA : Nat → ClassId) (ad : Nat → Nat) (cs sl : Nat) : Kon :=
  WS LW p l e room_1 s m #[Value.ref b] below meth c D cA ad (fun q => s.heap.size ≤ q) 4 cs sl (lw_Z below #[Value.ref b] s)
def OL (L : Nat) (xs : Nat → Int32) (pc nx : Nat) (op : Op1) : Prop :=
  (∀ (k k' : Lcs → List Value → Sto → Prop) (lo : Lcs) (st : List Value) (S : Sto), (∀ a b c, k a b c → k' a b c) → op k lo st S → op k' lo st S) ∧
  ∀ (p : Program) (l : Launch) (e : Env) (s : State) (m : MethodId) (below : List Frame) (meth : Method) (c : Code) (b : Nat) (D : va_G) (cA : Nat → ClassId) (ad : Nat → Nat) (cs sl : Nat) (k : Lcs → List Value → Sto → Prop) (lo : Lcs) (st : List Value) (S : Sto),
    RO room_1 13 cs sl → LCx p s m meth c b L xs D cA ad → (∀ lo' st' S', k lo' st' S' → WL p l e s m below meth c b D cA ad cs sl nx lo' st' S') → op k lo st S → WL p l e s m below meth c b D cA ad cs sl pc lo st S
def OLn (L : Nat) (xs : Nat → Int32) (pc : Nat) (op : Opn) : Prop :=
  (∀ (K K' : Kon) (Q Q' : Out) (lo : Lcs) (st : List Value) (S : Sto), (∀ a b c d, K a b c d → K' a b c d) → op K Q lo st S → op K' Q' lo st S) ∧
  ∀ (p : Program) (l : Launch) (e : Env) (s : State) (m : MethodId) (below : List Frame) (meth : Method) (c : Code) (b : Nat) (D : va_G) (cA : Nat → ClassId) (ad : Nat → Nat) (cs sl : Nat) (Q : Out) (K : Kon) (lo : Lcs) (st : List Value) (S : Sto),
    RO room_1 13 cs sl → LCx p s m meth c b L xs D cA ad → (∀ pc' lo' st' S', K pc' lo' st' S' → WL p l e s m below meth c b D cA ad cs sl pc' lo' st' S') → op K Q lo st S → WL p l e s m below meth c b D cA ad cs sl pc lo st S
theorem OL.o {L : Nat} {xs : Nat → Int32} {pc nx : Nat} {op : Op1} (h : OS1 LW code 4 "TurnedRiversLaw" 13 pc nx op) : OL L xs pc nx op :=
  ⟨h.1, fun p l e s m below meth c b D cA ad cs sl k lo st S hR C hk h1 => h.2 p l e room_1 s m _ below meth c D cA ad _ ret cs sl _ k lo st S hR C.cx hk h1⟩
theorem OLn.g {L : Nat} {xs : Nat → Int32} {pc : Nat} {op : Opn} (h : OSg LW code 4 "TurnedRiversLaw" 13 pc op) : OLn L xs pc op :=
  ⟨h.1, fun p l e s m below meth c b D cA ad cs sl Q K lo st S hR C hk h1 => h.2 p l e room_1 s m _ below meth c D cA ad _ ret cs sl _ Q K lo st S hR C.cx hk h1⟩
theorem OLn.cons {L : Nat} {xs : Nat → Int32} {pc nx : Nat} {f : Op1} {g : Opn} (h1 : OL L xs pc nx f) (h2 : OLn L xs nx g) : OLn L xs pc (sq f g) := by
  refine ⟨fun K K' Q Q' lo st S hK h => ?_, fun p l e s m below meth c b D cA ad cs sl Q K lo st S hR C hK h => ?_⟩
  · exact h1.1 _ _ lo st S (fun a b c h => h2.1 K K' Q Q' a b c hK h) h
  · exact h1.2 p l e s m below meth c b D cA ad cs sl _ lo st S hR C (fun lo' st' S' h => h2.2 p l e s m below meth c b D cA ad cs sl Q K lo' st' S' hR C hK h) h
def o_sld (L : Nat) (xs : Nat → Int32) : Op1 := fun k lo st S => match st with
  | .int i :: .ref a :: r => (a = 4000 ∧ vp_in i L) ∧ k lo (.int (xs i.toNatClampNeg) :: r) S
  | _ => False
def o_slen (L : Nat) : Op1 := fun k lo st S => match st with
  | .ref a :: r => a = 4000 ∧ k lo (.int (Int32.ofNat L) :: r) S
  | _ => False
theorem s_sld {L : Nat} {xs : Nat → Int32} {pc : Nat} (hd : decode code pc = .ok (.iaload, 1)) : OL L xs pc (pc + 1) (o_sld L xs) := by
  refine ⟨?_, ?_⟩
  · intro k k' lo st S hk
    unfold o_sld
    split
    · exact fun h => ⟨h.1, hk _ _ _ h.2⟩
    all_goals exact id
  · intro p l e s m below meth c b D cA ad cs sl k lo st S hR C hk h H locs ls hP hD hS hl
    unfold o_sld at h
    split at h
    · rename_i i a r
      obtain ⟨⟨rfl, h1⟩, h2⟩ := h
      obtain ⟨⟨hx, hb, hr, hml, hown, hts, hX, hbl, hlocks, hgv⟩, hK, hXS, rfl⟩ := C
      exact va_sld hx hb hX hbl (Nat.not_le.mpr hbl) hS h1 hd (hk _ _ _ h2 H locs ls hP hD hS hl)
    all_goals exact h.elim
theorem s_slen {L : Nat} {xs : Nat → Int32} {pc : Nat} (hd : decode code pc = .ok (.arraylength, 1)) : OL L xs pc (pc + 1) (o_slen L) := by
  refine ⟨?_, ?_⟩
  · intro k k' lo st S hk
    unfold o_slen
    split
    · exact fun h => ⟨h.1, hk _ _ _ h.2⟩
    all_goals exact id
  · intro p l e s m below meth c b D cA ad cs sl k lo st S hR C hk h H locs ls hP hD hS hl
    unfold o_slen at h
    split at h
    · rename_i a r
      obtain ⟨rfl, h2⟩ := h
      obtain ⟨⟨hx, hb, hr, hml, hown, hts, hX, hbl, hlocks, hgv⟩, hK, hXS, rfl⟩ := C
      exact va_slen hx hb hX hbl (Nat.not_le.mpr hbl) hS hd (hk _ _ _ h2 H locs ls hP hD hS hl)
    all_goals exact h.elim
def t_ret1 : Opn := fun _ _ _ st _ => st = [.int 1]
theorem s_ret1 {L : Nat} {xs : Nat → Int32} {pc : Nat} (hd : decode code pc = .ok (.ireturn, 1)) : OLn L xs pc t_ret1 := by
  refine ⟨fun K K' Q Q' lo st S hK h => h, ?_⟩
  intro p l e s m below meth c b D cA ad cs sl Q K lo st S hR C hk h H locs ls hP hD hS hl
  have h : st = [.int 1] := h
  subst h
  obtain ⟨⟨hx, hb, hr, hml, hown, hts, hX, hbl, hlocks, hgv⟩, hK, hXS, he⟩ := C
  refine va_forget (fun q hq => hS.2.2 q hq) ?_
  refine W.widen (k := 600000) (n := 7302249) hR.2.2.1 hR.2.2.2 ?_
  exact lw_ret hx hb hr hlocks hd
def LawOk (L : Nat) (xs : Nat → Int32) (P : Prg) : Prop := ∀ q ∈ P, OLn L xs q.1 q.2
theorem LawOk.nil {L : Nat} {xs : Nat → Int32} : LawOk L xs [] := fun _ h => absurd h List.not_mem_nil
theorem LawOk.cons {L : Nat} {xs : Nat → Int32} {pc : Nat} {o : Opn} {P : Prg} (h1 : OLn L xs pc o) (h2 : LawOk L xs P) : LawOk L xs ((pc, o) :: P) := fun q h => by
  rcases List.mem_cons.mp h with rfl | h
  · exact h1
  · exact h2 q h
theorem LawOk.go {L : Nat} {xs : Nat → Int32} {P : Prg} (h : LawOk L xs P) {pc : Nat} {Q : Out} {lo : Lcs} {st : List Value} {S : Sto} {o : Opn} (ho : P.lookup pc = some o) (h1 : o (Rn P Q) Q lo st S) : Rn P Q pc lo st S := by
  intro I hI
  refine hI pc lo st S ?_
  unfold at_
  rw [ho]
  exact (h _ (lk_mem ho)).1 _ _ Q Q lo st S (fun _ _ _ _ h2 => h2 I hI) h1
theorem LawOk.run {L : Nat} {xs : Nat → Int32} {P : Prg} (hP : LawOk L xs P) {p : Program} {l : Launch} {e : Env} {s : State} {m : MethodId} {below : List Frame} {meth : Method} {c : Code} {b : Nat} {D : va_G} {cA : Nat → ClassId} {ad : Nat → Nat} {cs sl : Nat} {Q : Out} {pc : Nat} {lo : Lcs} {st : List Value} {S : Sto}
    (hR : RO room_1 13 cs sl) (C : LCx p s m meth c b L xs D cA ad) (h : Rn P Q pc lo st S) : WL p l e s m below meth c b D cA ad cs sl pc lo st S := by
  refine h (WL p l e s m below meth c b D cA ad cs sl) fun pc lo st S h => ?_
  unfold at_ at h
  cases hq : P.lookup pc with
  | none => rw [hq] at h; exact h.elim
  | some o =>
    rw [hq] at h
    exact (hP _ (lk_mem hq)).2 p l e s m below meth c b D cA ad cs sl Q _ lo st S hR C (fun _ _ _ _ h => h) h
