theorem va_AO_any {A : Array Value} {U : State} (h : (Cond.arrayOver (.object "TurnedRivers$Standing")).before A U = true) : va_AO "TurnedRivers$Standing" U := h
theorem wd_97 : Cond.classLink "TurnedRiversLaw" 7 "TurnedRivers" ∈ gw := gm_1 19 rfl rfl
theorem wd_98 : Cond.instantiable "TurnedRivers" 13 ∈ gw := gm_1 20 rfl rfl
theorem wd_99 : Cond.methodLink "TurnedRiversLaw" 9 ⟨"TurnedRivers", "<init>", "()V"⟩ ∈ gw := gm_1 21 rfl rfl
theorem wd_100 : Cond.instanceMethod ⟨"TurnedRivers", "<init>", "()V"⟩ ∈ gw := gm_1 22 rfl rfl
theorem wd_101 : Cond.code ⟨"TurnedRivers", "<init>", "()V"⟩ prog_1_method_1_code 2 none ∈ gw := gm_1 23 rfl rfl
theorem wd_911 : Cond.classLink "TurnedRiversLaw" 10 "TurnedRiversModel" ∈ gw := gm_4 113 rfl rfl
theorem wd_912 : Cond.instantiable "TurnedRiversModel" 38 ∈ gw := gm_4 114 rfl rfl
theorem wd_913 : Cond.methodLink "TurnedRiversLaw" 12 ⟨"TurnedRiversModel", "<init>", "()V"⟩ ∈ gw := gm_4 115 rfl rfl
theorem wd_914 : Cond.instanceMethod ⟨"TurnedRiversModel", "<init>", "()V"⟩ ∈ gw := gm_4 116 rfl rfl
theorem wd_915 : Cond.code ⟨"TurnedRiversModel", "<init>", "()V"⟩ prog_11_method_1_code 2 none ∈ gw := gm_4 117 rfl rfl
theorem tm_1 {w : Cond} (i : Nat) (h : tables_1_1[i]? = some w) : w ∈ lw_tbl := tb_app (List.mem_append_left _ (List.mem_of_getElem? h))
theorem tm_2 {w : Cond} (i : Nat) (h : tables_1_2[i]? = some w) : w ∈ lw_tbl := tb_app (tb_app (List.mem_append_left _ (List.mem_of_getElem? h)))
theorem tm_3 {w : Cond} (i : Nat) (h : tables_1_3[i]? = some w) : w ∈ lw_tbl := tb_app (tb_app (tb_app (List.mem_append_left _ (List.mem_of_getElem? h))))
theorem tm_4 {w : Cond} (i : Nat) (h : tables_1_4[i]? = some w) : w ∈ lw_tbl := tb_app (tb_app (tb_app (tb_app (List.mem_append_left _ (List.mem_of_getElem? h)))))
theorem tm_5 {w : Cond} (i : Nat) (h : tables_1_5[i]? = some w) : w ∈ lw_tbl := tb_app (tb_app (tb_app (tb_app (tb_app (List.mem_append_left _ (List.mem_of_getElem? h))))))
theorem tm_6 {w : Cond} (i : Nat) (h : tables_1_6[i]? = some w) : w ∈ lw_tbl := tb_app (tb_app (tb_app (tb_app (tb_app (tb_app (List.mem_of_getElem? h))))))
theorem start_D {args : Array Value} {s : State} (hts : ∀ w ∈ gw, w.before args s = true) : ∃ D : va_G, ∀ (k : Nat) (q : vw_C), cls[k]? = some q → u_Kn s q.1 q.2.1 q.2.2 (D.1 k) (D.2 k) := by
  obtain ⟨c0, i0, h0⟩ := u_known hts tco_0.2.1 (hts _ wd_298)
  obtain ⟨c1, i1, h1⟩ := u_known hts tco_1.2.1 (hts _ wd_284)
  obtain ⟨c2, i2, h2⟩ := u_known hts tco_2.2.1 (hts _ wd_208)
  obtain ⟨c3, i3, h3⟩ := u_known hts tco_3.2.1 (hts _ wd_143)
  obtain ⟨c4, i4, h4⟩ := u_known hts tco_4.2.1 (hts _ wd_106)
  obtain ⟨c5, i5, h5⟩ := u_known hts tco_5.2.1 (hts _ wd_318)
  obtain ⟨c6, i6, h6⟩ := u_known hts tco_6.2.1 (hts _ wd_112)
  obtain ⟨c7, i7, h7⟩ := u_known hts tco_7.2.1 (hts _ wd_262)
  obtain ⟨c8, i8, h8⟩ := u_known hts tco_8.2.1 (hts _ wd_98)
  obtain ⟨c9, i9, h9⟩ := u_known hts tco_9.2.1 (hts _ wd_912)
  refine ⟨(fun k => match k with
    | 0 => c0
    | 1 => c1
    | 2 => c2
    | 3 => c3
    | 4 => c4
    | 5 => c5
    | 6 => c6
    | 7 => c7
    | 8 => c8
    | _ => c9,
    fun k => match k with
    | 0 => i0
    | 1 => i1
    | 2 => i2
    | 3 => i3
    | 4 => i4
    | 5 => i5
    | 6 => i6
    | 7 => i7
    | 8 => i8
    | _ => i9), ?_⟩
  intro k q hq
  match k, hq with
  | 0, hq => cases hq; exact h0
  | 1, hq => cases hq; exact h1
  | 2, hq => cases hq; exact h2
  | 3, hq => cases hq; exact h3
  | 4, hq => cases hq; exact h4
  | 5, hq => cases hq; exact h5
  | 6, hq => cases hq; exact h6
  | 7, hq => cases hq; exact h7
  | 8, hq => cases hq; exact h8
  | 9, hq => cases hq; exact h9
  | k + 10, hq => simp [cls] at hq
theorem start_A {args : Array Value} {s : State} (hts : ∀ w ∈ gw, w.before args s = true) (ho : (Cond.arrayOver (.object "TurnedRivers$Standing")).before args s = true) : ∃ cA : Nat → ClassId, ∀ (k : Nat) (q : ClassId × FieldType), (tysA cA)[k]? = some q → ArrOfT s q.1 q.2 ∧ va_RA s q.1 q.2 := by
  obtain ⟨a0, k0, m0, f0, g0, e0⟩ := Cond.arrayClass_spec (hts _ wd_134)
  obtain ⟨a1, k1, m1, f1, g1, e1⟩ := Cond.arrayClass_spec (hts _ wd_133)
  obtain ⟨a2, k2, m2, f2, g2, e2⟩ := Cond.arrayClass_spec (hts _ wd_377)
  obtain ⟨a3, k3, m3, f3, g3, e3⟩ := Cond.arrayClass_spec (hts _ wd_282)
  obtain ⟨m4, a4, k4, d4, -, g4, e4, f4⟩ := Cond.arrayOver_spec ho
  refine ⟨fun k => match k with
    | 0 => a0
    | 1 => a1
    | 2 => a2
    | 3 => a3
    | _ => a4, ?_⟩
  intro k q hq
  match k, hq with
  | 0, hq => cases hq; exact ⟨fun n z => ⟨fun k h => (by cases h), k0, g0, m0, e0⟩, f0⟩
  | 1, hq => cases hq; exact ⟨fun n z => ⟨fun k h => (by cases h), k1, g1, m1, e1⟩, f1⟩
  | 2, hq => cases hq; exact ⟨fun n z => ⟨fun k h => (by cases h), k2, g2, m2, e2⟩, f2⟩
  | 3, hq => cases hq; exact ⟨fun n z => ⟨fun k h => (by cases h), k3, g3, m3, e3⟩, f3⟩
  | 4, hq => cases hq; exact ⟨fun n z => ⟨fun k h => (by cases h), k4, g4, m4, e4⟩, k4, m4, g4, e4, d4, f4⟩
  | k + 5, hq => simp [tysA] at hq
def stm (i : Nat) : Term := Term.string "TurnedRivers$Tokens" (six.getD i 0)
theorem start_X {args : Array Value} {s : State} (hts : ∀ w ∈ lw_tbl, w.before args s = true) (hg : (Jvm.Cond.and given_1 narrow_1).before args s = true) : ∃ (adK adV : Nat → Nat) (fm : Nat), vk_S 6 slen sbyt adK adV (fun q => s.heap.size ≤ q) s s.heap ∧ (∀ i, i < 6 → vk_R "TurnedRivers$Tokens" (six.getD i 0) (stx.getD i "") (adK i) s) ∧ va_Z "java/lang/String" "COMPACT_STRINGS" "Z" (.int 1) (fun q => s.heap.size ≤ q) s s.heap ∧ (va_Z "jdk/internal/util/Preconditions" "SIOOBE_FORMATTER" "Ljava/util/function/BiFunction;" .null (fun q => s.heap.size ≤ q) s s.heap ∨ va_Z "jdk/internal/util/Preconditions" "SIOOBE_FORMATTER" "Ljava/util/function/BiFunction;" (.ref fm) (fun q => s.heap.size ≤ q) s s.heap) := by
  have hs := flat_of_before _ hg
  have hA : ∀ a : Nat, a < s.heap.size → ¬ (fun q : Nat => s.heap.size ≤ q) a := fun a h => Nat.not_le.mpr h
  obtain ⟨adK, adV, hv, he⟩ := vk_Sof (args := args) (s := s) (N := 6) (tm := stm) (len := slen) (byt := sbyt) (A := fun q => s.heap.size ≤ q) (by decide)
    (fun i hi => by rcases (show i = 0 ∨ i = 1 ∨ i = 2 ∨ i = 3 ∨ i = 4 ∨ i = 5 by omega) with rfl | rfl | rfl | rfl | rfl | rfl <;> exact hs _ (by decide +kernel))
    (fun i hi => by rcases (show i = 0 ∨ i = 1 ∨ i = 2 ∨ i = 3 ∨ i = 4 ∨ i = 5 by omega) with rfl | rfl | rfl | rfl | rfl | rfl <;> exact hs _ (by decide +kernel))
    (fun i hi => by rcases (show i = 0 ∨ i = 1 ∨ i = 2 ∨ i = 3 ∨ i = 4 ∨ i = 5 by omega) with rfl | rfl | rfl | rfl | rfl | rfl <;> exact hs _ (by decide +kernel))
    (fun i hi => by rcases (show i = 0 ∨ i = 1 ∨ i = 2 ∨ i = 3 ∨ i = 4 ∨ i = 5 by omega) with rfl | rfl | rfl | rfl | rfl | rfl <;> exact hs _ (by decide +kernel))
    (fun i hi => by rcases (show i = 0 ∨ i = 1 ∨ i = 2 ∨ i = 3 ∨ i = 4 ∨ i = 5 by omega) with rfl | rfl | rfl | rfl | rfl | rfl <;> (intro j hj; have hj : j < 6 := Nat.lt_of_lt_of_le hj (by decide); rcases (show j = 0 ∨ j = 1 ∨ j = 2 ∨ j = 3 ∨ j = 4 ∨ j = 5 by omega) with rfl | rfl | rfl | rfl | rfl | rfl <;> first | exact hs _ (by decide +kernel) | exact absurd hj (by decide) | (exfalso; revert hj; decide) | (rename_i h9; exact absurd h9 (by decide))))
    (fun i j hi hj hij => by
      rcases (show i = 0 ∨ i = 1 ∨ i = 2 ∨ i = 3 ∨ i = 4 ∨ i = 5 by omega) with rfl | rfl | rfl | rfl | rfl | rfl <;> rcases (show j = 0 ∨ j = 1 ∨ j = 2 ∨ j = 3 ∨ j = 4 ∨ j = 5 by omega) with rfl | rfl | rfl | rfl | rfl | rfl <;> first | exact absurd rfl hij | exact Or.inl (hs _ (by decide +kernel)) | exact Or.inr (hs _ (by decide +kernel))) hA
  have hz := va_Zof (A := fun q => s.heap.size ≤ q) (hts (.laysStatic "java/lang/String" "COMPACT_STRINGS" "Z") (tm_2 116 rfl)) (hts (.initialized "java/lang/String") (tm_1 13 rfl)) (va_eqt (hs (Cond.eq (.static "java/lang/String" "COMPACT_STRINGS" "Z") (.int 1)) (by decide +kernel))) hA
  have hq := va_Zqof (A := fun q => s.heap.size ≤ q) (hts (.laysStatic "jdk/internal/util/Preconditions" "SIOOBE_FORMATTER" "Ljava/util/function/BiFunction;") (tm_2 132 rfl)) (hts (.initialized "jdk/internal/util/Preconditions") (tm_1 15 rfl)) (hs (Cond.isRef (.static "jdk/internal/util/Preconditions" "SIOOBE_FORMATTER" "Ljava/util/function/BiFunction;")) (by decide +kernel)) hA
  have hr : ∀ i, i < 6 → vk_R "TurnedRivers$Tokens" (six.getD i 0) (stx.getD i "") (adK i) s := by
    intro i hi
    have h9 := he i hi
    rcases (show i = 0 ∨ i = 1 ∨ i = 2 ∨ i = 3 ∨ i = 4 ∨ i = 5 by omega) with rfl | rfl | rfl | rfl | rfl | rfl
    · exact vk_R.of (hts (.stringRef "TurnedRivers$Tokens" 49 "places") (tm_2 103 rfl)) h9
    · exact vk_R.of (hts (.stringRef "TurnedRivers$Tokens" 55 "river") (tm_2 155 rfl)) h9
    · exact vk_R.of (hts (.stringRef "TurnedRivers$Tokens" 57 "town") (tm_2 156 rfl)) h9
    · exact vk_R.of (hts (.stringRef "TurnedRivers$Tokens" 59 "work") (tm_2 157 rfl)) h9
    · exact vk_R.of (hts (.stringRef "TurnedRivers$Tokens" 61 "dam") (tm_2 158 rfl)) h9
    · exact vk_R.of (hts (.stringRef "TurnedRivers$Tokens" 63 "follow") (tm_2 159 rfl)) h9
  rcases hq with hq | ⟨t, hq⟩
  · exact ⟨adK, adV, 0, hv, hr, hz, Or.inl hq⟩
  · exact ⟨adK, adV, t, hv, hr, hz, Or.inr hq⟩
def SM0 : Sto := (mdS (fgS (sR (emS (sR (emS Z0 7) 0 3 7) 13) 0 4 13) 32) 57)
/-- from the law's entry to its loop: what is left is a run of the machine from SM0 on -/
theorem law_start {p : Program} {e : Env} {s : State} {m : MethodId} {below : List Frame} {meth : Method} {c : Code} (l : Launch) {b L : Nat} {xs : Nat → Int32} (C0 : lw_At p s m meth c b L xs) {Q : Out} (hrun : Rn (P_law L xs) Q 18 [(0, .ref 4000), (1, .ref 0), (2, .ref 57), (3, .int 0)] [] SM0) : W p l e room_1 s m #[Value.ref b] below meth c s.heap [] 0 0 (lw_Z below #[Value.ref b] s) (entryFrame m ([Value.ref b] : List Value).toArray 4) := by
  obtain ⟨hx, hb, hr, hml, hown, hts, hX, hbl, hlocks, hgv⟩ := id C0
  have hgw : ∀ w ∈ gw, w.before #[Value.ref b] s = true := fun w hw => hts w (List.mem_filter.mp hw).1
  have hao := hts (.arrayOver (.object "TurnedRivers$Standing")) (tm_2 18 rfl)
  obtain ⟨D, hKc⟩ := start_D hgw
  obtain ⟨cA, hKa⟩ := start_A hgw hao
  obtain ⟨adK, adV, fm, x1, x2, x3, x4⟩ := start_X hts hgv
  have hK : va_K D cls (tysA cA) s := ⟨hKc, hKa⟩
  have hAO : va_AO "TurnedRivers$Standing" s := va_AO_any hao
  have hNL : NL s := ⟨va_Nw.of rfl (hts _ (tm_1 29 rfl)), va_Nw.of rfl (hts _ (tm_1 35 rfl)), va_Nw.of rfl (hts _ (tm_1 131 rfl)), va_Nw.of rfl (hts _ (tm_1 207 rfl)), va_Nw.of rfl (hts _ (tm_1 221 rfl)), va_Nw.of rfl (hts _ (tm_2 1 rfl))⟩
  obtain ⟨ad, a1, a2, a3, a4, a5⟩ : ∃ ad : Nat → Nat, (∀ k, k < 1000 → ad k = s.heap.size + k) ∧ (∀ i, i < 1000 → ad (1000 + i) = adK i) ∧ (∀ i, i < 1000 → ad (2000 + i) = adV i) ∧ ad 3000 = fm ∧ ad 4000 = b := by
    refine ⟨fun k => if k < 1000 then s.heap.size + k else if k < 2000 then adK (k - 1000) else if k < 3000 then adV (k - 2000) else if k < 4000 then fm else b, ?_, ?_, ?_, ?_, ?_⟩
    · intro k hk; simp [hk]
    · intro i hi; simp [show ¬ 1000 + i < 1000 by omega, show 1000 + i < 2000 by omega, show 1000 + i - 1000 = i by omega]
    · intro i hi; simp [show ¬ 2000 + i < 1000 by omega, show ¬ 2000 + i < 2000 by omega, show 2000 + i < 3000 by omega, show 2000 + i - 2000 = i by omega]
    · simp
    · simp
  have hXS : XS ad (fun q => s.heap.size ≤ q) s := by
    refine ⟨⟨fun i hi => ?_, fun i j hi hj h9 => x1.2 i j hi hj (by rw [← a2 i (by omega), ← a2 j (by omega)]; exact h9)⟩, fun i hi => ?_, x3, ?_⟩
    · have h9 := x1.1 i hi
      rw [← a2 i (by omega), ← a3 i (by omega)] at h9
      exact h9
    · have h9 := x2 i hi
      rw [← a2 i (by omega)] at h9
      exact h9
    · rw [a4]; exact x4
  have had : ∀ k, k < 1000 → ad k = s.heap.size + k := a1
  have hS : va_S (fun q => s.heap.size ≤ q) s.heap s.heap [] := va_S.rf
  have hl := lv_entry ([.ref b]) (n := 4) (Nat.le_of_ble_eq_true rfl)
  rw [lg_entry_eq]
  generalize (lg_sl ([.ref b]) ++ List.replicate (4 - (lg_sl ([.ref b])).length) Slot.unset).toArray = ls at hl ⊢
  have hl : lv_has ls 4 [(0, .ref b)] := hl
  have hP : va_P D cls (wsD [] cA ad Z0) s.heap := fun k q h => by simp [wsD] at h
  have hz : s.heap.size = s.heap.size + ([] : List Ent).length := rfl
  refine dn_new hx hb hgw hown hK had tco_8 (by decide) wd_97 wd_98 wd_79 hP hz hS (by decide) rfl rfl (Nat.le_of_ble_eq_true rfl) (Nat.le_of_ble_eq_true rfl) (by decide +kernel) (fun H hP hz hS => ?_)
  have hP : va_P D cls (wsD [(4, 8, 0, 0)] cA ad Z0) H := hP
  have hz : H.size = s.heap.size + 1 := hz
  refine lv_dup hx hb (by decide +kernel) rfl ?_
  refine dn_init (d := 13) hx hb hml hl.1 hgw hown hK hXS hAO hNL had ci_TR_init_0 ⟨Nat.le_of_ble_eq_true rfl, Nat.le_of_ble_eq_true rfl⟩ (by decide) (Or.inl wd_99) wd_100 wd_79 wd_101 (by decide +kernel) rfl hP hz hS (Nat.le_of_ble_eq_true rfl) (Nat.le_of_ble_eq_true rfl) (Nat.le_of_ble_eq_true rfl) (by decide +kernel) (fun H locs hP hz hS => ?_)
  refine lv_astore_n (k := 1) (lv' := [(1, .ref (ad 0)), (0, .ref b)]) hx hb (by decide +kernel) rfl hl (by decide) rfl (fun ls hl => ?_)
  have hz : H.size = s.heap.size + 57 := hz
  refine dn_new (lay := [(0, 8, 0, 0), (1, 400, 1, 0), (0, 4, 0, 0), (0, 6, 0, 0), (1, 401, 0, 0), (1, 401, 0, 0), (1, 401, 0, 0), (0, 3, 0, 0), (1, 8, 0, 0), (1, 96, 0, 0), (1, 20, 0, 0), (1, 48, 0, 0), (1, 9, 0, 0), (0, 3, 0, 0), (1, 8, 0, 0), (1, 96, 0, 0), (1, 20, 0, 0), (1, 48, 0, 0), (1, 9, 0, 0), (0, 2, 0, 0), (1, 8, 0, 0), (1, 8, 0, 0), (1, 8, 0, 0), (1, 8, 0, 0), (1, 8, 0, 0), (1, 8, 0, 0), (1, 8, 0, 0), (1, 4, 0, 0), (1, 8, 0, 0), (1, 8, 0, 0), (1, 8, 0, 0), (1, 8, 0, 0), (0, 7, 0, 0), (1, 768, 0, 0), (2, 3, 0, 0), (2, 3, 0, 0), (0, 1, 0, 0), (1, 256, 0, 0), (1, 256, 0, 0), (0, 0, 0, 0), (1, 480, 0, 0), (1, 10, 0, 0), (1, 10, 0, 0), (0, 5, 0, 0), (1, 8, 0, 0), (1, 3, 0, 0), (1, 4, 0, 0), (3, 2, 49, 4), (1, 2, 2, 0), (0, 5, 0, 0), (1, 8, 0, 0), (1, 3, 0, 0), (1, 4, 0, 0), (0, 5, 0, 0), (1, 8, 0, 0), (1, 3, 0, 0), (1, 4, 0, 0)]) hx hb hgw hown hK had tco_9 (by decide) wd_911 wd_912 wd_89 hP hz hS (by decide) rfl rfl (Nat.le_of_ble_eq_true rfl) (Nat.le_of_ble_eq_true rfl) (by decide +kernel) (fun H hP hz hS => ?_)
  refine lv_dup hx hb (by decide +kernel) rfl ?_
  refine dn_init (d := 13) hx hb hml hl.1 hgw hown hK hXS hAO hNL had ci_MD_init_57 ⟨Nat.le_of_ble_eq_true rfl, Nat.le_of_ble_eq_true rfl⟩ (by decide) (Or.inl wd_913) wd_914 wd_89 wd_915 (by decide +kernel) rfl hP hz hS (Nat.le_of_ble_eq_true rfl) (Nat.le_of_ble_eq_true rfl) (Nat.le_of_ble_eq_true rfl) (by decide +kernel) (fun H locs hP hz hS => ?_)
  refine lv_astore_n (k := 2) (lv' := [(2, .ref (ad 57)), (1, .ref (ad 0)), (0, .ref b)]) hx hb (by decide +kernel) rfl hl (by decide) rfl (fun ls hl => ?_)
  refine lv_iconst (n := 0) (v := 0) hx hb (by decide +kernel) (by decide) ?_
  refine lv_istore_n (k := 3) (lv' := [(3, .int 0), (2, .ref (ad 57)), (1, .ref (ad 0)), (0, .ref b)]) hx hb (by decide +kernel) rfl hl (by decide) rfl (fun ls hl => ?_)
  have hP9 : va_P D cls (wsL LW cA ad SM0) H := hP
  have hD9 : va_D (fun q => s.heap.size ≤ q) (wsL LW cA ad SM0) := wsD_D had (by decide)
  refine LawOk.run (k_law L xs) (D := D) (cA := cA) (ad := ad) (Q := Q) ⟨Nat.le_of_ble_eq_true rfl, Nat.le_of_ble_eq_true rfl, Nat.le_of_ble_eq_true rfl, Nat.le_of_ble_eq_true rfl⟩ ⟨C0, hK, hXS, a5⟩ hrun H locs ls hP9 hD9 hS ?_
  refine lv_weak hl fun q hq => ?_
  have hq : q ∈ [(0, Value.ref (ad 4000)), (1, .ref (ad 0)), (2, .ref (ad 57)), (3, .int 0)] := hq
  rw [a5] at hq
  simp at hq ⊢
  rcases hq with h | h | h | h <;> simp [h]
