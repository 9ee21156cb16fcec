/-! the reference's ways -/
theorem arL_pre {D : Nat → Bool} {w : Nat} (h : D w = true) : ∀ (m : Nat), (arL D w).length < (arL D (w + 1 + m)).length ∧ (arL D (w + 1 + m)).getD (arL D w).length 0 = w
  | 0 => by
    rw [Nat.add_zero, arL_t h, getD_app, if_neg (Nat.lt_irrefl _), if_pos rfl, List.length_append]
    exact ⟨by simp, rfl⟩
  | m + 1 => by
    obtain ⟨h1, h2⟩ := arL_pre h m
    rw [← Nat.add_assoc]
    cases c : D (w + 1 + m) with
    | false => rw [arL_f c]; exact ⟨h1, h2⟩
    | true =>
      rw [arL_t c, getD_app, if_pos h1, List.length_append]
      exact ⟨by simp; omega, h2⟩
theorem arL_at {D : Nat → Bool} {w K : Nat} (h : D w = true) (hK : w < K) : (arL D w).length < (arL D K).length ∧ (arL D K).getD (arL D w).length 0 = w := by
  have := arL_pre h (K - (w + 1))
  rw [show w + 1 + (K - (w + 1)) = K by omega] at this
  exact this
def KpM (S S' : Sto) : Prop := (∀ b, b ≠ 57 → ¬ (71 ≤ b ∧ b ≤ 76) → S'.1 b = S.1 b) ∧ (∀ i, i ≠ 20 → S'.1 57 i = S.1 57 i) ∧ S'.2 = S.2
theorem KpM.rf (S : Sto) : KpM S S := ⟨fun _ _ _ => rfl, fun _ _ => rfl, rfl⟩
theorem KpM.tr {S S' S'' : Sto} (h : KpM S S') (g : KpM S' S'') : KpM S S'' := ⟨fun b h1 h2 => (g.1 b h1 h2).trans (h.1 b h1 h2), fun i hi => (g.2.1 i hi).trans (h.2.1 i hi), g.2.2.trans h.2.2⟩
theorem KpM.put {S S' : Sto} (h : KpM S S') {a : Nat} (i : Nat) (v : Int32) (ha : 71 ≤ a ∧ a ≤ 76) : KpM S (sI S' a i v) := ⟨fun b h1 h2 => (sI_ne _ _ _ _ (by omega)).trans (h.1 b h1 h2), fun i hi => by rw [sI_ne _ _ _ _ (by omega)]; exact h.2.1 i hi, h.2.2⟩
theorem KpM.p57 {S S' : Sto} (h : KpM S S') (v : Int32) : KpM S (sI S' 57 20 v) := ⟨fun b h1 h2 => (sI_ne _ _ _ _ h1).trans (h.1 b h1 h2), fun i hi => by rw [sI_self]; simp only [upd, hi, if_false]; exact h.2.1 i hi, h.2.2⟩
def WyS (S : Sto) (N : Net) (sup : Nat → Nat) (n : Nat) : Prop := S.1 57 20 = nI (2 * n) ∧ ∀ e, e < n → (S.1 71 (2 * e) = nI (rf N e) ∧ S.1 72 (2 * e) = nI (rt_ N e) ∧ S.1 73 (2 * e) = iI (rc N sup e) ∧ S.1 74 (2 * e) = iI (- rw_ N e)) ∧ (S.1 71 (2 * e + 1) = nI (rt_ N e) ∧ S.1 72 (2 * e + 1) = nI (rf N e) ∧ S.1 73 (2 * e + 1) = iI 0 ∧ S.1 74 (2 * e + 1) = iI (rw_ N e))
theorem sp_MD_way {n : Nat} {a b u w : Int32} {S : Sto} {N : Net} {sup : Nat → Nat} {Q : Out} (hn : n < 32) (hW : WyS S N sup n) (ea : a = nI (rf N n)) (eb : b = nI (rt_ N n)) (eu : u = iI (rc N sup n)) (ew : w = iI (- rw_ N n)) (h : ∀ S', KpM S S' → WyS S' N sup (n + 1) → Q none S') : F_MD_way LW [.ref 57, .int a, .int b, .int u, .int w] S Q := by
  obtain ⟨h20, he⟩ := hW
  have n0 : (nI (2 * n)).toNatClampNeg = 2 * n := nI_clamp (by omega)
  have n1 : (nI (2 * n + 1)).toNatClampNeg = 2 * n + 1 := nI_clamp (by omega)
  have v0 : vp_in (nI (2 * n)) 64 := vp_in_nI (by omega) (by decide)
  have v1 : vp_in (nI (2 * n + 1)) 64 := vp_in_nI (by omega) (by decide)
  refine ⟨Nat.le_of_ble_eq_true rfl, ?_⟩
  refine Rn.go (k_MD_way LW) rfl ?_
  simp only [n10e, true_implies, false_implies, not_true_eq_false, not_false_eq_true, List.not_mem_nil, implies_true, forall_const, sq, o_push, o_ild, o_lld, o_ald, o_ist, o_lst, o_ast, o_iinc, o_ib, o_idiv, o_irem, o_lb, o_lsh, o_iu, o_i2l, o_l2i, o_dup, o_dup2, o_pop, t_go, t_if1, t_if2, t_iret, t_zret, t_lret, t_vret, t_sw, o_gI, o_gL, o_gC, o_gR, o_pI, o_pL, o_pR, o_aget, o_lget, o_aput, o_bput, o_zput, o_lput, o_rget, o_alen, o_llen, o_cv, o_cs, o_max, o_min, o_cpI, o_cpL, o_ldS, o_gSv, o_gSc, o_gCS, o_sLen, o_sGet, o_cvS, o_gFm, lset, lsetL, ins, keepL, kpl, List.lookup_cons, List.filter_cons, List.filter_nil, List.contains_cons, List.contains_nil, List.take_succ_cons, List.take_zero, List.drop_succ_cons, List.drop_zero, List.reverse_cons, List.reverse_nil, List.nil_append, List.cons_append, List.map_cons, List.map_nil, List.sum_cons, List.sum_nil, List.length_cons, List.length_nil, Value.category, Option.toList_some, Option.toList_none, Nat.reduceBEq, Nat.reduceLT, Nat.reduceLeDiff, Nat.reduceAdd, Nat.reduceMul, Nat.reduceEqDiff, beq_self_eq_true, Bool.not_true, Bool.not_false, Bool.and_true, Bool.and_false, Bool.true_and, Bool.false_and, Bool.or_true, Bool.true_or, Bool.or_false, Bool.false_or, if_true, if_false, Bool.false_eq_true, reduceIte, Bool.not_eq_true, Nat.zero_add, true_and, and_true, Nat.le_refl, List.all_cons, List.forall_mem_cons, lv_args, lw_0, lw_1, la_1, lw_2, lw_3, lw_4, la_4, lw_5, la_5, lw_6, la_6, lw_7, lw_8, la_8, lw_9, la_9, lw_10, la_10, lw_11, la_11, lw_12, la_12, lw_13, lw_14, la_14, lw_15, la_15, lw_16, la_16, lw_17, la_17, lw_18, la_18, lw_19, lw_20, la_20, lw_21, la_21, lw_22, la_22, lw_23, la_23, lw_24, la_24, lw_25, la_25, lw_26, la_26, lw_27, la_27, lw_28, la_28, lw_29, la_29, lw_30, la_30, lw_31, la_31, lw_32, lw_33, la_33, lw_34, la_34, lw_35, la_35, lw_36, lw_37, la_37, lw_38, la_38, lw_39, lw_40, la_40, lw_41, la_41, lw_42, la_42, lw_43, lw_44, la_44, lw_45, la_45, lw_46, la_46, lw_47, lw_48, la_48, lw_49, lw_50, la_50, lw_51, la_51, lw_52, la_52, lw_53, lw_54, la_54, lw_55, la_55, lw_56, la_56, lw_57, lw_58, la_58, lw_59, la_59, lw_60, la_60, lw_61, la_61, lw_62, la_62, lw_63, la_63, lw_64, la_64, lw_65, la_65, lw_66, la_66, lw_67, la_67, lw_68, la_68, lw_69, la_69, lw_70, la_70, lw_71, la_71, lw_72, la_72, lw_73, la_73, lw_74, la_74, lw_75, la_75, lw_76, la_76, lw_77, la_77, lw_78, la_78, lw_79, la_79, lw_80, la_80, lw_81, la_81, lw_82, la_82, lw_83, la_83, lw_84, la_84, lw_85, la_85, lw_86, la_86]
  simp only [sI_self, sI_ne, sIr_self, sIr_ne, ne_eq, Nat.reduceEqDiff, not_false_eq_true, not_true_eq_false]
  rw [h20, nI_1, n0, n1]
  refine ⟨v0, v0, v0, v0, v1, v1, v1, v1, ?_⟩
  refine h _ ((((((((((KpM.rf S).put _ _ ?_).put _ _ ?_).put _ _ ?_).put _ _ ?_).put _ _ ?_).put _ _ ?_).put _ _ ?_).put _ _ ?_).p57 _) ⟨?_, fun e he' => ?_⟩
  iterate 8 omega
  · rw [sI_self]
    simp only [upd, if_true]
    rw [i2, nI_add]
    congr 1
  · simp only [sI_self, sI_ne, sIr_self, sIr_ne, ne_eq, Nat.reduceEqDiff, not_false_eq_true, not_true_eq_false]
    by_cases c : e = n
    · subst c
      simp only [upd, if_true, show ¬ 2 * e = 2 * e + 1 by omega, show ¬ 2 * e + 1 = 2 * e by omega, if_false]
      rw [ea, eb, eu, ew, iI_neg, Int.neg_neg]
      exact ⟨⟨rfl, rfl, rfl, rfl⟩, rfl, rfl, rfl, rfl⟩
    · simp only [upd, show ¬ 2 * e = 2 * n by omega, show ¬ 2 * e = 2 * n + 1 by omega, show ¬ 2 * e + 1 = 2 * n by omega, show ¬ 2 * e + 1 = 2 * n + 1 by omega, if_false]
      exact he e (by omega)
